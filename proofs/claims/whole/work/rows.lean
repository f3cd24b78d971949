section
-- ===== PART A: goes FIRST, ahead of the names: the tables' words, and 'selects' of the private methods out of them =====
/-- a private method of a class that the tables say can be made, by its rows of tables_1 -/
def lw_okq (q : MethodName × Nat) : Prop := (q.1.cls ≠ "java/lang/invoke/MethodHandle" ∧ q.1.cls ≠ "java/lang/invoke/VarHandle") ∧ Cond.instantiable q.1.cls q.2 ∈ tables_1 ∧ Cond.privateMethod q.1 ∈ tables_1 ∧ Cond.instanceMethod q.1 ∈ tables_1
theorem lw_p0 : lw_okq (⟨"BedHouse$Plan", "startAnew", "()V"⟩, 11) := ⟨⟨by decide +kernel, by decide +kernel⟩, List.mem_of_getElem? (i := 123) (by decide +kernel), List.mem_of_getElem? (i := 129) (by decide +kernel), List.mem_of_getElem? (i := 130) (by decide +kernel)⟩
theorem lw_p1 : lw_okq (⟨"BedHouse$Text", "append", "(I)V"⟩, 8) := ⟨⟨by decide +kernel, by decide +kernel⟩, List.mem_of_getElem? (i := 22) (by decide +kernel), List.mem_of_getElem? (i := 213) (by decide +kernel), List.mem_of_getElem? (i := 214) (by decide +kernel)⟩
theorem lw_p2 : lw_okq (⟨"BedHouse$Text", "tell", "(LBedHouse$Plan;)I"⟩, 8) := ⟨⟨by decide +kernel, by decide +kernel⟩, List.mem_of_getElem? (i := 22) (by decide +kernel), List.mem_of_getElem? (i := 225) (by decide +kernel), List.mem_of_getElem? (i := 226) (by decide +kernel)⟩
theorem lw_p3 : lw_okq (⟨"BedHouse$Text", "nextToken", "()V"⟩, 8) := ⟨⟨by decide +kernel, by decide +kernel⟩, List.mem_of_getElem? (i := 22) (by decide +kernel), List.mem_of_getElem? (i := 230) (by decide +kernel), List.mem_of_getElem? (i := 231) (by decide +kernel)⟩
theorem lw_p4 : lw_okq (⟨"BedHouse$Text", "byteAt", "(I)I"⟩, 8) := ⟨⟨by decide +kernel, by decide +kernel⟩, List.mem_of_getElem? (i := 22) (by decide +kernel), List.mem_of_getElem? (i := 234) (by decide +kernel), List.mem_of_getElem? (i := 235) (by decide +kernel)⟩
theorem lw_p5 : lw_okq (⟨"BedHouse$Text", "readWord", "()V"⟩, 8) := ⟨⟨by decide +kernel, by decide +kernel⟩, List.mem_of_getElem? (i := 22) (by decide +kernel), List.mem_of_getElem? (i := 241) (by decide +kernel), List.mem_of_getElem? (i := 242) (by decide +kernel)⟩
theorem lw_p6 : lw_okq (⟨"BedHouse$Text", "isSpelled", "(Ljava/lang/String;)Z"⟩, 8) := ⟨⟨by decide +kernel, by decide +kernel⟩, List.mem_of_getElem? (i := 22) (by decide +kernel), List.mem_of_getElem? (i := 259) (by decide +kernel), List.mem_of_getElem? (i := 260) (by decide +kernel)⟩
theorem lw_p7 : lw_okq (⟨"BedHouse$Text", "readNumber", "()V"⟩, 8) := ⟨⟨by decide +kernel, by decide +kernel⟩, List.mem_of_getElem? (i := 22) (by decide +kernel), List.mem_of_getElem? (i := 314) (by decide +kernel), List.mem_of_getElem? (i := 315) (by decide +kernel)⟩
theorem lw_p8 : lw_okq (⟨"BedHouse$Text", "tellItem", "(LBedHouse$Plan;)Z"⟩, 8) := ⟨⟨by decide +kernel, by decide +kernel⟩, List.mem_of_getElem? (i := 22) (by decide +kernel), List.mem_of_getElem? (i := 321) (by decide +kernel), List.mem_of_getElem? (i := 322) (by decide +kernel)⟩
theorem lw_p9 : lw_okq (⟨"BedHouse$Text", "mayBegin", "(ILBedHouse$Plan;)Z"⟩, 8) := ⟨⟨by decide +kernel, by decide +kernel⟩, List.mem_of_getElem? (i := 22) (by decide +kernel), List.mem_of_getElem? (i := 325) (by decide +kernel), List.mem_of_getElem? (i := 326) (by decide +kernel)⟩
theorem lw_p10 : lw_okq (⟨"BedHouse$Plan", "panelAt", "(II)I"⟩, 11) := ⟨⟨by decide +kernel, by decide +kernel⟩, List.mem_of_getElem? (i := 123) (by decide +kernel), List.mem_of_getElem? (i := 335) (by decide +kernel), List.mem_of_getElem? (i := 336) (by decide +kernel)⟩
theorem lw_p11 : lw_okq (⟨"BedHouse$Text", "apply", "(IIILBedHouse$Plan;)V"⟩, 8) := ⟨⟨by decide +kernel, by decide +kernel⟩, List.mem_of_getElem? (i := 22) (by decide +kernel), List.mem_of_getElem? (i := 342) (by decide +kernel), List.mem_of_getElem? (i := 343) (by decide +kernel)⟩
theorem lw_p12 : lw_okq (⟨"BedHouse$Plan", "addBeam", "(I)V"⟩, 11) := ⟨⟨by decide +kernel, by decide +kernel⟩, List.mem_of_getElem? (i := 123) (by decide +kernel), List.mem_of_getElem? (i := 349) (by decide +kernel), List.mem_of_getElem? (i := 350) (by decide +kernel)⟩
theorem lw_p13 : lw_okq (⟨"BedHouse$Plan", "addPanel", "(II)V"⟩, 11) := ⟨⟨by decide +kernel, by decide +kernel⟩, List.mem_of_getElem? (i := 123) (by decide +kernel), List.mem_of_getElem? (i := 353) (by decide +kernel), List.mem_of_getElem? (i := 354) (by decide +kernel)⟩
theorem lw_p14 : lw_okq (⟨"BedHouse$Moment", "begin", "(I)V"⟩, 8) := ⟨⟨by decide +kernel, by decide +kernel⟩, List.mem_of_getElem? (i := 79) (by decide +kernel), List.mem_of_getElem? (i := 360) (by decide +kernel), List.mem_of_getElem? (i := 361) (by decide +kernel)⟩
theorem lw_p15 : lw_okq (⟨"BedHouse$Plan", "hasPanel", "(I)Z"⟩, 11) := ⟨⟨by decide +kernel, by decide +kernel⟩, List.mem_of_getElem? (i := 123) (by decide +kernel), List.mem_of_getElem? (i := 368) (by decide +kernel), List.mem_of_getElem? (i := 369) (by decide +kernel)⟩
def lw_privs_1 : List (MethodName × Nat) := [(⟨"BedHouse$Plan", "startAnew", "()V"⟩, 11), (⟨"BedHouse$Text", "append", "(I)V"⟩, 8), (⟨"BedHouse$Text", "tell", "(LBedHouse$Plan;)I"⟩, 8), (⟨"BedHouse$Text", "nextToken", "()V"⟩, 8), (⟨"BedHouse$Text", "byteAt", "(I)I"⟩, 8), (⟨"BedHouse$Text", "readWord", "()V"⟩, 8), (⟨"BedHouse$Text", "isSpelled", "(Ljava/lang/String;)Z"⟩, 8), (⟨"BedHouse$Text", "readNumber", "()V"⟩, 8), (⟨"BedHouse$Text", "tellItem", "(LBedHouse$Plan;)Z"⟩, 8), (⟨"BedHouse$Text", "mayBegin", "(ILBedHouse$Plan;)Z"⟩, 8), (⟨"BedHouse$Plan", "panelAt", "(II)I"⟩, 11), (⟨"BedHouse$Text", "apply", "(IIILBedHouse$Plan;)V"⟩, 8), (⟨"BedHouse$Plan", "addBeam", "(I)V"⟩, 11), (⟨"BedHouse$Plan", "addPanel", "(II)V"⟩, 11), (⟨"BedHouse$Moment", "begin", "(I)V"⟩, 8), (⟨"BedHouse$Plan", "hasPanel", "(I)Z"⟩, 11)]
theorem lw_r1 : ∀ q ∈ lw_privs_1, lw_okq q := List.forall_mem_cons.mpr ⟨lw_p0, List.forall_mem_cons.mpr ⟨lw_p1, List.forall_mem_cons.mpr ⟨lw_p2, List.forall_mem_cons.mpr ⟨lw_p3, List.forall_mem_cons.mpr ⟨lw_p4, List.forall_mem_cons.mpr ⟨lw_p5, List.forall_mem_cons.mpr ⟨lw_p6, List.forall_mem_cons.mpr ⟨lw_p7, List.forall_mem_cons.mpr ⟨lw_p8, List.forall_mem_cons.mpr ⟨lw_p9, List.forall_mem_cons.mpr ⟨lw_p10, List.forall_mem_cons.mpr ⟨lw_p11, List.forall_mem_cons.mpr ⟨lw_p12, List.forall_mem_cons.mpr ⟨lw_p13, List.forall_mem_cons.mpr ⟨lw_p14, List.forall_mem_cons.mpr ⟨lw_p15, fun _ h => absurd h List.not_mem_nil⟩⟩⟩⟩⟩⟩⟩⟩⟩⟩⟩⟩⟩⟩⟩⟩
theorem lw_p16 : lw_okq (⟨"BedHouse$Plan", "sortOf", "(I)I"⟩, 11) := ⟨⟨by decide +kernel, by decide +kernel⟩, List.mem_of_getElem? (i := 123) (by decide +kernel), List.mem_of_getElem? (i := 372) (by decide +kernel), List.mem_of_getElem? (i := 373) (by decide +kernel)⟩
theorem lw_p17 : lw_okq (⟨"BedHouse$Plan", "hasBeam", "(I)Z"⟩, 11) := ⟨⟨by decide +kernel, by decide +kernel⟩, List.mem_of_getElem? (i := 123) (by decide +kernel), List.mem_of_getElem? (i := 392) (by decide +kernel), List.mem_of_getElem? (i := 393) (by decide +kernel)⟩
theorem lw_p18 : lw_okq (⟨"BedHouse$Plan", "isBorne", "(II)Z"⟩, 11) := ⟨⟨by decide +kernel, by decide +kernel⟩, List.mem_of_getElem? (i := 123) (by decide +kernel), List.mem_of_getElem? (i := 396) (by decide +kernel), List.mem_of_getElem? (i := 397) (by decide +kernel)⟩
theorem lw_p19 : lw_okq (⟨"BedHouse$Plan", "slotsUnder", "(II)I"⟩, 11) := ⟨⟨by decide +kernel, by decide +kernel⟩, List.mem_of_getElem? (i := 123) (by decide +kernel), List.mem_of_getElem? (i := 401) (by decide +kernel), List.mem_of_getElem? (i := 402) (by decide +kernel)⟩
theorem lw_p20 : lw_okq (⟨"BedHouse", "act", "(II)I"⟩, 7) := ⟨⟨by decide +kernel, by decide +kernel⟩, List.mem_of_getElem? (i := 14) (by decide +kernel), List.mem_of_getElem? (i := 412) (by decide +kernel), List.mem_of_getElem? (i := 413) (by decide +kernel)⟩
theorem lw_p21 : lw_okq (⟨"BedHouse$Plan", "allows", "(I)Z"⟩, 11) := ⟨⟨by decide +kernel, by decide +kernel⟩, List.mem_of_getElem? (i := 123) (by decide +kernel), List.mem_of_getElem? (i := 420) (by decide +kernel), List.mem_of_getElem? (i := 421) (by decide +kernel)⟩
theorem lw_p22 : lw_okq (⟨"BedHouse$Plan", "lyingIn", "(I)I"⟩, 11) := ⟨⟨by decide +kernel, by decide +kernel⟩, List.mem_of_getElem? (i := 123) (by decide +kernel), List.mem_of_getElem? (i := 424) (by decide +kernel), List.mem_of_getElem? (i := 425) (by decide +kernel)⟩
theorem lw_p23 : lw_okq (⟨"BedHouse$Plan", "leaksOf", "(I)I"⟩, 11) := ⟨⟨by decide +kernel, by decide +kernel⟩, List.mem_of_getElem? (i := 123) (by decide +kernel), List.mem_of_getElem? (i := 444) (by decide +kernel), List.mem_of_getElem? (i := 445) (by decide +kernel)⟩
theorem lw_p24 : lw_okq (⟨"BedHouse$Plan", "worthOf", "(I)I"⟩, 11) := ⟨⟨by decide +kernel, by decide +kernel⟩, List.mem_of_getElem? (i := 123) (by decide +kernel), List.mem_of_getElem? (i := 452) (by decide +kernel), List.mem_of_getElem? (i := 453) (by decide +kernel)⟩
theorem lw_p25 : lw_okq (⟨"BedHouse$Plan", "litHours", "(I)I"⟩, 11) := ⟨⟨by decide +kernel, by decide +kernel⟩, List.mem_of_getElem? (i := 123) (by decide +kernel), List.mem_of_getElem? (i := 456) (by decide +kernel), List.mem_of_getElem? (i := 457) (by decide +kernel)⟩
theorem lw_p26 : lw_okq (⟨"BedHouse$Plan", "quietIn", "(I)I"⟩, 11) := ⟨⟨by decide +kernel, by decide +kernel⟩, List.mem_of_getElem? (i := 123) (by decide +kernel), List.mem_of_getElem? (i := 461) (by decide +kernel), List.mem_of_getElem? (i := 462) (by decide +kernel)⟩
theorem lw_p27 : lw_okq (⟨"BedHouse", "isImage", "(I)Z"⟩, 7) := ⟨⟨by decide +kernel, by decide +kernel⟩, List.mem_of_getElem? (i := 14) (by decide +kernel), List.mem_of_getElem? (i := 475) (by decide +kernel), List.mem_of_getElem? (i := 476) (by decide +kernel)⟩
theorem lw_p28 : lw_okq (⟨"BedHouse$Search", "fewestActs", "(LBedHouse$Plan;II)I"⟩, 5) := ⟨⟨by decide +kernel, by decide +kernel⟩, List.mem_of_getElem? (i := 55) (by decide +kernel), List.mem_of_getElem? (i := 479) (by decide +kernel), List.mem_of_getElem? (i := 480) (by decide +kernel)⟩
theorem lw_p29 : lw_okq (⟨"BedHouse$Search", "survey", "(LBedHouse$Plan;)V"⟩, 5) := ⟨⟨by decide +kernel, by decide +kernel⟩, List.mem_of_getElem? (i := 55) (by decide +kernel), List.mem_of_getElem? (i := 483) (by decide +kernel), List.mem_of_getElem? (i := 484) (by decide +kernel)⟩
theorem lw_p30 : lw_okq (⟨"BedHouse$Search", "spreadFrom", "(LBedHouse$Plan;I)V"⟩, 5) := ⟨⟨by decide +kernel, by decide +kernel⟩, List.mem_of_getElem? (i := 55) (by decide +kernel), List.mem_of_getElem? (i := 489) (by decide +kernel), List.mem_of_getElem? (i := 490) (by decide +kernel)⟩
theorem lw_p31 : lw_okq (⟨"BedHouse$Search", "spread", "(LBedHouse$Plan;II)V"⟩, 5) := ⟨⟨by decide +kernel, by decide +kernel⟩, List.mem_of_getElem? (i := 55) (by decide +kernel), List.mem_of_getElem? (i := 493) (by decide +kernel), List.mem_of_getElem? (i := 494) (by decide +kernel)⟩
def lw_privs_2 : List (MethodName × Nat) := [(⟨"BedHouse$Plan", "sortOf", "(I)I"⟩, 11), (⟨"BedHouse$Plan", "hasBeam", "(I)Z"⟩, 11), (⟨"BedHouse$Plan", "isBorne", "(II)Z"⟩, 11), (⟨"BedHouse$Plan", "slotsUnder", "(II)I"⟩, 11), (⟨"BedHouse", "act", "(II)I"⟩, 7), (⟨"BedHouse$Plan", "allows", "(I)Z"⟩, 11), (⟨"BedHouse$Plan", "lyingIn", "(I)I"⟩, 11), (⟨"BedHouse$Plan", "leaksOf", "(I)I"⟩, 11), (⟨"BedHouse$Plan", "worthOf", "(I)I"⟩, 11), (⟨"BedHouse$Plan", "litHours", "(I)I"⟩, 11), (⟨"BedHouse$Plan", "quietIn", "(I)I"⟩, 11), (⟨"BedHouse", "isImage", "(I)Z"⟩, 7), (⟨"BedHouse$Search", "fewestActs", "(LBedHouse$Plan;II)I"⟩, 5), (⟨"BedHouse$Search", "survey", "(LBedHouse$Plan;)V"⟩, 5), (⟨"BedHouse$Search", "spreadFrom", "(LBedHouse$Plan;I)V"⟩, 5), (⟨"BedHouse$Search", "spread", "(LBedHouse$Plan;II)V"⟩, 5)]
theorem lw_r2 : ∀ q ∈ lw_privs_2, lw_okq q := List.forall_mem_cons.mpr ⟨lw_p16, List.forall_mem_cons.mpr ⟨lw_p17, List.forall_mem_cons.mpr ⟨lw_p18, List.forall_mem_cons.mpr ⟨lw_p19, List.forall_mem_cons.mpr ⟨lw_p20, List.forall_mem_cons.mpr ⟨lw_p21, List.forall_mem_cons.mpr ⟨lw_p22, List.forall_mem_cons.mpr ⟨lw_p23, List.forall_mem_cons.mpr ⟨lw_p24, List.forall_mem_cons.mpr ⟨lw_p25, List.forall_mem_cons.mpr ⟨lw_p26, List.forall_mem_cons.mpr ⟨lw_p27, List.forall_mem_cons.mpr ⟨lw_p28, List.forall_mem_cons.mpr ⟨lw_p29, List.forall_mem_cons.mpr ⟨lw_p30, List.forall_mem_cons.mpr ⟨lw_p31, fun _ h => absurd h List.not_mem_nil⟩⟩⟩⟩⟩⟩⟩⟩⟩⟩⟩⟩⟩⟩⟩⟩
theorem lw_p32 : lw_okq (⟨"BedHouse$Search", "farTo", "(I)I"⟩, 5) := ⟨⟨by decide +kernel, by decide +kernel⟩, List.mem_of_getElem? (i := 55) (by decide +kernel), List.mem_of_getElem? (i := 497) (by decide +kernel), List.mem_of_getElem? (i := 498) (by decide +kernel)⟩
theorem lw_p33 : lw_okq (⟨"BedHouse$Search", "spreadByOneAct", "(LBedHouse$Plan;II)V"⟩, 5) := ⟨⟨by decide +kernel, by decide +kernel⟩, List.mem_of_getElem? (i := 55) (by decide +kernel), List.mem_of_getElem? (i := 501) (by decide +kernel), List.mem_of_getElem? (i := 502) (by decide +kernel)⟩
theorem lw_p34 : lw_okq (⟨"BedHouse$Search", "reach", "(II)V"⟩, 5) := ⟨⟨by decide +kernel, by decide +kernel⟩, List.mem_of_getElem? (i := 55) (by decide +kernel), List.mem_of_getElem? (i := 507) (by decide +kernel), List.mem_of_getElem? (i := 508) (by decide +kernel)⟩
theorem lw_p35 : lw_okq (⟨"BedHouse$Search", "isLawful", "(I)Z"⟩, 5) := ⟨⟨by decide +kernel, by decide +kernel⟩, List.mem_of_getElem? (i := 55) (by decide +kernel), List.mem_of_getElem? (i := 511) (by decide +kernel), List.mem_of_getElem? (i := 512) (by decide +kernel)⟩
theorem lw_p36 : lw_okq (⟨"BedHouse$Search", "firstAct", "(LBedHouse$Plan;II)I"⟩, 5) := ⟨⟨by decide +kernel, by decide +kernel⟩, List.mem_of_getElem? (i := 55) (by decide +kernel), List.mem_of_getElem? (i := 519) (by decide +kernel), List.mem_of_getElem? (i := 520) (by decide +kernel)⟩
theorem lw_p37 : lw_okq (⟨"BedHouse$Search", "fewestNights", "(LBedHouse$Plan;LBedHouse$Moment;I)I"⟩, 5) := ⟨⟨by decide +kernel, by decide +kernel⟩, List.mem_of_getElem? (i := 55) (by decide +kernel), List.mem_of_getElem? (i := 527) (by decide +kernel), List.mem_of_getElem? (i := 528) (by decide +kernel)⟩
theorem lw_p38 : lw_okq (⟨"BedHouse$Search", "keepDry", "(LBedHouse$Plan;)I"⟩, 5) := ⟨⟨by decide +kernel, by decide +kernel⟩, List.mem_of_getElem? (i := 55) (by decide +kernel), List.mem_of_getElem? (i := 531) (by decide +kernel), List.mem_of_getElem? (i := 532) (by decide +kernel)⟩
theorem lw_p39 : lw_okq (⟨"BedHouse$Search", "actsToEmpty", "(LBedHouse$Plan;II)I"⟩, 5) := ⟨⟨by decide +kernel, by decide +kernel⟩, List.mem_of_getElem? (i := 55) (by decide +kernel), List.mem_of_getElem? (i := 540) (by decide +kernel), List.mem_of_getElem? (i := 541) (by decide +kernel)⟩
theorem lw_p40 : lw_okq (⟨"BedHouse$Search", "bestHome", "(LBedHouse$Plan;)I"⟩, 5) := ⟨⟨by decide +kernel, by decide +kernel⟩, List.mem_of_getElem? (i := 55) (by decide +kernel), List.mem_of_getElem? (i := 549) (by decide +kernel), List.mem_of_getElem? (i := 550) (by decide +kernel)⟩
theorem lw_p41 : lw_okq (⟨"BedHouse$Search", "countFitting", "(LBedHouse$Plan;LBedHouse$Moment;)I"⟩, 5) := ⟨⟨by decide +kernel, by decide +kernel⟩, List.mem_of_getElem? (i := 55) (by decide +kernel), List.mem_of_getElem? (i := 563) (by decide +kernel), List.mem_of_getElem? (i := 564) (by decide +kernel)⟩
theorem lw_p42 : lw_okq (⟨"BedHouse$Plan", "fitsLetter", "(ILBedHouse$Moment;)Z"⟩, 11) := ⟨⟨by decide +kernel, by decide +kernel⟩, List.mem_of_getElem? (i := 123) (by decide +kernel), List.mem_of_getElem? (i := 567) (by decide +kernel), List.mem_of_getElem? (i := 568) (by decide +kernel)⟩
theorem lw_p43 : lw_okq (⟨"BedHouse$Search", "surePlace", "(LBedHouse$Plan;LBedHouse$Moment;I)I"⟩, 5) := ⟨⟨by decide +kernel, by decide +kernel⟩, List.mem_of_getElem? (i := 55) (by decide +kernel), List.mem_of_getElem? (i := 575) (by decide +kernel), List.mem_of_getElem? (i := 576) (by decide +kernel)⟩
theorem lw_p44 : lw_okq (⟨"BedHouse", "markOfPanel", "(I)I"⟩, 7) := ⟨⟨by decide +kernel, by decide +kernel⟩, List.mem_of_getElem? (i := 14) (by decide +kernel), List.mem_of_getElem? (i := 587) (by decide +kernel), List.mem_of_getElem? (i := 588) (by decide +kernel)⟩
theorem lw_p45 : lw_okq (⟨"BedHouse", "markOfBearing", "(I)I"⟩, 7) := ⟨⟨by decide +kernel, by decide +kernel⟩, List.mem_of_getElem? (i := 14) (by decide +kernel), List.mem_of_getElem? (i := 591) (by decide +kernel), List.mem_of_getElem? (i := 592) (by decide +kernel)⟩
theorem lw_p46 : lw_okq (⟨"BedHouse", "markOfLight", "(I)I"⟩, 7) := ⟨⟨by decide +kernel, by decide +kernel⟩, List.mem_of_getElem? (i := 14) (by decide +kernel), List.mem_of_getElem? (i := 596) (by decide +kernel), List.mem_of_getElem? (i := 597) (by decide +kernel)⟩
theorem lw_p47 : lw_okq (⟨"BedHouse", "markOfOld", "(I)I"⟩, 7) := ⟨⟨by decide +kernel, by decide +kernel⟩, List.mem_of_getElem? (i := 14) (by decide +kernel), List.mem_of_getElem? (i := 601) (by decide +kernel), List.mem_of_getElem? (i := 602) (by decide +kernel)⟩
def lw_privs_3 : List (MethodName × Nat) := [(⟨"BedHouse$Search", "farTo", "(I)I"⟩, 5), (⟨"BedHouse$Search", "spreadByOneAct", "(LBedHouse$Plan;II)V"⟩, 5), (⟨"BedHouse$Search", "reach", "(II)V"⟩, 5), (⟨"BedHouse$Search", "isLawful", "(I)Z"⟩, 5), (⟨"BedHouse$Search", "firstAct", "(LBedHouse$Plan;II)I"⟩, 5), (⟨"BedHouse$Search", "fewestNights", "(LBedHouse$Plan;LBedHouse$Moment;I)I"⟩, 5), (⟨"BedHouse$Search", "keepDry", "(LBedHouse$Plan;)I"⟩, 5), (⟨"BedHouse$Search", "actsToEmpty", "(LBedHouse$Plan;II)I"⟩, 5), (⟨"BedHouse$Search", "bestHome", "(LBedHouse$Plan;)I"⟩, 5), (⟨"BedHouse$Search", "countFitting", "(LBedHouse$Plan;LBedHouse$Moment;)I"⟩, 5), (⟨"BedHouse$Plan", "fitsLetter", "(ILBedHouse$Moment;)Z"⟩, 11), (⟨"BedHouse$Search", "surePlace", "(LBedHouse$Plan;LBedHouse$Moment;I)I"⟩, 5), (⟨"BedHouse", "markOfPanel", "(I)I"⟩, 7), (⟨"BedHouse", "markOfBearing", "(I)I"⟩, 7), (⟨"BedHouse", "markOfLight", "(I)I"⟩, 7), (⟨"BedHouse", "markOfOld", "(I)I"⟩, 7)]
theorem lw_r3 : ∀ q ∈ lw_privs_3, lw_okq q := List.forall_mem_cons.mpr ⟨lw_p32, List.forall_mem_cons.mpr ⟨lw_p33, List.forall_mem_cons.mpr ⟨lw_p34, List.forall_mem_cons.mpr ⟨lw_p35, List.forall_mem_cons.mpr ⟨lw_p36, List.forall_mem_cons.mpr ⟨lw_p37, List.forall_mem_cons.mpr ⟨lw_p38, List.forall_mem_cons.mpr ⟨lw_p39, List.forall_mem_cons.mpr ⟨lw_p40, List.forall_mem_cons.mpr ⟨lw_p41, List.forall_mem_cons.mpr ⟨lw_p42, List.forall_mem_cons.mpr ⟨lw_p43, List.forall_mem_cons.mpr ⟨lw_p44, List.forall_mem_cons.mpr ⟨lw_p45, List.forall_mem_cons.mpr ⟨lw_p46, List.forall_mem_cons.mpr ⟨lw_p47, fun _ h => absurd h List.not_mem_nil⟩⟩⟩⟩⟩⟩⟩⟩⟩⟩⟩⟩⟩⟩⟩⟩
theorem lw_p48 : lw_okq (⟨"BedHouse", "markOfClear", "(I)I"⟩, 7) := ⟨⟨by decide +kernel, by decide +kernel⟩, List.mem_of_getElem? (i := 14) (by decide +kernel), List.mem_of_getElem? (i := 606) (by decide +kernel), List.mem_of_getElem? (i := 607) (by decide +kernel)⟩
theorem lw_p49 : lw_okq (⟨"BedHouse", "markOfNeighbours", "(I)I"⟩, 7) := ⟨⟨by decide +kernel, by decide +kernel⟩, List.mem_of_getElem? (i := 14) (by decide +kernel), List.mem_of_getElem? (i := 611) (by decide +kernel), List.mem_of_getElem? (i := 612) (by decide +kernel)⟩
theorem lw_p50 : lw_okq (⟨"BedHouse$Moment", "copyFrom", "(LBedHouse$Moment;)V"⟩, 8) := ⟨⟨by decide +kernel, by decide +kernel⟩, List.mem_of_getElem? (i := 79) (by decide +kernel), List.mem_of_getElem? (i := 620) (by decide +kernel), List.mem_of_getElem? (i := 621) (by decide +kernel)⟩
theorem lw_p51 : lw_okq (⟨"BedHouseModel", "begin", "(I)V"⟩, 19) := ⟨⟨by decide +kernel, by decide +kernel⟩, List.mem_of_getElem? (i := 636) (by decide +kernel), List.mem_of_getElem? (i := 642) (by decide +kernel), List.mem_of_getElem? (i := 643) (by decide +kernel)⟩
theorem lw_p52 : lw_okq (⟨"BedHouseModel", "next", "()V"⟩, 19) := ⟨⟨by decide +kernel, by decide +kernel⟩, List.mem_of_getElem? (i := 636) (by decide +kernel), List.mem_of_getElem? (i := 721) (by decide +kernel), List.mem_of_getElem? (i := 722) (by decide +kernel)⟩
theorem lw_p53 : lw_okq (⟨"BedHouseModel", "here", "()I"⟩, 19) := ⟨⟨by decide +kernel, by decide +kernel⟩, List.mem_of_getElem? (i := 636) (by decide +kernel), List.mem_of_getElem? (i := 725) (by decide +kernel), List.mem_of_getElem? (i := 726) (by decide +kernel)⟩
theorem lw_p54 : lw_okq (⟨"BedHouseModel", "readItem", "()V"⟩, 19) := ⟨⟨by decide +kernel, by decide +kernel⟩, List.mem_of_getElem? (i := 636) (by decide +kernel), List.mem_of_getElem? (i := 733) (by decide +kernel), List.mem_of_getElem? (i := 734) (by decide +kernel)⟩
theorem lw_p55 : lw_okq (⟨"BedHouseModel", "mayItem", "(I)Z"⟩, 19) := ⟨⟨by decide +kernel, by decide +kernel⟩, List.mem_of_getElem? (i := 636) (by decide +kernel), List.mem_of_getElem? (i := 737) (by decide +kernel), List.mem_of_getElem? (i := 738) (by decide +kernel)⟩
theorem lw_p56 : lw_okq (⟨"BedHouseModel", "due", "(Z)I"⟩, 19) := ⟨⟨by decide +kernel, by decide +kernel⟩, List.mem_of_getElem? (i := 636) (by decide +kernel), List.mem_of_getElem? (i := 741) (by decide +kernel), List.mem_of_getElem? (i := 742) (by decide +kernel)⟩
theorem lw_p57 : lw_okq (⟨"BedHouseModel", "stands", "(I)Z"⟩, 19) := ⟨⟨by decide +kernel, by decide +kernel⟩, List.mem_of_getElem? (i := 636) (by decide +kernel), List.mem_of_getElem? (i := 745) (by decide +kernel), List.mem_of_getElem? (i := 746) (by decide +kernel)⟩
theorem lw_p58 : lw_okq (⟨"BedHouseModel", "round", "()I"⟩, 19) := ⟨⟨by decide +kernel, by decide +kernel⟩, List.mem_of_getElem? (i := 636) (by decide +kernel), List.mem_of_getElem? (i := 749) (by decide +kernel), List.mem_of_getElem? (i := 750) (by decide +kernel)⟩
theorem lw_p59 : lw_okq (⟨"BedHouseModel", "number", "(II)I"⟩, 19) := ⟨⟨by decide +kernel, by decide +kernel⟩, List.mem_of_getElem? (i := 636) (by decide +kernel), List.mem_of_getElem? (i := 753) (by decide +kernel), List.mem_of_getElem? (i := 754) (by decide +kernel)⟩
theorem lw_p60 : lw_okq (⟨"BedHouseModel", "isPanel", "(I)Z"⟩, 19) := ⟨⟨by decide +kernel, by decide +kernel⟩, List.mem_of_getElem? (i := 636) (by decide +kernel), List.mem_of_getElem? (i := 761) (by decide +kernel), List.mem_of_getElem? (i := 762) (by decide +kernel)⟩
theorem lw_p61 : lw_okq (⟨"BedHouseModel", "slotIn", "(II)I"⟩, 19) := ⟨⟨by decide +kernel, by decide +kernel⟩, List.mem_of_getElem? (i := 636) (by decide +kernel), List.mem_of_getElem? (i := 765) (by decide +kernel), List.mem_of_getElem? (i := 766) (by decide +kernel)⟩
theorem lw_p62 : lw_okq (⟨"BedHouseModel", "panelAt", "(II)I"⟩, 19) := ⟨⟨by decide +kernel, by decide +kernel⟩, List.mem_of_getElem? (i := 636) (by decide +kernel), List.mem_of_getElem? (i := 776) (by decide +kernel), List.mem_of_getElem? (i := 777) (by decide +kernel)⟩
theorem lw_p63 : lw_okq (⟨"BedHouseModel", "isBorne", "(II)Z"⟩, 19) := ⟨⟨by decide +kernel, by decide +kernel⟩, List.mem_of_getElem? (i := 636) (by decide +kernel), List.mem_of_getElem? (i := 788) (by decide +kernel), List.mem_of_getElem? (i := 789) (by decide +kernel)⟩
def lw_privs_4 : List (MethodName × Nat) := [(⟨"BedHouse", "markOfClear", "(I)I"⟩, 7), (⟨"BedHouse", "markOfNeighbours", "(I)I"⟩, 7), (⟨"BedHouse$Moment", "copyFrom", "(LBedHouse$Moment;)V"⟩, 8), (⟨"BedHouseModel", "begin", "(I)V"⟩, 19), (⟨"BedHouseModel", "next", "()V"⟩, 19), (⟨"BedHouseModel", "here", "()I"⟩, 19), (⟨"BedHouseModel", "readItem", "()V"⟩, 19), (⟨"BedHouseModel", "mayItem", "(I)Z"⟩, 19), (⟨"BedHouseModel", "due", "(Z)I"⟩, 19), (⟨"BedHouseModel", "stands", "(I)Z"⟩, 19), (⟨"BedHouseModel", "round", "()I"⟩, 19), (⟨"BedHouseModel", "number", "(II)I"⟩, 19), (⟨"BedHouseModel", "isPanel", "(I)Z"⟩, 19), (⟨"BedHouseModel", "slotIn", "(II)I"⟩, 19), (⟨"BedHouseModel", "panelAt", "(II)I"⟩, 19), (⟨"BedHouseModel", "isBorne", "(II)Z"⟩, 19)]
theorem lw_r4 : ∀ q ∈ lw_privs_4, lw_okq q := List.forall_mem_cons.mpr ⟨lw_p48, List.forall_mem_cons.mpr ⟨lw_p49, List.forall_mem_cons.mpr ⟨lw_p50, List.forall_mem_cons.mpr ⟨lw_p51, List.forall_mem_cons.mpr ⟨lw_p52, List.forall_mem_cons.mpr ⟨lw_p53, List.forall_mem_cons.mpr ⟨lw_p54, List.forall_mem_cons.mpr ⟨lw_p55, List.forall_mem_cons.mpr ⟨lw_p56, List.forall_mem_cons.mpr ⟨lw_p57, List.forall_mem_cons.mpr ⟨lw_p58, List.forall_mem_cons.mpr ⟨lw_p59, List.forall_mem_cons.mpr ⟨lw_p60, List.forall_mem_cons.mpr ⟨lw_p61, List.forall_mem_cons.mpr ⟨lw_p62, List.forall_mem_cons.mpr ⟨lw_p63, fun _ h => absurd h List.not_mem_nil⟩⟩⟩⟩⟩⟩⟩⟩⟩⟩⟩⟩⟩⟩⟩⟩
theorem lw_p64 : lw_okq (⟨"BedHouseModel", "with", "(III)I"⟩, 19) := ⟨⟨by decide +kernel, by decide +kernel⟩, List.mem_of_getElem? (i := 636) (by decide +kernel), List.mem_of_getElem? (i := 796) (by decide +kernel), List.mem_of_getElem? (i := 797) (by decide +kernel)⟩
theorem lw_p65 : lw_okq (⟨"BedHouseModel", "act", "(I)I"⟩, 19) := ⟨⟨by decide +kernel, by decide +kernel⟩, List.mem_of_getElem? (i := 636) (by decide +kernel), List.mem_of_getElem? (i := 800) (by decide +kernel), List.mem_of_getElem? (i := 801) (by decide +kernel)⟩
theorem lw_p66 : lw_okq (⟨"BedHouseModel", "isLawful", "(I)Z"⟩, 19) := ⟨⟨by decide +kernel, by decide +kernel⟩, List.mem_of_getElem? (i := 636) (by decide +kernel), List.mem_of_getElem? (i := 804) (by decide +kernel), List.mem_of_getElem? (i := 805) (by decide +kernel)⟩
theorem lw_p67 : lw_okq (⟨"BedHouseModel", "lying", "(I)I"⟩, 19) := ⟨⟨by decide +kernel, by decide +kernel⟩, List.mem_of_getElem? (i := 636) (by decide +kernel), List.mem_of_getElem? (i := 808) (by decide +kernel), List.mem_of_getElem? (i := 809) (by decide +kernel)⟩
theorem lw_p68 : lw_okq (⟨"BedHouseModel", "leaksIn", "(I)I"⟩, 19) := ⟨⟨by decide +kernel, by decide +kernel⟩, List.mem_of_getElem? (i := 636) (by decide +kernel), List.mem_of_getElem? (i := 820) (by decide +kernel), List.mem_of_getElem? (i := 821) (by decide +kernel)⟩
theorem lw_p69 : lw_okq (⟨"BedHouseModel", "sortAt", "(II)I"⟩, 19) := ⟨⟨by decide +kernel, by decide +kernel⟩, List.mem_of_getElem? (i := 636) (by decide +kernel), List.mem_of_getElem? (i := 824) (by decide +kernel), List.mem_of_getElem? (i := 825) (by decide +kernel)⟩
theorem lw_p70 : lw_okq (⟨"BedHouseModel", "worthOf", "(I)I"⟩, 19) := ⟨⟨by decide +kernel, by decide +kernel⟩, List.mem_of_getElem? (i := 636) (by decide +kernel), List.mem_of_getElem? (i := 832) (by decide +kernel), List.mem_of_getElem? (i := 833) (by decide +kernel)⟩
theorem lw_p71 : lw_okq (⟨"BedHouseModel", "isLit", "(II)Z"⟩, 19) := ⟨⟨by decide +kernel, by decide +kernel⟩, List.mem_of_getElem? (i := 636) (by decide +kernel), List.mem_of_getElem? (i := 836) (by decide +kernel), List.mem_of_getElem? (i := 837) (by decide +kernel)⟩
theorem lw_p72 : lw_okq (⟨"BedHouseModel", "isOpen", "(II)Z"⟩, 19) := ⟨⟨by decide +kernel, by decide +kernel⟩, List.mem_of_getElem? (i := 636) (by decide +kernel), List.mem_of_getElem? (i := 840) (by decide +kernel), List.mem_of_getElem? (i := 841) (by decide +kernel)⟩
theorem lw_p73 : lw_okq (⟨"BedHouseModel", "refuses", "(I)I"⟩, 19) := ⟨⟨by decide +kernel, by decide +kernel⟩, List.mem_of_getElem? (i := 636) (by decide +kernel), List.mem_of_getElem? (i := 853) (by decide +kernel), List.mem_of_getElem? (i := 854) (by decide +kernel)⟩
theorem lw_p74 : lw_okq (⟨"BedHouseModel", "goFrom", "(I)V"⟩, 19) := ⟨⟨by decide +kernel, by decide +kernel⟩, List.mem_of_getElem? (i := 636) (by decide +kernel), List.mem_of_getElem? (i := 857) (by decide +kernel), List.mem_of_getElem? (i := 858) (by decide +kernel)⟩
theorem lw_p75 : lw_okq (⟨"BedHouseModel", "none", "()V"⟩, 19) := ⟨⟨by decide +kernel, by decide +kernel⟩, List.mem_of_getElem? (i := 636) (by decide +kernel), List.mem_of_getElem? (i := 861) (by decide +kernel), List.mem_of_getElem? (i := 862) (by decide +kernel)⟩
theorem lw_p76 : lw_okq (⟨"BedHouseModel", "reach", "(II)V"⟩, 19) := ⟨⟨by decide +kernel, by decide +kernel⟩, List.mem_of_getElem? (i := 636) (by decide +kernel), List.mem_of_getElem? (i := 865) (by decide +kernel), List.mem_of_getElem? (i := 866) (by decide +kernel)⟩
theorem lw_p77 : lw_okq (⟨"BedHouseModel", "go", "(I)V"⟩, 19) := ⟨⟨by decide +kernel, by decide +kernel⟩, List.mem_of_getElem? (i := 636) (by decide +kernel), List.mem_of_getElem? (i := 869) (by decide +kernel), List.mem_of_getElem? (i := 870) (by decide +kernel)⟩
theorem lw_p78 : lw_okq (⟨"BedHouseModel", "houseOf", "(I)I"⟩, 19) := ⟨⟨by decide +kernel, by decide +kernel⟩, List.mem_of_getElem? (i := 636) (by decide +kernel), List.mem_of_getElem? (i := 873) (by decide +kernel), List.mem_of_getElem? (i := 874) (by decide +kernel)⟩
theorem lw_p79 : lw_okq (⟨"BedHouseModel", "houses", "()I"⟩, 19) := ⟨⟨by decide +kernel, by decide +kernel⟩, List.mem_of_getElem? (i := 636) (by decide +kernel), List.mem_of_getElem? (i := 885) (by decide +kernel), List.mem_of_getElem? (i := 886) (by decide +kernel)⟩
def lw_privs_5 : List (MethodName × Nat) := [(⟨"BedHouseModel", "with", "(III)I"⟩, 19), (⟨"BedHouseModel", "act", "(I)I"⟩, 19), (⟨"BedHouseModel", "isLawful", "(I)Z"⟩, 19), (⟨"BedHouseModel", "lying", "(I)I"⟩, 19), (⟨"BedHouseModel", "leaksIn", "(I)I"⟩, 19), (⟨"BedHouseModel", "sortAt", "(II)I"⟩, 19), (⟨"BedHouseModel", "worthOf", "(I)I"⟩, 19), (⟨"BedHouseModel", "isLit", "(II)Z"⟩, 19), (⟨"BedHouseModel", "isOpen", "(II)Z"⟩, 19), (⟨"BedHouseModel", "refuses", "(I)I"⟩, 19), (⟨"BedHouseModel", "goFrom", "(I)V"⟩, 19), (⟨"BedHouseModel", "none", "()V"⟩, 19), (⟨"BedHouseModel", "reach", "(II)V"⟩, 19), (⟨"BedHouseModel", "go", "(I)V"⟩, 19), (⟨"BedHouseModel", "houseOf", "(I)I"⟩, 19), (⟨"BedHouseModel", "houses", "()I"⟩, 19)]
theorem lw_r5 : ∀ q ∈ lw_privs_5, lw_okq q := List.forall_mem_cons.mpr ⟨lw_p64, List.forall_mem_cons.mpr ⟨lw_p65, List.forall_mem_cons.mpr ⟨lw_p66, List.forall_mem_cons.mpr ⟨lw_p67, List.forall_mem_cons.mpr ⟨lw_p68, List.forall_mem_cons.mpr ⟨lw_p69, List.forall_mem_cons.mpr ⟨lw_p70, List.forall_mem_cons.mpr ⟨lw_p71, List.forall_mem_cons.mpr ⟨lw_p72, List.forall_mem_cons.mpr ⟨lw_p73, List.forall_mem_cons.mpr ⟨lw_p74, List.forall_mem_cons.mpr ⟨lw_p75, List.forall_mem_cons.mpr ⟨lw_p76, List.forall_mem_cons.mpr ⟨lw_p77, List.forall_mem_cons.mpr ⟨lw_p78, List.forall_mem_cons.mpr ⟨lw_p79, fun _ h => absurd h List.not_mem_nil⟩⟩⟩⟩⟩⟩⟩⟩⟩⟩⟩⟩⟩⟩⟩⟩
theorem lw_p80 : lw_okq (⟨"BedHouseModel", "isFit", "(I)Z"⟩, 19) := ⟨⟨by decide +kernel, by decide +kernel⟩, List.mem_of_getElem? (i := 636) (by decide +kernel), List.mem_of_getElem? (i := 905) (by decide +kernel), List.mem_of_getElem? (i := 906) (by decide +kernel)⟩
theorem lw_p81 : lw_okq (⟨"BedHouseModel", "copy", "(II)V"⟩, 19) := ⟨⟨by decide +kernel, by decide +kernel⟩, List.mem_of_getElem? (i := 636) (by decide +kernel), List.mem_of_getElem? (i := 930) (by decide +kernel), List.mem_of_getElem? (i := 931) (by decide +kernel)⟩
def lw_privs_6 : List (MethodName × Nat) := [(⟨"BedHouseModel", "isFit", "(I)Z"⟩, 19), (⟨"BedHouseModel", "copy", "(II)V"⟩, 19)]
theorem lw_r6 : ∀ q ∈ lw_privs_6, lw_okq q := List.forall_mem_cons.mpr ⟨lw_p80, List.forall_mem_cons.mpr ⟨lw_p81, fun _ h => absurd h List.not_mem_nil⟩⟩
def lw_privs : List (MethodName × Nat) := lw_privs_1 ++ (lw_privs_2 ++ (lw_privs_3 ++ (lw_privs_4 ++ (lw_privs_5 ++ (lw_privs_6)))))
def lw_tbl : List Cond := k2_sels lw_privs ++ tables_1
theorem lw_privs_ok : ∀ q ∈ lw_privs, lw_okq q := by
  show ∀ q ∈ lw_privs_1 ++ (lw_privs_2 ++ (lw_privs_3 ++ (lw_privs_4 ++ (lw_privs_5 ++ (lw_privs_6))))), lw_okq q
  exact List.forall_mem_append.mpr ⟨lw_r1, List.forall_mem_append.mpr ⟨lw_r2, List.forall_mem_append.mpr ⟨lw_r3, List.forall_mem_append.mpr ⟨lw_r4, List.forall_mem_append.mpr ⟨lw_r5, lw_r6⟩⟩⟩⟩⟩
end
section
/-! ===== BEGIN words of one list among another's, by their places ===== -/
theorem goodIn_r {big : List Cond} (ws : List Cond) (ps : List Nat) (hp : ws = ps.filterMap (fun i => big[i]?)) (h : ws.all goodWord = true) : GoodIn big ws := by
  intro w hw
  have h1 := List.all_eq_true.mp h w hw
  rw [hp] at hw
  obtain ⟨i, -, hi⟩ := List.mem_filterMap.mp hw
  have hm : w ∈ big := by first | exact List.mem_of_getElem? hi | exact List.getElem?_mem hi
  exact ⟨hm, good_of_word h1⟩
theorem goodIn_app {big a b : List Cond} (ha : GoodIn big a) (hb : GoodIn big b) : GoodIn big (a ++ b) := fun w h => (List.mem_append.mp h).elim (ha w) (hb w)
theorem goodIn_ca {big a b : List Cond} {c : Cond} (ha : GoodIn big (c :: a)) (hb : GoodIn big b) : GoodIn big (c :: (a ++ b)) := fun w h => (List.mem_cons.mp h).elim (fun e => ha w (List.mem_cons.mpr (Or.inl e))) (fun h => (List.mem_append.mp h).elim (fun h => ha w (List.mem_cons.mpr (Or.inr h))) (hb w))
theorem goodIn_sub {big ws : List Cond} (hm : ∀ w ∈ ws, w ∈ big) (h : ws.all goodWord = true) : GoodIn big ws := fun w hw => ⟨hm w hw, good_of_word (List.all_eq_true.mp h w hw)⟩
/-! ===== END ===== -/

/-! ===== BEGIN printed: names, fields, word lists, decode rows ===== -/
def RX0 : String := "BedHouse$Moment"
def TX0 : u_T := fun k => match k with
  | 0 => ("BedHouse$Moment", "home", "I", false)
  | 1 => ("BedHouse$Moment", "day", "I", false)
  | 2 => ("BedHouse$Moment", "acts", "I", false)
  | 3 => ("BedHouse$Moment", "leaks", "I", false)
  | 4 => ("BedHouse$Moment", "clues", "I", false)
  | 5 => ("BedHouse$Moment", "litHours", "I", false)
  | 6 => ("BedHouse$Moment", "darkHours", "I", false)
  | _ => ("BedHouse$Moment", "kept", "Z", false)
def tyX0 : Nat → FieldType := fun k => match k with
  | 0 => .int
  | 1 => .int
  | 2 => .int
  | 3 => .int
  | 4 => .int
  | 5 => .int
  | 6 => .int
  | _ => .boolean
abbrev wsX00 : List Cond := u_ws RX0 TX0 8
theorem nmX0 : ∀ a, a < 8 → ∀ b, b < 8 → a ≠ b → (TX0 a).2.1 ≠ (TX0 b).2.1 := by decide +kernel
theorem tyX0_ok : ∀ k, k < 8 → parseFieldDescriptor (TX0 k).2.2.1 = some (tyX0 k) := by decide +kernel
abbrev cX0_init : ByteArray := prog_2_method_1_code
def yX0_init : MethodName := ⟨RX0, "<init>", "()V"⟩
abbrev cX0_begin : ByteArray := prog_2_method_2_code
def yX0_begin : MethodName := ⟨RX0, "begin", "(I)V"⟩
abbrev cX0_copyFrom : ByteArray := prog_2_method_3_code
def yX0_copyFrom : MethodName := ⟨RX0, "copyFrom", "(LBedHouse$Moment;)V"⟩
def RX1 : String := "BedHouse$Plan"
def TX1 : u_T := fun k => match k with
  | 0 => ("BedHouse$Plan", "sorts", "[I", true)
  | 1 => ("BedHouse$Plan", "panels", "I", false)
  | 2 => ("BedHouse$Plan", "toldHouse", "I", false)
  | 3 => ("BedHouse$Plan", "beamSlots", "[I", true)
  | 4 => ("BedHouse$Plan", "beams", "I", false)
  | 5 => ("BedHouse$Plan", "rain", "I", false)
  | 6 => ("BedHouse$Plan", "sun", "I", false)
  | 7 => ("BedHouse$Plan", "view", "I", false)
  | 8 => ("BedHouse$Plan", "noise", "I", false)
  | 9 => ("BedHouse$Plan", "mostLying", "I", false)
  | _ => ("BedHouse$Plan", "hands", "I", false)
def tyX1 : Nat → FieldType := fun k => match k with
  | 0 => .array .int
  | 1 => .int
  | 2 => .int
  | 3 => .array .int
  | 4 => .int
  | 5 => .int
  | 6 => .int
  | 7 => .int
  | 8 => .int
  | 9 => .int
  | _ => .int
abbrev wsX10 : List Cond := u_ws RX1 TX1 11
theorem nmX1 : ∀ a, a < 11 → ∀ b, b < 11 → a ≠ b → (TX1 a).2.1 ≠ (TX1 b).2.1 := by decide +kernel
theorem tyX1_ok : ∀ k, k < 11 → parseFieldDescriptor (TX1 k).2.2.1 = some (tyX1 k) := by decide +kernel
abbrev cX1_init : ByteArray := prog_3_method_1_code
def yX1_init : MethodName := ⟨RX1, "<init>", "()V"⟩
abbrev cX1_startAnew : ByteArray := prog_3_method_2_code
def yX1_startAnew : MethodName := ⟨RX1, "startAnew", "()V"⟩
abbrev cX1_hasPanel : ByteArray := prog_3_method_3_code
def yX1_hasPanel : MethodName := ⟨RX1, "hasPanel", "(I)Z"⟩
abbrev cX1_hasBeam : ByteArray := prog_3_method_4_code
def yX1_hasBeam : MethodName := ⟨RX1, "hasBeam", "(I)Z"⟩
abbrev cX1_addPanel : ByteArray := prog_3_method_5_code
def yX1_addPanel : MethodName := ⟨RX1, "addPanel", "(II)V"⟩
abbrev cX1_addBeam : ByteArray := prog_3_method_6_code
def yX1_addBeam : MethodName := ⟨RX1, "addBeam", "(I)V"⟩
abbrev cX1_sortOf : ByteArray := prog_3_method_7_code
def yX1_sortOf : MethodName := ⟨RX1, "sortOf", "(I)I"⟩
abbrev cX1_panelAt : ByteArray := prog_3_method_8_code
def yX1_panelAt : MethodName := ⟨RX1, "panelAt", "(II)I"⟩
abbrev cX1_slotsUnder : ByteArray := prog_3_method_9_code
def yX1_slotsUnder : MethodName := ⟨RX1, "slotsUnder", "(II)I"⟩
abbrev cX1_lyingIn : ByteArray := prog_3_method_10_code
def yX1_lyingIn : MethodName := ⟨RX1, "lyingIn", "(I)I"⟩
abbrev cX1_isBorne : ByteArray := prog_3_method_11_code
def yX1_isBorne : MethodName := ⟨RX1, "isBorne", "(II)Z"⟩
abbrev cX1_allows : ByteArray := prog_3_method_12_code
def yX1_allows : MethodName := ⟨RX1, "allows", "(I)Z"⟩
abbrev cX1_leaksOf : ByteArray := prog_3_method_13_code
def yX1_leaksOf : MethodName := ⟨RX1, "leaksOf", "(I)I"⟩
abbrev cX1_litHours : ByteArray := prog_3_method_14_code
def yX1_litHours : MethodName := ⟨RX1, "litHours", "(I)I"⟩
abbrev cX1_worthOf : ByteArray := prog_3_method_15_code
def yX1_worthOf : MethodName := ⟨RX1, "worthOf", "(I)I"⟩
abbrev cX1_quietIn : ByteArray := prog_3_method_16_code
def yX1_quietIn : MethodName := ⟨RX1, "quietIn", "(I)I"⟩
abbrev cX1_fitsLetter : ByteArray := prog_3_method_17_code
def yX1_fitsLetter : MethodName := ⟨RX1, "fitsLetter", "(ILBedHouse$Moment;)Z"⟩
def RX2 : String := "BedHouse$Search"
def TX2 : u_T := fun k => match k with
  | 0 => ("BedHouse$Search", "lawful", "[B", true)
  | 1 => ("BedHouse$Search", "far", "[I", true)
  | 2 => ("BedHouse$Search", "queue", "[I", true)
  | 3 => ("BedHouse$Search", "reached", "I", false)
  | _ => ("BedHouse$Search", "surveyed", "Z", false)
def tyX2 : Nat → FieldType := fun k => match k with
  | 0 => .array .byte
  | 1 => .array .int
  | 2 => .array .int
  | 3 => .int
  | _ => .boolean
abbrev wsX20 : List Cond := u_ws RX2 TX2 5
theorem nmX2 : ∀ a, a < 5 → ∀ b, b < 5 → a ≠ b → (TX2 a).2.1 ≠ (TX2 b).2.1 := by decide +kernel
theorem tyX2_ok : ∀ k, k < 5 → parseFieldDescriptor (TX2 k).2.2.1 = some (tyX2 k) := by decide +kernel
abbrev cX2_init : ByteArray := prog_4_method_1_code
def yX2_init : MethodName := ⟨RX2, "<init>", "()V"⟩
abbrev cX2_survey : ByteArray := prog_4_method_2_code
def yX2_survey : MethodName := ⟨RX2, "survey", "(LBedHouse$Plan;)V"⟩
abbrev cX2_isLawful : ByteArray := prog_4_method_3_code
def yX2_isLawful : MethodName := ⟨RX2, "isLawful", "(I)Z"⟩
abbrev cX2_farTo : ByteArray := prog_4_method_4_code
def yX2_farTo : MethodName := ⟨RX2, "farTo", "(I)I"⟩
abbrev cX2_spreadFrom : ByteArray := prog_4_method_5_code
def yX2_spreadFrom : MethodName := ⟨RX2, "spreadFrom", "(LBedHouse$Plan;I)V"⟩
abbrev cX2_spread : ByteArray := prog_4_method_6_code
def yX2_spread : MethodName := ⟨RX2, "spread", "(LBedHouse$Plan;II)V"⟩
abbrev cX2_spreadByOneAct : ByteArray := prog_4_method_7_code
def yX2_spreadByOneAct : MethodName := ⟨RX2, "spreadByOneAct", "(LBedHouse$Plan;II)V"⟩
abbrev cX2_reach : ByteArray := prog_4_method_8_code
def yX2_reach : MethodName := ⟨RX2, "reach", "(II)V"⟩
abbrev cX2_fewestActs : ByteArray := prog_4_method_9_code
def yX2_fewestActs : MethodName := ⟨RX2, "fewestActs", "(LBedHouse$Plan;II)I"⟩
abbrev cX2_firstAct : ByteArray := prog_4_method_10_code
def yX2_firstAct : MethodName := ⟨RX2, "firstAct", "(LBedHouse$Plan;II)I"⟩
abbrev cX2_fewestNights : ByteArray := prog_4_method_11_code
def yX2_fewestNights : MethodName := ⟨RX2, "fewestNights", "(LBedHouse$Plan;LBedHouse$Moment;I)I"⟩
abbrev cX2_keepDry : ByteArray := prog_4_method_12_code
def yX2_keepDry : MethodName := ⟨RX2, "keepDry", "(LBedHouse$Plan;)I"⟩
abbrev cX2_actsToEmpty : ByteArray := prog_4_method_13_code
def yX2_actsToEmpty : MethodName := ⟨RX2, "actsToEmpty", "(LBedHouse$Plan;II)I"⟩
abbrev cX2_bestHome : ByteArray := prog_4_method_14_code
def yX2_bestHome : MethodName := ⟨RX2, "bestHome", "(LBedHouse$Plan;)I"⟩
abbrev cX2_countFitting : ByteArray := prog_4_method_15_code
def yX2_countFitting : MethodName := ⟨RX2, "countFitting", "(LBedHouse$Plan;LBedHouse$Moment;)I"⟩
abbrev cX2_surePlace : ByteArray := prog_4_method_16_code
def yX2_surePlace : MethodName := ⟨RX2, "surePlace", "(LBedHouse$Plan;LBedHouse$Moment;I)I"⟩
def RX3 : String := "BedHouse$Text"
def TX3 : u_T := fun k => match k with
  | 0 => ("BedHouse$Text", "bytes", "[I", true)
  | 1 => ("BedHouse$Text", "length", "I", false)
  | 2 => ("BedHouse$Text", "at", "I", false)
  | 3 => ("BedHouse$Text", "tokenStart", "I", false)
  | 4 => ("BedHouse$Text", "token", "I", false)
  | 5 => ("BedHouse$Text", "value", "I", false)
  | 6 => ("BedHouse$Text", "downTold", "Z", false)
  | _ => ("BedHouse$Text", "handsTold", "Z", false)
def tyX3 : Nat → FieldType := fun k => match k with
  | 0 => .array .int
  | 1 => .int
  | 2 => .int
  | 3 => .int
  | 4 => .int
  | 5 => .int
  | 6 => .boolean
  | _ => .boolean
abbrev wsX30 : List Cond := u_ws RX3 TX3 8
theorem nmX3 : ∀ a, a < 8 → ∀ b, b < 8 → a ≠ b → (TX3 a).2.1 ≠ (TX3 b).2.1 := by decide +kernel
theorem tyX3_ok : ∀ k, k < 8 → parseFieldDescriptor (TX3 k).2.2.1 = some (tyX3 k) := by decide +kernel
abbrev cX3_init : ByteArray := prog_5_method_1_code
def yX3_init : MethodName := ⟨RX3, "<init>", "()V"⟩
abbrev cX3_append : ByteArray := prog_5_method_2_code
def yX3_append : MethodName := ⟨RX3, "append", "(I)V"⟩
abbrev cX3_byteAt : ByteArray := prog_5_method_3_code
def yX3_byteAt : MethodName := ⟨RX3, "byteAt", "(I)I"⟩
abbrev cX3_tell : ByteArray := prog_5_method_4_code
def yX3_tell : MethodName := ⟨RX3, "tell", "(LBedHouse$Plan;)I"⟩
abbrev cX3_tellItem : ByteArray := prog_5_method_5_code
def yX3_tellItem : MethodName := ⟨RX3, "tellItem", "(LBedHouse$Plan;)Z"⟩
abbrev cX3_mayBegin : ByteArray := prog_5_method_6_code
def yX3_mayBegin : MethodName := ⟨RX3, "mayBegin", "(ILBedHouse$Plan;)Z"⟩
abbrev cX3_mayBeFirst : ByteArray := prog_5_method_7_code
def yX3_mayBeFirst : MethodName := ⟨RX3, "mayBeFirst", "(IILBedHouse$Plan;)Z"⟩
abbrev cX3_apply : ByteArray := prog_5_method_8_code
def yX3_apply : MethodName := ⟨RX3, "apply", "(IIILBedHouse$Plan;)V"⟩
abbrev cX3_slotsFrom : ByteArray := prog_5_method_9_code
def yX3_slotsFrom : MethodName := ⟨RX3, "slotsFrom", "(II)I"⟩
abbrev cX3_nextToken : ByteArray := prog_5_method_10_code
def yX3_nextToken : MethodName := ⟨RX3, "nextToken", "()V"⟩
abbrev cX3_readWord : ByteArray := prog_5_method_11_code
def yX3_readWord : MethodName := ⟨RX3, "readWord", "()V"⟩
abbrev cX3_isSpelled : ByteArray := prog_5_method_12_code
def yX3_isSpelled : MethodName := ⟨RX3, "isSpelled", "(Ljava/lang/String;)Z"⟩
abbrev cX3_readNumber : ByteArray := prog_5_method_13_code
def yX3_readNumber : MethodName := ⟨RX3, "readNumber", "()V"⟩
abbrev cX3_isLetter : ByteArray := prog_5_method_14_code
def yX3_isLetter : MethodName := ⟨RX3, "isLetter", "(I)Z"⟩
abbrev cX3_isDigit : ByteArray := prog_5_method_15_code
def yX3_isDigit : MethodName := ⟨RX3, "isDigit", "(I)Z"⟩
abbrev cX3_spelling : ByteArray := prog_5_method_16_code
def yX3_spelling : MethodName := ⟨RX3, "spelling", "(I)Ljava/lang/String;"⟩
def RX4 : String := "BedHouse"
def TX4 : u_T := fun k => match k with
  | 0 => ("BedHouse", "text", "LBedHouse$Text;", true)
  | 1 => ("BedHouse", "search", "LBedHouse$Search;", true)
  | 2 => ("BedHouse", "present", "LBedHouse$Moment;", true)
  | 3 => ("BedHouse", "images", "[LBedHouse$Moment;", true)
  | 4 => ("BedHouse", "plan", "LBedHouse$Plan;", false)
  | 5 => ("BedHouse", "draft", "LBedHouse$Plan;", false)
  | _ => ("BedHouse", "traced", "J", false)
def tyX4 : Nat → FieldType := fun k => match k with
  | 0 => .object "BedHouse$Text"
  | 1 => .object "BedHouse$Search"
  | 2 => .object "BedHouse$Moment"
  | 3 => .array (.object "BedHouse$Moment")
  | 4 => .object "BedHouse$Plan"
  | 5 => .object "BedHouse$Plan"
  | _ => .long
abbrev wsX40 : List Cond := u_ws RX4 TX4 7
theorem nmX4 : ∀ a, a < 7 → ∀ b, b < 7 → a ≠ b → (TX4 a).2.1 ≠ (TX4 b).2.1 := by decide +kernel
theorem tyX4_ok : ∀ k, k < 7 → parseFieldDescriptor (TX4 k).2.2.1 = some (tyX4 k) := by decide +kernel
abbrev cX4_init : ByteArray := prog_1_method_1_code
def yX4_init : MethodName := ⟨RX4, "<init>", "()V"⟩
abbrev cX4_type : ByteArray := prog_1_method_2_code
def yX4_type : MethodName := ⟨RX4, "type", "(JI)I"⟩
abbrev cX4_clear : ByteArray := prog_1_method_3_code
def yX4_clear : MethodName := ⟨RX4, "clear", "()I"⟩
abbrev cX4_house : ByteArray := prog_1_method_4_code
def yX4_house : MethodName := ⟨RX4, "house", "()I"⟩
abbrev cX4_panel : ByteArray := prog_1_method_5_code
def yX4_panel : MethodName := ⟨RX4, "panel", "(II)I"⟩
abbrev cX4_slot : ByteArray := prog_1_method_6_code
def yX4_slot : MethodName := ⟨RX4, "slot", "(II)I"⟩
abbrev cX4_told : ByteArray := prog_1_method_7_code
def yX4_told : MethodName := ⟨RX4, "told", "(I)I"⟩
abbrev cX4_beam : ByteArray := prog_1_method_8_code
def yX4_beam : MethodName := ⟨RX4, "beam", "(I)I"⟩
abbrev cX4_down : ByteArray := prog_1_method_9_code
def yX4_down : MethodName := ⟨RX4, "down", "(I)I"⟩
abbrev cX4_up : ByteArray := prog_1_method_10_code
def yX4_up : MethodName := ⟨RX4, "up", "(II)I"⟩
abbrev cX4_night : ByteArray := prog_1_method_11_code
def yX4_night : MethodName := ⟨RX4, "night", "()I"⟩
abbrev cX4_now : ByteArray := prog_1_method_12_code
def yX4_now : MethodName := ⟨RX4, "now", "(I)I"⟩
abbrev cX4_lit : ByteArray := prog_1_method_13_code
def yX4_lit : MethodName := ⟨RX4, "lit", "(I)I"⟩
abbrev cX4_fewest : ByteArray := prog_1_method_14_code
def yX4_fewest : MethodName := ⟨RX4, "fewest", "(I)I"⟩
abbrev cX4_first : ByteArray := prog_1_method_15_code
def yX4_first : MethodName := ⟨RX4, "first", "(I)I"⟩
abbrev cX4_nights : ByteArray := prog_1_method_16_code
def yX4_nights : MethodName := ⟨RX4, "nights", "(I)I"⟩
abbrev cX4_piano : ByteArray := prog_1_method_17_code
def yX4_piano : MethodName := ⟨RX4, "piano", "(I)I"⟩
abbrev cX4_best : ByteArray := prog_1_method_18_code
def yX4_best : MethodName := ⟨RX4, "best", "(I)I"⟩
abbrev cX4_clue : ByteArray := prog_1_method_19_code
def yX4_clue : MethodName := ⟨RX4, "clue", "(II)I"⟩
abbrev cX4_fit : ByteArray := prog_1_method_20_code
def yX4_fit : MethodName := ⟨RX4, "fit", "()I"⟩
abbrev cX4_sure : ByteArray := prog_1_method_21_code
def yX4_sure : MethodName := ⟨RX4, "sure", "(I)I"⟩
abbrev cX4_forget : ByteArray := prog_1_method_22_code
def yX4_forget : MethodName := ⟨RX4, "forget", "()I"⟩
abbrev cX4_mark : ByteArray := prog_1_method_23_code
def yX4_mark : MethodName := ⟨RX4, "mark", "(II)I"⟩
abbrev cX4_keep : ByteArray := prog_1_method_24_code
def yX4_keep : MethodName := ⟨RX4, "keep", "(I)I"⟩
abbrev cX4_back : ByteArray := prog_1_method_25_code
def yX4_back : MethodName := ⟨RX4, "back", "(I)I"⟩
abbrev cX4_count : ByteArray := prog_1_method_26_code
def yX4_count : MethodName := ⟨RX4, "count", "(I)I"⟩
abbrev cX4_trace : ByteArray := prog_1_method_27_code
def yX4_trace : MethodName := ⟨RX4, "trace", "()J"⟩
abbrev cX4_act : ByteArray := prog_1_method_28_code
def yX4_act : MethodName := ⟨RX4, "act", "(II)I"⟩
abbrev cX4_isImage : ByteArray := prog_1_method_29_code
def yX4_isImage : MethodName := ⟨RX4, "isImage", "(I)Z"⟩
abbrev cX4_markOfPanel : ByteArray := prog_1_method_30_code
def yX4_markOfPanel : MethodName := ⟨RX4, "markOfPanel", "(I)I"⟩
abbrev cX4_markOfBearing : ByteArray := prog_1_method_31_code
def yX4_markOfBearing : MethodName := ⟨RX4, "markOfBearing", "(I)I"⟩
abbrev cX4_markOfLight : ByteArray := prog_1_method_32_code
def yX4_markOfLight : MethodName := ⟨RX4, "markOfLight", "(I)I"⟩
abbrev cX4_markOfOld : ByteArray := prog_1_method_33_code
def yX4_markOfOld : MethodName := ⟨RX4, "markOfOld", "(I)I"⟩
abbrev cX4_markOfClear : ByteArray := prog_1_method_34_code
def yX4_markOfClear : MethodName := ⟨RX4, "markOfClear", "(I)I"⟩
abbrev cX4_markOfNeighbours : ByteArray := prog_1_method_35_code
def yX4_markOfNeighbours : MethodName := ⟨RX4, "markOfNeighbours", "(I)I"⟩
abbrev cX4_isSlot : ByteArray := prog_1_method_36_code
def yX4_isSlot : MethodName := ⟨RX4, "isSlot", "(I)Z"⟩
abbrev cX4_asNumber : ByteArray := prog_1_method_37_code
def yX4_asNumber : MethodName := ⟨RX4, "asNumber", "(Z)I"⟩
abbrev cX4_placeIn : ByteArray := prog_1_method_38_code
def yX4_placeIn : MethodName := ⟨RX4, "placeIn", "(II)I"⟩
abbrev cX4_unitOf : ByteArray := prog_1_method_39_code
def yX4_unitOf : MethodName := ⟨RX4, "unitOf", "(I)I"⟩
abbrev cX4_moved : ByteArray := prog_1_method_40_code
def yX4_moved : MethodName := ⟨RX4, "moved", "(III)I"⟩
def RX5 : String := "BedHouseModel"
def TX5 : u_T := fun k => match k with
  | 0 => ("BedHouseModel", "trace", "J", false)
  | 1 => ("BedHouseModel", "text", "[B", true)
  | 2 => ("BedHouseModel", "typed", "I", false)
  | 3 => ("BedHouseModel", "plan", "[I", true)
  | 4 => ("BedHouseModel", "sorts", "[I", true)
  | 5 => ("BedHouseModel", "at0", "[I", true)
  | 6 => ("BedHouseModel", "beams", "[I", true)
  | 7 => ("BedHouseModel", "at", "I", false)
  | 8 => ("BedHouseModel", "start", "I", false)
  | 9 => ("BedHouseModel", "sort", "I", false)
  | 10 => ("BedHouseModel", "value", "I", false)
  | 11 => ("BedHouseModel", "fault", "I", false)
  | 12 => ("BedHouseModel", "told", "I", false)
  | 13 => ("BedHouseModel", "now", "[I", true)
  | 14 => ("BedHouseModel", "isKept", "[Z", true)
  | 15 => ("BedHouseModel", "off", "[I", true)
  | 16 => ("BedHouseModel", "reached", "[I", true)
  | 17 => ("BedHouseModel", "reachedMany", "I", false)
  | _ => ("BedHouseModel", "isSlept", "[Z", true)
def tyX5 : Nat → FieldType := fun k => match k with
  | 0 => .long
  | 1 => .array .byte
  | 2 => .int
  | 3 => .array .int
  | 4 => .array .int
  | 5 => .array .int
  | 6 => .array .int
  | 7 => .int
  | 8 => .int
  | 9 => .int
  | 10 => .int
  | 11 => .int
  | 12 => .int
  | 13 => .array .int
  | 14 => .array .boolean
  | 15 => .array .int
  | 16 => .array .int
  | 17 => .int
  | _ => .array .boolean
abbrev wsX50 : List Cond := u_ws RX5 TX5 19
theorem nmX5 : ∀ a, a < 19 → ∀ b, b < 19 → a ≠ b → (TX5 a).2.1 ≠ (TX5 b).2.1 := by decide +kernel
theorem tyX5_ok : ∀ k, k < 19 → parseFieldDescriptor (TX5 k).2.2.1 = some (tyX5 k) := by decide +kernel
abbrev cX5_init : ByteArray := prog_7_method_1_code
def yX5_init : MethodName := ⟨RX5, "<init>", "()V"⟩
abbrev cX5_in : ByteArray := prog_7_method_3_code
def yX5_in : MethodName := ⟨RX5, "in", "(III)Z"⟩
abbrev cX5_begin : ByteArray := prog_7_method_4_code
def yX5_begin : MethodName := ⟨RX5, "begin", "(I)V"⟩
abbrev cX5_type : ByteArray := prog_7_method_5_code
def yX5_type : MethodName := ⟨RX5, "type", "(JI)I"⟩
abbrev cX5_clear : ByteArray := prog_7_method_6_code
def yX5_clear : MethodName := ⟨RX5, "clear", "()I"⟩
abbrev cX5_here : ByteArray := prog_7_method_7_code
def yX5_here : MethodName := ⟨RX5, "here", "()I"⟩
abbrev cX5_meaning : ByteArray := prog_7_method_8_code
def yX5_meaning : MethodName := ⟨RX5, "meaning", "(I)I"⟩
abbrev cX5_next : ByteArray := prog_7_method_9_code
def yX5_next : MethodName := ⟨RX5, "next", "()V"⟩
abbrev cX5_due : ByteArray := prog_7_method_10_code
def yX5_due : MethodName := ⟨RX5, "due", "(Z)I"⟩
abbrev cX5_number : ByteArray := prog_7_method_11_code
def yX5_number : MethodName := ⟨RX5, "number", "(II)I"⟩
abbrev cX5_stands : ByteArray := prog_7_method_12_code
def yX5_stands : MethodName := ⟨RX5, "stands", "(I)Z"⟩
abbrev cX5_round : ByteArray := prog_7_method_13_code
def yX5_round : MethodName := ⟨RX5, "round", "()I"⟩
abbrev cX5_mayItem : ByteArray := prog_7_method_14_code
def yX5_mayItem : MethodName := ⟨RX5, "mayItem", "(I)Z"⟩
abbrev cX5_readItem : ByteArray := prog_7_method_15_code
def yX5_readItem : MethodName := ⟨RX5, "readItem", "()V"⟩
abbrev cX5_house : ByteArray := prog_7_method_16_code
def yX5_house : MethodName := ⟨RX5, "house", "()I"⟩
abbrev cX5_isPanel : ByteArray := prog_7_method_17_code
def yX5_isPanel : MethodName := ⟨RX5, "isPanel", "(I)Z"⟩
abbrev cX5_power : ByteArray := prog_7_method_18_code
def yX5_power : MethodName := ⟨RX5, "power", "(I)I"⟩
abbrev cX5_houses : ByteArray := prog_7_method_19_code
def yX5_houses : MethodName := ⟨RX5, "houses", "()I"⟩
abbrev cX5_slotIn : ByteArray := prog_7_method_20_code
def yX5_slotIn : MethodName := ⟨RX5, "slotIn", "(II)I"⟩
abbrev cX5_with : ByteArray := prog_7_method_21_code
def yX5_with : MethodName := ⟨RX5, "with", "(III)I"⟩
abbrev cX5_panelAt : ByteArray := prog_7_method_22_code
def yX5_panelAt : MethodName := ⟨RX5, "panelAt", "(II)I"⟩
abbrev cX5_lying : ByteArray := prog_7_method_23_code
def yX5_lying : MethodName := ⟨RX5, "lying", "(I)I"⟩
abbrev cX5_isBorne : ByteArray := prog_7_method_24_code
def yX5_isBorne : MethodName := ⟨RX5, "isBorne", "(II)Z"⟩
abbrev cX5_isLawful : ByteArray := prog_7_method_25_code
def yX5_isLawful : MethodName := ⟨RX5, "isLawful", "(I)Z"⟩
abbrev cX5_sortAt : ByteArray := prog_7_method_26_code
def yX5_sortAt : MethodName := ⟨RX5, "sortAt", "(II)I"⟩
abbrev cX5_leaksIn : ByteArray := prog_7_method_27_code
def yX5_leaksIn : MethodName := ⟨RX5, "leaksIn", "(I)I"⟩
abbrev cX5_isOpen : ByteArray := prog_7_method_28_code
def yX5_isOpen : MethodName := ⟨RX5, "isOpen", "(II)Z"⟩
abbrev cX5_isLit : ByteArray := prog_7_method_29_code
def yX5_isLit : MethodName := ⟨RX5, "isLit", "(II)Z"⟩
abbrev cX5_worthOf : ByteArray := prog_7_method_30_code
def yX5_worthOf : MethodName := ⟨RX5, "worthOf", "(I)I"⟩
abbrev cX5_panel : ByteArray := prog_7_method_31_code
def yX5_panel : MethodName := ⟨RX5, "panel", "(II)I"⟩
abbrev cX5_slot : ByteArray := prog_7_method_32_code
def yX5_slot : MethodName := ⟨RX5, "slot", "(II)I"⟩
abbrev cX5_told : ByteArray := prog_7_method_33_code
def yX5_told : MethodName := ⟨RX5, "told", "(I)I"⟩
abbrev cX5_beam : ByteArray := prog_7_method_34_code
def yX5_beam : MethodName := ⟨RX5, "beam", "(I)I"⟩
abbrev cX5_act : ByteArray := prog_7_method_35_code
def yX5_act : MethodName := ⟨RX5, "act", "(I)I"⟩
abbrev cX5_down : ByteArray := prog_7_method_36_code
def yX5_down : MethodName := ⟨RX5, "down", "(I)I"⟩
abbrev cX5_up : ByteArray := prog_7_method_37_code
def yX5_up : MethodName := ⟨RX5, "up", "(II)I"⟩
abbrev cX5_night : ByteArray := prog_7_method_38_code
def yX5_night : MethodName := ⟨RX5, "night", "()I"⟩
abbrev cX5_now : ByteArray := prog_7_method_39_code
def yX5_now : MethodName := ⟨RX5, "now", "(I)I"⟩
abbrev cX5_lit : ByteArray := prog_7_method_40_code
def yX5_lit : MethodName := ⟨RX5, "lit", "(I)I"⟩
abbrev cX5_reach : ByteArray := prog_7_method_41_code
def yX5_reach : MethodName := ⟨RX5, "reach", "(II)V"⟩
abbrev cX5_none : ByteArray := prog_7_method_42_code
def yX5_none : MethodName := ⟨RX5, "none", "()V"⟩
abbrev cX5_go : ByteArray := prog_7_method_43_code
def yX5_go : MethodName := ⟨RX5, "go", "(I)V"⟩
abbrev cX5_goFrom : ByteArray := prog_7_method_44_code
def yX5_goFrom : MethodName := ⟨RX5, "goFrom", "(I)V"⟩
abbrev cX5_refuses : ByteArray := prog_7_method_45_code
def yX5_refuses : MethodName := ⟨RX5, "refuses", "(I)I"⟩
abbrev cX5_houseOf : ByteArray := prog_7_method_46_code
def yX5_houseOf : MethodName := ⟨RX5, "houseOf", "(I)I"⟩
abbrev cX5_fewest : ByteArray := prog_7_method_47_code
def yX5_fewest : MethodName := ⟨RX5, "fewest", "(I)I"⟩
abbrev cX5_first : ByteArray := prog_7_method_48_code
def yX5_first : MethodName := ⟨RX5, "first", "(I)I"⟩
abbrev cX5_nights : ByteArray := prog_7_method_49_code
def yX5_nights : MethodName := ⟨RX5, "nights", "(I)I"⟩
abbrev cX5_piano : ByteArray := prog_7_method_50_code
def yX5_piano : MethodName := ⟨RX5, "piano", "(I)I"⟩
abbrev cX5_best : ByteArray := prog_7_method_51_code
def yX5_best : MethodName := ⟨RX5, "best", "(I)I"⟩
abbrev cX5_clue : ByteArray := prog_7_method_52_code
def yX5_clue : MethodName := ⟨RX5, "clue", "(II)I"⟩
abbrev cX5_isFit : ByteArray := prog_7_method_53_code
def yX5_isFit : MethodName := ⟨RX5, "isFit", "(I)Z"⟩
abbrev cX5_fit : ByteArray := prog_7_method_54_code
def yX5_fit : MethodName := ⟨RX5, "fit", "()I"⟩
abbrev cX5_sure : ByteArray := prog_7_method_55_code
def yX5_sure : MethodName := ⟨RX5, "sure", "(I)I"⟩
abbrev cX5_forget : ByteArray := prog_7_method_56_code
def yX5_forget : MethodName := ⟨RX5, "forget", "()I"⟩
abbrev cX5_mark : ByteArray := prog_7_method_57_code
def yX5_mark : MethodName := ⟨RX5, "mark", "(II)I"⟩
abbrev cX5_copy : ByteArray := prog_7_method_58_code
def yX5_copy : MethodName := ⟨RX5, "copy", "(II)V"⟩
abbrev cX5_keep : ByteArray := prog_7_method_59_code
def yX5_keep : MethodName := ⟨RX5, "keep", "(I)I"⟩
abbrev cX5_back : ByteArray := prog_7_method_60_code
def yX5_back : MethodName := ⟨RX5, "back", "(I)I"⟩
abbrev cX5_count : ByteArray := prog_7_method_61_code
def yX5_count : MethodName := ⟨RX5, "count", "(I)I"⟩
abbrev cX5_trace : ByteArray := prog_7_method_62_code
def yX5_trace : MethodName := ⟨RX5, "trace", "()J"⟩
def RJ6 : String := "java/lang/Integer"
def TJ6 : u_T := fun k => match k with
  | _ => ("", "", "", false)
def tyJ6 : Nat → FieldType := fun k => match k with
  | _ => .int
abbrev wsJ60 : List Cond := u_ws RJ6 TJ6 0
theorem nmJ6 : ∀ a, a < 0 → ∀ b, b < 0 → a ≠ b → (TJ6 a).2.1 ≠ (TJ6 b).2.1 := by decide +kernel
theorem tyJ6_ok : ∀ k, k < 0 → parseFieldDescriptor (TJ6 k).2.2.1 = some (tyJ6 k) := by decide +kernel
abbrev cJ6_bitCount_0f7a4 : ByteArray := prog_8_method_49_code
def yJ6_bitCount_0f7a4 : MethodName := ⟨RJ6, "bitCount", "(I)I"⟩
def RJ9 : String := "java/lang/Math"
def TJ9 : u_T := fun k => match k with
  | _ => ("", "", "", false)
def tyJ9 : Nat → FieldType := fun k => match k with
  | _ => .int
abbrev wsJ90 : List Cond := u_ws RJ9 TJ9 0
theorem nmJ9 : ∀ a, a < 0 → ∀ b, b < 0 → a ≠ b → (TJ9 a).2.1 ≠ (TJ9 b).2.1 := by decide +kernel
theorem tyJ9_ok : ∀ k, k < 0 → parseFieldDescriptor (TJ9 k).2.2.1 = some (tyJ9 k) := by decide +kernel
abbrev cJ9_min_7cf53 : ByteArray := prog_9_method_69_code
def yJ9_min_7cf53 : MethodName := ⟨RJ9, "min", "(II)I"⟩
def RJ0 : String := "java/lang/String"
def TJ0 : u_T := fun k => match k with
  | _ => ("", "", "", false)
def tyJ0 : Nat → FieldType := fun k => match k with
  | _ => .int
abbrev wsJ00 : List Cond := u_ws RJ0 TJ0 0
theorem nmJ0 : ∀ a, a < 0 → ∀ b, b < 0 → a ≠ b → (TJ0 a).2.1 ≠ (TJ0 b).2.1 := by decide +kernel
theorem tyJ0_ok : ∀ k, k < 0 → parseFieldDescriptor (TJ0 k).2.2.1 = some (tyJ0 k) := by decide +kernel
abbrev cJ0_length_8abf5 : ByteArray := prog_10_method_54_code
def yJ0_length_8abf5 : MethodName := ⟨RJ0, "length", "()I"⟩
abbrev cJ0_charAt_5068e : ByteArray := prog_10_method_56_code
def yJ0_charAt_5068e : MethodName := ⟨RJ0, "charAt", "(I)C"⟩
abbrev cJ0_coder_7d493 : ByteArray := prog_10_method_152_code
def yJ0_coder_7d493 : MethodName := ⟨RJ0, "coder", "()B"⟩
abbrev cJ0_isLatin1_aae02 : ByteArray := prog_10_method_154_code
def yJ0_isLatin1_aae02 : MethodName := ⟨RJ0, "isLatin1", "()Z"⟩
abbrev cJ0_checkIndex_df160 : ByteArray := prog_10_method_155_code
def yJ0_checkIndex_df160 : MethodName := ⟨RJ0, "checkIndex", "(II)V"⟩
def RJ1 : String := "java/lang/StringLatin1"
def TJ1 : u_T := fun k => match k with
  | _ => ("", "", "", false)
def tyJ1 : Nat → FieldType := fun k => match k with
  | _ => .int
abbrev wsJ10 : List Cond := u_ws RJ1 TJ1 0
theorem nmJ1 : ∀ a, a < 0 → ∀ b, b < 0 → a ≠ b → (TJ1 a).2.1 ≠ (TJ1 b).2.1 := by decide +kernel
theorem tyJ1_ok : ∀ k, k < 0 → parseFieldDescriptor (TJ1 k).2.2.1 = some (tyJ1 k) := by decide +kernel
abbrev cJ1_charAt_3b067 : ByteArray := prog_11_method_2_code
def yJ1_charAt_3b067 : MethodName := ⟨RJ1, "charAt", "([BI)C"⟩
def RJ2 : String := "java/lang/StringUTF16"
def TJ2 : u_T := fun k => match k with
  | _ => ("", "", "", false)
def tyJ2 : Nat → FieldType := fun k => match k with
  | _ => .int
abbrev wsJ20 : List Cond := u_ws RJ2 TJ2 0
theorem nmJ2 : ∀ a, a < 0 → ∀ b, b < 0 → a ≠ b → (TJ2 a).2.1 ≠ (TJ2 b).2.1 := by decide +kernel
theorem tyJ2_ok : ∀ k, k < 0 → parseFieldDescriptor (TJ2 k).2.2.1 = some (tyJ2 k) := by decide +kernel
abbrev cJ2_getChar_3b067 : ByteArray := prog_12_method_5_code
def yJ2_getChar_3b067 : MethodName := ⟨RJ2, "getChar", "([BI)C"⟩
abbrev cJ2_length_9d52b : ByteArray := prog_12_method_6_code
def yJ2_length_9d52b : MethodName := ⟨RJ2, "length", "([B)I"⟩
abbrev cJ2_charAt_3b067 : ByteArray := prog_12_method_83_code
def yJ2_charAt_3b067 : MethodName := ⟨RJ2, "charAt", "([BI)C"⟩
abbrev cJ2_checkIndex_2214a : ByteArray := prog_12_method_91_code
def yJ2_checkIndex_2214a : MethodName := ⟨RJ2, "checkIndex", "(I[B)V"⟩
def RJ3 : String := "jdk/internal/util/Preconditions"
def TJ3 : u_T := fun k => match k with
  | _ => ("", "", "", false)
def tyJ3 : Nat → FieldType := fun k => match k with
  | _ => .int
abbrev wsJ30 : List Cond := u_ws RJ3 TJ3 0
theorem nmJ3 : ∀ a, a < 0 → ∀ b, b < 0 → a ≠ b → (TJ3 a).2.1 ≠ (TJ3 b).2.1 := by decide +kernel
theorem tyJ3_ok : ∀ k, k < 0 → parseFieldDescriptor (TJ3 k).2.2.1 = some (tyJ3 k) := by decide +kernel
abbrev cJ3_checkIndex_8e157 : ByteArray := prog_13_method_11_code
def yJ3_checkIndex_8e157 : MethodName := ⟨RJ3, "checkIndex", "(IILjava/util/function/BiFunction;)I"⟩
def RL : String := "BedHouseLaw"
abbrev cL_law : ByteArray := code
def yL_law : MethodName := ⟨RL, "law", "([I)Z"⟩
def wsX0_init : List Cond := .code yX0_init cX0_init 1 none :: ([.methodLink RX0 1 objectInit, .instanceMethod objectInit, .code objectInit ⟨#[0xb1]⟩ 1 none])
def wsX0_begin : List Cond := .code yX0_begin cX0_begin 2 none :: ([.fieldLink RX0 7 "BedHouse$Moment" "home" "I", .fieldLink RX0 13 "BedHouse$Moment" "day" "I", .fieldLink RX0 16 "BedHouse$Moment" "acts" "I", .fieldLink RX0 19 "BedHouse$Moment" "leaks" "I", .fieldLink RX0 22 "BedHouse$Moment" "clues" "I", .fieldLink RX0 25 "BedHouse$Moment" "litHours" "I", .fieldLink RX0 28 "BedHouse$Moment" "darkHours" "I"] ++ wsX00)
def wsX0_copyFrom : List Cond := .code yX0_copyFrom cX0_copyFrom 2 none :: ([.fieldLink RX0 7 "BedHouse$Moment" "home" "I", .fieldLink RX0 13 "BedHouse$Moment" "day" "I", .fieldLink RX0 16 "BedHouse$Moment" "acts" "I", .fieldLink RX0 19 "BedHouse$Moment" "leaks" "I", .fieldLink RX0 22 "BedHouse$Moment" "clues" "I", .fieldLink RX0 25 "BedHouse$Moment" "litHours" "I", .fieldLink RX0 28 "BedHouse$Moment" "darkHours" "I"] ++ wsX00)
def wsX1_startAnew : List Cond := .code yX1_startAnew cX1_startAnew 1 none :: ([.fieldLink RX1 21 "BedHouse$Plan" "panels" "I", .fieldLink RX1 25 "BedHouse$Plan" "toldHouse" "I", .fieldLink RX1 28 "BedHouse$Plan" "beams" "I", .fieldLink RX1 31 "BedHouse$Plan" "rain" "I", .fieldLink RX1 34 "BedHouse$Plan" "sun" "I", .fieldLink RX1 37 "BedHouse$Plan" "view" "I", .fieldLink RX1 40 "BedHouse$Plan" "noise" "I", .fieldLink RX1 43 "BedHouse$Plan" "mostLying" "I", .fieldLink RX1 46 "BedHouse$Plan" "hands" "I"] ++ wsX10)
def wsX1_init : List Cond := .code yX1_init cX1_init 1 none :: ([.methodLink RX1 3 objectInit, .instanceMethod objectInit, .code objectInit ⟨#[0xb1]⟩ 1 none, .arrayClass .int, .fieldLink RX1 9 "BedHouse$Plan" "sorts" "[I", .fieldLink RX1 15 "BedHouse$Plan" "beamSlots" "[I", .methodLink RX1 18 yX1_startAnew, .instanceMethod yX1_startAnew, .selects RX1 yX1_startAnew yX1_startAnew, .initialized RX1, .code yX1_startAnew cX1_startAnew 1 none, .fieldLink RX1 21 "BedHouse$Plan" "panels" "I", .fieldLink RX1 25 "BedHouse$Plan" "toldHouse" "I", .fieldLink RX1 28 "BedHouse$Plan" "beams" "I", .fieldLink RX1 31 "BedHouse$Plan" "rain" "I", .fieldLink RX1 34 "BedHouse$Plan" "sun" "I", .fieldLink RX1 37 "BedHouse$Plan" "view" "I", .fieldLink RX1 40 "BedHouse$Plan" "noise" "I", .fieldLink RX1 43 "BedHouse$Plan" "mostLying" "I", .fieldLink RX1 46 "BedHouse$Plan" "hands" "I"] ++ wsX10)
def wsX1_hasPanel : List Cond := .code yX1_hasPanel cX1_hasPanel 2 (some .boolean) :: ([.fieldLink RX1 21 "BedHouse$Plan" "panels" "I", .fieldLink RX1 9 "BedHouse$Plan" "sorts" "[I"] ++ wsX10)
def wsX1_hasBeam : List Cond := .code yX1_hasBeam cX1_hasBeam 2 (some .boolean) :: ([.fieldLink RX1 28 "BedHouse$Plan" "beams" "I", .fieldLink RX1 15 "BedHouse$Plan" "beamSlots" "[I"] ++ wsX10)
def wsX4_unitOf : List Cond := .code yX4_unitOf cX4_unitOf 1 (some .int) :: ([])
def wsX1_addPanel : List Cond := .code yX1_addPanel cX1_addPanel 3 none :: ([.fieldLink RX1 21 "BedHouse$Plan" "panels" "I", .fieldLink RX1 9 "BedHouse$Plan" "sorts" "[I", .fieldLink RX1 25 "BedHouse$Plan" "toldHouse" "I", .static yX4_unitOf, .initialized RX4, .code yX4_unitOf cX4_unitOf 1 (some .int)] ++ wsX10)
def wsX1_addBeam : List Cond := .code yX1_addBeam cX1_addBeam 2 none :: ([.fieldLink RX1 28 "BedHouse$Plan" "beams" "I", .fieldLink RX1 15 "BedHouse$Plan" "beamSlots" "[I"] ++ wsX10)
def wsX1_sortOf : List Cond := .code yX1_sortOf cX1_sortOf 2 (some .int) :: ([.fieldLink RX1 9 "BedHouse$Plan" "sorts" "[I", .methodLink RX1 53 yX1_hasPanel, .instanceMethod yX1_hasPanel, .selects RX1 yX1_hasPanel yX1_hasPanel, .initialized RX1, .code yX1_hasPanel cX1_hasPanel 2 (some .boolean), .fieldLink RX1 21 "BedHouse$Plan" "panels" "I"] ++ wsX10)
def wsX4_placeIn : List Cond := .code yX4_placeIn cX4_placeIn 2 (some .int) :: ([])
def wsX1_panelAt : List Cond := .code yX1_panelAt cX1_panelAt 4 (some .int) :: ([.fieldLink RX1 21 "BedHouse$Plan" "panels" "I", .static yX4_placeIn, .initialized RX4, .code yX4_placeIn cX4_placeIn 2 (some .int)] ++ wsX10)
def wsX1_slotsUnder : List Cond := .code yX1_slotsUnder cX1_slotsUnder 6 (some .int) :: ([.fieldLink RX1 21 "BedHouse$Plan" "panels" "I", .fieldLink RX1 9 "BedHouse$Plan" "sorts" "[I", .static yX4_placeIn, .initialized RX4, .code yX4_placeIn cX4_placeIn 2 (some .int)] ++ wsX10)
def wsX1_lyingIn : List Cond := .code yX1_lyingIn cX1_lyingIn 4 (some .int) :: ([.fieldLink RX1 21 "BedHouse$Plan" "panels" "I", .static yX4_placeIn, .initialized RX4, .code yX4_placeIn cX4_placeIn 2 (some .int)] ++ wsX10)
def wsX1_isBorne : List Cond := .code yX1_isBorne cX1_isBorne 3 (some .boolean) :: ([.fieldLink RX1 15 "BedHouse$Plan" "beamSlots" "[I", .methodLink RX1 61 yX1_hasBeam, .instanceMethod yX1_hasBeam, .selects RX1 yX1_hasBeam yX1_hasBeam, .initialized RX1, .code yX1_hasBeam cX1_hasBeam 2 (some .boolean), .fieldLink RX1 28 "BedHouse$Plan" "beams" "I", .methodLink RX1 64 yX1_slotsUnder, .instanceMethod yX1_slotsUnder, .selects RX1 yX1_slotsUnder yX1_slotsUnder, .code yX1_slotsUnder cX1_slotsUnder 6 (some .int), .fieldLink RX1 21 "BedHouse$Plan" "panels" "I", .fieldLink RX1 9 "BedHouse$Plan" "sorts" "[I", .static yX4_placeIn, .initialized RX4, .code yX4_placeIn cX4_placeIn 2 (some .int)] ++ wsX10)
def wsJ6_bitCount_0f7a4 : List Cond := .code yJ6_bitCount_0f7a4 cJ6_bitCount_0f7a4 1 (some .int) :: ([.constant RJ6 265 (1431655765), .constant RJ6 266 (858993459), .constant RJ6 267 (252645135)])
def wsX1_allows_r1 : List Cond := [Cond.fieldLink RX1 43 "BedHouse$Plan" "mostLying" "I", Cond.fieldLink RX1 21 "BedHouse$Plan" "panels" "I", Cond.fieldLink RX1 28 "BedHouse$Plan" "beams" "I", Cond.methodLink RX1 67 yX1_lyingIn, Cond.instanceMethod yX1_lyingIn, Cond.selects RX1 yX1_lyingIn yX1_lyingIn, Cond.initialized RX1, Cond.code yX1_lyingIn cX1_lyingIn 4 (some .int), Cond.static yX4_placeIn, Cond.initialized RX4, Cond.code yX4_placeIn cX4_placeIn 2 (some .int), Cond.methodLink RX1 64 yX1_slotsUnder, Cond.instanceMethod yX1_slotsUnder, Cond.selects RX1 yX1_slotsUnder yX1_slotsUnder, Cond.code yX1_slotsUnder cX1_slotsUnder 6 (some .int), Cond.fieldLink RX1 9 "BedHouse$Plan" "sorts" "[I", Cond.methodLink RX1 70 yJ6_bitCount_0f7a4, Cond.static yJ6_bitCount_0f7a4, Cond.initialized RJ6, Cond.code yJ6_bitCount_0f7a4 cJ6_bitCount_0f7a4 1 (some .int), Cond.constant RJ6 265 (1431655765), Cond.constant RJ6 266 (858993459), Cond.constant RJ6 267 (252645135), Cond.methodLink RX1 75 yX1_isBorne]
def wsX1_allows_r2 : List Cond := [Cond.instanceMethod yX1_isBorne, Cond.selects RX1 yX1_isBorne yX1_isBorne, Cond.code yX1_isBorne cX1_isBorne 3 (some .boolean), Cond.fieldLink RX1 15 "BedHouse$Plan" "beamSlots" "[I", Cond.methodLink RX1 61 yX1_hasBeam, Cond.instanceMethod yX1_hasBeam, Cond.selects RX1 yX1_hasBeam yX1_hasBeam, Cond.code yX1_hasBeam cX1_hasBeam 2 (some .boolean)]
def wsX1_allows : List Cond := .code yX1_allows cX1_allows 4 (some .boolean) :: ((wsX1_allows_r1 ++ wsX1_allows_r2) ++ wsX10)
def wsX1_leaksOf : List Cond := .code yX1_leaksOf cX1_leaksOf 2 (some .int) :: ([.fieldLink RX1 31 "BedHouse$Plan" "rain" "I", .methodLink RX1 64 yX1_slotsUnder, .instanceMethod yX1_slotsUnder, .selects RX1 yX1_slotsUnder yX1_slotsUnder, .initialized RX1, .code yX1_slotsUnder cX1_slotsUnder 6 (some .int), .fieldLink RX1 21 "BedHouse$Plan" "panels" "I", .fieldLink RX1 9 "BedHouse$Plan" "sorts" "[I", .static yX4_placeIn, .initialized RX4, .code yX4_placeIn cX4_placeIn 2 (some .int), .methodLink RX1 70 yJ6_bitCount_0f7a4, .static yJ6_bitCount_0f7a4, .initialized RJ6, .code yJ6_bitCount_0f7a4 cJ6_bitCount_0f7a4 1 (some .int), .constant RJ6 265 (1431655765), .constant RJ6 266 (858993459), .constant RJ6 267 (252645135)] ++ wsX10)
def wsX1_litHours : List Cond := .code yX1_litHours cX1_litHours 2 (some .int) :: ([.fieldLink RX1 34 "BedHouse$Plan" "sun" "I", .methodLink RX1 64 yX1_slotsUnder, .instanceMethod yX1_slotsUnder, .selects RX1 yX1_slotsUnder yX1_slotsUnder, .initialized RX1, .code yX1_slotsUnder cX1_slotsUnder 6 (some .int), .fieldLink RX1 21 "BedHouse$Plan" "panels" "I", .fieldLink RX1 9 "BedHouse$Plan" "sorts" "[I", .static yX4_placeIn, .initialized RX4, .code yX4_placeIn cX4_placeIn 2 (some .int)] ++ wsX10)
def wsX1_quietIn : List Cond := .code yX1_quietIn cX1_quietIn 2 (some .int) :: ([.fieldLink RX1 40 "BedHouse$Plan" "noise" "I", .methodLink RX1 64 yX1_slotsUnder, .instanceMethod yX1_slotsUnder, .selects RX1 yX1_slotsUnder yX1_slotsUnder, .initialized RX1, .code yX1_slotsUnder cX1_slotsUnder 6 (some .int), .fieldLink RX1 21 "BedHouse$Plan" "panels" "I", .fieldLink RX1 9 "BedHouse$Plan" "sorts" "[I", .static yX4_placeIn, .initialized RX4, .code yX4_placeIn cX4_placeIn 2 (some .int)] ++ wsX10)
def wsX1_worthOf_r1 : List Cond := [Cond.fieldLink RX1 37 "BedHouse$Plan" "view" "I", Cond.fieldLink RX1 40 "BedHouse$Plan" "noise" "I", Cond.methodLink RX1 79 yX1_litHours, Cond.instanceMethod yX1_litHours, Cond.selects RX1 yX1_litHours yX1_litHours, Cond.initialized RX1, Cond.code yX1_litHours cX1_litHours 2 (some .int), Cond.fieldLink RX1 34 "BedHouse$Plan" "sun" "I", Cond.methodLink RX1 64 yX1_slotsUnder, Cond.instanceMethod yX1_slotsUnder, Cond.selects RX1 yX1_slotsUnder yX1_slotsUnder, Cond.code yX1_slotsUnder cX1_slotsUnder 6 (some .int), Cond.fieldLink RX1 21 "BedHouse$Plan" "panels" "I", Cond.fieldLink RX1 9 "BedHouse$Plan" "sorts" "[I", Cond.static yX4_placeIn, Cond.initialized RX4, Cond.code yX4_placeIn cX4_placeIn 2 (some .int), Cond.methodLink RX1 70 yJ6_bitCount_0f7a4, Cond.static yJ6_bitCount_0f7a4, Cond.initialized RJ6, Cond.code yJ6_bitCount_0f7a4 cJ6_bitCount_0f7a4 1 (some .int), Cond.constant RJ6 265 (1431655765), Cond.constant RJ6 266 (858993459), Cond.constant RJ6 267 (252645135)]
def wsX1_worthOf_r2 : List Cond := [Cond.methodLink RX1 82 yX1_leaksOf, Cond.instanceMethod yX1_leaksOf, Cond.selects RX1 yX1_leaksOf yX1_leaksOf, Cond.code yX1_leaksOf cX1_leaksOf 2 (some .int), Cond.fieldLink RX1 31 "BedHouse$Plan" "rain" "I", Cond.methodLink RX1 85 yX1_quietIn, Cond.instanceMethod yX1_quietIn, Cond.selects RX1 yX1_quietIn yX1_quietIn, Cond.code yX1_quietIn cX1_quietIn 2 (some .int)]
def wsX1_worthOf : List Cond := .code yX1_worthOf cX1_worthOf 3 (some .int) :: ((wsX1_worthOf_r1 ++ wsX1_worthOf_r2) ++ wsX10)
def wsX1_fitsLetter : List Cond := .code yX1_fitsLetter cX1_fitsLetter 4 (some .boolean) :: ([.methodLink RX1 79 yX1_litHours, .instanceMethod yX1_litHours, .selects RX1 yX1_litHours yX1_litHours, .initialized RX1, .code yX1_litHours cX1_litHours 2 (some .int), .fieldLink RX1 34 "BedHouse$Plan" "sun" "I", .methodLink RX1 64 yX1_slotsUnder, .instanceMethod yX1_slotsUnder, .selects RX1 yX1_slotsUnder yX1_slotsUnder, .code yX1_slotsUnder cX1_slotsUnder 6 (some .int), .fieldLink RX1 21 "BedHouse$Plan" "panels" "I", .fieldLink RX1 9 "BedHouse$Plan" "sorts" "[I", .static yX4_placeIn, .initialized RX4, .code yX4_placeIn cX4_placeIn 2 (some .int)] ++ wsX00 ++ wsX10)
def wsX2_init : List Cond := .code yX2_init cX2_init 1 none :: ([.methodLink RX2 3 objectInit, .instanceMethod objectInit, .code objectInit ⟨#[0xb1]⟩ 1 none, .arrayClass .byte, .fieldLink RX2 11 "BedHouse$Search" "lawful" "[B", .arrayClass .int, .fieldLink RX2 15 "BedHouse$Search" "far" "[I", .fieldLink RX2 19 "BedHouse$Search" "queue" "[I"] ++ wsX20)
def wsX2_survey_r1 : List Cond := [Cond.fieldLink RX2 22 "BedHouse$Search" "surveyed" "Z", Cond.fieldLink RX2 11 "BedHouse$Search" "lawful" "[B", Cond.static yX4_unitOf, Cond.initialized RX4, Cond.code yX4_unitOf cX4_unitOf 1 (some .int), Cond.instanceMethod yX1_allows, Cond.initialized RX1, Cond.selects RX1 yX1_allows yX1_allows, Cond.code yX1_allows cX1_allows 4 (some .boolean), Cond.fieldLink RX1 43 "BedHouse$Plan" "mostLying" "I", Cond.fieldLink RX1 21 "BedHouse$Plan" "panels" "I", Cond.fieldLink RX1 28 "BedHouse$Plan" "beams" "I", Cond.methodLink RX1 67 yX1_lyingIn, Cond.instanceMethod yX1_lyingIn, Cond.selects RX1 yX1_lyingIn yX1_lyingIn, Cond.code yX1_lyingIn cX1_lyingIn 4 (some .int), Cond.static yX4_placeIn, Cond.code yX4_placeIn cX4_placeIn 2 (some .int), Cond.methodLink RX1 64 yX1_slotsUnder, Cond.instanceMethod yX1_slotsUnder, Cond.selects RX1 yX1_slotsUnder yX1_slotsUnder, Cond.code yX1_slotsUnder cX1_slotsUnder 6 (some .int), Cond.fieldLink RX1 9 "BedHouse$Plan" "sorts" "[I", Cond.methodLink RX1 70 yJ6_bitCount_0f7a4]
def wsX2_survey_r2 : List Cond := [Cond.static yJ6_bitCount_0f7a4, Cond.initialized RJ6, Cond.code yJ6_bitCount_0f7a4 cJ6_bitCount_0f7a4 1 (some .int), Cond.constant RJ6 265 (1431655765), Cond.constant RJ6 266 (858993459), Cond.constant RJ6 267 (252645135), Cond.methodLink RX1 75 yX1_isBorne, Cond.instanceMethod yX1_isBorne, Cond.selects RX1 yX1_isBorne yX1_isBorne, Cond.code yX1_isBorne cX1_isBorne 3 (some .boolean), Cond.fieldLink RX1 15 "BedHouse$Plan" "beamSlots" "[I", Cond.methodLink RX1 61 yX1_hasBeam, Cond.instanceMethod yX1_hasBeam, Cond.selects RX1 yX1_hasBeam yX1_hasBeam, Cond.code yX1_hasBeam cX1_hasBeam 2 (some .boolean)]
def wsX2_survey : List Cond := .code yX2_survey cX2_survey 4 none :: ((wsX2_survey_r1 ++ wsX2_survey_r2) ++ wsX20 ++ wsX10)
def wsX2_isLawful : List Cond := .code yX2_isLawful cX2_isLawful 2 (some .boolean) :: ([.fieldLink RX2 11 "BedHouse$Search" "lawful" "[B"] ++ wsX20)
def wsX2_farTo : List Cond := .code yX2_farTo cX2_farTo 2 (some .int) :: ([.fieldLink RX2 15 "BedHouse$Search" "far" "[I"] ++ wsX20)
def wsX4_moved : List Cond := .code yX4_moved cX4_moved 3 (some .int) :: ([.methodLink RX4 80 yX4_placeIn, .static yX4_placeIn, .initialized RX4, .code yX4_placeIn cX4_placeIn 2 (some .int), .methodLink RX4 228 yX4_unitOf, .static yX4_unitOf, .code yX4_unitOf cX4_unitOf 1 (some .int)])
def wsX2_reach : List Cond := .code yX2_reach cX2_reach 3 none :: ([.fieldLink RX2 15 "BedHouse$Search" "far" "[I", .fieldLink RX2 44 "BedHouse$Search" "reached" "I", .fieldLink RX2 19 "BedHouse$Search" "queue" "[I", .methodLink RX2 65 yX2_isLawful, .instanceMethod yX2_isLawful, .selects RX2 yX2_isLawful yX2_isLawful, .initialized RX2, .code yX2_isLawful cX2_isLawful 2 (some .boolean), .fieldLink RX2 11 "BedHouse$Search" "lawful" "[B"] ++ wsX20)
def wsX2_spreadByOneAct : List Cond := .code yX2_spreadByOneAct cX2_spreadByOneAct 6 none :: ([.static yX4_placeIn, .initialized RX4, .code yX4_placeIn cX4_placeIn 2 (some .int), .static yX4_moved, .code yX4_moved cX4_moved 3 (some .int), .methodLink RX4 80 yX4_placeIn, .methodLink RX4 228 yX4_unitOf, .static yX4_unitOf, .code yX4_unitOf cX4_unitOf 1 (some .int), .methodLink RX2 61 yX2_reach, .instanceMethod yX2_reach, .selects RX2 yX2_reach yX2_reach, .initialized RX2, .code yX2_reach cX2_reach 3 none, .fieldLink RX2 15 "BedHouse$Search" "far" "[I", .fieldLink RX2 44 "BedHouse$Search" "reached" "I", .fieldLink RX2 19 "BedHouse$Search" "queue" "[I", .methodLink RX2 65 yX2_isLawful, .instanceMethod yX2_isLawful, .selects RX2 yX2_isLawful yX2_isLawful, .code yX2_isLawful cX2_isLawful 2 (some .boolean), .fieldLink RX2 11 "BedHouse$Search" "lawful" "[B"] ++ wsX10 ++ wsX20)
def wsX2_spread_r1 : List Cond := [Cond.fieldLink RX2 15 "BedHouse$Search" "far" "[I", Cond.fieldLink RX2 19 "BedHouse$Search" "queue" "[I", Cond.fieldLink RX2 44 "BedHouse$Search" "reached" "I", Cond.methodLink RX2 47 yX2_farTo, Cond.instanceMethod yX2_farTo, Cond.selects RX2 yX2_farTo yX2_farTo, Cond.initialized RX2, Cond.code yX2_farTo cX2_farTo 2 (some .int), Cond.methodLink RX2 50 yX2_spreadByOneAct, Cond.instanceMethod yX2_spreadByOneAct, Cond.selects RX2 yX2_spreadByOneAct yX2_spreadByOneAct, Cond.code yX2_spreadByOneAct cX2_spreadByOneAct 6 none, Cond.static yX4_placeIn, Cond.initialized RX4, Cond.code yX4_placeIn cX4_placeIn 2 (some .int), Cond.static yX4_moved, Cond.code yX4_moved cX4_moved 3 (some .int), Cond.methodLink RX4 80 yX4_placeIn, Cond.methodLink RX4 228 yX4_unitOf, Cond.static yX4_unitOf, Cond.code yX4_unitOf cX4_unitOf 1 (some .int), Cond.methodLink RX2 61 yX2_reach, Cond.instanceMethod yX2_reach, Cond.selects RX2 yX2_reach yX2_reach]
def wsX2_spread_r2 : List Cond := [Cond.code yX2_reach cX2_reach 3 none, Cond.methodLink RX2 65 yX2_isLawful, Cond.instanceMethod yX2_isLawful, Cond.selects RX2 yX2_isLawful yX2_isLawful, Cond.code yX2_isLawful cX2_isLawful 2 (some .boolean), Cond.fieldLink RX2 11 "BedHouse$Search" "lawful" "[B"]
def wsX2_spread : List Cond := .code yX2_spread cX2_spread 6 none :: ((wsX2_spread_r1 ++ wsX2_spread_r2) ++ wsX20 ++ wsX10)
def wsX2_spreadFrom_r1 : List Cond := [Cond.fieldLink RX2 19 "BedHouse$Search" "queue" "[I", Cond.methodLink RX2 40 yX2_spread, Cond.instanceMethod yX2_spread, Cond.selects RX2 yX2_spread yX2_spread, Cond.initialized RX2, Cond.code yX2_spread cX2_spread 6 none, Cond.fieldLink RX2 15 "BedHouse$Search" "far" "[I", Cond.fieldLink RX2 44 "BedHouse$Search" "reached" "I", Cond.methodLink RX2 47 yX2_farTo, Cond.instanceMethod yX2_farTo, Cond.selects RX2 yX2_farTo yX2_farTo, Cond.code yX2_farTo cX2_farTo 2 (some .int), Cond.methodLink RX2 50 yX2_spreadByOneAct, Cond.instanceMethod yX2_spreadByOneAct, Cond.selects RX2 yX2_spreadByOneAct yX2_spreadByOneAct, Cond.code yX2_spreadByOneAct cX2_spreadByOneAct 6 none, Cond.static yX4_placeIn, Cond.initialized RX4, Cond.code yX4_placeIn cX4_placeIn 2 (some .int), Cond.static yX4_moved, Cond.code yX4_moved cX4_moved 3 (some .int), Cond.methodLink RX4 80 yX4_placeIn, Cond.methodLink RX4 228 yX4_unitOf, Cond.static yX4_unitOf]
def wsX2_spreadFrom_r2 : List Cond := [Cond.code yX4_unitOf cX4_unitOf 1 (some .int), Cond.methodLink RX2 61 yX2_reach, Cond.instanceMethod yX2_reach, Cond.selects RX2 yX2_reach yX2_reach, Cond.code yX2_reach cX2_reach 3 none, Cond.methodLink RX2 65 yX2_isLawful, Cond.instanceMethod yX2_isLawful, Cond.selects RX2 yX2_isLawful yX2_isLawful, Cond.code yX2_isLawful cX2_isLawful 2 (some .boolean), Cond.fieldLink RX2 11 "BedHouse$Search" "lawful" "[B"]
def wsX2_spreadFrom : List Cond := .code yX2_spreadFrom cX2_spreadFrom 3 none :: ((wsX2_spreadFrom_r1 ++ wsX2_spreadFrom_r2) ++ wsX20 ++ wsX10)
def wsX2_fewestActs_r1 : List Cond := [Cond.methodLink RX2 68 yX2_survey, Cond.instanceMethod yX2_survey, Cond.selects RX2 yX2_survey yX2_survey, Cond.initialized RX2, Cond.code yX2_survey cX2_survey 4 none, Cond.fieldLink RX2 22 "BedHouse$Search" "surveyed" "Z", Cond.fieldLink RX2 11 "BedHouse$Search" "lawful" "[B", Cond.static yX4_unitOf, Cond.initialized RX4, Cond.code yX4_unitOf cX4_unitOf 1 (some .int), Cond.instanceMethod yX1_allows, Cond.initialized RX1, Cond.selects RX1 yX1_allows yX1_allows, Cond.code yX1_allows cX1_allows 4 (some .boolean), Cond.fieldLink RX1 43 "BedHouse$Plan" "mostLying" "I", Cond.fieldLink RX1 21 "BedHouse$Plan" "panels" "I", Cond.fieldLink RX1 28 "BedHouse$Plan" "beams" "I", Cond.methodLink RX1 67 yX1_lyingIn, Cond.instanceMethod yX1_lyingIn, Cond.selects RX1 yX1_lyingIn yX1_lyingIn, Cond.code yX1_lyingIn cX1_lyingIn 4 (some .int), Cond.static yX4_placeIn, Cond.code yX4_placeIn cX4_placeIn 2 (some .int), Cond.methodLink RX1 64 yX1_slotsUnder]
def wsX2_fewestActs_r2 : List Cond := [Cond.instanceMethod yX1_slotsUnder, Cond.selects RX1 yX1_slotsUnder yX1_slotsUnder, Cond.code yX1_slotsUnder cX1_slotsUnder 6 (some .int), Cond.fieldLink RX1 9 "BedHouse$Plan" "sorts" "[I", Cond.methodLink RX1 70 yJ6_bitCount_0f7a4, Cond.static yJ6_bitCount_0f7a4, Cond.initialized RJ6, Cond.code yJ6_bitCount_0f7a4 cJ6_bitCount_0f7a4 1 (some .int), Cond.constant RJ6 265 (1431655765), Cond.constant RJ6 266 (858993459), Cond.constant RJ6 267 (252645135), Cond.methodLink RX1 75 yX1_isBorne, Cond.instanceMethod yX1_isBorne, Cond.selects RX1 yX1_isBorne yX1_isBorne, Cond.code yX1_isBorne cX1_isBorne 3 (some .boolean), Cond.fieldLink RX1 15 "BedHouse$Plan" "beamSlots" "[I", Cond.methodLink RX1 61 yX1_hasBeam, Cond.instanceMethod yX1_hasBeam, Cond.selects RX1 yX1_hasBeam yX1_hasBeam, Cond.code yX1_hasBeam cX1_hasBeam 2 (some .boolean), Cond.methodLink RX2 72 yX2_spreadFrom, Cond.instanceMethod yX2_spreadFrom, Cond.selects RX2 yX2_spreadFrom yX2_spreadFrom, Cond.code yX2_spreadFrom cX2_spreadFrom 3 none]
def wsX2_fewestActs_r3 : List Cond := [Cond.fieldLink RX2 19 "BedHouse$Search" "queue" "[I", Cond.methodLink RX2 40 yX2_spread, Cond.instanceMethod yX2_spread, Cond.selects RX2 yX2_spread yX2_spread, Cond.code yX2_spread cX2_spread 6 none, Cond.fieldLink RX2 15 "BedHouse$Search" "far" "[I", Cond.fieldLink RX2 44 "BedHouse$Search" "reached" "I", Cond.methodLink RX2 47 yX2_farTo, Cond.instanceMethod yX2_farTo, Cond.selects RX2 yX2_farTo yX2_farTo, Cond.code yX2_farTo cX2_farTo 2 (some .int), Cond.methodLink RX2 50 yX2_spreadByOneAct, Cond.instanceMethod yX2_spreadByOneAct, Cond.selects RX2 yX2_spreadByOneAct yX2_spreadByOneAct, Cond.code yX2_spreadByOneAct cX2_spreadByOneAct 6 none, Cond.static yX4_moved, Cond.code yX4_moved cX4_moved 3 (some .int), Cond.methodLink RX4 80 yX4_placeIn, Cond.methodLink RX4 228 yX4_unitOf, Cond.methodLink RX2 61 yX2_reach, Cond.instanceMethod yX2_reach, Cond.selects RX2 yX2_reach yX2_reach, Cond.code yX2_reach cX2_reach 3 none, Cond.methodLink RX2 65 yX2_isLawful]
def wsX2_fewestActs_r4 : List Cond := [Cond.instanceMethod yX2_isLawful, Cond.selects RX2 yX2_isLawful yX2_isLawful, Cond.code yX2_isLawful cX2_isLawful 2 (some .boolean)]
def wsX2_fewestActs : List Cond := .code yX2_fewestActs cX2_fewestActs 4 (some .int) :: ((wsX2_fewestActs_r1 ++ (wsX2_fewestActs_r2 ++ (wsX2_fewestActs_r3 ++ wsX2_fewestActs_r4))) ++ wsX20 ++ wsX10)
def wsX2_firstAct_r1 : List Cond := [Cond.methodLink RX2 68 yX2_survey, Cond.instanceMethod yX2_survey, Cond.selects RX2 yX2_survey yX2_survey, Cond.initialized RX2, Cond.code yX2_survey cX2_survey 4 none, Cond.fieldLink RX2 22 "BedHouse$Search" "surveyed" "Z", Cond.fieldLink RX2 11 "BedHouse$Search" "lawful" "[B", Cond.static yX4_unitOf, Cond.initialized RX4, Cond.code yX4_unitOf cX4_unitOf 1 (some .int), Cond.instanceMethod yX1_allows, Cond.initialized RX1, Cond.selects RX1 yX1_allows yX1_allows, Cond.code yX1_allows cX1_allows 4 (some .boolean), Cond.fieldLink RX1 43 "BedHouse$Plan" "mostLying" "I", Cond.fieldLink RX1 21 "BedHouse$Plan" "panels" "I", Cond.fieldLink RX1 28 "BedHouse$Plan" "beams" "I", Cond.methodLink RX1 67 yX1_lyingIn, Cond.instanceMethod yX1_lyingIn, Cond.selects RX1 yX1_lyingIn yX1_lyingIn, Cond.code yX1_lyingIn cX1_lyingIn 4 (some .int), Cond.static yX4_placeIn, Cond.code yX4_placeIn cX4_placeIn 2 (some .int), Cond.methodLink RX1 64 yX1_slotsUnder]
def wsX2_firstAct_r2 : List Cond := [Cond.instanceMethod yX1_slotsUnder, Cond.selects RX1 yX1_slotsUnder yX1_slotsUnder, Cond.code yX1_slotsUnder cX1_slotsUnder 6 (some .int), Cond.fieldLink RX1 9 "BedHouse$Plan" "sorts" "[I", Cond.methodLink RX1 70 yJ6_bitCount_0f7a4, Cond.static yJ6_bitCount_0f7a4, Cond.initialized RJ6, Cond.code yJ6_bitCount_0f7a4 cJ6_bitCount_0f7a4 1 (some .int), Cond.constant RJ6 265 (1431655765), Cond.constant RJ6 266 (858993459), Cond.constant RJ6 267 (252645135), Cond.methodLink RX1 75 yX1_isBorne, Cond.instanceMethod yX1_isBorne, Cond.selects RX1 yX1_isBorne yX1_isBorne, Cond.code yX1_isBorne cX1_isBorne 3 (some .boolean), Cond.fieldLink RX1 15 "BedHouse$Plan" "beamSlots" "[I", Cond.methodLink RX1 61 yX1_hasBeam, Cond.instanceMethod yX1_hasBeam, Cond.selects RX1 yX1_hasBeam yX1_hasBeam, Cond.code yX1_hasBeam cX1_hasBeam 2 (some .boolean), Cond.methodLink RX2 65 yX2_isLawful, Cond.instanceMethod yX2_isLawful, Cond.selects RX2 yX2_isLawful yX2_isLawful, Cond.code yX2_isLawful cX2_isLawful 2 (some .boolean)]
def wsX2_firstAct_r3 : List Cond := [Cond.methodLink RX2 72 yX2_spreadFrom, Cond.instanceMethod yX2_spreadFrom, Cond.selects RX2 yX2_spreadFrom yX2_spreadFrom, Cond.code yX2_spreadFrom cX2_spreadFrom 3 none, Cond.fieldLink RX2 19 "BedHouse$Search" "queue" "[I", Cond.methodLink RX2 40 yX2_spread, Cond.instanceMethod yX2_spread, Cond.selects RX2 yX2_spread yX2_spread, Cond.code yX2_spread cX2_spread 6 none, Cond.fieldLink RX2 15 "BedHouse$Search" "far" "[I", Cond.fieldLink RX2 44 "BedHouse$Search" "reached" "I", Cond.methodLink RX2 47 yX2_farTo, Cond.instanceMethod yX2_farTo, Cond.selects RX2 yX2_farTo yX2_farTo, Cond.code yX2_farTo cX2_farTo 2 (some .int), Cond.methodLink RX2 50 yX2_spreadByOneAct, Cond.instanceMethod yX2_spreadByOneAct, Cond.selects RX2 yX2_spreadByOneAct yX2_spreadByOneAct, Cond.code yX2_spreadByOneAct cX2_spreadByOneAct 6 none, Cond.static yX4_moved, Cond.code yX4_moved cX4_moved 3 (some .int), Cond.methodLink RX4 80 yX4_placeIn, Cond.methodLink RX4 228 yX4_unitOf, Cond.methodLink RX2 61 yX2_reach]
def wsX2_firstAct_r4 : List Cond := [Cond.instanceMethod yX2_reach, Cond.selects RX2 yX2_reach yX2_reach, Cond.code yX2_reach cX2_reach 3 none]
def wsX2_firstAct : List Cond := .code yX2_firstAct cX2_firstAct 12 (some .int) :: ((wsX2_firstAct_r1 ++ (wsX2_firstAct_r2 ++ (wsX2_firstAct_r3 ++ wsX2_firstAct_r4))) ++ wsX10 ++ wsX20)
def wsX2_keepDry : List Cond := .code yX2_keepDry cX2_keepDry 4 (some .int) :: ([.fieldLink RX2 44 "BedHouse$Search" "reached" "I", .fieldLink RX2 19 "BedHouse$Search" "queue" "[I", .instanceMethod yX1_leaksOf, .initialized RX1, .selects RX1 yX1_leaksOf yX1_leaksOf, .code yX1_leaksOf cX1_leaksOf 2 (some .int), .fieldLink RX1 31 "BedHouse$Plan" "rain" "I", .methodLink RX1 64 yX1_slotsUnder, .instanceMethod yX1_slotsUnder, .selects RX1 yX1_slotsUnder yX1_slotsUnder, .code yX1_slotsUnder cX1_slotsUnder 6 (some .int), .fieldLink RX1 21 "BedHouse$Plan" "panels" "I", .fieldLink RX1 9 "BedHouse$Plan" "sorts" "[I", .static yX4_placeIn, .initialized RX4, .code yX4_placeIn cX4_placeIn 2 (some .int), .methodLink RX1 70 yJ6_bitCount_0f7a4, .static yJ6_bitCount_0f7a4, .initialized RJ6, .code yJ6_bitCount_0f7a4 cJ6_bitCount_0f7a4 1 (some .int), .constant RJ6 265 (1431655765), .constant RJ6 266 (858993459), .constant RJ6 267 (252645135)] ++ wsX20 ++ wsX10)
def wsX2_fewestNights_r1 : List Cond := [Cond.fieldLink RX2 19 "BedHouse$Search" "queue" "[I", Cond.methodLink RX2 68 yX2_survey, Cond.instanceMethod yX2_survey, Cond.selects RX2 yX2_survey yX2_survey, Cond.initialized RX2, Cond.code yX2_survey cX2_survey 4 none, Cond.fieldLink RX2 22 "BedHouse$Search" "surveyed" "Z", Cond.fieldLink RX2 11 "BedHouse$Search" "lawful" "[B", Cond.static yX4_unitOf, Cond.initialized RX4, Cond.code yX4_unitOf cX4_unitOf 1 (some .int), Cond.instanceMethod yX1_allows, Cond.initialized RX1, Cond.selects RX1 yX1_allows yX1_allows, Cond.code yX1_allows cX1_allows 4 (some .boolean), Cond.fieldLink RX1 43 "BedHouse$Plan" "mostLying" "I", Cond.fieldLink RX1 21 "BedHouse$Plan" "panels" "I", Cond.fieldLink RX1 28 "BedHouse$Plan" "beams" "I", Cond.methodLink RX1 67 yX1_lyingIn, Cond.instanceMethod yX1_lyingIn, Cond.selects RX1 yX1_lyingIn yX1_lyingIn, Cond.code yX1_lyingIn cX1_lyingIn 4 (some .int), Cond.static yX4_placeIn, Cond.code yX4_placeIn cX4_placeIn 2 (some .int)]
def wsX2_fewestNights_r2 : List Cond := [Cond.methodLink RX1 64 yX1_slotsUnder, Cond.instanceMethod yX1_slotsUnder, Cond.selects RX1 yX1_slotsUnder yX1_slotsUnder, Cond.code yX1_slotsUnder cX1_slotsUnder 6 (some .int), Cond.fieldLink RX1 9 "BedHouse$Plan" "sorts" "[I", Cond.methodLink RX1 70 yJ6_bitCount_0f7a4, Cond.static yJ6_bitCount_0f7a4, Cond.initialized RJ6, Cond.code yJ6_bitCount_0f7a4 cJ6_bitCount_0f7a4 1 (some .int), Cond.constant RJ6 265 (1431655765), Cond.constant RJ6 266 (858993459), Cond.constant RJ6 267 (252645135), Cond.methodLink RX1 75 yX1_isBorne, Cond.instanceMethod yX1_isBorne, Cond.selects RX1 yX1_isBorne yX1_isBorne, Cond.code yX1_isBorne cX1_isBorne 3 (some .boolean), Cond.fieldLink RX1 15 "BedHouse$Plan" "beamSlots" "[I", Cond.methodLink RX1 61 yX1_hasBeam, Cond.instanceMethod yX1_hasBeam, Cond.selects RX1 yX1_hasBeam yX1_hasBeam, Cond.code yX1_hasBeam cX1_hasBeam 2 (some .boolean), Cond.methodLink RX2 40 yX2_spread, Cond.instanceMethod yX2_spread, Cond.selects RX2 yX2_spread yX2_spread]
def wsX2_fewestNights_r3 : List Cond := [Cond.code yX2_spread cX2_spread 6 none, Cond.fieldLink RX2 15 "BedHouse$Search" "far" "[I", Cond.fieldLink RX2 44 "BedHouse$Search" "reached" "I", Cond.methodLink RX2 47 yX2_farTo, Cond.instanceMethod yX2_farTo, Cond.selects RX2 yX2_farTo yX2_farTo, Cond.code yX2_farTo cX2_farTo 2 (some .int), Cond.methodLink RX2 50 yX2_spreadByOneAct, Cond.instanceMethod yX2_spreadByOneAct, Cond.selects RX2 yX2_spreadByOneAct yX2_spreadByOneAct, Cond.code yX2_spreadByOneAct cX2_spreadByOneAct 6 none, Cond.static yX4_moved, Cond.code yX4_moved cX4_moved 3 (some .int), Cond.methodLink RX4 80 yX4_placeIn, Cond.methodLink RX4 228 yX4_unitOf, Cond.methodLink RX2 61 yX2_reach, Cond.instanceMethod yX2_reach, Cond.selects RX2 yX2_reach yX2_reach, Cond.code yX2_reach cX2_reach 3 none, Cond.methodLink RX2 65 yX2_isLawful, Cond.instanceMethod yX2_isLawful, Cond.selects RX2 yX2_isLawful yX2_isLawful, Cond.code yX2_isLawful cX2_isLawful 2 (some .boolean), Cond.methodLink RX2 90 yX2_keepDry]
def wsX2_fewestNights_r4 : List Cond := [Cond.instanceMethod yX2_keepDry, Cond.selects RX2 yX2_keepDry yX2_keepDry, Cond.code yX2_keepDry cX2_keepDry 4 (some .int), Cond.instanceMethod yX1_leaksOf, Cond.selects RX1 yX1_leaksOf yX1_leaksOf, Cond.code yX1_leaksOf cX1_leaksOf 2 (some .int), Cond.fieldLink RX1 31 "BedHouse$Plan" "rain" "I"]
def wsX2_fewestNights : List Cond := .code yX2_fewestNights cX2_fewestNights 7 (some .int) :: ((wsX2_fewestNights_r1 ++ (wsX2_fewestNights_r2 ++ (wsX2_fewestNights_r3 ++ wsX2_fewestNights_r4))) ++ wsX20 ++ wsX00 ++ wsX10)
def wsX2_actsToEmpty_r1 : List Cond := [Cond.fieldLink RX2 44 "BedHouse$Search" "reached" "I", Cond.fieldLink RX2 19 "BedHouse$Search" "queue" "[I", Cond.methodLink RX2 68 yX2_survey, Cond.instanceMethod yX2_survey, Cond.selects RX2 yX2_survey yX2_survey, Cond.initialized RX2, Cond.code yX2_survey cX2_survey 4 none, Cond.fieldLink RX2 22 "BedHouse$Search" "surveyed" "Z", Cond.fieldLink RX2 11 "BedHouse$Search" "lawful" "[B", Cond.static yX4_unitOf, Cond.initialized RX4, Cond.code yX4_unitOf cX4_unitOf 1 (some .int), Cond.instanceMethod yX1_allows, Cond.initialized RX1, Cond.selects RX1 yX1_allows yX1_allows, Cond.code yX1_allows cX1_allows 4 (some .boolean), Cond.fieldLink RX1 43 "BedHouse$Plan" "mostLying" "I", Cond.fieldLink RX1 21 "BedHouse$Plan" "panels" "I", Cond.fieldLink RX1 28 "BedHouse$Plan" "beams" "I", Cond.methodLink RX1 67 yX1_lyingIn, Cond.instanceMethod yX1_lyingIn, Cond.selects RX1 yX1_lyingIn yX1_lyingIn, Cond.code yX1_lyingIn cX1_lyingIn 4 (some .int), Cond.static yX4_placeIn]
def wsX2_actsToEmpty_r2 : List Cond := [Cond.code yX4_placeIn cX4_placeIn 2 (some .int), Cond.methodLink RX1 64 yX1_slotsUnder, Cond.instanceMethod yX1_slotsUnder, Cond.selects RX1 yX1_slotsUnder yX1_slotsUnder, Cond.code yX1_slotsUnder cX1_slotsUnder 6 (some .int), Cond.fieldLink RX1 9 "BedHouse$Plan" "sorts" "[I", Cond.methodLink RX1 70 yJ6_bitCount_0f7a4, Cond.static yJ6_bitCount_0f7a4, Cond.initialized RJ6, Cond.code yJ6_bitCount_0f7a4 cJ6_bitCount_0f7a4 1 (some .int), Cond.constant RJ6 265 (1431655765), Cond.constant RJ6 266 (858993459), Cond.constant RJ6 267 (252645135), Cond.methodLink RX1 75 yX1_isBorne, Cond.instanceMethod yX1_isBorne, Cond.selects RX1 yX1_isBorne yX1_isBorne, Cond.code yX1_isBorne cX1_isBorne 3 (some .boolean), Cond.fieldLink RX1 15 "BedHouse$Plan" "beamSlots" "[I", Cond.methodLink RX1 61 yX1_hasBeam, Cond.instanceMethod yX1_hasBeam, Cond.selects RX1 yX1_hasBeam yX1_hasBeam, Cond.code yX1_hasBeam cX1_hasBeam 2 (some .boolean), Cond.methodLink RX2 72 yX2_spreadFrom, Cond.instanceMethod yX2_spreadFrom]
def wsX2_actsToEmpty_r3 : List Cond := [Cond.selects RX2 yX2_spreadFrom yX2_spreadFrom, Cond.code yX2_spreadFrom cX2_spreadFrom 3 none, Cond.methodLink RX2 40 yX2_spread, Cond.instanceMethod yX2_spread, Cond.selects RX2 yX2_spread yX2_spread, Cond.code yX2_spread cX2_spread 6 none, Cond.fieldLink RX2 15 "BedHouse$Search" "far" "[I", Cond.methodLink RX2 47 yX2_farTo, Cond.instanceMethod yX2_farTo, Cond.selects RX2 yX2_farTo yX2_farTo, Cond.code yX2_farTo cX2_farTo 2 (some .int), Cond.methodLink RX2 50 yX2_spreadByOneAct, Cond.instanceMethod yX2_spreadByOneAct, Cond.selects RX2 yX2_spreadByOneAct yX2_spreadByOneAct, Cond.code yX2_spreadByOneAct cX2_spreadByOneAct 6 none, Cond.static yX4_moved, Cond.code yX4_moved cX4_moved 3 (some .int), Cond.methodLink RX4 80 yX4_placeIn, Cond.methodLink RX4 228 yX4_unitOf, Cond.methodLink RX2 61 yX2_reach, Cond.instanceMethod yX2_reach, Cond.selects RX2 yX2_reach yX2_reach, Cond.code yX2_reach cX2_reach 3 none, Cond.methodLink RX2 65 yX2_isLawful]
def wsX2_actsToEmpty_r4 : List Cond := [Cond.instanceMethod yX2_isLawful, Cond.selects RX2 yX2_isLawful yX2_isLawful, Cond.code yX2_isLawful cX2_isLawful 2 (some .boolean)]
def wsX2_actsToEmpty : List Cond := .code yX2_actsToEmpty cX2_actsToEmpty 5 (some .int) :: ((wsX2_actsToEmpty_r1 ++ (wsX2_actsToEmpty_r2 ++ (wsX2_actsToEmpty_r3 ++ wsX2_actsToEmpty_r4))) ++ wsX20 ++ wsX10)
def wsX2_bestHome_r1 : List Cond := [Cond.constant RX2 100 (-1000000), Cond.methodLink RX2 68 yX2_survey, Cond.instanceMethod yX2_survey, Cond.selects RX2 yX2_survey yX2_survey, Cond.initialized RX2, Cond.code yX2_survey cX2_survey 4 none, Cond.fieldLink RX2 22 "BedHouse$Search" "surveyed" "Z", Cond.fieldLink RX2 11 "BedHouse$Search" "lawful" "[B", Cond.static yX4_unitOf, Cond.initialized RX4, Cond.code yX4_unitOf cX4_unitOf 1 (some .int), Cond.instanceMethod yX1_allows, Cond.initialized RX1, Cond.selects RX1 yX1_allows yX1_allows, Cond.code yX1_allows cX1_allows 4 (some .boolean), Cond.fieldLink RX1 43 "BedHouse$Plan" "mostLying" "I", Cond.fieldLink RX1 21 "BedHouse$Plan" "panels" "I", Cond.fieldLink RX1 28 "BedHouse$Plan" "beams" "I", Cond.methodLink RX1 67 yX1_lyingIn, Cond.instanceMethod yX1_lyingIn, Cond.selects RX1 yX1_lyingIn yX1_lyingIn, Cond.code yX1_lyingIn cX1_lyingIn 4 (some .int), Cond.static yX4_placeIn, Cond.code yX4_placeIn cX4_placeIn 2 (some .int)]
def wsX2_bestHome_r2 : List Cond := [Cond.methodLink RX1 64 yX1_slotsUnder, Cond.instanceMethod yX1_slotsUnder, Cond.selects RX1 yX1_slotsUnder yX1_slotsUnder, Cond.code yX1_slotsUnder cX1_slotsUnder 6 (some .int), Cond.fieldLink RX1 9 "BedHouse$Plan" "sorts" "[I", Cond.methodLink RX1 70 yJ6_bitCount_0f7a4, Cond.static yJ6_bitCount_0f7a4, Cond.initialized RJ6, Cond.code yJ6_bitCount_0f7a4 cJ6_bitCount_0f7a4 1 (some .int), Cond.constant RJ6 265 (1431655765), Cond.constant RJ6 266 (858993459), Cond.constant RJ6 267 (252645135), Cond.methodLink RX1 75 yX1_isBorne, Cond.instanceMethod yX1_isBorne, Cond.selects RX1 yX1_isBorne yX1_isBorne, Cond.code yX1_isBorne cX1_isBorne 3 (some .boolean), Cond.fieldLink RX1 15 "BedHouse$Plan" "beamSlots" "[I", Cond.methodLink RX1 61 yX1_hasBeam, Cond.instanceMethod yX1_hasBeam, Cond.selects RX1 yX1_hasBeam yX1_hasBeam, Cond.code yX1_hasBeam cX1_hasBeam 2 (some .boolean), Cond.methodLink RX2 65 yX2_isLawful, Cond.instanceMethod yX2_isLawful, Cond.selects RX2 yX2_isLawful yX2_isLawful]
def wsX2_bestHome_r3 : List Cond := [Cond.code yX2_isLawful cX2_isLawful 2 (some .boolean), Cond.instanceMethod yX1_worthOf, Cond.selects RX1 yX1_worthOf yX1_worthOf, Cond.code yX1_worthOf cX1_worthOf 3 (some .int), Cond.fieldLink RX1 37 "BedHouse$Plan" "view" "I", Cond.fieldLink RX1 40 "BedHouse$Plan" "noise" "I", Cond.methodLink RX1 79 yX1_litHours, Cond.instanceMethod yX1_litHours, Cond.selects RX1 yX1_litHours yX1_litHours, Cond.code yX1_litHours cX1_litHours 2 (some .int), Cond.fieldLink RX1 34 "BedHouse$Plan" "sun" "I", Cond.methodLink RX1 82 yX1_leaksOf, Cond.instanceMethod yX1_leaksOf, Cond.selects RX1 yX1_leaksOf yX1_leaksOf, Cond.code yX1_leaksOf cX1_leaksOf 2 (some .int), Cond.fieldLink RX1 31 "BedHouse$Plan" "rain" "I", Cond.methodLink RX1 85 yX1_quietIn, Cond.instanceMethod yX1_quietIn, Cond.selects RX1 yX1_quietIn yX1_quietIn, Cond.code yX1_quietIn cX1_quietIn 2 (some .int)]
def wsX2_bestHome : List Cond := .code yX2_bestHome cX2_bestHome 6 (some .int) :: ((wsX2_bestHome_r1 ++ (wsX2_bestHome_r2 ++ wsX2_bestHome_r3)) ++ wsX20 ++ wsX10)
def wsX2_countFitting_r1 : List Cond := [Cond.methodLink RX2 68 yX2_survey, Cond.instanceMethod yX2_survey, Cond.selects RX2 yX2_survey yX2_survey, Cond.initialized RX2, Cond.code yX2_survey cX2_survey 4 none, Cond.fieldLink RX2 22 "BedHouse$Search" "surveyed" "Z", Cond.fieldLink RX2 11 "BedHouse$Search" "lawful" "[B", Cond.static yX4_unitOf, Cond.initialized RX4, Cond.code yX4_unitOf cX4_unitOf 1 (some .int), Cond.instanceMethod yX1_allows, Cond.initialized RX1, Cond.selects RX1 yX1_allows yX1_allows, Cond.code yX1_allows cX1_allows 4 (some .boolean), Cond.fieldLink RX1 43 "BedHouse$Plan" "mostLying" "I", Cond.fieldLink RX1 21 "BedHouse$Plan" "panels" "I", Cond.fieldLink RX1 28 "BedHouse$Plan" "beams" "I", Cond.methodLink RX1 67 yX1_lyingIn, Cond.instanceMethod yX1_lyingIn, Cond.selects RX1 yX1_lyingIn yX1_lyingIn, Cond.code yX1_lyingIn cX1_lyingIn 4 (some .int), Cond.static yX4_placeIn, Cond.code yX4_placeIn cX4_placeIn 2 (some .int), Cond.methodLink RX1 64 yX1_slotsUnder]
def wsX2_countFitting_r2 : List Cond := [Cond.instanceMethod yX1_slotsUnder, Cond.selects RX1 yX1_slotsUnder yX1_slotsUnder, Cond.code yX1_slotsUnder cX1_slotsUnder 6 (some .int), Cond.fieldLink RX1 9 "BedHouse$Plan" "sorts" "[I", Cond.methodLink RX1 70 yJ6_bitCount_0f7a4, Cond.static yJ6_bitCount_0f7a4, Cond.initialized RJ6, Cond.code yJ6_bitCount_0f7a4 cJ6_bitCount_0f7a4 1 (some .int), Cond.constant RJ6 265 (1431655765), Cond.constant RJ6 266 (858993459), Cond.constant RJ6 267 (252645135), Cond.methodLink RX1 75 yX1_isBorne, Cond.instanceMethod yX1_isBorne, Cond.selects RX1 yX1_isBorne yX1_isBorne, Cond.code yX1_isBorne cX1_isBorne 3 (some .boolean), Cond.fieldLink RX1 15 "BedHouse$Plan" "beamSlots" "[I", Cond.methodLink RX1 61 yX1_hasBeam, Cond.instanceMethod yX1_hasBeam, Cond.selects RX1 yX1_hasBeam yX1_hasBeam, Cond.code yX1_hasBeam cX1_hasBeam 2 (some .boolean), Cond.methodLink RX2 65 yX2_isLawful, Cond.instanceMethod yX2_isLawful, Cond.selects RX2 yX2_isLawful yX2_isLawful, Cond.code yX2_isLawful cX2_isLawful 2 (some .boolean)]
def wsX2_countFitting_r3 : List Cond := [Cond.instanceMethod yX1_fitsLetter, Cond.selects RX1 yX1_fitsLetter yX1_fitsLetter, Cond.code yX1_fitsLetter cX1_fitsLetter 4 (some .boolean), Cond.methodLink RX1 79 yX1_litHours, Cond.instanceMethod yX1_litHours, Cond.selects RX1 yX1_litHours yX1_litHours, Cond.code yX1_litHours cX1_litHours 2 (some .int), Cond.fieldLink RX1 34 "BedHouse$Plan" "sun" "I"]
def wsX2_countFitting : List Cond := .code yX2_countFitting cX2_countFitting 5 (some .int) :: ((wsX2_countFitting_r1 ++ (wsX2_countFitting_r2 ++ wsX2_countFitting_r3)) ++ wsX20 ++ wsX10 ++ wsX00)
def wsX2_surePlace_r1 : List Cond := [Cond.methodLink RX2 68 yX2_survey, Cond.instanceMethod yX2_survey, Cond.selects RX2 yX2_survey yX2_survey, Cond.initialized RX2, Cond.code yX2_survey cX2_survey 4 none, Cond.fieldLink RX2 22 "BedHouse$Search" "surveyed" "Z", Cond.fieldLink RX2 11 "BedHouse$Search" "lawful" "[B", Cond.static yX4_unitOf, Cond.initialized RX4, Cond.code yX4_unitOf cX4_unitOf 1 (some .int), Cond.instanceMethod yX1_allows, Cond.initialized RX1, Cond.selects RX1 yX1_allows yX1_allows, Cond.code yX1_allows cX1_allows 4 (some .boolean), Cond.fieldLink RX1 43 "BedHouse$Plan" "mostLying" "I", Cond.fieldLink RX1 21 "BedHouse$Plan" "panels" "I", Cond.fieldLink RX1 28 "BedHouse$Plan" "beams" "I", Cond.methodLink RX1 67 yX1_lyingIn, Cond.instanceMethod yX1_lyingIn, Cond.selects RX1 yX1_lyingIn yX1_lyingIn, Cond.code yX1_lyingIn cX1_lyingIn 4 (some .int), Cond.static yX4_placeIn, Cond.code yX4_placeIn cX4_placeIn 2 (some .int), Cond.methodLink RX1 64 yX1_slotsUnder]
def wsX2_surePlace_r2 : List Cond := [Cond.instanceMethod yX1_slotsUnder, Cond.selects RX1 yX1_slotsUnder yX1_slotsUnder, Cond.code yX1_slotsUnder cX1_slotsUnder 6 (some .int), Cond.fieldLink RX1 9 "BedHouse$Plan" "sorts" "[I", Cond.methodLink RX1 70 yJ6_bitCount_0f7a4, Cond.static yJ6_bitCount_0f7a4, Cond.initialized RJ6, Cond.code yJ6_bitCount_0f7a4 cJ6_bitCount_0f7a4 1 (some .int), Cond.constant RJ6 265 (1431655765), Cond.constant RJ6 266 (858993459), Cond.constant RJ6 267 (252645135), Cond.methodLink RX1 75 yX1_isBorne, Cond.instanceMethod yX1_isBorne, Cond.selects RX1 yX1_isBorne yX1_isBorne, Cond.code yX1_isBorne cX1_isBorne 3 (some .boolean), Cond.fieldLink RX1 15 "BedHouse$Plan" "beamSlots" "[I", Cond.methodLink RX1 61 yX1_hasBeam, Cond.instanceMethod yX1_hasBeam, Cond.selects RX1 yX1_hasBeam yX1_hasBeam, Cond.code yX1_hasBeam cX1_hasBeam 2 (some .boolean), Cond.methodLink RX2 65 yX2_isLawful, Cond.instanceMethod yX2_isLawful, Cond.selects RX2 yX2_isLawful yX2_isLawful, Cond.code yX2_isLawful cX2_isLawful 2 (some .boolean)]
def wsX2_surePlace_r3 : List Cond := [Cond.instanceMethod yX1_fitsLetter, Cond.selects RX1 yX1_fitsLetter yX1_fitsLetter, Cond.code yX1_fitsLetter cX1_fitsLetter 4 (some .boolean), Cond.methodLink RX1 79 yX1_litHours, Cond.instanceMethod yX1_litHours, Cond.selects RX1 yX1_litHours yX1_litHours, Cond.code yX1_litHours cX1_litHours 2 (some .int), Cond.fieldLink RX1 34 "BedHouse$Plan" "sun" "I"]
def wsX2_surePlace : List Cond := .code yX2_surePlace cX2_surePlace 7 (some .int) :: ((wsX2_surePlace_r1 ++ (wsX2_surePlace_r2 ++ wsX2_surePlace_r3)) ++ wsX20 ++ wsX10 ++ wsX00)
def wsX3_init : List Cond := .code yX3_init cX3_init 1 none :: ([.methodLink RX3 3 objectInit, .instanceMethod objectInit, .code objectInit ⟨#[0xb1]⟩ 1 none, .arrayClass .int, .fieldLink RX3 11 "BedHouse$Text" "bytes" "[I"] ++ wsX30)
def wsX3_append : List Cond := .code yX3_append cX3_append 2 none :: ([.fieldLink RX3 15 "BedHouse$Text" "length" "I", .fieldLink RX3 11 "BedHouse$Text" "bytes" "[I"] ++ wsX30)
def wsX3_byteAt : List Cond := .code yX3_byteAt cX3_byteAt 2 (some .int) :: ([.fieldLink RX3 15 "BedHouse$Text" "length" "I", .fieldLink RX3 11 "BedHouse$Text" "bytes" "[I"] ++ wsX30)
def wsX3_isLetter : List Cond := .code yX3_isLetter cX3_isLetter 1 (some .boolean) :: ([])
def wsX3_spelling : List Cond := .code yX3_spelling cX3_spelling 1 (some (.object "java/lang/String")) :: ([])
def wsJ0_coder_7d493 : List Cond := .code yJ0_coder_7d493 cJ0_coder_7d493 1 (some .byte) :: ([.fieldLink RJ0 38 "java/lang/String" "COMPACT_STRINGS" "Z", .fieldLink RJ0 15 "java/lang/String" "coder" "B"])
def wsJ0_length_8abf5 : List Cond := .code yJ0_length_8abf5 cJ0_length_8abf5 1 (some .int) :: ([.fieldLink RJ0 9 "java/lang/String" "value" "[B", .methodLink RJ0 335 yJ0_coder_7d493, .instanceMethod yJ0_coder_7d493, .selects RJ0 yJ0_coder_7d493 yJ0_coder_7d493, .initialized RJ0, .code yJ0_coder_7d493 cJ0_coder_7d493 1 (some .byte), .fieldLink RJ0 38 "java/lang/String" "COMPACT_STRINGS" "Z", .fieldLink RJ0 15 "java/lang/String" "coder" "B"])
def wsJ0_isLatin1_aae02 : List Cond := .code yJ0_isLatin1_aae02 cJ0_isLatin1_aae02 1 (some .boolean) :: ([.fieldLink RJ0 38 "java/lang/String" "COMPACT_STRINGS" "Z", .fieldLink RJ0 15 "java/lang/String" "coder" "B"])
def wsJ3_checkIndex_8e157 : List Cond := .code yJ3_checkIndex_8e157 cJ3_checkIndex_8e157 3 (some .int) :: ([])
def wsJ0_checkIndex_df160 : List Cond := .code yJ0_checkIndex_df160 cJ0_checkIndex_df160 2 none :: ([.fieldLink RJ0 1053 "jdk/internal/util/Preconditions" "SIOOBE_FORMATTER" "Ljava/util/function/BiFunction;", .methodLink RJ0 1059 yJ3_checkIndex_8e157, .static yJ3_checkIndex_8e157, .initialized RJ3, .code yJ3_checkIndex_8e157 cJ3_checkIndex_8e157 3 (some .int)])
def wsJ1_charAt_3b067 : List Cond := .code yJ1_charAt_3b067 cJ1_charAt_3b067 2 (some .char) :: ([.methodLink RJ1 9 yJ0_checkIndex_df160, .static yJ0_checkIndex_df160, .initialized RJ0, .code yJ0_checkIndex_df160 cJ0_checkIndex_df160 2 none, .fieldLink RJ0 1053 "jdk/internal/util/Preconditions" "SIOOBE_FORMATTER" "Ljava/util/function/BiFunction;", .methodLink RJ0 1059 yJ3_checkIndex_8e157, .static yJ3_checkIndex_8e157, .initialized RJ3, .code yJ3_checkIndex_8e157 cJ3_checkIndex_8e157 3 (some .int)])
def wsJ2_length_9d52b : List Cond := .code yJ2_length_9d52b cJ2_length_9d52b 1 (some .int) :: ([])
def wsJ2_checkIndex_2214a : List Cond := .code yJ2_checkIndex_2214a cJ2_checkIndex_2214a 2 none :: ([.methodLink RJ2 48 yJ2_length_9d52b, .static yJ2_length_9d52b, .initialized RJ2, .code yJ2_length_9d52b cJ2_length_9d52b 1 (some .int), .methodLink RJ2 414 yJ0_checkIndex_df160, .static yJ0_checkIndex_df160, .initialized RJ0, .code yJ0_checkIndex_df160 cJ0_checkIndex_df160 2 none, .fieldLink RJ0 1053 "jdk/internal/util/Preconditions" "SIOOBE_FORMATTER" "Ljava/util/function/BiFunction;", .methodLink RJ0 1059 yJ3_checkIndex_8e157, .static yJ3_checkIndex_8e157, .initialized RJ3, .code yJ3_checkIndex_8e157 cJ3_checkIndex_8e157 3 (some .int)])
def wsJ2_getChar_3b067 : List Cond := .code yJ2_getChar_3b067 cJ2_getChar_3b067 2 (some .char) :: ([.fieldLink RJ2 44 "java/lang/StringUTF16" "$assertionsDisabled" "Z", .fieldLink RJ2 59 "java/lang/StringUTF16" "HI_BYTE_SHIFT" "I", .fieldLink RJ2 63 "java/lang/StringUTF16" "LO_BYTE_SHIFT" "I", .methodLink RJ2 48 yJ2_length_9d52b, .static yJ2_length_9d52b, .initialized RJ2, .code yJ2_length_9d52b cJ2_length_9d52b 1 (some .int)])
def wsJ2_charAt_3b067 : List Cond := .code yJ2_charAt_3b067 cJ2_charAt_3b067 2 (some .char) :: ([.methodLink RJ2 67 yJ2_checkIndex_2214a, .static yJ2_checkIndex_2214a, .initialized RJ2, .code yJ2_checkIndex_2214a cJ2_checkIndex_2214a 2 none, .methodLink RJ2 48 yJ2_length_9d52b, .static yJ2_length_9d52b, .code yJ2_length_9d52b cJ2_length_9d52b 1 (some .int), .methodLink RJ2 414 yJ0_checkIndex_df160, .static yJ0_checkIndex_df160, .initialized RJ0, .code yJ0_checkIndex_df160 cJ0_checkIndex_df160 2 none, .fieldLink RJ0 1053 "jdk/internal/util/Preconditions" "SIOOBE_FORMATTER" "Ljava/util/function/BiFunction;", .methodLink RJ0 1059 yJ3_checkIndex_8e157, .static yJ3_checkIndex_8e157, .initialized RJ3, .code yJ3_checkIndex_8e157 cJ3_checkIndex_8e157 3 (some .int), .methodLink RJ2 71 yJ2_getChar_3b067, .static yJ2_getChar_3b067, .code yJ2_getChar_3b067 cJ2_getChar_3b067 2 (some .char), .fieldLink RJ2 44 "java/lang/StringUTF16" "$assertionsDisabled" "Z", .fieldLink RJ2 59 "java/lang/StringUTF16" "HI_BYTE_SHIFT" "I", .fieldLink RJ2 63 "java/lang/StringUTF16" "LO_BYTE_SHIFT" "I"])
def wsJ0_charAt_5068e_r1 : List Cond := [Cond.fieldLink RJ0 9 "java/lang/String" "value" "[B", Cond.methodLink RJ0 492 yJ0_isLatin1_aae02, Cond.instanceMethod yJ0_isLatin1_aae02, Cond.selects RJ0 yJ0_isLatin1_aae02 yJ0_isLatin1_aae02, Cond.initialized RJ0, Cond.code yJ0_isLatin1_aae02 cJ0_isLatin1_aae02 1 (some .boolean), Cond.fieldLink RJ0 38 "java/lang/String" "COMPACT_STRINGS" "Z", Cond.fieldLink RJ0 15 "java/lang/String" "coder" "B", Cond.methodLink RJ0 495 yJ1_charAt_3b067, Cond.static yJ1_charAt_3b067, Cond.initialized RJ1, Cond.code yJ1_charAt_3b067 cJ1_charAt_3b067 2 (some .char), Cond.methodLink RJ1 9 yJ0_checkIndex_df160, Cond.static yJ0_checkIndex_df160, Cond.code yJ0_checkIndex_df160 cJ0_checkIndex_df160 2 none, Cond.fieldLink RJ0 1053 "jdk/internal/util/Preconditions" "SIOOBE_FORMATTER" "Ljava/util/function/BiFunction;", Cond.methodLink RJ0 1059 yJ3_checkIndex_8e157, Cond.static yJ3_checkIndex_8e157, Cond.initialized RJ3, Cond.code yJ3_checkIndex_8e157 cJ3_checkIndex_8e157 3 (some .int), Cond.methodLink RJ0 498 yJ2_charAt_3b067, Cond.static yJ2_charAt_3b067, Cond.initialized RJ2, Cond.code yJ2_charAt_3b067 cJ2_charAt_3b067 2 (some .char)]
def wsJ0_charAt_5068e_r2 : List Cond := [Cond.methodLink RJ2 67 yJ2_checkIndex_2214a, Cond.static yJ2_checkIndex_2214a, Cond.code yJ2_checkIndex_2214a cJ2_checkIndex_2214a 2 none, Cond.methodLink RJ2 48 yJ2_length_9d52b, Cond.static yJ2_length_9d52b, Cond.code yJ2_length_9d52b cJ2_length_9d52b 1 (some .int), Cond.methodLink RJ2 414 yJ0_checkIndex_df160, Cond.methodLink RJ2 71 yJ2_getChar_3b067, Cond.static yJ2_getChar_3b067, Cond.code yJ2_getChar_3b067 cJ2_getChar_3b067 2 (some .char), Cond.fieldLink RJ2 44 "java/lang/StringUTF16" "$assertionsDisabled" "Z", Cond.fieldLink RJ2 59 "java/lang/StringUTF16" "HI_BYTE_SHIFT" "I", Cond.fieldLink RJ2 63 "java/lang/StringUTF16" "LO_BYTE_SHIFT" "I"]
def wsJ0_charAt_5068e : List Cond := .code yJ0_charAt_5068e cJ0_charAt_5068e 2 (some .char) :: ((wsJ0_charAt_5068e_r1 ++ wsJ0_charAt_5068e_r2))
def wsX3_isSpelled_r1 : List Cond := [Cond.fieldLink RX3 31 "BedHouse$Text" "at" "I", Cond.fieldLink RX3 44 "BedHouse$Text" "tokenStart" "I", Cond.methodLink RX3 132 yJ0_length_8abf5, Cond.instanceMethod yJ0_length_8abf5, Cond.selects RJ0 yJ0_length_8abf5 yJ0_length_8abf5, Cond.initialized RJ0, Cond.code yJ0_length_8abf5 cJ0_length_8abf5 1 (some .int), Cond.fieldLink RJ0 9 "java/lang/String" "value" "[B", Cond.methodLink RJ0 335 yJ0_coder_7d493, Cond.instanceMethod yJ0_coder_7d493, Cond.selects RJ0 yJ0_coder_7d493 yJ0_coder_7d493, Cond.code yJ0_coder_7d493 cJ0_coder_7d493 1 (some .byte), Cond.fieldLink RJ0 38 "java/lang/String" "COMPACT_STRINGS" "Z", Cond.fieldLink RJ0 15 "java/lang/String" "coder" "B", Cond.methodLink RX3 137 yJ0_charAt_5068e, Cond.instanceMethod yJ0_charAt_5068e, Cond.selects RJ0 yJ0_charAt_5068e yJ0_charAt_5068e, Cond.code yJ0_charAt_5068e cJ0_charAt_5068e 2 (some .char), Cond.methodLink RJ0 492 yJ0_isLatin1_aae02, Cond.instanceMethod yJ0_isLatin1_aae02, Cond.selects RJ0 yJ0_isLatin1_aae02 yJ0_isLatin1_aae02, Cond.code yJ0_isLatin1_aae02 cJ0_isLatin1_aae02 1 (some .boolean), Cond.methodLink RJ0 495 yJ1_charAt_3b067, Cond.static yJ1_charAt_3b067]
def wsX3_isSpelled_r2 : List Cond := [Cond.initialized RJ1, Cond.code yJ1_charAt_3b067 cJ1_charAt_3b067 2 (some .char), Cond.methodLink RJ1 9 yJ0_checkIndex_df160, Cond.static yJ0_checkIndex_df160, Cond.code yJ0_checkIndex_df160 cJ0_checkIndex_df160 2 none, Cond.fieldLink RJ0 1053 "jdk/internal/util/Preconditions" "SIOOBE_FORMATTER" "Ljava/util/function/BiFunction;", Cond.methodLink RJ0 1059 yJ3_checkIndex_8e157, Cond.static yJ3_checkIndex_8e157, Cond.initialized RJ3, Cond.code yJ3_checkIndex_8e157 cJ3_checkIndex_8e157 3 (some .int), Cond.methodLink RJ0 498 yJ2_charAt_3b067, Cond.static yJ2_charAt_3b067, Cond.initialized RJ2, Cond.code yJ2_charAt_3b067 cJ2_charAt_3b067 2 (some .char), Cond.methodLink RJ2 67 yJ2_checkIndex_2214a, Cond.static yJ2_checkIndex_2214a, Cond.code yJ2_checkIndex_2214a cJ2_checkIndex_2214a 2 none, Cond.methodLink RJ2 48 yJ2_length_9d52b, Cond.static yJ2_length_9d52b, Cond.code yJ2_length_9d52b cJ2_length_9d52b 1 (some .int), Cond.methodLink RJ2 414 yJ0_checkIndex_df160, Cond.methodLink RJ2 71 yJ2_getChar_3b067, Cond.static yJ2_getChar_3b067, Cond.code yJ2_getChar_3b067 cJ2_getChar_3b067 2 (some .char)]
def wsX3_isSpelled_r3 : List Cond := [Cond.fieldLink RJ2 44 "java/lang/StringUTF16" "$assertionsDisabled" "Z", Cond.fieldLink RJ2 59 "java/lang/StringUTF16" "HI_BYTE_SHIFT" "I", Cond.fieldLink RJ2 63 "java/lang/StringUTF16" "LO_BYTE_SHIFT" "I", Cond.methodLink RX3 108 yX3_byteAt, Cond.instanceMethod yX3_byteAt, Cond.selects RX3 yX3_byteAt yX3_byteAt, Cond.initialized RX3, Cond.code yX3_byteAt cX3_byteAt 2 (some .int), Cond.fieldLink RX3 15 "BedHouse$Text" "length" "I", Cond.fieldLink RX3 11 "BedHouse$Text" "bytes" "[I"]
def wsX3_isSpelled : List Cond := .code yX3_isSpelled cX3_isSpelled 3 (some .boolean) :: ((wsX3_isSpelled_r1 ++ (wsX3_isSpelled_r2 ++ wsX3_isSpelled_r3)) ++ wsX30)
def wsX3_readWord_r1 : List Cond := [Cond.fieldLink RX3 31 "BedHouse$Text" "at" "I", Cond.fieldLink RX3 15 "BedHouse$Text" "length" "I", Cond.fieldLink RX3 37 "BedHouse$Text" "token" "I", Cond.fieldLink RX3 47 "BedHouse$Text" "value" "I", Cond.methodLink RX3 108 yX3_byteAt, Cond.instanceMethod yX3_byteAt, Cond.selects RX3 yX3_byteAt yX3_byteAt, Cond.initialized RX3, Cond.code yX3_byteAt cX3_byteAt 2 (some .int), Cond.fieldLink RX3 11 "BedHouse$Text" "bytes" "[I", Cond.methodLink RX3 112 yX3_isLetter, Cond.static yX3_isLetter, Cond.code yX3_isLetter cX3_isLetter 1 (some .boolean), Cond.methodLink RX3 124 yX3_spelling, Cond.static yX3_spelling, Cond.code yX3_spelling cX3_spelling 1 (some (.object "java/lang/String")), Cond.methodLink RX3 128 yX3_isSpelled, Cond.instanceMethod yX3_isSpelled, Cond.selects RX3 yX3_isSpelled yX3_isSpelled, Cond.code yX3_isSpelled cX3_isSpelled 3 (some .boolean), Cond.fieldLink RX3 44 "BedHouse$Text" "tokenStart" "I", Cond.methodLink RX3 132 yJ0_length_8abf5, Cond.instanceMethod yJ0_length_8abf5, Cond.selects RJ0 yJ0_length_8abf5 yJ0_length_8abf5]
def wsX3_readWord_r2 : List Cond := [Cond.initialized RJ0, Cond.code yJ0_length_8abf5 cJ0_length_8abf5 1 (some .int), Cond.fieldLink RJ0 9 "java/lang/String" "value" "[B", Cond.methodLink RJ0 335 yJ0_coder_7d493, Cond.instanceMethod yJ0_coder_7d493, Cond.selects RJ0 yJ0_coder_7d493 yJ0_coder_7d493, Cond.code yJ0_coder_7d493 cJ0_coder_7d493 1 (some .byte), Cond.fieldLink RJ0 38 "java/lang/String" "COMPACT_STRINGS" "Z", Cond.fieldLink RJ0 15 "java/lang/String" "coder" "B", Cond.methodLink RX3 137 yJ0_charAt_5068e, Cond.instanceMethod yJ0_charAt_5068e, Cond.selects RJ0 yJ0_charAt_5068e yJ0_charAt_5068e, Cond.code yJ0_charAt_5068e cJ0_charAt_5068e 2 (some .char), Cond.methodLink RJ0 492 yJ0_isLatin1_aae02, Cond.instanceMethod yJ0_isLatin1_aae02, Cond.selects RJ0 yJ0_isLatin1_aae02 yJ0_isLatin1_aae02, Cond.code yJ0_isLatin1_aae02 cJ0_isLatin1_aae02 1 (some .boolean), Cond.methodLink RJ0 495 yJ1_charAt_3b067, Cond.static yJ1_charAt_3b067, Cond.initialized RJ1, Cond.code yJ1_charAt_3b067 cJ1_charAt_3b067 2 (some .char), Cond.methodLink RJ1 9 yJ0_checkIndex_df160, Cond.static yJ0_checkIndex_df160, Cond.code yJ0_checkIndex_df160 cJ0_checkIndex_df160 2 none]
def wsX3_readWord_r3 : List Cond := [Cond.fieldLink RJ0 1053 "jdk/internal/util/Preconditions" "SIOOBE_FORMATTER" "Ljava/util/function/BiFunction;", Cond.methodLink RJ0 1059 yJ3_checkIndex_8e157, Cond.static yJ3_checkIndex_8e157, Cond.initialized RJ3, Cond.code yJ3_checkIndex_8e157 cJ3_checkIndex_8e157 3 (some .int), Cond.methodLink RJ0 498 yJ2_charAt_3b067, Cond.static yJ2_charAt_3b067, Cond.initialized RJ2, Cond.code yJ2_charAt_3b067 cJ2_charAt_3b067 2 (some .char), Cond.methodLink RJ2 67 yJ2_checkIndex_2214a, Cond.static yJ2_checkIndex_2214a, Cond.code yJ2_checkIndex_2214a cJ2_checkIndex_2214a 2 none, Cond.methodLink RJ2 48 yJ2_length_9d52b, Cond.static yJ2_length_9d52b, Cond.code yJ2_length_9d52b cJ2_length_9d52b 1 (some .int), Cond.methodLink RJ2 414 yJ0_checkIndex_df160, Cond.methodLink RJ2 71 yJ2_getChar_3b067, Cond.static yJ2_getChar_3b067, Cond.code yJ2_getChar_3b067 cJ2_getChar_3b067 2 (some .char), Cond.fieldLink RJ2 44 "java/lang/StringUTF16" "$assertionsDisabled" "Z", Cond.fieldLink RJ2 59 "java/lang/StringUTF16" "HI_BYTE_SHIFT" "I", Cond.fieldLink RJ2 63 "java/lang/StringUTF16" "LO_BYTE_SHIFT" "I"]
def wsX3_readWord : List Cond := .code yX3_readWord cX3_readWord 2 none :: ((wsX3_readWord_r1 ++ (wsX3_readWord_r2 ++ wsX3_readWord_r3)) ++ wsX30)
def wsX3_isDigit : List Cond := .code yX3_isDigit cX3_isDigit 1 (some .boolean) :: ([])
def wsX3_readNumber : List Cond := .code yX3_readNumber cX3_readNumber 2 none :: ([.fieldLink RX3 47 "BedHouse$Text" "value" "I", .fieldLink RX3 31 "BedHouse$Text" "at" "I", .fieldLink RX3 15 "BedHouse$Text" "length" "I", .methodLink RX3 141 Lib.Math.min.name, .static Lib.Math.min.name, .initialized "java/lang/Math", .code Lib.Math.min.name Lib.Math.min.code 2 (some .int), .fieldLink RX3 44 "BedHouse$Text" "tokenStart" "I", .fieldLink RX3 37 "BedHouse$Text" "token" "I", .methodLink RX3 108 yX3_byteAt, .instanceMethod yX3_byteAt, .selects RX3 yX3_byteAt yX3_byteAt, .initialized RX3, .code yX3_byteAt cX3_byteAt 2 (some .int), .fieldLink RX3 11 "BedHouse$Text" "bytes" "[I", .methodLink RX3 118 yX3_isDigit, .static yX3_isDigit, .code yX3_isDigit cX3_isDigit 1 (some .boolean)] ++ wsX30)
def wsX3_nextToken_r1 : List Cond := [Cond.fieldLink RX3 31 "BedHouse$Text" "at" "I", Cond.fieldLink RX3 15 "BedHouse$Text" "length" "I", Cond.fieldLink RX3 44 "BedHouse$Text" "tokenStart" "I", Cond.fieldLink RX3 37 "BedHouse$Text" "token" "I", Cond.methodLink RX3 108 yX3_byteAt, Cond.instanceMethod yX3_byteAt, Cond.selects RX3 yX3_byteAt yX3_byteAt, Cond.initialized RX3, Cond.code yX3_byteAt cX3_byteAt 2 (some .int), Cond.fieldLink RX3 11 "BedHouse$Text" "bytes" "[I", Cond.methodLink RX3 112 yX3_isLetter, Cond.static yX3_isLetter, Cond.code yX3_isLetter cX3_isLetter 1 (some .boolean), Cond.methodLink RX3 115 yX3_readWord, Cond.instanceMethod yX3_readWord, Cond.selects RX3 yX3_readWord yX3_readWord, Cond.code yX3_readWord cX3_readWord 2 none, Cond.fieldLink RX3 47 "BedHouse$Text" "value" "I", Cond.methodLink RX3 124 yX3_spelling, Cond.static yX3_spelling, Cond.code yX3_spelling cX3_spelling 1 (some (.object "java/lang/String")), Cond.methodLink RX3 128 yX3_isSpelled, Cond.instanceMethod yX3_isSpelled, Cond.selects RX3 yX3_isSpelled yX3_isSpelled]
def wsX3_nextToken_r2 : List Cond := [Cond.code yX3_isSpelled cX3_isSpelled 3 (some .boolean), Cond.methodLink RX3 132 yJ0_length_8abf5, Cond.instanceMethod yJ0_length_8abf5, Cond.selects RJ0 yJ0_length_8abf5 yJ0_length_8abf5, Cond.initialized RJ0, Cond.code yJ0_length_8abf5 cJ0_length_8abf5 1 (some .int), Cond.fieldLink RJ0 9 "java/lang/String" "value" "[B", Cond.methodLink RJ0 335 yJ0_coder_7d493, Cond.instanceMethod yJ0_coder_7d493, Cond.selects RJ0 yJ0_coder_7d493 yJ0_coder_7d493, Cond.code yJ0_coder_7d493 cJ0_coder_7d493 1 (some .byte), Cond.fieldLink RJ0 38 "java/lang/String" "COMPACT_STRINGS" "Z", Cond.fieldLink RJ0 15 "java/lang/String" "coder" "B", Cond.methodLink RX3 137 yJ0_charAt_5068e, Cond.instanceMethod yJ0_charAt_5068e, Cond.selects RJ0 yJ0_charAt_5068e yJ0_charAt_5068e, Cond.code yJ0_charAt_5068e cJ0_charAt_5068e 2 (some .char), Cond.methodLink RJ0 492 yJ0_isLatin1_aae02, Cond.instanceMethod yJ0_isLatin1_aae02, Cond.selects RJ0 yJ0_isLatin1_aae02 yJ0_isLatin1_aae02, Cond.code yJ0_isLatin1_aae02 cJ0_isLatin1_aae02 1 (some .boolean), Cond.methodLink RJ0 495 yJ1_charAt_3b067, Cond.static yJ1_charAt_3b067, Cond.initialized RJ1]
def wsX3_nextToken_r3 : List Cond := [Cond.code yJ1_charAt_3b067 cJ1_charAt_3b067 2 (some .char), Cond.methodLink RJ1 9 yJ0_checkIndex_df160, Cond.static yJ0_checkIndex_df160, Cond.code yJ0_checkIndex_df160 cJ0_checkIndex_df160 2 none, Cond.fieldLink RJ0 1053 "jdk/internal/util/Preconditions" "SIOOBE_FORMATTER" "Ljava/util/function/BiFunction;", Cond.methodLink RJ0 1059 yJ3_checkIndex_8e157, Cond.static yJ3_checkIndex_8e157, Cond.initialized RJ3, Cond.code yJ3_checkIndex_8e157 cJ3_checkIndex_8e157 3 (some .int), Cond.methodLink RJ0 498 yJ2_charAt_3b067, Cond.static yJ2_charAt_3b067, Cond.initialized RJ2, Cond.code yJ2_charAt_3b067 cJ2_charAt_3b067 2 (some .char), Cond.methodLink RJ2 67 yJ2_checkIndex_2214a, Cond.static yJ2_checkIndex_2214a, Cond.code yJ2_checkIndex_2214a cJ2_checkIndex_2214a 2 none, Cond.methodLink RJ2 48 yJ2_length_9d52b, Cond.static yJ2_length_9d52b, Cond.code yJ2_length_9d52b cJ2_length_9d52b 1 (some .int), Cond.methodLink RJ2 414 yJ0_checkIndex_df160, Cond.methodLink RJ2 71 yJ2_getChar_3b067, Cond.static yJ2_getChar_3b067, Cond.code yJ2_getChar_3b067 cJ2_getChar_3b067 2 (some .char), Cond.fieldLink RJ2 44 "java/lang/StringUTF16" "$assertionsDisabled" "Z"]
def wsX3_nextToken_r4 : List Cond := [Cond.fieldLink RJ2 59 "java/lang/StringUTF16" "HI_BYTE_SHIFT" "I", Cond.fieldLink RJ2 63 "java/lang/StringUTF16" "LO_BYTE_SHIFT" "I", Cond.methodLink RX3 118 yX3_isDigit, Cond.static yX3_isDigit, Cond.code yX3_isDigit cX3_isDigit 1 (some .boolean), Cond.methodLink RX3 121 yX3_readNumber, Cond.instanceMethod yX3_readNumber, Cond.selects RX3 yX3_readNumber yX3_readNumber, Cond.code yX3_readNumber cX3_readNumber 2 none, Cond.methodLink RX3 141 Lib.Math.min.name, Cond.static Lib.Math.min.name, Cond.initialized "java/lang/Math", Cond.code Lib.Math.min.name Lib.Math.min.code 2 (some .int)]
def wsX3_nextToken : List Cond := .code yX3_nextToken cX3_nextToken 2 none :: ((wsX3_nextToken_r1 ++ (wsX3_nextToken_r2 ++ (wsX3_nextToken_r3 ++ wsX3_nextToken_r4))) ++ wsX30)
def wsX3_mayBegin : List Cond := .code yX3_mayBegin cX3_mayBegin 3 (some .boolean) :: ([.fieldLink RX3 24 "BedHouse$Text" "downTold" "Z", .fieldLink RX3 28 "BedHouse$Text" "handsTold" "Z"] ++ wsX10 ++ wsX30)
def wsX4_isSlot : List Cond := .code yX4_isSlot cX4_isSlot 1 (some .boolean) :: ([])
def wsX3_mayBeFirst : List Cond := .code yX3_mayBeFirst cX3_mayBeFirst 3 (some .boolean) :: ([.static yX4_isSlot, .initialized RX4, .code yX4_isSlot cX4_isSlot 1 (some .boolean), .instanceMethod yX1_panelAt, .initialized RX1, .selects RX1 yX1_panelAt yX1_panelAt, .code yX1_panelAt cX1_panelAt 4 (some .int), .fieldLink RX1 21 "BedHouse$Plan" "panels" "I", .static yX4_placeIn, .code yX4_placeIn cX4_placeIn 2 (some .int)] ++ wsX10)
def wsX3_slotsFrom : List Cond := .code yX3_slotsFrom cX3_slotsFrom 4 (some .int) :: ([])
def wsX3_apply : List Cond := .code yX3_apply cX3_apply 5 none :: ([.fieldLink RX3 24 "BedHouse$Text" "downTold" "Z", .fieldLink RX3 28 "BedHouse$Text" "handsTold" "Z", .methodLink RX3 85 yX3_slotsFrom, .static yX3_slotsFrom, .initialized RX3, .code yX3_slotsFrom cX3_slotsFrom 4 (some .int), .instanceMethod yX1_addBeam, .initialized RX1, .selects RX1 yX1_addBeam yX1_addBeam, .code yX1_addBeam cX1_addBeam 2 none, .fieldLink RX1 28 "BedHouse$Plan" "beams" "I", .fieldLink RX1 15 "BedHouse$Plan" "beamSlots" "[I", .instanceMethod yX1_addPanel, .selects RX1 yX1_addPanel yX1_addPanel, .code yX1_addPanel cX1_addPanel 3 none, .fieldLink RX1 21 "BedHouse$Plan" "panels" "I", .fieldLink RX1 9 "BedHouse$Plan" "sorts" "[I", .fieldLink RX1 25 "BedHouse$Plan" "toldHouse" "I", .static yX4_unitOf, .initialized RX4, .code yX4_unitOf cX4_unitOf 1 (some .int)] ++ wsX10 ++ wsX30)
def wsX3_tellItem_r1 : List Cond := [Cond.fieldLink RX3 37 "BedHouse$Text" "token" "I", Cond.fieldLink RX3 47 "BedHouse$Text" "value" "I", Cond.methodLink RX3 50 yX3_mayBegin, Cond.instanceMethod yX3_mayBegin, Cond.selects RX3 yX3_mayBegin yX3_mayBegin, Cond.initialized RX3, Cond.code yX3_mayBegin cX3_mayBegin 3 (some .boolean), Cond.fieldLink RX3 24 "BedHouse$Text" "downTold" "Z", Cond.fieldLink RX3 28 "BedHouse$Text" "handsTold" "Z", Cond.methodLink RX3 34 yX3_nextToken, Cond.instanceMethod yX3_nextToken, Cond.selects RX3 yX3_nextToken yX3_nextToken, Cond.code yX3_nextToken cX3_nextToken 2 none, Cond.fieldLink RX3 31 "BedHouse$Text" "at" "I", Cond.fieldLink RX3 15 "BedHouse$Text" "length" "I", Cond.fieldLink RX3 44 "BedHouse$Text" "tokenStart" "I", Cond.methodLink RX3 108 yX3_byteAt, Cond.instanceMethod yX3_byteAt, Cond.selects RX3 yX3_byteAt yX3_byteAt, Cond.code yX3_byteAt cX3_byteAt 2 (some .int), Cond.fieldLink RX3 11 "BedHouse$Text" "bytes" "[I", Cond.methodLink RX3 112 yX3_isLetter, Cond.static yX3_isLetter, Cond.code yX3_isLetter cX3_isLetter 1 (some .boolean)]
def wsX3_tellItem_r2 : List Cond := [Cond.methodLink RX3 115 yX3_readWord, Cond.instanceMethod yX3_readWord, Cond.selects RX3 yX3_readWord yX3_readWord, Cond.code yX3_readWord cX3_readWord 2 none, Cond.methodLink RX3 124 yX3_spelling, Cond.static yX3_spelling, Cond.code yX3_spelling cX3_spelling 1 (some (.object "java/lang/String")), Cond.methodLink RX3 128 yX3_isSpelled, Cond.instanceMethod yX3_isSpelled, Cond.selects RX3 yX3_isSpelled yX3_isSpelled, Cond.code yX3_isSpelled cX3_isSpelled 3 (some .boolean), Cond.methodLink RX3 132 yJ0_length_8abf5, Cond.instanceMethod yJ0_length_8abf5, Cond.selects RJ0 yJ0_length_8abf5 yJ0_length_8abf5, Cond.initialized RJ0, Cond.code yJ0_length_8abf5 cJ0_length_8abf5 1 (some .int), Cond.fieldLink RJ0 9 "java/lang/String" "value" "[B", Cond.methodLink RJ0 335 yJ0_coder_7d493, Cond.instanceMethod yJ0_coder_7d493, Cond.selects RJ0 yJ0_coder_7d493 yJ0_coder_7d493, Cond.code yJ0_coder_7d493 cJ0_coder_7d493 1 (some .byte), Cond.fieldLink RJ0 38 "java/lang/String" "COMPACT_STRINGS" "Z", Cond.fieldLink RJ0 15 "java/lang/String" "coder" "B", Cond.methodLink RX3 137 yJ0_charAt_5068e]
def wsX3_tellItem_r3 : List Cond := [Cond.instanceMethod yJ0_charAt_5068e, Cond.selects RJ0 yJ0_charAt_5068e yJ0_charAt_5068e, Cond.code yJ0_charAt_5068e cJ0_charAt_5068e 2 (some .char), Cond.methodLink RJ0 492 yJ0_isLatin1_aae02, Cond.instanceMethod yJ0_isLatin1_aae02, Cond.selects RJ0 yJ0_isLatin1_aae02 yJ0_isLatin1_aae02, Cond.code yJ0_isLatin1_aae02 cJ0_isLatin1_aae02 1 (some .boolean), Cond.methodLink RJ0 495 yJ1_charAt_3b067, Cond.static yJ1_charAt_3b067, Cond.initialized RJ1, Cond.code yJ1_charAt_3b067 cJ1_charAt_3b067 2 (some .char), Cond.methodLink RJ1 9 yJ0_checkIndex_df160, Cond.static yJ0_checkIndex_df160, Cond.code yJ0_checkIndex_df160 cJ0_checkIndex_df160 2 none, Cond.fieldLink RJ0 1053 "jdk/internal/util/Preconditions" "SIOOBE_FORMATTER" "Ljava/util/function/BiFunction;", Cond.methodLink RJ0 1059 yJ3_checkIndex_8e157, Cond.static yJ3_checkIndex_8e157, Cond.initialized RJ3, Cond.code yJ3_checkIndex_8e157 cJ3_checkIndex_8e157 3 (some .int), Cond.methodLink RJ0 498 yJ2_charAt_3b067, Cond.static yJ2_charAt_3b067, Cond.initialized RJ2, Cond.code yJ2_charAt_3b067 cJ2_charAt_3b067 2 (some .char), Cond.methodLink RJ2 67 yJ2_checkIndex_2214a]
def wsX3_tellItem_r4 : List Cond := [Cond.static yJ2_checkIndex_2214a, Cond.code yJ2_checkIndex_2214a cJ2_checkIndex_2214a 2 none, Cond.methodLink RJ2 48 yJ2_length_9d52b, Cond.static yJ2_length_9d52b, Cond.code yJ2_length_9d52b cJ2_length_9d52b 1 (some .int), Cond.methodLink RJ2 414 yJ0_checkIndex_df160, Cond.methodLink RJ2 71 yJ2_getChar_3b067, Cond.static yJ2_getChar_3b067, Cond.code yJ2_getChar_3b067 cJ2_getChar_3b067 2 (some .char), Cond.fieldLink RJ2 44 "java/lang/StringUTF16" "$assertionsDisabled" "Z", Cond.fieldLink RJ2 59 "java/lang/StringUTF16" "HI_BYTE_SHIFT" "I", Cond.fieldLink RJ2 63 "java/lang/StringUTF16" "LO_BYTE_SHIFT" "I", Cond.methodLink RX3 118 yX3_isDigit, Cond.static yX3_isDigit, Cond.code yX3_isDigit cX3_isDigit 1 (some .boolean), Cond.methodLink RX3 121 yX3_readNumber, Cond.instanceMethod yX3_readNumber, Cond.selects RX3 yX3_readNumber yX3_readNumber, Cond.code yX3_readNumber cX3_readNumber 2 none, Cond.methodLink RX3 141 Lib.Math.min.name, Cond.static Lib.Math.min.name, Cond.initialized "java/lang/Math", Cond.code Lib.Math.min.name Lib.Math.min.code 2 (some .int), Cond.methodLink RX3 54 yX3_mayBeFirst]
def wsX3_tellItem_r5 : List Cond := [Cond.static yX3_mayBeFirst, Cond.code yX3_mayBeFirst cX3_mayBeFirst 3 (some .boolean), Cond.static yX4_isSlot, Cond.initialized RX4, Cond.code yX4_isSlot cX4_isSlot 1 (some .boolean), Cond.instanceMethod yX1_panelAt, Cond.initialized RX1, Cond.selects RX1 yX1_panelAt yX1_panelAt, Cond.code yX1_panelAt cX1_panelAt 4 (some .int), Cond.fieldLink RX1 21 "BedHouse$Plan" "panels" "I", Cond.static yX4_placeIn, Cond.code yX4_placeIn cX4_placeIn 2 (some .int), Cond.methodLink RX3 58 yX3_apply, Cond.instanceMethod yX3_apply, Cond.selects RX3 yX3_apply yX3_apply, Cond.code yX3_apply cX3_apply 5 none, Cond.methodLink RX3 85 yX3_slotsFrom, Cond.static yX3_slotsFrom, Cond.code yX3_slotsFrom cX3_slotsFrom 4 (some .int), Cond.instanceMethod yX1_addBeam, Cond.selects RX1 yX1_addBeam yX1_addBeam, Cond.code yX1_addBeam cX1_addBeam 2 none, Cond.fieldLink RX1 28 "BedHouse$Plan" "beams" "I", Cond.fieldLink RX1 15 "BedHouse$Plan" "beamSlots" "[I"]
def wsX3_tellItem_r6 : List Cond := [Cond.instanceMethod yX1_addPanel, Cond.selects RX1 yX1_addPanel yX1_addPanel, Cond.code yX1_addPanel cX1_addPanel 3 none, Cond.fieldLink RX1 9 "BedHouse$Plan" "sorts" "[I", Cond.fieldLink RX1 25 "BedHouse$Plan" "toldHouse" "I", Cond.static yX4_unitOf, Cond.code yX4_unitOf cX4_unitOf 1 (some .int)]
def wsX3_tellItem : List Cond := .code yX3_tellItem cX3_tellItem 5 (some .boolean) :: ((wsX3_tellItem_r1 ++ (wsX3_tellItem_r2 ++ (wsX3_tellItem_r3 ++ (wsX3_tellItem_r4 ++ (wsX3_tellItem_r5 ++ wsX3_tellItem_r6))))) ++ wsX30 ++ wsX10)
def wsX3_tell_r1 : List Cond := [Cond.fieldLink RX3 24 "BedHouse$Text" "downTold" "Z", Cond.fieldLink RX3 28 "BedHouse$Text" "handsTold" "Z", Cond.fieldLink RX3 31 "BedHouse$Text" "at" "I", Cond.fieldLink RX3 37 "BedHouse$Text" "token" "I", Cond.fieldLink RX3 44 "BedHouse$Text" "tokenStart" "I", Cond.instanceMethod yX1_startAnew, Cond.initialized RX1, Cond.selects RX1 yX1_startAnew yX1_startAnew, Cond.code yX1_startAnew cX1_startAnew 1 none, Cond.fieldLink RX1 21 "BedHouse$Plan" "panels" "I", Cond.fieldLink RX1 25 "BedHouse$Plan" "toldHouse" "I", Cond.fieldLink RX1 28 "BedHouse$Plan" "beams" "I", Cond.fieldLink RX1 31 "BedHouse$Plan" "rain" "I", Cond.fieldLink RX1 34 "BedHouse$Plan" "sun" "I", Cond.fieldLink RX1 37 "BedHouse$Plan" "view" "I", Cond.fieldLink RX1 40 "BedHouse$Plan" "noise" "I", Cond.fieldLink RX1 43 "BedHouse$Plan" "mostLying" "I", Cond.fieldLink RX1 46 "BedHouse$Plan" "hands" "I", Cond.methodLink RX3 34 yX3_nextToken, Cond.instanceMethod yX3_nextToken, Cond.selects RX3 yX3_nextToken yX3_nextToken, Cond.initialized RX3, Cond.code yX3_nextToken cX3_nextToken 2 none, Cond.fieldLink RX3 15 "BedHouse$Text" "length" "I"]
def wsX3_tell_r2 : List Cond := [Cond.methodLink RX3 108 yX3_byteAt, Cond.instanceMethod yX3_byteAt, Cond.selects RX3 yX3_byteAt yX3_byteAt, Cond.code yX3_byteAt cX3_byteAt 2 (some .int), Cond.fieldLink RX3 11 "BedHouse$Text" "bytes" "[I", Cond.methodLink RX3 112 yX3_isLetter, Cond.static yX3_isLetter, Cond.code yX3_isLetter cX3_isLetter 1 (some .boolean), Cond.methodLink RX3 115 yX3_readWord, Cond.instanceMethod yX3_readWord, Cond.selects RX3 yX3_readWord yX3_readWord, Cond.code yX3_readWord cX3_readWord 2 none, Cond.fieldLink RX3 47 "BedHouse$Text" "value" "I", Cond.methodLink RX3 124 yX3_spelling, Cond.static yX3_spelling, Cond.code yX3_spelling cX3_spelling 1 (some (.object "java/lang/String")), Cond.methodLink RX3 128 yX3_isSpelled, Cond.instanceMethod yX3_isSpelled, Cond.selects RX3 yX3_isSpelled yX3_isSpelled, Cond.code yX3_isSpelled cX3_isSpelled 3 (some .boolean), Cond.methodLink RX3 132 yJ0_length_8abf5, Cond.instanceMethod yJ0_length_8abf5, Cond.selects RJ0 yJ0_length_8abf5 yJ0_length_8abf5, Cond.initialized RJ0]
def wsX3_tell_r3 : List Cond := [Cond.code yJ0_length_8abf5 cJ0_length_8abf5 1 (some .int), Cond.fieldLink RJ0 9 "java/lang/String" "value" "[B", Cond.methodLink RJ0 335 yJ0_coder_7d493, Cond.instanceMethod yJ0_coder_7d493, Cond.selects RJ0 yJ0_coder_7d493 yJ0_coder_7d493, Cond.code yJ0_coder_7d493 cJ0_coder_7d493 1 (some .byte), Cond.fieldLink RJ0 38 "java/lang/String" "COMPACT_STRINGS" "Z", Cond.fieldLink RJ0 15 "java/lang/String" "coder" "B", Cond.methodLink RX3 137 yJ0_charAt_5068e, Cond.instanceMethod yJ0_charAt_5068e, Cond.selects RJ0 yJ0_charAt_5068e yJ0_charAt_5068e, Cond.code yJ0_charAt_5068e cJ0_charAt_5068e 2 (some .char), Cond.methodLink RJ0 492 yJ0_isLatin1_aae02, Cond.instanceMethod yJ0_isLatin1_aae02, Cond.selects RJ0 yJ0_isLatin1_aae02 yJ0_isLatin1_aae02, Cond.code yJ0_isLatin1_aae02 cJ0_isLatin1_aae02 1 (some .boolean), Cond.methodLink RJ0 495 yJ1_charAt_3b067, Cond.static yJ1_charAt_3b067, Cond.initialized RJ1, Cond.code yJ1_charAt_3b067 cJ1_charAt_3b067 2 (some .char), Cond.methodLink RJ1 9 yJ0_checkIndex_df160, Cond.static yJ0_checkIndex_df160, Cond.code yJ0_checkIndex_df160 cJ0_checkIndex_df160 2 none, Cond.fieldLink RJ0 1053 "jdk/internal/util/Preconditions" "SIOOBE_FORMATTER" "Ljava/util/function/BiFunction;"]
def wsX3_tell_r4 : List Cond := [Cond.methodLink RJ0 1059 yJ3_checkIndex_8e157, Cond.static yJ3_checkIndex_8e157, Cond.initialized RJ3, Cond.code yJ3_checkIndex_8e157 cJ3_checkIndex_8e157 3 (some .int), Cond.methodLink RJ0 498 yJ2_charAt_3b067, Cond.static yJ2_charAt_3b067, Cond.initialized RJ2, Cond.code yJ2_charAt_3b067 cJ2_charAt_3b067 2 (some .char), Cond.methodLink RJ2 67 yJ2_checkIndex_2214a, Cond.static yJ2_checkIndex_2214a, Cond.code yJ2_checkIndex_2214a cJ2_checkIndex_2214a 2 none, Cond.methodLink RJ2 48 yJ2_length_9d52b, Cond.static yJ2_length_9d52b, Cond.code yJ2_length_9d52b cJ2_length_9d52b 1 (some .int), Cond.methodLink RJ2 414 yJ0_checkIndex_df160, Cond.methodLink RJ2 71 yJ2_getChar_3b067, Cond.static yJ2_getChar_3b067, Cond.code yJ2_getChar_3b067 cJ2_getChar_3b067 2 (some .char), Cond.fieldLink RJ2 44 "java/lang/StringUTF16" "$assertionsDisabled" "Z", Cond.fieldLink RJ2 59 "java/lang/StringUTF16" "HI_BYTE_SHIFT" "I", Cond.fieldLink RJ2 63 "java/lang/StringUTF16" "LO_BYTE_SHIFT" "I", Cond.methodLink RX3 118 yX3_isDigit, Cond.static yX3_isDigit, Cond.code yX3_isDigit cX3_isDigit 1 (some .boolean)]
def wsX3_tell_r5 : List Cond := [Cond.methodLink RX3 121 yX3_readNumber, Cond.instanceMethod yX3_readNumber, Cond.selects RX3 yX3_readNumber yX3_readNumber, Cond.code yX3_readNumber cX3_readNumber 2 none, Cond.methodLink RX3 141 Lib.Math.min.name, Cond.static Lib.Math.min.name, Cond.initialized "java/lang/Math", Cond.code Lib.Math.min.name Lib.Math.min.code 2 (some .int), Cond.methodLink RX3 40 yX3_tellItem, Cond.instanceMethod yX3_tellItem, Cond.selects RX3 yX3_tellItem yX3_tellItem, Cond.code yX3_tellItem cX3_tellItem 5 (some .boolean), Cond.methodLink RX3 50 yX3_mayBegin, Cond.instanceMethod yX3_mayBegin, Cond.selects RX3 yX3_mayBegin yX3_mayBegin, Cond.code yX3_mayBegin cX3_mayBegin 3 (some .boolean), Cond.methodLink RX3 54 yX3_mayBeFirst, Cond.static yX3_mayBeFirst, Cond.code yX3_mayBeFirst cX3_mayBeFirst 3 (some .boolean), Cond.static yX4_isSlot, Cond.initialized RX4, Cond.code yX4_isSlot cX4_isSlot 1 (some .boolean), Cond.instanceMethod yX1_panelAt, Cond.selects RX1 yX1_panelAt yX1_panelAt]
def wsX3_tell_r6 : List Cond := [Cond.code yX1_panelAt cX1_panelAt 4 (some .int), Cond.static yX4_placeIn, Cond.code yX4_placeIn cX4_placeIn 2 (some .int), Cond.methodLink RX3 58 yX3_apply, Cond.instanceMethod yX3_apply, Cond.selects RX3 yX3_apply yX3_apply, Cond.code yX3_apply cX3_apply 5 none, Cond.methodLink RX3 85 yX3_slotsFrom, Cond.static yX3_slotsFrom, Cond.code yX3_slotsFrom cX3_slotsFrom 4 (some .int), Cond.instanceMethod yX1_addBeam, Cond.selects RX1 yX1_addBeam yX1_addBeam, Cond.code yX1_addBeam cX1_addBeam 2 none, Cond.fieldLink RX1 15 "BedHouse$Plan" "beamSlots" "[I", Cond.instanceMethod yX1_addPanel, Cond.selects RX1 yX1_addPanel yX1_addPanel, Cond.code yX1_addPanel cX1_addPanel 3 none, Cond.fieldLink RX1 9 "BedHouse$Plan" "sorts" "[I", Cond.static yX4_unitOf, Cond.code yX4_unitOf cX4_unitOf 1 (some .int)]
def wsX3_tell : List Cond := .code yX3_tell cX3_tell 4 (some .int) :: ((wsX3_tell_r1 ++ (wsX3_tell_r2 ++ (wsX3_tell_r3 ++ (wsX3_tell_r4 ++ (wsX3_tell_r5 ++ wsX3_tell_r6))))) ++ wsX30 ++ wsX10)
def wsX4_init_r1 : List Cond := [Cond.methodLink RX4 3 objectInit, Cond.instanceMethod objectInit, Cond.code objectInit ⟨#[0xb1]⟩ 1 none, Cond.classLink RX4 9 RX3, Cond.instantiable RX3 8, Cond.initialized RX3, Cond.fieldLink RX4 12 "BedHouse" "text" "LBedHouse$Text;", Cond.classLink RX4 16 RX2, Cond.instantiable RX2 5, Cond.initialized RX2, Cond.fieldLink RX4 19 "BedHouse" "search" "LBedHouse$Search;", Cond.classLink RX4 23 RX0, Cond.instantiable RX0 8, Cond.initialized RX0, Cond.fieldLink RX4 26 "BedHouse" "present" "LBedHouse$Moment;", Cond.fieldLink RX4 30 "BedHouse" "images" "[LBedHouse$Moment;", Cond.classLink RX4 34 RX1, Cond.instantiable RX1 11, Cond.initialized RX1, Cond.fieldLink RX4 37 "BedHouse" "plan" "LBedHouse$Plan;", Cond.fieldLink RX4 41 "BedHouse" "draft" "LBedHouse$Plan;", Cond.instanceMethod yX3_init, Cond.code yX3_init cX3_init 1 none, Cond.methodLink RX3 3 objectInit]
def wsX4_init_r2 : List Cond := [Cond.arrayClass .int, Cond.fieldLink RX3 11 "BedHouse$Text" "bytes" "[I", Cond.instanceMethod yX2_init, Cond.code yX2_init cX2_init 1 none, Cond.methodLink RX2 3 objectInit, Cond.arrayClass .byte, Cond.fieldLink RX2 11 "BedHouse$Search" "lawful" "[B", Cond.fieldLink RX2 15 "BedHouse$Search" "far" "[I", Cond.fieldLink RX2 19 "BedHouse$Search" "queue" "[I", Cond.instanceMethod yX0_init, Cond.code yX0_init cX0_init 1 none, Cond.methodLink RX0 1 objectInit, Cond.instanceMethod yX1_init, Cond.code yX1_init cX1_init 1 none, Cond.methodLink RX1 3 objectInit, Cond.fieldLink RX1 9 "BedHouse$Plan" "sorts" "[I", Cond.fieldLink RX1 15 "BedHouse$Plan" "beamSlots" "[I", Cond.methodLink RX1 18 yX1_startAnew, Cond.instanceMethod yX1_startAnew, Cond.selects RX1 yX1_startAnew yX1_startAnew, Cond.code yX1_startAnew cX1_startAnew 1 none, Cond.fieldLink RX1 21 "BedHouse$Plan" "panels" "I", Cond.fieldLink RX1 25 "BedHouse$Plan" "toldHouse" "I", Cond.fieldLink RX1 28 "BedHouse$Plan" "beams" "I"]
def wsX4_init_r3 : List Cond := [Cond.fieldLink RX1 31 "BedHouse$Plan" "rain" "I", Cond.fieldLink RX1 34 "BedHouse$Plan" "sun" "I", Cond.fieldLink RX1 37 "BedHouse$Plan" "view" "I", Cond.fieldLink RX1 40 "BedHouse$Plan" "noise" "I", Cond.fieldLink RX1 43 "BedHouse$Plan" "mostLying" "I", Cond.fieldLink RX1 46 "BedHouse$Plan" "hands" "I"]
def wsX4_init : List Cond := .code yX4_init cX4_init 1 none :: ((wsX4_init_r1 ++ (wsX4_init_r2 ++ wsX4_init_r3)) ++ wsX30 ++ wsX40 ++ wsX20 ++ wsX00 ++ wsX10)
def wsX4_type : List Cond := .code yX4_type cX4_type 5 (some .int) :: ([.fieldLink RX4 12 "BedHouse" "text" "LBedHouse$Text;", .instanceMethod yX3_append, .initialized RX3, .selects RX3 yX3_append yX3_append, .code yX3_append cX3_append 2 none, .fieldLink RX3 15 "BedHouse$Text" "length" "I", .fieldLink RX3 11 "BedHouse$Text" "bytes" "[I"] ++ wsX40 ++ wsX30)
def wsX4_clear : List Cond := .code yX4_clear cX4_clear 2 (some .int) :: ([.fieldLink RX4 12 "BedHouse" "text" "LBedHouse$Text;"] ++ wsX40 ++ wsX30)
def wsX4_house_r1 : List Cond := [Cond.fieldLink RX4 12 "BedHouse" "text" "LBedHouse$Text;", Cond.fieldLink RX4 41 "BedHouse" "draft" "LBedHouse$Plan;", Cond.fieldLink RX4 37 "BedHouse" "plan" "LBedHouse$Plan;", Cond.fieldLink RX4 19 "BedHouse" "search" "LBedHouse$Search;", Cond.fieldLink RX4 26 "BedHouse" "present" "LBedHouse$Moment;", Cond.fieldLink RX4 30 "BedHouse" "images" "[LBedHouse$Moment;", Cond.instanceMethod yX3_tell, Cond.initialized RX3, Cond.selects RX3 yX3_tell yX3_tell, Cond.code yX3_tell cX3_tell 4 (some .int), Cond.fieldLink RX3 24 "BedHouse$Text" "downTold" "Z", Cond.fieldLink RX3 28 "BedHouse$Text" "handsTold" "Z", Cond.fieldLink RX3 31 "BedHouse$Text" "at" "I", Cond.fieldLink RX3 37 "BedHouse$Text" "token" "I", Cond.fieldLink RX3 44 "BedHouse$Text" "tokenStart" "I", Cond.instanceMethod yX1_startAnew, Cond.initialized RX1, Cond.selects RX1 yX1_startAnew yX1_startAnew, Cond.code yX1_startAnew cX1_startAnew 1 none, Cond.fieldLink RX1 21 "BedHouse$Plan" "panels" "I", Cond.fieldLink RX1 25 "BedHouse$Plan" "toldHouse" "I", Cond.fieldLink RX1 28 "BedHouse$Plan" "beams" "I", Cond.fieldLink RX1 31 "BedHouse$Plan" "rain" "I", Cond.fieldLink RX1 34 "BedHouse$Plan" "sun" "I"]
def wsX4_house_r2 : List Cond := [Cond.fieldLink RX1 37 "BedHouse$Plan" "view" "I", Cond.fieldLink RX1 40 "BedHouse$Plan" "noise" "I", Cond.fieldLink RX1 43 "BedHouse$Plan" "mostLying" "I", Cond.fieldLink RX1 46 "BedHouse$Plan" "hands" "I", Cond.methodLink RX3 34 yX3_nextToken, Cond.instanceMethod yX3_nextToken, Cond.selects RX3 yX3_nextToken yX3_nextToken, Cond.code yX3_nextToken cX3_nextToken 2 none, Cond.fieldLink RX3 15 "BedHouse$Text" "length" "I", Cond.methodLink RX3 108 yX3_byteAt, Cond.instanceMethod yX3_byteAt, Cond.selects RX3 yX3_byteAt yX3_byteAt, Cond.code yX3_byteAt cX3_byteAt 2 (some .int), Cond.fieldLink RX3 11 "BedHouse$Text" "bytes" "[I", Cond.methodLink RX3 112 yX3_isLetter, Cond.static yX3_isLetter, Cond.code yX3_isLetter cX3_isLetter 1 (some .boolean), Cond.methodLink RX3 115 yX3_readWord, Cond.instanceMethod yX3_readWord, Cond.selects RX3 yX3_readWord yX3_readWord, Cond.code yX3_readWord cX3_readWord 2 none, Cond.fieldLink RX3 47 "BedHouse$Text" "value" "I", Cond.methodLink RX3 124 yX3_spelling, Cond.static yX3_spelling]
def wsX4_house_r3 : List Cond := [Cond.code yX3_spelling cX3_spelling 1 (some (.object "java/lang/String")), Cond.methodLink RX3 128 yX3_isSpelled, Cond.instanceMethod yX3_isSpelled, Cond.selects RX3 yX3_isSpelled yX3_isSpelled, Cond.code yX3_isSpelled cX3_isSpelled 3 (some .boolean), Cond.methodLink RX3 132 yJ0_length_8abf5, Cond.instanceMethod yJ0_length_8abf5, Cond.selects RJ0 yJ0_length_8abf5 yJ0_length_8abf5, Cond.initialized RJ0, Cond.code yJ0_length_8abf5 cJ0_length_8abf5 1 (some .int), Cond.fieldLink RJ0 9 "java/lang/String" "value" "[B", Cond.methodLink RJ0 335 yJ0_coder_7d493, Cond.instanceMethod yJ0_coder_7d493, Cond.selects RJ0 yJ0_coder_7d493 yJ0_coder_7d493, Cond.code yJ0_coder_7d493 cJ0_coder_7d493 1 (some .byte), Cond.fieldLink RJ0 38 "java/lang/String" "COMPACT_STRINGS" "Z", Cond.fieldLink RJ0 15 "java/lang/String" "coder" "B", Cond.methodLink RX3 137 yJ0_charAt_5068e, Cond.instanceMethod yJ0_charAt_5068e, Cond.selects RJ0 yJ0_charAt_5068e yJ0_charAt_5068e, Cond.code yJ0_charAt_5068e cJ0_charAt_5068e 2 (some .char), Cond.methodLink RJ0 492 yJ0_isLatin1_aae02, Cond.instanceMethod yJ0_isLatin1_aae02, Cond.selects RJ0 yJ0_isLatin1_aae02 yJ0_isLatin1_aae02]
def wsX4_house_r4 : List Cond := [Cond.code yJ0_isLatin1_aae02 cJ0_isLatin1_aae02 1 (some .boolean), Cond.methodLink RJ0 495 yJ1_charAt_3b067, Cond.static yJ1_charAt_3b067, Cond.initialized RJ1, Cond.code yJ1_charAt_3b067 cJ1_charAt_3b067 2 (some .char), Cond.methodLink RJ1 9 yJ0_checkIndex_df160, Cond.static yJ0_checkIndex_df160, Cond.code yJ0_checkIndex_df160 cJ0_checkIndex_df160 2 none, Cond.fieldLink RJ0 1053 "jdk/internal/util/Preconditions" "SIOOBE_FORMATTER" "Ljava/util/function/BiFunction;", Cond.methodLink RJ0 1059 yJ3_checkIndex_8e157, Cond.static yJ3_checkIndex_8e157, Cond.initialized RJ3, Cond.code yJ3_checkIndex_8e157 cJ3_checkIndex_8e157 3 (some .int), Cond.methodLink RJ0 498 yJ2_charAt_3b067, Cond.static yJ2_charAt_3b067, Cond.initialized RJ2, Cond.code yJ2_charAt_3b067 cJ2_charAt_3b067 2 (some .char), Cond.methodLink RJ2 67 yJ2_checkIndex_2214a, Cond.static yJ2_checkIndex_2214a, Cond.code yJ2_checkIndex_2214a cJ2_checkIndex_2214a 2 none, Cond.methodLink RJ2 48 yJ2_length_9d52b, Cond.static yJ2_length_9d52b, Cond.code yJ2_length_9d52b cJ2_length_9d52b 1 (some .int), Cond.methodLink RJ2 414 yJ0_checkIndex_df160]
def wsX4_house_r5 : List Cond := [Cond.methodLink RJ2 71 yJ2_getChar_3b067, Cond.static yJ2_getChar_3b067, Cond.code yJ2_getChar_3b067 cJ2_getChar_3b067 2 (some .char), Cond.fieldLink RJ2 44 "java/lang/StringUTF16" "$assertionsDisabled" "Z", Cond.fieldLink RJ2 59 "java/lang/StringUTF16" "HI_BYTE_SHIFT" "I", Cond.fieldLink RJ2 63 "java/lang/StringUTF16" "LO_BYTE_SHIFT" "I", Cond.methodLink RX3 118 yX3_isDigit, Cond.static yX3_isDigit, Cond.code yX3_isDigit cX3_isDigit 1 (some .boolean), Cond.methodLink RX3 121 yX3_readNumber, Cond.instanceMethod yX3_readNumber, Cond.selects RX3 yX3_readNumber yX3_readNumber, Cond.code yX3_readNumber cX3_readNumber 2 none, Cond.methodLink RX3 141 Lib.Math.min.name, Cond.static Lib.Math.min.name, Cond.initialized "java/lang/Math", Cond.code Lib.Math.min.name Lib.Math.min.code 2 (some .int), Cond.methodLink RX3 40 yX3_tellItem, Cond.instanceMethod yX3_tellItem, Cond.selects RX3 yX3_tellItem yX3_tellItem, Cond.code yX3_tellItem cX3_tellItem 5 (some .boolean), Cond.methodLink RX3 50 yX3_mayBegin, Cond.instanceMethod yX3_mayBegin, Cond.selects RX3 yX3_mayBegin yX3_mayBegin]
def wsX4_house_r6 : List Cond := [Cond.code yX3_mayBegin cX3_mayBegin 3 (some .boolean), Cond.methodLink RX3 54 yX3_mayBeFirst, Cond.static yX3_mayBeFirst, Cond.code yX3_mayBeFirst cX3_mayBeFirst 3 (some .boolean), Cond.static yX4_isSlot, Cond.initialized RX4, Cond.code yX4_isSlot cX4_isSlot 1 (some .boolean), Cond.instanceMethod yX1_panelAt, Cond.selects RX1 yX1_panelAt yX1_panelAt, Cond.code yX1_panelAt cX1_panelAt 4 (some .int), Cond.static yX4_placeIn, Cond.code yX4_placeIn cX4_placeIn 2 (some .int), Cond.methodLink RX3 58 yX3_apply, Cond.instanceMethod yX3_apply, Cond.selects RX3 yX3_apply yX3_apply, Cond.code yX3_apply cX3_apply 5 none, Cond.methodLink RX3 85 yX3_slotsFrom, Cond.static yX3_slotsFrom, Cond.code yX3_slotsFrom cX3_slotsFrom 4 (some .int), Cond.instanceMethod yX1_addBeam, Cond.selects RX1 yX1_addBeam yX1_addBeam, Cond.code yX1_addBeam cX1_addBeam 2 none, Cond.fieldLink RX1 15 "BedHouse$Plan" "beamSlots" "[I", Cond.instanceMethod yX1_addPanel]
def wsX4_house_r7 : List Cond := [Cond.selects RX1 yX1_addPanel yX1_addPanel, Cond.code yX1_addPanel cX1_addPanel 3 none, Cond.fieldLink RX1 9 "BedHouse$Plan" "sorts" "[I", Cond.static yX4_unitOf, Cond.code yX4_unitOf cX4_unitOf 1 (some .int), Cond.instanceMethod yX0_begin, Cond.initialized RX0, Cond.selects RX0 yX0_begin yX0_begin, Cond.code yX0_begin cX0_begin 2 none, Cond.fieldLink RX0 7 "BedHouse$Moment" "home" "I", Cond.fieldLink RX0 13 "BedHouse$Moment" "day" "I", Cond.fieldLink RX0 16 "BedHouse$Moment" "acts" "I", Cond.fieldLink RX0 19 "BedHouse$Moment" "leaks" "I", Cond.fieldLink RX0 22 "BedHouse$Moment" "clues" "I", Cond.fieldLink RX0 25 "BedHouse$Moment" "litHours" "I", Cond.fieldLink RX0 28 "BedHouse$Moment" "darkHours" "I"]
def wsX4_house : List Cond := .code yX4_house cX4_house 4 (some .int) :: ((wsX4_house_r1 ++ (wsX4_house_r2 ++ (wsX4_house_r3 ++ (wsX4_house_r4 ++ (wsX4_house_r5 ++ (wsX4_house_r6 ++ wsX4_house_r7)))))) ++ wsX40 ++ wsX30 ++ wsX20 ++ wsX10 ++ wsX00)
def wsX4_panel : List Cond := .code yX4_panel cX4_panel 3 (some .int) :: ([.fieldLink RX4 37 "BedHouse" "plan" "LBedHouse$Plan;", .fieldLink RX4 26 "BedHouse" "present" "LBedHouse$Moment;", .instanceMethod yX1_hasPanel, .initialized RX1, .selects RX1 yX1_hasPanel yX1_hasPanel, .code yX1_hasPanel cX1_hasPanel 2 (some .boolean), .fieldLink RX1 21 "BedHouse$Plan" "panels" "I", .fieldLink RX1 9 "BedHouse$Plan" "sorts" "[I", .instanceMethod yX1_sortOf, .selects RX1 yX1_sortOf yX1_sortOf, .code yX1_sortOf cX1_sortOf 2 (some .int), .methodLink RX1 53 yX1_hasPanel, .methodLink RX4 80 yX4_placeIn, .static yX4_placeIn, .initialized RX4, .code yX4_placeIn cX4_placeIn 2 (some .int)] ++ wsX40 ++ wsX00 ++ wsX10)
def wsX4_slot : List Cond := .code yX4_slot cX4_slot 3 (some .int) :: ([.fieldLink RX4 37 "BedHouse" "plan" "LBedHouse$Plan;", .fieldLink RX4 26 "BedHouse" "present" "LBedHouse$Moment;", .methodLink RX4 84 yX4_isSlot, .static yX4_isSlot, .initialized RX4, .code yX4_isSlot cX4_isSlot 1 (some .boolean), .instanceMethod yX1_panelAt, .initialized RX1, .selects RX1 yX1_panelAt yX1_panelAt, .code yX1_panelAt cX1_panelAt 4 (some .int), .fieldLink RX1 21 "BedHouse$Plan" "panels" "I", .static yX4_placeIn, .code yX4_placeIn cX4_placeIn 2 (some .int)] ++ wsX40 ++ wsX00 ++ wsX10)
def wsX4_told : List Cond := .code yX4_told cX4_told 2 (some .int) :: ([.fieldLink RX4 37 "BedHouse" "plan" "LBedHouse$Plan;"] ++ wsX40 ++ wsX10)
def wsX4_asNumber : List Cond := .code yX4_asNumber cX4_asNumber 1 (some .int) :: ([])
def wsX4_beam : List Cond := .code yX4_beam cX4_beam 2 (some .int) :: ([.fieldLink RX4 37 "BedHouse" "plan" "LBedHouse$Plan;", .fieldLink RX4 26 "BedHouse" "present" "LBedHouse$Moment;", .instanceMethod yX1_hasBeam, .initialized RX1, .selects RX1 yX1_hasBeam yX1_hasBeam, .code yX1_hasBeam cX1_hasBeam 2 (some .boolean), .fieldLink RX1 28 "BedHouse$Plan" "beams" "I", .fieldLink RX1 15 "BedHouse$Plan" "beamSlots" "[I", .instanceMethod yX1_isBorne, .selects RX1 yX1_isBorne yX1_isBorne, .code yX1_isBorne cX1_isBorne 3 (some .boolean), .methodLink RX1 61 yX1_hasBeam, .methodLink RX1 64 yX1_slotsUnder, .instanceMethod yX1_slotsUnder, .selects RX1 yX1_slotsUnder yX1_slotsUnder, .code yX1_slotsUnder cX1_slotsUnder 6 (some .int), .fieldLink RX1 21 "BedHouse$Plan" "panels" "I", .fieldLink RX1 9 "BedHouse$Plan" "sorts" "[I", .static yX4_placeIn, .initialized RX4, .code yX4_placeIn cX4_placeIn 2 (some .int), .methodLink RX4 115 yX4_asNumber, .static yX4_asNumber, .code yX4_asNumber cX4_asNumber 1 (some .int)] ++ wsX40 ++ wsX00 ++ wsX10)
def wsX4_act_r1 : List Cond := [Cond.fieldLink RX4 26 "BedHouse" "present" "LBedHouse$Moment;", Cond.fieldLink RX4 37 "BedHouse" "plan" "LBedHouse$Plan;", Cond.methodLink RX4 214 yX4_moved, Cond.static yX4_moved, Cond.initialized RX4, Cond.code yX4_moved cX4_moved 3 (some .int), Cond.methodLink RX4 80 yX4_placeIn, Cond.static yX4_placeIn, Cond.code yX4_placeIn cX4_placeIn 2 (some .int), Cond.methodLink RX4 228 yX4_unitOf, Cond.static yX4_unitOf, Cond.code yX4_unitOf cX4_unitOf 1 (some .int), Cond.instanceMethod yX1_allows, Cond.initialized RX1, Cond.selects RX1 yX1_allows yX1_allows, Cond.code yX1_allows cX1_allows 4 (some .boolean), Cond.fieldLink RX1 43 "BedHouse$Plan" "mostLying" "I", Cond.fieldLink RX1 21 "BedHouse$Plan" "panels" "I", Cond.fieldLink RX1 28 "BedHouse$Plan" "beams" "I", Cond.methodLink RX1 67 yX1_lyingIn, Cond.instanceMethod yX1_lyingIn, Cond.selects RX1 yX1_lyingIn yX1_lyingIn, Cond.code yX1_lyingIn cX1_lyingIn 4 (some .int), Cond.methodLink RX1 64 yX1_slotsUnder]
def wsX4_act_r2 : List Cond := [Cond.instanceMethod yX1_slotsUnder, Cond.selects RX1 yX1_slotsUnder yX1_slotsUnder, Cond.code yX1_slotsUnder cX1_slotsUnder 6 (some .int), Cond.fieldLink RX1 9 "BedHouse$Plan" "sorts" "[I", Cond.methodLink RX1 70 yJ6_bitCount_0f7a4, Cond.static yJ6_bitCount_0f7a4, Cond.initialized RJ6, Cond.code yJ6_bitCount_0f7a4 cJ6_bitCount_0f7a4 1 (some .int), Cond.constant RJ6 265 (1431655765), Cond.constant RJ6 266 (858993459), Cond.constant RJ6 267 (252645135), Cond.methodLink RX1 75 yX1_isBorne, Cond.instanceMethod yX1_isBorne, Cond.selects RX1 yX1_isBorne yX1_isBorne, Cond.code yX1_isBorne cX1_isBorne 3 (some .boolean), Cond.fieldLink RX1 15 "BedHouse$Plan" "beamSlots" "[I", Cond.methodLink RX1 61 yX1_hasBeam, Cond.instanceMethod yX1_hasBeam, Cond.selects RX1 yX1_hasBeam yX1_hasBeam, Cond.code yX1_hasBeam cX1_hasBeam 2 (some .boolean)]
def wsX4_act : List Cond := .code yX4_act cX4_act 4 (some .int) :: ((wsX4_act_r1 ++ wsX4_act_r2) ++ wsX40 ++ wsX00 ++ wsX10)
def wsX4_down_r1 : List Cond := [Cond.fieldLink RX4 37 "BedHouse" "plan" "LBedHouse$Plan;", Cond.fieldLink RX4 26 "BedHouse" "present" "LBedHouse$Moment;", Cond.instanceMethod yX1_hasPanel, Cond.initialized RX1, Cond.selects RX1 yX1_hasPanel yX1_hasPanel, Cond.code yX1_hasPanel cX1_hasPanel 2 (some .boolean), Cond.fieldLink RX1 21 "BedHouse$Plan" "panels" "I", Cond.fieldLink RX1 9 "BedHouse$Plan" "sorts" "[I", Cond.methodLink RX4 80 yX4_placeIn, Cond.static yX4_placeIn, Cond.initialized RX4, Cond.code yX4_placeIn cX4_placeIn 2 (some .int), Cond.methodLink RX4 119 yX4_act, Cond.instanceMethod yX4_act, Cond.selects RX4 yX4_act yX4_act, Cond.code yX4_act cX4_act 4 (some .int), Cond.methodLink RX4 214 yX4_moved, Cond.static yX4_moved, Cond.code yX4_moved cX4_moved 3 (some .int), Cond.methodLink RX4 228 yX4_unitOf, Cond.static yX4_unitOf, Cond.code yX4_unitOf cX4_unitOf 1 (some .int), Cond.instanceMethod yX1_allows, Cond.selects RX1 yX1_allows yX1_allows]
def wsX4_down_r2 : List Cond := [Cond.code yX1_allows cX1_allows 4 (some .boolean), Cond.fieldLink RX1 43 "BedHouse$Plan" "mostLying" "I", Cond.fieldLink RX1 28 "BedHouse$Plan" "beams" "I", Cond.methodLink RX1 67 yX1_lyingIn, Cond.instanceMethod yX1_lyingIn, Cond.selects RX1 yX1_lyingIn yX1_lyingIn, Cond.code yX1_lyingIn cX1_lyingIn 4 (some .int), Cond.methodLink RX1 64 yX1_slotsUnder, Cond.instanceMethod yX1_slotsUnder, Cond.selects RX1 yX1_slotsUnder yX1_slotsUnder, Cond.code yX1_slotsUnder cX1_slotsUnder 6 (some .int), Cond.methodLink RX1 70 yJ6_bitCount_0f7a4, Cond.static yJ6_bitCount_0f7a4, Cond.initialized RJ6, Cond.code yJ6_bitCount_0f7a4 cJ6_bitCount_0f7a4 1 (some .int), Cond.constant RJ6 265 (1431655765), Cond.constant RJ6 266 (858993459), Cond.constant RJ6 267 (252645135), Cond.methodLink RX1 75 yX1_isBorne, Cond.instanceMethod yX1_isBorne, Cond.selects RX1 yX1_isBorne yX1_isBorne, Cond.code yX1_isBorne cX1_isBorne 3 (some .boolean), Cond.fieldLink RX1 15 "BedHouse$Plan" "beamSlots" "[I", Cond.methodLink RX1 61 yX1_hasBeam]
def wsX4_down_r3 : List Cond := [Cond.instanceMethod yX1_hasBeam, Cond.selects RX1 yX1_hasBeam yX1_hasBeam, Cond.code yX1_hasBeam cX1_hasBeam 2 (some .boolean)]
def wsX4_down : List Cond := .code yX4_down cX4_down 2 (some .int) :: ((wsX4_down_r1 ++ (wsX4_down_r2 ++ wsX4_down_r3)) ++ wsX40 ++ wsX00 ++ wsX10)
def wsX4_up_r1 : List Cond := [Cond.fieldLink RX4 37 "BedHouse" "plan" "LBedHouse$Plan;", Cond.fieldLink RX4 26 "BedHouse" "present" "LBedHouse$Moment;", Cond.instanceMethod yX1_hasPanel, Cond.initialized RX1, Cond.selects RX1 yX1_hasPanel yX1_hasPanel, Cond.code yX1_hasPanel cX1_hasPanel 2 (some .boolean), Cond.fieldLink RX1 21 "BedHouse$Plan" "panels" "I", Cond.fieldLink RX1 9 "BedHouse$Plan" "sorts" "[I", Cond.methodLink RX4 84 yX4_isSlot, Cond.static yX4_isSlot, Cond.initialized RX4, Cond.code yX4_isSlot cX4_isSlot 1 (some .boolean), Cond.methodLink RX4 80 yX4_placeIn, Cond.static yX4_placeIn, Cond.code yX4_placeIn cX4_placeIn 2 (some .int), Cond.instanceMethod yX1_panelAt, Cond.selects RX1 yX1_panelAt yX1_panelAt, Cond.code yX1_panelAt cX1_panelAt 4 (some .int), Cond.methodLink RX4 119 yX4_act, Cond.instanceMethod yX4_act, Cond.selects RX4 yX4_act yX4_act, Cond.code yX4_act cX4_act 4 (some .int), Cond.methodLink RX4 214 yX4_moved, Cond.static yX4_moved]
def wsX4_up_r2 : List Cond := [Cond.code yX4_moved cX4_moved 3 (some .int), Cond.methodLink RX4 228 yX4_unitOf, Cond.static yX4_unitOf, Cond.code yX4_unitOf cX4_unitOf 1 (some .int), Cond.instanceMethod yX1_allows, Cond.selects RX1 yX1_allows yX1_allows, Cond.code yX1_allows cX1_allows 4 (some .boolean), Cond.fieldLink RX1 43 "BedHouse$Plan" "mostLying" "I", Cond.fieldLink RX1 28 "BedHouse$Plan" "beams" "I", Cond.methodLink RX1 67 yX1_lyingIn, Cond.instanceMethod yX1_lyingIn, Cond.selects RX1 yX1_lyingIn yX1_lyingIn, Cond.code yX1_lyingIn cX1_lyingIn 4 (some .int), Cond.methodLink RX1 64 yX1_slotsUnder, Cond.instanceMethod yX1_slotsUnder, Cond.selects RX1 yX1_slotsUnder yX1_slotsUnder, Cond.code yX1_slotsUnder cX1_slotsUnder 6 (some .int), Cond.methodLink RX1 70 yJ6_bitCount_0f7a4, Cond.static yJ6_bitCount_0f7a4, Cond.initialized RJ6, Cond.code yJ6_bitCount_0f7a4 cJ6_bitCount_0f7a4 1 (some .int), Cond.constant RJ6 265 (1431655765), Cond.constant RJ6 266 (858993459), Cond.constant RJ6 267 (252645135)]
def wsX4_up_r3 : List Cond := [Cond.methodLink RX1 75 yX1_isBorne, Cond.instanceMethod yX1_isBorne, Cond.selects RX1 yX1_isBorne yX1_isBorne, Cond.code yX1_isBorne cX1_isBorne 3 (some .boolean), Cond.fieldLink RX1 15 "BedHouse$Plan" "beamSlots" "[I", Cond.methodLink RX1 61 yX1_hasBeam, Cond.instanceMethod yX1_hasBeam, Cond.selects RX1 yX1_hasBeam yX1_hasBeam, Cond.code yX1_hasBeam cX1_hasBeam 2 (some .boolean)]
def wsX4_up : List Cond := .code yX4_up cX4_up 3 (some .int) :: ((wsX4_up_r1 ++ (wsX4_up_r2 ++ wsX4_up_r3)) ++ wsX40 ++ wsX00 ++ wsX10)
def wsX4_night : List Cond := .code yX4_night cX4_night 2 (some .int) :: ([.fieldLink RX4 26 "BedHouse" "present" "LBedHouse$Moment;", .fieldLink RX4 37 "BedHouse" "plan" "LBedHouse$Plan;", .instanceMethod yX1_leaksOf, .initialized RX1, .selects RX1 yX1_leaksOf yX1_leaksOf, .code yX1_leaksOf cX1_leaksOf 2 (some .int), .fieldLink RX1 31 "BedHouse$Plan" "rain" "I", .methodLink RX1 64 yX1_slotsUnder, .instanceMethod yX1_slotsUnder, .selects RX1 yX1_slotsUnder yX1_slotsUnder, .code yX1_slotsUnder cX1_slotsUnder 6 (some .int), .fieldLink RX1 21 "BedHouse$Plan" "panels" "I", .fieldLink RX1 9 "BedHouse$Plan" "sorts" "[I", .static yX4_placeIn, .initialized RX4, .code yX4_placeIn cX4_placeIn 2 (some .int), .methodLink RX1 70 yJ6_bitCount_0f7a4, .static yJ6_bitCount_0f7a4, .initialized RJ6, .code yJ6_bitCount_0f7a4 cJ6_bitCount_0f7a4 1 (some .int), .constant RJ6 265 (1431655765), .constant RJ6 266 (858993459), .constant RJ6 267 (252645135)] ++ wsX40 ++ wsX00 ++ wsX10)
def wsX4_now_r1 : List Cond := [Cond.fieldLink RX4 26 "BedHouse" "present" "LBedHouse$Moment;", Cond.fieldLink RX4 37 "BedHouse" "plan" "LBedHouse$Plan;", Cond.constant RX4 140 (-1000000), Cond.instanceMethod yX1_worthOf, Cond.initialized RX1, Cond.selects RX1 yX1_worthOf yX1_worthOf, Cond.code yX1_worthOf cX1_worthOf 3 (some .int), Cond.fieldLink RX1 37 "BedHouse$Plan" "view" "I", Cond.fieldLink RX1 40 "BedHouse$Plan" "noise" "I", Cond.methodLink RX1 79 yX1_litHours, Cond.instanceMethod yX1_litHours, Cond.selects RX1 yX1_litHours yX1_litHours, Cond.code yX1_litHours cX1_litHours 2 (some .int), Cond.fieldLink RX1 34 "BedHouse$Plan" "sun" "I", Cond.methodLink RX1 64 yX1_slotsUnder, Cond.instanceMethod yX1_slotsUnder, Cond.selects RX1 yX1_slotsUnder yX1_slotsUnder, Cond.code yX1_slotsUnder cX1_slotsUnder 6 (some .int), Cond.fieldLink RX1 21 "BedHouse$Plan" "panels" "I", Cond.fieldLink RX1 9 "BedHouse$Plan" "sorts" "[I", Cond.static yX4_placeIn, Cond.initialized RX4, Cond.code yX4_placeIn cX4_placeIn 2 (some .int), Cond.methodLink RX1 70 yJ6_bitCount_0f7a4]
def wsX4_now_r2 : List Cond := [Cond.static yJ6_bitCount_0f7a4, Cond.initialized RJ6, Cond.code yJ6_bitCount_0f7a4 cJ6_bitCount_0f7a4 1 (some .int), Cond.constant RJ6 265 (1431655765), Cond.constant RJ6 266 (858993459), Cond.constant RJ6 267 (252645135), Cond.methodLink RX1 82 yX1_leaksOf, Cond.instanceMethod yX1_leaksOf, Cond.selects RX1 yX1_leaksOf yX1_leaksOf, Cond.code yX1_leaksOf cX1_leaksOf 2 (some .int), Cond.fieldLink RX1 31 "BedHouse$Plan" "rain" "I", Cond.methodLink RX1 85 yX1_quietIn, Cond.instanceMethod yX1_quietIn, Cond.selects RX1 yX1_quietIn yX1_quietIn, Cond.code yX1_quietIn cX1_quietIn 2 (some .int), Cond.instanceMethod yX1_allows, Cond.selects RX1 yX1_allows yX1_allows, Cond.code yX1_allows cX1_allows 4 (some .boolean), Cond.fieldLink RX1 43 "BedHouse$Plan" "mostLying" "I", Cond.fieldLink RX1 28 "BedHouse$Plan" "beams" "I", Cond.methodLink RX1 67 yX1_lyingIn, Cond.instanceMethod yX1_lyingIn, Cond.selects RX1 yX1_lyingIn yX1_lyingIn, Cond.code yX1_lyingIn cX1_lyingIn 4 (some .int)]
def wsX4_now_r3 : List Cond := [Cond.methodLink RX1 75 yX1_isBorne, Cond.instanceMethod yX1_isBorne, Cond.selects RX1 yX1_isBorne yX1_isBorne, Cond.code yX1_isBorne cX1_isBorne 3 (some .boolean), Cond.fieldLink RX1 15 "BedHouse$Plan" "beamSlots" "[I", Cond.methodLink RX1 61 yX1_hasBeam, Cond.instanceMethod yX1_hasBeam, Cond.selects RX1 yX1_hasBeam yX1_hasBeam, Cond.code yX1_hasBeam cX1_hasBeam 2 (some .boolean), Cond.methodLink RX4 115 yX4_asNumber, Cond.static yX4_asNumber, Cond.code yX4_asNumber cX4_asNumber 1 (some .int)]
def wsX4_now : List Cond := .code yX4_now cX4_now 2 (some .int) :: ((wsX4_now_r1 ++ (wsX4_now_r2 ++ wsX4_now_r3)) ++ wsX40 ++ wsX00 ++ wsX10)
def wsX4_lit : List Cond := .code yX4_lit cX4_lit 2 (some .int) :: ([.fieldLink RX4 37 "BedHouse" "plan" "LBedHouse$Plan;", .fieldLink RX4 26 "BedHouse" "present" "LBedHouse$Moment;", .methodLink RX4 84 yX4_isSlot, .static yX4_isSlot, .initialized RX4, .code yX4_isSlot cX4_isSlot 1 (some .boolean), .instanceMethod yX1_litHours, .initialized RX1, .selects RX1 yX1_litHours yX1_litHours, .code yX1_litHours cX1_litHours 2 (some .int), .fieldLink RX1 34 "BedHouse$Plan" "sun" "I", .methodLink RX1 64 yX1_slotsUnder, .instanceMethod yX1_slotsUnder, .selects RX1 yX1_slotsUnder yX1_slotsUnder, .code yX1_slotsUnder cX1_slotsUnder 6 (some .int), .fieldLink RX1 21 "BedHouse$Plan" "panels" "I", .fieldLink RX1 9 "BedHouse$Plan" "sorts" "[I", .static yX4_placeIn, .code yX4_placeIn cX4_placeIn 2 (some .int)] ++ wsX40 ++ wsX00 ++ wsX10)
def wsX4_isImage : List Cond := .code yX4_isImage cX4_isImage 2 (some .boolean) :: ([.fieldLink RX4 30 "BedHouse" "images" "[LBedHouse$Moment;"] ++ wsX40)
def wsX4_fewest_r1 : List Cond := [Cond.fieldLink RX4 30 "BedHouse" "images" "[LBedHouse$Moment;", Cond.fieldLink RX4 19 "BedHouse" "search" "LBedHouse$Search;", Cond.fieldLink RX4 37 "BedHouse" "plan" "LBedHouse$Plan;", Cond.fieldLink RX4 26 "BedHouse" "present" "LBedHouse$Moment;", Cond.methodLink RX4 144 yX4_isImage, Cond.instanceMethod yX4_isImage, Cond.selects RX4 yX4_isImage yX4_isImage, Cond.initialized RX4, Cond.code yX4_isImage cX4_isImage 2 (some .boolean), Cond.instanceMethod yX2_fewestActs, Cond.initialized RX2, Cond.selects RX2 yX2_fewestActs yX2_fewestActs, Cond.code yX2_fewestActs cX2_fewestActs 4 (some .int), Cond.methodLink RX2 68 yX2_survey, Cond.instanceMethod yX2_survey, Cond.selects RX2 yX2_survey yX2_survey, Cond.code yX2_survey cX2_survey 4 none, Cond.fieldLink RX2 22 "BedHouse$Search" "surveyed" "Z", Cond.fieldLink RX2 11 "BedHouse$Search" "lawful" "[B", Cond.static yX4_unitOf, Cond.code yX4_unitOf cX4_unitOf 1 (some .int), Cond.instanceMethod yX1_allows, Cond.initialized RX1, Cond.selects RX1 yX1_allows yX1_allows]
def wsX4_fewest_r2 : List Cond := [Cond.code yX1_allows cX1_allows 4 (some .boolean), Cond.fieldLink RX1 43 "BedHouse$Plan" "mostLying" "I", Cond.fieldLink RX1 21 "BedHouse$Plan" "panels" "I", Cond.fieldLink RX1 28 "BedHouse$Plan" "beams" "I", Cond.methodLink RX1 67 yX1_lyingIn, Cond.instanceMethod yX1_lyingIn, Cond.selects RX1 yX1_lyingIn yX1_lyingIn, Cond.code yX1_lyingIn cX1_lyingIn 4 (some .int), Cond.static yX4_placeIn, Cond.code yX4_placeIn cX4_placeIn 2 (some .int), Cond.methodLink RX1 64 yX1_slotsUnder, Cond.instanceMethod yX1_slotsUnder, Cond.selects RX1 yX1_slotsUnder yX1_slotsUnder, Cond.code yX1_slotsUnder cX1_slotsUnder 6 (some .int), Cond.fieldLink RX1 9 "BedHouse$Plan" "sorts" "[I", Cond.methodLink RX1 70 yJ6_bitCount_0f7a4, Cond.static yJ6_bitCount_0f7a4, Cond.initialized RJ6, Cond.code yJ6_bitCount_0f7a4 cJ6_bitCount_0f7a4 1 (some .int), Cond.constant RJ6 265 (1431655765), Cond.constant RJ6 266 (858993459), Cond.constant RJ6 267 (252645135), Cond.methodLink RX1 75 yX1_isBorne, Cond.instanceMethod yX1_isBorne]
def wsX4_fewest_r3 : List Cond := [Cond.selects RX1 yX1_isBorne yX1_isBorne, Cond.code yX1_isBorne cX1_isBorne 3 (some .boolean), Cond.fieldLink RX1 15 "BedHouse$Plan" "beamSlots" "[I", Cond.methodLink RX1 61 yX1_hasBeam, Cond.instanceMethod yX1_hasBeam, Cond.selects RX1 yX1_hasBeam yX1_hasBeam, Cond.code yX1_hasBeam cX1_hasBeam 2 (some .boolean), Cond.methodLink RX2 72 yX2_spreadFrom, Cond.instanceMethod yX2_spreadFrom, Cond.selects RX2 yX2_spreadFrom yX2_spreadFrom, Cond.code yX2_spreadFrom cX2_spreadFrom 3 none, Cond.fieldLink RX2 19 "BedHouse$Search" "queue" "[I", Cond.methodLink RX2 40 yX2_spread, Cond.instanceMethod yX2_spread, Cond.selects RX2 yX2_spread yX2_spread, Cond.code yX2_spread cX2_spread 6 none, Cond.fieldLink RX2 15 "BedHouse$Search" "far" "[I", Cond.fieldLink RX2 44 "BedHouse$Search" "reached" "I", Cond.methodLink RX2 47 yX2_farTo, Cond.instanceMethod yX2_farTo, Cond.selects RX2 yX2_farTo yX2_farTo, Cond.code yX2_farTo cX2_farTo 2 (some .int), Cond.methodLink RX2 50 yX2_spreadByOneAct, Cond.instanceMethod yX2_spreadByOneAct]
def wsX4_fewest_r4 : List Cond := [Cond.selects RX2 yX2_spreadByOneAct yX2_spreadByOneAct, Cond.code yX2_spreadByOneAct cX2_spreadByOneAct 6 none, Cond.static yX4_moved, Cond.code yX4_moved cX4_moved 3 (some .int), Cond.methodLink RX4 80 yX4_placeIn, Cond.methodLink RX4 228 yX4_unitOf, Cond.methodLink RX2 61 yX2_reach, Cond.instanceMethod yX2_reach, Cond.selects RX2 yX2_reach yX2_reach, Cond.code yX2_reach cX2_reach 3 none, Cond.methodLink RX2 65 yX2_isLawful, Cond.instanceMethod yX2_isLawful, Cond.selects RX2 yX2_isLawful yX2_isLawful, Cond.code yX2_isLawful cX2_isLawful 2 (some .boolean)]
def wsX4_fewest : List Cond := .code yX4_fewest cX4_fewest 2 (some .int) :: ((wsX4_fewest_r1 ++ (wsX4_fewest_r2 ++ (wsX4_fewest_r3 ++ wsX4_fewest_r4))) ++ wsX40 ++ wsX00 ++ wsX20 ++ wsX10)
def wsX4_first_r1 : List Cond := [Cond.fieldLink RX4 30 "BedHouse" "images" "[LBedHouse$Moment;", Cond.fieldLink RX4 19 "BedHouse" "search" "LBedHouse$Search;", Cond.fieldLink RX4 37 "BedHouse" "plan" "LBedHouse$Plan;", Cond.fieldLink RX4 26 "BedHouse" "present" "LBedHouse$Moment;", Cond.methodLink RX4 144 yX4_isImage, Cond.instanceMethod yX4_isImage, Cond.selects RX4 yX4_isImage yX4_isImage, Cond.initialized RX4, Cond.code yX4_isImage cX4_isImage 2 (some .boolean), Cond.instanceMethod yX2_firstAct, Cond.initialized RX2, Cond.selects RX2 yX2_firstAct yX2_firstAct, Cond.code yX2_firstAct cX2_firstAct 12 (some .int), Cond.methodLink RX2 68 yX2_survey, Cond.instanceMethod yX2_survey, Cond.selects RX2 yX2_survey yX2_survey, Cond.code yX2_survey cX2_survey 4 none, Cond.fieldLink RX2 22 "BedHouse$Search" "surveyed" "Z", Cond.fieldLink RX2 11 "BedHouse$Search" "lawful" "[B", Cond.static yX4_unitOf, Cond.code yX4_unitOf cX4_unitOf 1 (some .int), Cond.instanceMethod yX1_allows, Cond.initialized RX1, Cond.selects RX1 yX1_allows yX1_allows]
def wsX4_first_r2 : List Cond := [Cond.code yX1_allows cX1_allows 4 (some .boolean), Cond.fieldLink RX1 43 "BedHouse$Plan" "mostLying" "I", Cond.fieldLink RX1 21 "BedHouse$Plan" "panels" "I", Cond.fieldLink RX1 28 "BedHouse$Plan" "beams" "I", Cond.methodLink RX1 67 yX1_lyingIn, Cond.instanceMethod yX1_lyingIn, Cond.selects RX1 yX1_lyingIn yX1_lyingIn, Cond.code yX1_lyingIn cX1_lyingIn 4 (some .int), Cond.static yX4_placeIn, Cond.code yX4_placeIn cX4_placeIn 2 (some .int), Cond.methodLink RX1 64 yX1_slotsUnder, Cond.instanceMethod yX1_slotsUnder, Cond.selects RX1 yX1_slotsUnder yX1_slotsUnder, Cond.code yX1_slotsUnder cX1_slotsUnder 6 (some .int), Cond.fieldLink RX1 9 "BedHouse$Plan" "sorts" "[I", Cond.methodLink RX1 70 yJ6_bitCount_0f7a4, Cond.static yJ6_bitCount_0f7a4, Cond.initialized RJ6, Cond.code yJ6_bitCount_0f7a4 cJ6_bitCount_0f7a4 1 (some .int), Cond.constant RJ6 265 (1431655765), Cond.constant RJ6 266 (858993459), Cond.constant RJ6 267 (252645135), Cond.methodLink RX1 75 yX1_isBorne, Cond.instanceMethod yX1_isBorne]
def wsX4_first_r3 : List Cond := [Cond.selects RX1 yX1_isBorne yX1_isBorne, Cond.code yX1_isBorne cX1_isBorne 3 (some .boolean), Cond.fieldLink RX1 15 "BedHouse$Plan" "beamSlots" "[I", Cond.methodLink RX1 61 yX1_hasBeam, Cond.instanceMethod yX1_hasBeam, Cond.selects RX1 yX1_hasBeam yX1_hasBeam, Cond.code yX1_hasBeam cX1_hasBeam 2 (some .boolean), Cond.methodLink RX2 65 yX2_isLawful, Cond.instanceMethod yX2_isLawful, Cond.selects RX2 yX2_isLawful yX2_isLawful, Cond.code yX2_isLawful cX2_isLawful 2 (some .boolean), Cond.methodLink RX2 72 yX2_spreadFrom, Cond.instanceMethod yX2_spreadFrom, Cond.selects RX2 yX2_spreadFrom yX2_spreadFrom, Cond.code yX2_spreadFrom cX2_spreadFrom 3 none, Cond.fieldLink RX2 19 "BedHouse$Search" "queue" "[I", Cond.methodLink RX2 40 yX2_spread, Cond.instanceMethod yX2_spread, Cond.selects RX2 yX2_spread yX2_spread, Cond.code yX2_spread cX2_spread 6 none, Cond.fieldLink RX2 15 "BedHouse$Search" "far" "[I", Cond.fieldLink RX2 44 "BedHouse$Search" "reached" "I", Cond.methodLink RX2 47 yX2_farTo, Cond.instanceMethod yX2_farTo]
def wsX4_first_r4 : List Cond := [Cond.selects RX2 yX2_farTo yX2_farTo, Cond.code yX2_farTo cX2_farTo 2 (some .int), Cond.methodLink RX2 50 yX2_spreadByOneAct, Cond.instanceMethod yX2_spreadByOneAct, Cond.selects RX2 yX2_spreadByOneAct yX2_spreadByOneAct, Cond.code yX2_spreadByOneAct cX2_spreadByOneAct 6 none, Cond.static yX4_moved, Cond.code yX4_moved cX4_moved 3 (some .int), Cond.methodLink RX4 80 yX4_placeIn, Cond.methodLink RX4 228 yX4_unitOf, Cond.methodLink RX2 61 yX2_reach, Cond.instanceMethod yX2_reach, Cond.selects RX2 yX2_reach yX2_reach, Cond.code yX2_reach cX2_reach 3 none]
def wsX4_first : List Cond := .code yX4_first cX4_first 2 (some .int) :: ((wsX4_first_r1 ++ (wsX4_first_r2 ++ (wsX4_first_r3 ++ wsX4_first_r4))) ++ wsX40 ++ wsX00 ++ wsX10 ++ wsX20)
def wsX4_nights_r1 : List Cond := [Cond.fieldLink RX4 30 "BedHouse" "images" "[LBedHouse$Moment;", Cond.fieldLink RX4 19 "BedHouse" "search" "LBedHouse$Search;", Cond.fieldLink RX4 37 "BedHouse" "plan" "LBedHouse$Plan;", Cond.fieldLink RX4 26 "BedHouse" "present" "LBedHouse$Moment;", Cond.methodLink RX4 144 yX4_isImage, Cond.instanceMethod yX4_isImage, Cond.selects RX4 yX4_isImage yX4_isImage, Cond.initialized RX4, Cond.code yX4_isImage cX4_isImage 2 (some .boolean), Cond.instanceMethod yX2_fewestNights, Cond.initialized RX2, Cond.selects RX2 yX2_fewestNights yX2_fewestNights, Cond.code yX2_fewestNights cX2_fewestNights 7 (some .int), Cond.fieldLink RX2 19 "BedHouse$Search" "queue" "[I", Cond.methodLink RX2 68 yX2_survey, Cond.instanceMethod yX2_survey, Cond.selects RX2 yX2_survey yX2_survey, Cond.code yX2_survey cX2_survey 4 none, Cond.fieldLink RX2 22 "BedHouse$Search" "surveyed" "Z", Cond.fieldLink RX2 11 "BedHouse$Search" "lawful" "[B", Cond.static yX4_unitOf, Cond.code yX4_unitOf cX4_unitOf 1 (some .int), Cond.instanceMethod yX1_allows, Cond.initialized RX1]
def wsX4_nights_r2 : List Cond := [Cond.selects RX1 yX1_allows yX1_allows, Cond.code yX1_allows cX1_allows 4 (some .boolean), Cond.fieldLink RX1 43 "BedHouse$Plan" "mostLying" "I", Cond.fieldLink RX1 21 "BedHouse$Plan" "panels" "I", Cond.fieldLink RX1 28 "BedHouse$Plan" "beams" "I", Cond.methodLink RX1 67 yX1_lyingIn, Cond.instanceMethod yX1_lyingIn, Cond.selects RX1 yX1_lyingIn yX1_lyingIn, Cond.code yX1_lyingIn cX1_lyingIn 4 (some .int), Cond.static yX4_placeIn, Cond.code yX4_placeIn cX4_placeIn 2 (some .int), Cond.methodLink RX1 64 yX1_slotsUnder, Cond.instanceMethod yX1_slotsUnder, Cond.selects RX1 yX1_slotsUnder yX1_slotsUnder, Cond.code yX1_slotsUnder cX1_slotsUnder 6 (some .int), Cond.fieldLink RX1 9 "BedHouse$Plan" "sorts" "[I", Cond.methodLink RX1 70 yJ6_bitCount_0f7a4, Cond.static yJ6_bitCount_0f7a4, Cond.initialized RJ6, Cond.code yJ6_bitCount_0f7a4 cJ6_bitCount_0f7a4 1 (some .int), Cond.constant RJ6 265 (1431655765), Cond.constant RJ6 266 (858993459), Cond.constant RJ6 267 (252645135), Cond.methodLink RX1 75 yX1_isBorne]
def wsX4_nights_r3 : List Cond := [Cond.instanceMethod yX1_isBorne, Cond.selects RX1 yX1_isBorne yX1_isBorne, Cond.code yX1_isBorne cX1_isBorne 3 (some .boolean), Cond.fieldLink RX1 15 "BedHouse$Plan" "beamSlots" "[I", Cond.methodLink RX1 61 yX1_hasBeam, Cond.instanceMethod yX1_hasBeam, Cond.selects RX1 yX1_hasBeam yX1_hasBeam, Cond.code yX1_hasBeam cX1_hasBeam 2 (some .boolean), Cond.methodLink RX2 40 yX2_spread, Cond.instanceMethod yX2_spread, Cond.selects RX2 yX2_spread yX2_spread, Cond.code yX2_spread cX2_spread 6 none, Cond.fieldLink RX2 15 "BedHouse$Search" "far" "[I", Cond.fieldLink RX2 44 "BedHouse$Search" "reached" "I", Cond.methodLink RX2 47 yX2_farTo, Cond.instanceMethod yX2_farTo, Cond.selects RX2 yX2_farTo yX2_farTo, Cond.code yX2_farTo cX2_farTo 2 (some .int), Cond.methodLink RX2 50 yX2_spreadByOneAct, Cond.instanceMethod yX2_spreadByOneAct, Cond.selects RX2 yX2_spreadByOneAct yX2_spreadByOneAct, Cond.code yX2_spreadByOneAct cX2_spreadByOneAct 6 none, Cond.static yX4_moved, Cond.code yX4_moved cX4_moved 3 (some .int)]
def wsX4_nights_r4 : List Cond := [Cond.methodLink RX4 80 yX4_placeIn, Cond.methodLink RX4 228 yX4_unitOf, Cond.methodLink RX2 61 yX2_reach, Cond.instanceMethod yX2_reach, Cond.selects RX2 yX2_reach yX2_reach, Cond.code yX2_reach cX2_reach 3 none, Cond.methodLink RX2 65 yX2_isLawful, Cond.instanceMethod yX2_isLawful, Cond.selects RX2 yX2_isLawful yX2_isLawful, Cond.code yX2_isLawful cX2_isLawful 2 (some .boolean), Cond.methodLink RX2 90 yX2_keepDry, Cond.instanceMethod yX2_keepDry, Cond.selects RX2 yX2_keepDry yX2_keepDry, Cond.code yX2_keepDry cX2_keepDry 4 (some .int), Cond.instanceMethod yX1_leaksOf, Cond.selects RX1 yX1_leaksOf yX1_leaksOf, Cond.code yX1_leaksOf cX1_leaksOf 2 (some .int), Cond.fieldLink RX1 31 "BedHouse$Plan" "rain" "I"]
def wsX4_nights : List Cond := .code yX4_nights cX4_nights 2 (some .int) :: ((wsX4_nights_r1 ++ (wsX4_nights_r2 ++ (wsX4_nights_r3 ++ wsX4_nights_r4))) ++ wsX40 ++ wsX00 ++ wsX20 ++ wsX10)
def wsX4_piano_r1 : List Cond := [Cond.fieldLink RX4 19 "BedHouse" "search" "LBedHouse$Search;", Cond.fieldLink RX4 37 "BedHouse" "plan" "LBedHouse$Plan;", Cond.fieldLink RX4 26 "BedHouse" "present" "LBedHouse$Moment;", Cond.methodLink RX4 84 yX4_isSlot, Cond.static yX4_isSlot, Cond.initialized RX4, Cond.code yX4_isSlot cX4_isSlot 1 (some .boolean), Cond.instanceMethod yX2_actsToEmpty, Cond.initialized RX2, Cond.selects RX2 yX2_actsToEmpty yX2_actsToEmpty, Cond.code yX2_actsToEmpty cX2_actsToEmpty 5 (some .int), Cond.fieldLink RX2 44 "BedHouse$Search" "reached" "I", Cond.fieldLink RX2 19 "BedHouse$Search" "queue" "[I", Cond.methodLink RX2 68 yX2_survey, Cond.instanceMethod yX2_survey, Cond.selects RX2 yX2_survey yX2_survey, Cond.code yX2_survey cX2_survey 4 none, Cond.fieldLink RX2 22 "BedHouse$Search" "surveyed" "Z", Cond.fieldLink RX2 11 "BedHouse$Search" "lawful" "[B", Cond.static yX4_unitOf, Cond.code yX4_unitOf cX4_unitOf 1 (some .int), Cond.instanceMethod yX1_allows, Cond.initialized RX1, Cond.selects RX1 yX1_allows yX1_allows]
def wsX4_piano_r2 : List Cond := [Cond.code yX1_allows cX1_allows 4 (some .boolean), Cond.fieldLink RX1 43 "BedHouse$Plan" "mostLying" "I", Cond.fieldLink RX1 21 "BedHouse$Plan" "panels" "I", Cond.fieldLink RX1 28 "BedHouse$Plan" "beams" "I", Cond.methodLink RX1 67 yX1_lyingIn, Cond.instanceMethod yX1_lyingIn, Cond.selects RX1 yX1_lyingIn yX1_lyingIn, Cond.code yX1_lyingIn cX1_lyingIn 4 (some .int), Cond.static yX4_placeIn, Cond.code yX4_placeIn cX4_placeIn 2 (some .int), Cond.methodLink RX1 64 yX1_slotsUnder, Cond.instanceMethod yX1_slotsUnder, Cond.selects RX1 yX1_slotsUnder yX1_slotsUnder, Cond.code yX1_slotsUnder cX1_slotsUnder 6 (some .int), Cond.fieldLink RX1 9 "BedHouse$Plan" "sorts" "[I", Cond.methodLink RX1 70 yJ6_bitCount_0f7a4, Cond.static yJ6_bitCount_0f7a4, Cond.initialized RJ6, Cond.code yJ6_bitCount_0f7a4 cJ6_bitCount_0f7a4 1 (some .int), Cond.constant RJ6 265 (1431655765), Cond.constant RJ6 266 (858993459), Cond.constant RJ6 267 (252645135), Cond.methodLink RX1 75 yX1_isBorne, Cond.instanceMethod yX1_isBorne]
def wsX4_piano_r3 : List Cond := [Cond.selects RX1 yX1_isBorne yX1_isBorne, Cond.code yX1_isBorne cX1_isBorne 3 (some .boolean), Cond.fieldLink RX1 15 "BedHouse$Plan" "beamSlots" "[I", Cond.methodLink RX1 61 yX1_hasBeam, Cond.instanceMethod yX1_hasBeam, Cond.selects RX1 yX1_hasBeam yX1_hasBeam, Cond.code yX1_hasBeam cX1_hasBeam 2 (some .boolean), Cond.methodLink RX2 72 yX2_spreadFrom, Cond.instanceMethod yX2_spreadFrom, Cond.selects RX2 yX2_spreadFrom yX2_spreadFrom, Cond.code yX2_spreadFrom cX2_spreadFrom 3 none, Cond.methodLink RX2 40 yX2_spread, Cond.instanceMethod yX2_spread, Cond.selects RX2 yX2_spread yX2_spread, Cond.code yX2_spread cX2_spread 6 none, Cond.fieldLink RX2 15 "BedHouse$Search" "far" "[I", Cond.methodLink RX2 47 yX2_farTo, Cond.instanceMethod yX2_farTo, Cond.selects RX2 yX2_farTo yX2_farTo, Cond.code yX2_farTo cX2_farTo 2 (some .int), Cond.methodLink RX2 50 yX2_spreadByOneAct, Cond.instanceMethod yX2_spreadByOneAct, Cond.selects RX2 yX2_spreadByOneAct yX2_spreadByOneAct, Cond.code yX2_spreadByOneAct cX2_spreadByOneAct 6 none]
def wsX4_piano_r4 : List Cond := [Cond.static yX4_moved, Cond.code yX4_moved cX4_moved 3 (some .int), Cond.methodLink RX4 80 yX4_placeIn, Cond.methodLink RX4 228 yX4_unitOf, Cond.methodLink RX2 61 yX2_reach, Cond.instanceMethod yX2_reach, Cond.selects RX2 yX2_reach yX2_reach, Cond.code yX2_reach cX2_reach 3 none, Cond.methodLink RX2 65 yX2_isLawful, Cond.instanceMethod yX2_isLawful, Cond.selects RX2 yX2_isLawful yX2_isLawful, Cond.code yX2_isLawful cX2_isLawful 2 (some .boolean)]
def wsX4_piano : List Cond := .code yX4_piano cX4_piano 2 (some .int) :: ((wsX4_piano_r1 ++ (wsX4_piano_r2 ++ (wsX4_piano_r3 ++ wsX4_piano_r4))) ++ wsX40 ++ wsX00 ++ wsX20 ++ wsX10)
def wsX4_best_r1 : List Cond := [Cond.fieldLink RX4 37 "BedHouse" "plan" "LBedHouse$Plan;", Cond.constant RX4 140 (-1000000), Cond.fieldLink RX4 19 "BedHouse" "search" "LBedHouse$Search;", Cond.instanceMethod yX1_hasPanel, Cond.initialized RX1, Cond.selects RX1 yX1_hasPanel yX1_hasPanel, Cond.code yX1_hasPanel cX1_hasPanel 2 (some .boolean), Cond.fieldLink RX1 21 "BedHouse$Plan" "panels" "I", Cond.fieldLink RX1 9 "BedHouse$Plan" "sorts" "[I", Cond.instanceMethod yX2_bestHome, Cond.initialized RX2, Cond.selects RX2 yX2_bestHome yX2_bestHome, Cond.code yX2_bestHome cX2_bestHome 6 (some .int), Cond.constant RX2 100 (-1000000), Cond.methodLink RX2 68 yX2_survey, Cond.instanceMethod yX2_survey, Cond.selects RX2 yX2_survey yX2_survey, Cond.code yX2_survey cX2_survey 4 none, Cond.fieldLink RX2 22 "BedHouse$Search" "surveyed" "Z", Cond.fieldLink RX2 11 "BedHouse$Search" "lawful" "[B", Cond.static yX4_unitOf, Cond.initialized RX4, Cond.code yX4_unitOf cX4_unitOf 1 (some .int), Cond.instanceMethod yX1_allows]
def wsX4_best_r2 : List Cond := [Cond.selects RX1 yX1_allows yX1_allows, Cond.code yX1_allows cX1_allows 4 (some .boolean), Cond.fieldLink RX1 43 "BedHouse$Plan" "mostLying" "I", Cond.fieldLink RX1 28 "BedHouse$Plan" "beams" "I", Cond.methodLink RX1 67 yX1_lyingIn, Cond.instanceMethod yX1_lyingIn, Cond.selects RX1 yX1_lyingIn yX1_lyingIn, Cond.code yX1_lyingIn cX1_lyingIn 4 (some .int), Cond.static yX4_placeIn, Cond.code yX4_placeIn cX4_placeIn 2 (some .int), Cond.methodLink RX1 64 yX1_slotsUnder, Cond.instanceMethod yX1_slotsUnder, Cond.selects RX1 yX1_slotsUnder yX1_slotsUnder, Cond.code yX1_slotsUnder cX1_slotsUnder 6 (some .int), Cond.methodLink RX1 70 yJ6_bitCount_0f7a4, Cond.static yJ6_bitCount_0f7a4, Cond.initialized RJ6, Cond.code yJ6_bitCount_0f7a4 cJ6_bitCount_0f7a4 1 (some .int), Cond.constant RJ6 265 (1431655765), Cond.constant RJ6 266 (858993459), Cond.constant RJ6 267 (252645135), Cond.methodLink RX1 75 yX1_isBorne, Cond.instanceMethod yX1_isBorne, Cond.selects RX1 yX1_isBorne yX1_isBorne]
def wsX4_best_r3 : List Cond := [Cond.code yX1_isBorne cX1_isBorne 3 (some .boolean), Cond.fieldLink RX1 15 "BedHouse$Plan" "beamSlots" "[I", Cond.methodLink RX1 61 yX1_hasBeam, Cond.instanceMethod yX1_hasBeam, Cond.selects RX1 yX1_hasBeam yX1_hasBeam, Cond.code yX1_hasBeam cX1_hasBeam 2 (some .boolean), Cond.methodLink RX2 65 yX2_isLawful, Cond.instanceMethod yX2_isLawful, Cond.selects RX2 yX2_isLawful yX2_isLawful, Cond.code yX2_isLawful cX2_isLawful 2 (some .boolean), Cond.instanceMethod yX1_worthOf, Cond.selects RX1 yX1_worthOf yX1_worthOf, Cond.code yX1_worthOf cX1_worthOf 3 (some .int), Cond.fieldLink RX1 37 "BedHouse$Plan" "view" "I", Cond.fieldLink RX1 40 "BedHouse$Plan" "noise" "I", Cond.methodLink RX1 79 yX1_litHours, Cond.instanceMethod yX1_litHours, Cond.selects RX1 yX1_litHours yX1_litHours, Cond.code yX1_litHours cX1_litHours 2 (some .int), Cond.fieldLink RX1 34 "BedHouse$Plan" "sun" "I", Cond.methodLink RX1 82 yX1_leaksOf, Cond.instanceMethod yX1_leaksOf, Cond.selects RX1 yX1_leaksOf yX1_leaksOf, Cond.code yX1_leaksOf cX1_leaksOf 2 (some .int)]
def wsX4_best_r4 : List Cond := [Cond.fieldLink RX1 31 "BedHouse$Plan" "rain" "I", Cond.methodLink RX1 85 yX1_quietIn, Cond.instanceMethod yX1_quietIn, Cond.selects RX1 yX1_quietIn yX1_quietIn, Cond.code yX1_quietIn cX1_quietIn 2 (some .int), Cond.methodLink RX4 80 yX4_placeIn]
def wsX4_best : List Cond := .code yX4_best cX4_best 3 (some .int) :: ((wsX4_best_r1 ++ (wsX4_best_r2 ++ (wsX4_best_r3 ++ wsX4_best_r4))) ++ wsX40 ++ wsX10 ++ wsX20)
def wsX4_clue : List Cond := .code yX4_clue cX4_clue 3 (some .int) :: ([.fieldLink RX4 26 "BedHouse" "present" "LBedHouse$Moment;", .methodLink RX4 84 yX4_isSlot, .static yX4_isSlot, .initialized RX4, .code yX4_isSlot cX4_isSlot 1 (some .boolean)] ++ wsX40 ++ wsX00)
def wsX4_fit_r1 : List Cond := [Cond.fieldLink RX4 19 "BedHouse" "search" "LBedHouse$Search;", Cond.fieldLink RX4 37 "BedHouse" "plan" "LBedHouse$Plan;", Cond.fieldLink RX4 26 "BedHouse" "present" "LBedHouse$Moment;", Cond.instanceMethod yX2_countFitting, Cond.initialized RX2, Cond.selects RX2 yX2_countFitting yX2_countFitting, Cond.code yX2_countFitting cX2_countFitting 5 (some .int), Cond.methodLink RX2 68 yX2_survey, Cond.instanceMethod yX2_survey, Cond.selects RX2 yX2_survey yX2_survey, Cond.code yX2_survey cX2_survey 4 none, Cond.fieldLink RX2 22 "BedHouse$Search" "surveyed" "Z", Cond.fieldLink RX2 11 "BedHouse$Search" "lawful" "[B", Cond.static yX4_unitOf, Cond.initialized RX4, Cond.code yX4_unitOf cX4_unitOf 1 (some .int), Cond.instanceMethod yX1_allows, Cond.initialized RX1, Cond.selects RX1 yX1_allows yX1_allows, Cond.code yX1_allows cX1_allows 4 (some .boolean), Cond.fieldLink RX1 43 "BedHouse$Plan" "mostLying" "I", Cond.fieldLink RX1 21 "BedHouse$Plan" "panels" "I", Cond.fieldLink RX1 28 "BedHouse$Plan" "beams" "I", Cond.methodLink RX1 67 yX1_lyingIn]
def wsX4_fit_r2 : List Cond := [Cond.instanceMethod yX1_lyingIn, Cond.selects RX1 yX1_lyingIn yX1_lyingIn, Cond.code yX1_lyingIn cX1_lyingIn 4 (some .int), Cond.static yX4_placeIn, Cond.code yX4_placeIn cX4_placeIn 2 (some .int), Cond.methodLink RX1 64 yX1_slotsUnder, Cond.instanceMethod yX1_slotsUnder, Cond.selects RX1 yX1_slotsUnder yX1_slotsUnder, Cond.code yX1_slotsUnder cX1_slotsUnder 6 (some .int), Cond.fieldLink RX1 9 "BedHouse$Plan" "sorts" "[I", Cond.methodLink RX1 70 yJ6_bitCount_0f7a4, Cond.static yJ6_bitCount_0f7a4, Cond.initialized RJ6, Cond.code yJ6_bitCount_0f7a4 cJ6_bitCount_0f7a4 1 (some .int), Cond.constant RJ6 265 (1431655765), Cond.constant RJ6 266 (858993459), Cond.constant RJ6 267 (252645135), Cond.methodLink RX1 75 yX1_isBorne, Cond.instanceMethod yX1_isBorne, Cond.selects RX1 yX1_isBorne yX1_isBorne, Cond.code yX1_isBorne cX1_isBorne 3 (some .boolean), Cond.fieldLink RX1 15 "BedHouse$Plan" "beamSlots" "[I", Cond.methodLink RX1 61 yX1_hasBeam, Cond.instanceMethod yX1_hasBeam]
def wsX4_fit_r3 : List Cond := [Cond.selects RX1 yX1_hasBeam yX1_hasBeam, Cond.code yX1_hasBeam cX1_hasBeam 2 (some .boolean), Cond.methodLink RX2 65 yX2_isLawful, Cond.instanceMethod yX2_isLawful, Cond.selects RX2 yX2_isLawful yX2_isLawful, Cond.code yX2_isLawful cX2_isLawful 2 (some .boolean), Cond.instanceMethod yX1_fitsLetter, Cond.selects RX1 yX1_fitsLetter yX1_fitsLetter, Cond.code yX1_fitsLetter cX1_fitsLetter 4 (some .boolean), Cond.methodLink RX1 79 yX1_litHours, Cond.instanceMethod yX1_litHours, Cond.selects RX1 yX1_litHours yX1_litHours, Cond.code yX1_litHours cX1_litHours 2 (some .int), Cond.fieldLink RX1 34 "BedHouse$Plan" "sun" "I"]
def wsX4_fit : List Cond := .code yX4_fit cX4_fit 1 (some .int) :: ((wsX4_fit_r1 ++ (wsX4_fit_r2 ++ wsX4_fit_r3)) ++ wsX40 ++ wsX20 ++ wsX10 ++ wsX00)
def wsX4_sure_r1 : List Cond := [Cond.fieldLink RX4 37 "BedHouse" "plan" "LBedHouse$Plan;", Cond.fieldLink RX4 19 "BedHouse" "search" "LBedHouse$Search;", Cond.fieldLink RX4 26 "BedHouse" "present" "LBedHouse$Moment;", Cond.instanceMethod yX1_hasPanel, Cond.initialized RX1, Cond.selects RX1 yX1_hasPanel yX1_hasPanel, Cond.code yX1_hasPanel cX1_hasPanel 2 (some .boolean), Cond.fieldLink RX1 21 "BedHouse$Plan" "panels" "I", Cond.fieldLink RX1 9 "BedHouse$Plan" "sorts" "[I", Cond.instanceMethod yX2_surePlace, Cond.initialized RX2, Cond.selects RX2 yX2_surePlace yX2_surePlace, Cond.code yX2_surePlace cX2_surePlace 7 (some .int), Cond.methodLink RX2 68 yX2_survey, Cond.instanceMethod yX2_survey, Cond.selects RX2 yX2_survey yX2_survey, Cond.code yX2_survey cX2_survey 4 none, Cond.fieldLink RX2 22 "BedHouse$Search" "surveyed" "Z", Cond.fieldLink RX2 11 "BedHouse$Search" "lawful" "[B", Cond.static yX4_unitOf, Cond.initialized RX4, Cond.code yX4_unitOf cX4_unitOf 1 (some .int), Cond.instanceMethod yX1_allows, Cond.selects RX1 yX1_allows yX1_allows]
def wsX4_sure_r2 : List Cond := [Cond.code yX1_allows cX1_allows 4 (some .boolean), Cond.fieldLink RX1 43 "BedHouse$Plan" "mostLying" "I", Cond.fieldLink RX1 28 "BedHouse$Plan" "beams" "I", Cond.methodLink RX1 67 yX1_lyingIn, Cond.instanceMethod yX1_lyingIn, Cond.selects RX1 yX1_lyingIn yX1_lyingIn, Cond.code yX1_lyingIn cX1_lyingIn 4 (some .int), Cond.static yX4_placeIn, Cond.code yX4_placeIn cX4_placeIn 2 (some .int), Cond.methodLink RX1 64 yX1_slotsUnder, Cond.instanceMethod yX1_slotsUnder, Cond.selects RX1 yX1_slotsUnder yX1_slotsUnder, Cond.code yX1_slotsUnder cX1_slotsUnder 6 (some .int), Cond.methodLink RX1 70 yJ6_bitCount_0f7a4, Cond.static yJ6_bitCount_0f7a4, Cond.initialized RJ6, Cond.code yJ6_bitCount_0f7a4 cJ6_bitCount_0f7a4 1 (some .int), Cond.constant RJ6 265 (1431655765), Cond.constant RJ6 266 (858993459), Cond.constant RJ6 267 (252645135), Cond.methodLink RX1 75 yX1_isBorne, Cond.instanceMethod yX1_isBorne, Cond.selects RX1 yX1_isBorne yX1_isBorne, Cond.code yX1_isBorne cX1_isBorne 3 (some .boolean)]
def wsX4_sure_r3 : List Cond := [Cond.fieldLink RX1 15 "BedHouse$Plan" "beamSlots" "[I", Cond.methodLink RX1 61 yX1_hasBeam, Cond.instanceMethod yX1_hasBeam, Cond.selects RX1 yX1_hasBeam yX1_hasBeam, Cond.code yX1_hasBeam cX1_hasBeam 2 (some .boolean), Cond.methodLink RX2 65 yX2_isLawful, Cond.instanceMethod yX2_isLawful, Cond.selects RX2 yX2_isLawful yX2_isLawful, Cond.code yX2_isLawful cX2_isLawful 2 (some .boolean), Cond.instanceMethod yX1_fitsLetter, Cond.selects RX1 yX1_fitsLetter yX1_fitsLetter, Cond.code yX1_fitsLetter cX1_fitsLetter 4 (some .boolean), Cond.methodLink RX1 79 yX1_litHours, Cond.instanceMethod yX1_litHours, Cond.selects RX1 yX1_litHours yX1_litHours, Cond.code yX1_litHours cX1_litHours 2 (some .int), Cond.fieldLink RX1 34 "BedHouse$Plan" "sun" "I"]
def wsX4_sure : List Cond := .code yX4_sure cX4_sure 2 (some .int) :: ((wsX4_sure_r1 ++ (wsX4_sure_r2 ++ wsX4_sure_r3)) ++ wsX40 ++ wsX10 ++ wsX20 ++ wsX00)
def wsX4_forget : List Cond := .code yX4_forget cX4_forget 2 (some .int) :: ([.fieldLink RX4 26 "BedHouse" "present" "LBedHouse$Moment;"] ++ wsX40 ++ wsX00)
def wsX4_markOfPanel : List Cond := .code yX4_markOfPanel cX4_markOfPanel 2 (some .int) :: ([.fieldLink RX4 210 "BedHouse" "traced" "J", .fieldLink RX4 26 "BedHouse" "present" "LBedHouse$Moment;", .methodLink RX4 80 yX4_placeIn, .static yX4_placeIn, .initialized RX4, .code yX4_placeIn cX4_placeIn 2 (some .int)] ++ wsX40 ++ wsX00)
def wsX4_markOfBearing : List Cond := .code yX4_markOfBearing cX4_markOfBearing 2 (some .int) :: ([.fieldLink RX4 210 "BedHouse" "traced" "J", .constantLong RX4 218 (10), .methodLink RX4 179 yX4_markOfPanel, .instanceMethod yX4_markOfPanel, .selects RX4 yX4_markOfPanel yX4_markOfPanel, .initialized RX4, .code yX4_markOfPanel cX4_markOfPanel 2 (some .int), .fieldLink RX4 26 "BedHouse" "present" "LBedHouse$Moment;", .methodLink RX4 80 yX4_placeIn, .static yX4_placeIn, .code yX4_placeIn cX4_placeIn 2 (some .int)] ++ wsX40 ++ wsX00)
def wsX4_markOfLight : List Cond := .code yX4_markOfLight cX4_markOfLight 2 (some .int) :: ([.fieldLink RX4 210 "BedHouse" "traced" "J", .constantLong RX4 220 (100), .fieldLink RX4 37 "BedHouse" "plan" "LBedHouse$Plan;", .methodLink RX4 179 yX4_markOfPanel, .instanceMethod yX4_markOfPanel, .selects RX4 yX4_markOfPanel yX4_markOfPanel, .initialized RX4, .code yX4_markOfPanel cX4_markOfPanel 2 (some .int), .fieldLink RX4 26 "BedHouse" "present" "LBedHouse$Moment;", .methodLink RX4 80 yX4_placeIn, .static yX4_placeIn, .code yX4_placeIn cX4_placeIn 2 (some .int), .instanceMethod yX1_sortOf, .initialized RX1, .selects RX1 yX1_sortOf yX1_sortOf, .code yX1_sortOf cX1_sortOf 2 (some .int), .fieldLink RX1 9 "BedHouse$Plan" "sorts" "[I", .methodLink RX1 53 yX1_hasPanel, .instanceMethod yX1_hasPanel, .selects RX1 yX1_hasPanel yX1_hasPanel, .code yX1_hasPanel cX1_hasPanel 2 (some .boolean), .fieldLink RX1 21 "BedHouse$Plan" "panels" "I"] ++ wsX40 ++ wsX00 ++ wsX10)
def wsX4_markOfOld : List Cond := .code yX4_markOfOld cX4_markOfOld 2 (some .int) :: ([.fieldLink RX4 210 "BedHouse" "traced" "J", .constantLong RX4 222 (1000), .fieldLink RX4 26 "BedHouse" "present" "LBedHouse$Moment;", .methodLink RX4 182 yX4_markOfBearing, .instanceMethod yX4_markOfBearing, .selects RX4 yX4_markOfBearing yX4_markOfBearing, .initialized RX4, .code yX4_markOfBearing cX4_markOfBearing 2 (some .int), .constantLong RX4 218 (10), .methodLink RX4 179 yX4_markOfPanel, .instanceMethod yX4_markOfPanel, .selects RX4 yX4_markOfPanel yX4_markOfPanel, .code yX4_markOfPanel cX4_markOfPanel 2 (some .int), .methodLink RX4 80 yX4_placeIn, .static yX4_placeIn, .code yX4_placeIn cX4_placeIn 2 (some .int)] ++ wsX40 ++ wsX00)
def wsX4_markOfClear_r1 : List Cond := [Cond.fieldLink RX4 210 "BedHouse" "traced" "J", Cond.constantLong RX4 224 (10000), Cond.fieldLink RX4 37 "BedHouse" "plan" "LBedHouse$Plan;", Cond.fieldLink RX4 26 "BedHouse" "present" "LBedHouse$Moment;", Cond.methodLink RX4 185 yX4_markOfLight, Cond.instanceMethod yX4_markOfLight, Cond.selects RX4 yX4_markOfLight yX4_markOfLight, Cond.initialized RX4, Cond.code yX4_markOfLight cX4_markOfLight 2 (some .int), Cond.constantLong RX4 220 (100), Cond.methodLink RX4 179 yX4_markOfPanel, Cond.instanceMethod yX4_markOfPanel, Cond.selects RX4 yX4_markOfPanel yX4_markOfPanel, Cond.code yX4_markOfPanel cX4_markOfPanel 2 (some .int), Cond.methodLink RX4 80 yX4_placeIn, Cond.static yX4_placeIn, Cond.code yX4_placeIn cX4_placeIn 2 (some .int), Cond.instanceMethod yX1_sortOf, Cond.initialized RX1, Cond.selects RX1 yX1_sortOf yX1_sortOf, Cond.code yX1_sortOf cX1_sortOf 2 (some .int), Cond.fieldLink RX1 9 "BedHouse$Plan" "sorts" "[I", Cond.methodLink RX1 53 yX1_hasPanel, Cond.instanceMethod yX1_hasPanel]
def wsX4_markOfClear_r2 : List Cond := [Cond.selects RX1 yX1_hasPanel yX1_hasPanel, Cond.code yX1_hasPanel cX1_hasPanel 2 (some .boolean), Cond.fieldLink RX1 21 "BedHouse$Plan" "panels" "I", Cond.instanceMethod yX1_lyingIn, Cond.selects RX1 yX1_lyingIn yX1_lyingIn, Cond.code yX1_lyingIn cX1_lyingIn 4 (some .int)]
def wsX4_markOfClear : List Cond := .code yX4_markOfClear cX4_markOfClear 2 (some .int) :: ((wsX4_markOfClear_r1 ++ wsX4_markOfClear_r2) ++ wsX40 ++ wsX00 ++ wsX10)
def wsX4_markOfNeighbours : List Cond := .code yX4_markOfNeighbours cX4_markOfNeighbours 2 (some .int) :: ([.fieldLink RX4 210 "BedHouse" "traced" "J", .constantLong RX4 226 (100000), .methodLink RX4 179 yX4_markOfPanel, .instanceMethod yX4_markOfPanel, .selects RX4 yX4_markOfPanel yX4_markOfPanel, .initialized RX4, .code yX4_markOfPanel cX4_markOfPanel 2 (some .int), .fieldLink RX4 26 "BedHouse" "present" "LBedHouse$Moment;", .methodLink RX4 80 yX4_placeIn, .static yX4_placeIn, .code yX4_placeIn cX4_placeIn 2 (some .int)] ++ wsX40 ++ wsX00)
def wsX4_mark_r1 : List Cond := [Cond.fieldLink RX4 37 "BedHouse" "plan" "LBedHouse$Plan;", Cond.constant RX4 140 (-1000000), Cond.instanceMethod yX1_hasPanel, Cond.initialized RX1, Cond.selects RX1 yX1_hasPanel yX1_hasPanel, Cond.code yX1_hasPanel cX1_hasPanel 2 (some .boolean), Cond.fieldLink RX1 21 "BedHouse$Plan" "panels" "I", Cond.fieldLink RX1 9 "BedHouse$Plan" "sorts" "[I", Cond.methodLink RX4 179 yX4_markOfPanel, Cond.instanceMethod yX4_markOfPanel, Cond.selects RX4 yX4_markOfPanel yX4_markOfPanel, Cond.initialized RX4, Cond.code yX4_markOfPanel cX4_markOfPanel 2 (some .int), Cond.fieldLink RX4 210 "BedHouse" "traced" "J", Cond.fieldLink RX4 26 "BedHouse" "present" "LBedHouse$Moment;", Cond.methodLink RX4 80 yX4_placeIn, Cond.static yX4_placeIn, Cond.code yX4_placeIn cX4_placeIn 2 (some .int), Cond.methodLink RX4 182 yX4_markOfBearing, Cond.instanceMethod yX4_markOfBearing, Cond.selects RX4 yX4_markOfBearing yX4_markOfBearing, Cond.code yX4_markOfBearing cX4_markOfBearing 2 (some .int), Cond.constantLong RX4 218 (10), Cond.methodLink RX4 185 yX4_markOfLight]
def wsX4_mark_r2 : List Cond := [Cond.instanceMethod yX4_markOfLight, Cond.selects RX4 yX4_markOfLight yX4_markOfLight, Cond.code yX4_markOfLight cX4_markOfLight 2 (some .int), Cond.constantLong RX4 220 (100), Cond.instanceMethod yX1_sortOf, Cond.selects RX1 yX1_sortOf yX1_sortOf, Cond.code yX1_sortOf cX1_sortOf 2 (some .int), Cond.methodLink RX1 53 yX1_hasPanel, Cond.methodLink RX4 188 yX4_markOfOld, Cond.instanceMethod yX4_markOfOld, Cond.selects RX4 yX4_markOfOld yX4_markOfOld, Cond.code yX4_markOfOld cX4_markOfOld 2 (some .int), Cond.constantLong RX4 222 (1000), Cond.methodLink RX4 191 yX4_markOfClear, Cond.instanceMethod yX4_markOfClear, Cond.selects RX4 yX4_markOfClear yX4_markOfClear, Cond.code yX4_markOfClear cX4_markOfClear 2 (some .int), Cond.constantLong RX4 224 (10000), Cond.instanceMethod yX1_lyingIn, Cond.selects RX1 yX1_lyingIn yX1_lyingIn, Cond.code yX1_lyingIn cX1_lyingIn 4 (some .int), Cond.methodLink RX4 194 yX4_markOfNeighbours, Cond.instanceMethod yX4_markOfNeighbours, Cond.selects RX4 yX4_markOfNeighbours yX4_markOfNeighbours]
def wsX4_mark_r3 : List Cond := [Cond.code yX4_markOfNeighbours cX4_markOfNeighbours 2 (some .int), Cond.constantLong RX4 226 (100000)]
def wsX4_mark : List Cond := .code yX4_mark cX4_mark 3 (some .int) :: ((wsX4_mark_r1 ++ (wsX4_mark_r2 ++ wsX4_mark_r3)) ++ wsX40 ++ wsX10 ++ wsX00)
def wsX4_keep : List Cond := .code yX4_keep cX4_keep 2 (some .int) :: ([.fieldLink RX4 30 "BedHouse" "images" "[LBedHouse$Moment;", .fieldLink RX4 26 "BedHouse" "present" "LBedHouse$Moment;", .methodLink RX4 144 yX4_isImage, .instanceMethod yX4_isImage, .selects RX4 yX4_isImage yX4_isImage, .initialized RX4, .code yX4_isImage cX4_isImage 2 (some .boolean), .instanceMethod yX0_copyFrom, .initialized RX0, .selects RX0 yX0_copyFrom yX0_copyFrom, .code yX0_copyFrom cX0_copyFrom 2 none, .fieldLink RX0 7 "BedHouse$Moment" "home" "I", .fieldLink RX0 13 "BedHouse$Moment" "day" "I", .fieldLink RX0 16 "BedHouse$Moment" "acts" "I", .fieldLink RX0 19 "BedHouse$Moment" "leaks" "I", .fieldLink RX0 22 "BedHouse$Moment" "clues" "I", .fieldLink RX0 25 "BedHouse$Moment" "litHours" "I", .fieldLink RX0 28 "BedHouse$Moment" "darkHours" "I"] ++ wsX40 ++ wsX00)
def wsX4_back : List Cond := .code yX4_back cX4_back 2 (some .int) :: ([.fieldLink RX4 30 "BedHouse" "images" "[LBedHouse$Moment;", .fieldLink RX4 26 "BedHouse" "present" "LBedHouse$Moment;", .methodLink RX4 144 yX4_isImage, .instanceMethod yX4_isImage, .selects RX4 yX4_isImage yX4_isImage, .initialized RX4, .code yX4_isImage cX4_isImage 2 (some .boolean), .instanceMethod yX0_copyFrom, .initialized RX0, .selects RX0 yX0_copyFrom yX0_copyFrom, .code yX0_copyFrom cX0_copyFrom 2 none, .fieldLink RX0 7 "BedHouse$Moment" "home" "I", .fieldLink RX0 13 "BedHouse$Moment" "day" "I", .fieldLink RX0 16 "BedHouse$Moment" "acts" "I", .fieldLink RX0 19 "BedHouse$Moment" "leaks" "I", .fieldLink RX0 22 "BedHouse$Moment" "clues" "I", .fieldLink RX0 25 "BedHouse$Moment" "litHours" "I", .fieldLink RX0 28 "BedHouse$Moment" "darkHours" "I"] ++ wsX40 ++ wsX00)
def wsX4_count : List Cond := .code yX4_count cX4_count 2 (some .int) :: ([.fieldLink RX4 37 "BedHouse" "plan" "LBedHouse$Plan;", .fieldLink RX4 26 "BedHouse" "present" "LBedHouse$Moment;", .fieldLink RX4 12 "BedHouse" "text" "LBedHouse$Text;", .instanceMethod yX1_lyingIn, .initialized RX1, .selects RX1 yX1_lyingIn yX1_lyingIn, .code yX1_lyingIn cX1_lyingIn 4 (some .int), .fieldLink RX1 21 "BedHouse$Plan" "panels" "I", .static yX4_placeIn, .initialized RX4, .code yX4_placeIn cX4_placeIn 2 (some .int)] ++ wsX40 ++ wsX10 ++ wsX00 ++ wsX30)
def wsX4_trace : List Cond := .code yX4_trace cX4_trace 1 (some .long) :: ([.fieldLink RX4 210 "BedHouse" "traced" "J"] ++ wsX40)
def wsX5_begin : List Cond := .code yX5_begin cX5_begin 2 none :: ([.fieldLink RX5 13 "BedHouseModel" "plan" "[I"] ++ wsX50)
def wsX5_init : List Cond := .code yX5_init cX5_init 1 none :: ([.methodLink RX5 1 objectInit, .instanceMethod objectInit, .code objectInit ⟨#[0xb1]⟩ 1 none, .arrayClass .byte, .fieldLink RX5 7 "BedHouseModel" "text" "[B", .arrayClass .int, .fieldLink RX5 13 "BedHouseModel" "plan" "[I", .fieldLink RX5 17 "BedHouseModel" "sorts" "[I", .fieldLink RX5 20 "BedHouseModel" "at0" "[I", .fieldLink RX5 23 "BedHouseModel" "beams" "[I", .fieldLink RX5 26 "BedHouseModel" "now" "[I", .arrayClass .boolean, .fieldLink RX5 29 "BedHouseModel" "isKept" "[Z", .fieldLink RX5 33 "BedHouseModel" "off" "[I", .fieldLink RX5 36 "BedHouseModel" "reached" "[I", .fieldLink RX5 39 "BedHouseModel" "isSlept" "[Z", .methodLink RX5 42 yX5_begin, .instanceMethod yX5_begin, .selects RX5 yX5_begin yX5_begin, .initialized RX5, .code yX5_begin cX5_begin 2 none] ++ wsX50)
def wsX5_in : List Cond := .code yX5_in cX5_in 3 (some .boolean) :: ([])
def wsX5_type : List Cond := .code yX5_type cX5_type 5 (some .int) :: ([.fieldLink RX5 50 "BedHouseModel" "typed" "I", .fieldLink RX5 7 "BedHouseModel" "text" "[B", .constantLong RX5 54 (255), .methodLink RX5 46 yX5_in, .static yX5_in, .initialized RX5, .code yX5_in cX5_in 3 (some .boolean)] ++ wsX50)
def wsX5_clear : List Cond := .code yX5_clear cX5_clear 2 (some .int) :: ([.fieldLink RX5 50 "BedHouseModel" "typed" "I"] ++ wsX50)
def wsX5_here : List Cond := .code yX5_here cX5_here 1 (some .int) :: ([.fieldLink RX5 56 "BedHouseModel" "at" "I", .fieldLink RX5 50 "BedHouseModel" "typed" "I", .fieldLink RX5 7 "BedHouseModel" "text" "[B"] ++ wsX50)
def wsX5_meaning : List Cond := .code yX5_meaning cX5_meaning 1 (some .int) :: ([])
def wsX5_next : List Cond := .code yX5_next cX5_next 5 none :: ([.fieldLink RX5 56 "BedHouseModel" "at" "I", .fieldLink RX5 63 "BedHouseModel" "start" "I", .fieldLink RX5 66 "BedHouseModel" "value" "I", .fieldLink RX5 69 "BedHouseModel" "sort" "I", .constant RX5 76 (54575892), .methodLink RX5 59 yX5_here, .instanceMethod yX5_here, .selects RX5 yX5_here yX5_here, .initialized RX5, .code yX5_here cX5_here 1 (some .int), .fieldLink RX5 50 "BedHouseModel" "typed" "I", .fieldLink RX5 7 "BedHouseModel" "text" "[B", .methodLink RX5 46 yX5_in, .static yX5_in, .code yX5_in cX5_in 3 (some .boolean), .methodLink RX5 72 yX5_meaning, .static yX5_meaning, .code yX5_meaning cX5_meaning 1 (some .int)] ++ wsX50)
def wsX5_due : List Cond := .code yX5_due cX5_due 3 (some .int) :: ([.fieldLink RX5 66 "BedHouseModel" "value" "I", .fieldLink RX5 77 "BedHouseModel" "fault" "I", .fieldLink RX5 63 "BedHouseModel" "start" "I", .methodLink RX5 80 yX5_next, .instanceMethod yX5_next, .selects RX5 yX5_next yX5_next, .initialized RX5, .code yX5_next cX5_next 5 none, .fieldLink RX5 56 "BedHouseModel" "at" "I", .fieldLink RX5 69 "BedHouseModel" "sort" "I", .constant RX5 76 (54575892), .methodLink RX5 59 yX5_here, .instanceMethod yX5_here, .selects RX5 yX5_here yX5_here, .code yX5_here cX5_here 1 (some .int), .fieldLink RX5 50 "BedHouseModel" "typed" "I", .fieldLink RX5 7 "BedHouseModel" "text" "[B", .methodLink RX5 46 yX5_in, .static yX5_in, .code yX5_in cX5_in 3 (some .boolean), .methodLink RX5 72 yX5_meaning, .static yX5_meaning, .code yX5_meaning cX5_meaning 1 (some .int)] ++ wsX50)
def wsX5_number_r1 : List Cond := [Cond.fieldLink RX5 69 "BedHouseModel" "sort" "I", Cond.fieldLink RX5 66 "BedHouseModel" "value" "I", Cond.methodLink RX5 46 yX5_in, Cond.static yX5_in, Cond.initialized RX5, Cond.code yX5_in cX5_in 3 (some .boolean), Cond.methodLink RX5 83 yX5_due, Cond.instanceMethod yX5_due, Cond.selects RX5 yX5_due yX5_due, Cond.code yX5_due cX5_due 3 (some .int), Cond.fieldLink RX5 77 "BedHouseModel" "fault" "I", Cond.fieldLink RX5 63 "BedHouseModel" "start" "I", Cond.methodLink RX5 80 yX5_next, Cond.instanceMethod yX5_next, Cond.selects RX5 yX5_next yX5_next, Cond.code yX5_next cX5_next 5 none, Cond.fieldLink RX5 56 "BedHouseModel" "at" "I", Cond.constant RX5 76 (54575892), Cond.methodLink RX5 59 yX5_here, Cond.instanceMethod yX5_here, Cond.selects RX5 yX5_here yX5_here, Cond.code yX5_here cX5_here 1 (some .int), Cond.fieldLink RX5 50 "BedHouseModel" "typed" "I", Cond.fieldLink RX5 7 "BedHouseModel" "text" "[B"]
def wsX5_number_r2 : List Cond := [Cond.methodLink RX5 72 yX5_meaning, Cond.static yX5_meaning, Cond.code yX5_meaning cX5_meaning 1 (some .int)]
def wsX5_number : List Cond := .code yX5_number cX5_number 3 (some .int) :: ((wsX5_number_r1 ++ wsX5_number_r2) ++ wsX50)
def wsX5_stands : List Cond := .code yX5_stands cX5_stands 4 (some .boolean) :: ([.fieldLink RX5 13 "BedHouseModel" "plan" "[I", .fieldLink RX5 20 "BedHouseModel" "at0" "[I"] ++ wsX50)
def wsX5_round_r1 : List Cond := [Cond.fieldLink RX5 77 "BedHouseModel" "fault" "I", Cond.methodLink RX5 87 yX5_number, Cond.instanceMethod yX5_number, Cond.selects RX5 yX5_number yX5_number, Cond.initialized RX5, Cond.code yX5_number cX5_number 3 (some .int), Cond.fieldLink RX5 69 "BedHouseModel" "sort" "I", Cond.fieldLink RX5 66 "BedHouseModel" "value" "I", Cond.methodLink RX5 46 yX5_in, Cond.static yX5_in, Cond.code yX5_in cX5_in 3 (some .boolean), Cond.methodLink RX5 83 yX5_due, Cond.instanceMethod yX5_due, Cond.selects RX5 yX5_due yX5_due, Cond.code yX5_due cX5_due 3 (some .int), Cond.fieldLink RX5 63 "BedHouseModel" "start" "I", Cond.methodLink RX5 80 yX5_next, Cond.instanceMethod yX5_next, Cond.selects RX5 yX5_next yX5_next, Cond.code yX5_next cX5_next 5 none, Cond.fieldLink RX5 56 "BedHouseModel" "at" "I", Cond.constant RX5 76 (54575892), Cond.methodLink RX5 59 yX5_here, Cond.instanceMethod yX5_here]
def wsX5_round_r2 : List Cond := [Cond.selects RX5 yX5_here yX5_here, Cond.code yX5_here cX5_here 1 (some .int), Cond.fieldLink RX5 50 "BedHouseModel" "typed" "I", Cond.fieldLink RX5 7 "BedHouseModel" "text" "[B", Cond.methodLink RX5 72 yX5_meaning, Cond.static yX5_meaning, Cond.code yX5_meaning cX5_meaning 1 (some .int)]
def wsX5_round : List Cond := .code yX5_round cX5_round 5 (some .int) :: ((wsX5_round_r1 ++ wsX5_round_r2) ++ wsX50)
def wsX5_mayItem : List Cond := .code yX5_mayItem cX5_mayItem 2 (some .boolean) :: ([.fieldLink RX5 13 "BedHouseModel" "plan" "[I", .fieldLink RX5 91 "BedHouseModel" "told" "I"] ++ wsX50)
def wsX5_readItem_r1 : List Cond := [Cond.fieldLink RX5 69 "BedHouseModel" "sort" "I", Cond.fieldLink RX5 77 "BedHouseModel" "fault" "I", Cond.fieldLink RX5 91 "BedHouseModel" "told" "I", Cond.fieldLink RX5 13 "BedHouseModel" "plan" "[I", Cond.fieldLink RX5 17 "BedHouseModel" "sorts" "[I", Cond.fieldLink RX5 66 "BedHouseModel" "value" "I", Cond.fieldLink RX5 20 "BedHouseModel" "at0" "[I", Cond.fieldLink RX5 23 "BedHouseModel" "beams" "[I", Cond.methodLink RX5 94 yX5_mayItem, Cond.instanceMethod yX5_mayItem, Cond.selects RX5 yX5_mayItem yX5_mayItem, Cond.initialized RX5, Cond.code yX5_mayItem cX5_mayItem 2 (some .boolean), Cond.methodLink RX5 83 yX5_due, Cond.instanceMethod yX5_due, Cond.selects RX5 yX5_due yX5_due, Cond.code yX5_due cX5_due 3 (some .int), Cond.fieldLink RX5 63 "BedHouseModel" "start" "I", Cond.methodLink RX5 80 yX5_next, Cond.instanceMethod yX5_next, Cond.selects RX5 yX5_next yX5_next, Cond.code yX5_next cX5_next 5 none, Cond.fieldLink RX5 56 "BedHouseModel" "at" "I", Cond.constant RX5 76 (54575892)]
def wsX5_readItem_r2 : List Cond := [Cond.methodLink RX5 59 yX5_here, Cond.instanceMethod yX5_here, Cond.selects RX5 yX5_here yX5_here, Cond.code yX5_here cX5_here 1 (some .int), Cond.fieldLink RX5 50 "BedHouseModel" "typed" "I", Cond.fieldLink RX5 7 "BedHouseModel" "text" "[B", Cond.methodLink RX5 46 yX5_in, Cond.static yX5_in, Cond.code yX5_in cX5_in 3 (some .boolean), Cond.methodLink RX5 72 yX5_meaning, Cond.static yX5_meaning, Cond.code yX5_meaning cX5_meaning 1 (some .int), Cond.methodLink RX5 98 yX5_stands, Cond.instanceMethod yX5_stands, Cond.selects RX5 yX5_stands yX5_stands, Cond.code yX5_stands cX5_stands 4 (some .boolean), Cond.methodLink RX5 101 yX5_round, Cond.instanceMethod yX5_round, Cond.selects RX5 yX5_round yX5_round, Cond.code yX5_round cX5_round 5 (some .int), Cond.methodLink RX5 87 yX5_number, Cond.instanceMethod yX5_number, Cond.selects RX5 yX5_number yX5_number, Cond.code yX5_number cX5_number 3 (some .int)]
def wsX5_readItem : List Cond := .code yX5_readItem cX5_readItem 4 none :: ((wsX5_readItem_r1 ++ wsX5_readItem_r2) ++ wsX50)
def wsX5_house_r1 : List Cond := [Cond.fieldLink RX5 56 "BedHouseModel" "at" "I", Cond.fieldLink RX5 77 "BedHouseModel" "fault" "I", Cond.fieldLink RX5 91 "BedHouseModel" "told" "I", Cond.fieldLink RX5 69 "BedHouseModel" "sort" "I", Cond.fieldLink RX5 13 "BedHouseModel" "plan" "[I", Cond.fieldLink RX5 17 "BedHouseModel" "sorts" "[I", Cond.fieldLink RX5 20 "BedHouseModel" "at0" "[I", Cond.fieldLink RX5 23 "BedHouseModel" "beams" "[I", Cond.fieldLink RX5 26 "BedHouseModel" "now" "[I", Cond.fieldLink RX5 29 "BedHouseModel" "isKept" "[Z", Cond.fieldLink RX5 50 "BedHouseModel" "typed" "I", Cond.methodLink RX5 42 yX5_begin, Cond.instanceMethod yX5_begin, Cond.selects RX5 yX5_begin yX5_begin, Cond.initialized RX5, Cond.code yX5_begin cX5_begin 2 none, Cond.methodLink RX5 80 yX5_next, Cond.instanceMethod yX5_next, Cond.selects RX5 yX5_next yX5_next, Cond.code yX5_next cX5_next 5 none, Cond.fieldLink RX5 63 "BedHouseModel" "start" "I", Cond.fieldLink RX5 66 "BedHouseModel" "value" "I", Cond.constant RX5 76 (54575892), Cond.methodLink RX5 59 yX5_here]
def wsX5_house_r2 : List Cond := [Cond.instanceMethod yX5_here, Cond.selects RX5 yX5_here yX5_here, Cond.code yX5_here cX5_here 1 (some .int), Cond.fieldLink RX5 7 "BedHouseModel" "text" "[B", Cond.methodLink RX5 46 yX5_in, Cond.static yX5_in, Cond.code yX5_in cX5_in 3 (some .boolean), Cond.methodLink RX5 72 yX5_meaning, Cond.static yX5_meaning, Cond.code yX5_meaning cX5_meaning 1 (some .int), Cond.methodLink RX5 104 yX5_readItem, Cond.instanceMethod yX5_readItem, Cond.selects RX5 yX5_readItem yX5_readItem, Cond.code yX5_readItem cX5_readItem 4 none, Cond.methodLink RX5 94 yX5_mayItem, Cond.instanceMethod yX5_mayItem, Cond.selects RX5 yX5_mayItem yX5_mayItem, Cond.code yX5_mayItem cX5_mayItem 2 (some .boolean), Cond.methodLink RX5 83 yX5_due, Cond.instanceMethod yX5_due, Cond.selects RX5 yX5_due yX5_due, Cond.code yX5_due cX5_due 3 (some .int), Cond.methodLink RX5 98 yX5_stands, Cond.instanceMethod yX5_stands]
def wsX5_house_r3 : List Cond := [Cond.selects RX5 yX5_stands yX5_stands, Cond.code yX5_stands cX5_stands 4 (some .boolean), Cond.methodLink RX5 101 yX5_round, Cond.instanceMethod yX5_round, Cond.selects RX5 yX5_round yX5_round, Cond.code yX5_round cX5_round 5 (some .int), Cond.methodLink RX5 87 yX5_number, Cond.instanceMethod yX5_number, Cond.selects RX5 yX5_number yX5_number, Cond.code yX5_number cX5_number 3 (some .int)]
def wsX5_house : List Cond := .code yX5_house cX5_house 4 (some .int) :: ((wsX5_house_r1 ++ (wsX5_house_r2 ++ wsX5_house_r3)) ++ wsX50)
def wsX5_isPanel : List Cond := .code yX5_isPanel cX5_isPanel 2 (some .boolean) :: ([.fieldLink RX5 13 "BedHouseModel" "plan" "[I", .methodLink RX5 46 yX5_in, .static yX5_in, .initialized RX5, .code yX5_in cX5_in 3 (some .boolean)] ++ wsX50)
def wsX5_power : List Cond := .code yX5_power cX5_power 3 (some .int) :: ([])
def wsX5_houses : List Cond := .code yX5_houses cX5_houses 1 (some .int) :: ([.fieldLink RX5 13 "BedHouseModel" "plan" "[I", .methodLink RX5 107 yX5_power, .static yX5_power, .initialized RX5, .code yX5_power cX5_power 3 (some .int)] ++ wsX50)
def wsX5_slotIn : List Cond := .code yX5_slotIn cX5_slotIn 3 (some .int) :: ([.fieldLink RX5 13 "BedHouseModel" "plan" "[I", .methodLink RX5 107 yX5_power, .static yX5_power, .initialized RX5, .code yX5_power cX5_power 3 (some .int)] ++ wsX50)
def wsX5_with : List Cond := .code yX5_with cX5_with 4 (some .int) :: ([.fieldLink RX5 13 "BedHouseModel" "plan" "[I", .methodLink RX5 110 yX5_slotIn, .instanceMethod yX5_slotIn, .selects RX5 yX5_slotIn yX5_slotIn, .initialized RX5, .code yX5_slotIn cX5_slotIn 3 (some .int), .methodLink RX5 107 yX5_power, .static yX5_power, .code yX5_power cX5_power 3 (some .int)] ++ wsX50)
def wsX5_panelAt : List Cond := .code yX5_panelAt cX5_panelAt 4 (some .int) :: ([.fieldLink RX5 13 "BedHouseModel" "plan" "[I", .methodLink RX5 110 yX5_slotIn, .instanceMethod yX5_slotIn, .selects RX5 yX5_slotIn yX5_slotIn, .initialized RX5, .code yX5_slotIn cX5_slotIn 3 (some .int), .methodLink RX5 107 yX5_power, .static yX5_power, .code yX5_power cX5_power 3 (some .int)] ++ wsX50)
def wsX5_lying : List Cond := .code yX5_lying cX5_lying 4 (some .int) :: ([.fieldLink RX5 13 "BedHouseModel" "plan" "[I", .methodLink RX5 110 yX5_slotIn, .instanceMethod yX5_slotIn, .selects RX5 yX5_slotIn yX5_slotIn, .initialized RX5, .code yX5_slotIn cX5_slotIn 3 (some .int), .methodLink RX5 107 yX5_power, .static yX5_power, .code yX5_power cX5_power 3 (some .int)] ++ wsX50)
def wsX5_isBorne : List Cond := .code yX5_isBorne cX5_isBorne 6 (some .boolean) :: ([.fieldLink RX5 13 "BedHouseModel" "plan" "[I", .fieldLink RX5 17 "BedHouseModel" "sorts" "[I", .fieldLink RX5 23 "BedHouseModel" "beams" "[I", .methodLink RX5 110 yX5_slotIn, .instanceMethod yX5_slotIn, .selects RX5 yX5_slotIn yX5_slotIn, .initialized RX5, .code yX5_slotIn cX5_slotIn 3 (some .int), .methodLink RX5 107 yX5_power, .static yX5_power, .code yX5_power cX5_power 3 (some .int)] ++ wsX50)
def wsX5_isLawful : List Cond := .code yX5_isLawful cX5_isLawful 6 (some .boolean) :: ([.fieldLink RX5 13 "BedHouseModel" "plan" "[I", .methodLink RX5 113 yX5_lying, .instanceMethod yX5_lying, .selects RX5 yX5_lying yX5_lying, .initialized RX5, .code yX5_lying cX5_lying 4 (some .int), .methodLink RX5 110 yX5_slotIn, .instanceMethod yX5_slotIn, .selects RX5 yX5_slotIn yX5_slotIn, .code yX5_slotIn cX5_slotIn 3 (some .int), .methodLink RX5 107 yX5_power, .static yX5_power, .code yX5_power cX5_power 3 (some .int), .methodLink RX5 116 yX5_isBorne, .instanceMethod yX5_isBorne, .selects RX5 yX5_isBorne yX5_isBorne, .code yX5_isBorne cX5_isBorne 6 (some .boolean), .fieldLink RX5 17 "BedHouseModel" "sorts" "[I", .fieldLink RX5 23 "BedHouseModel" "beams" "[I"] ++ wsX50)
def wsX5_sortAt : List Cond := .code yX5_sortAt cX5_sortAt 4 (some .int) :: ([.fieldLink RX5 17 "BedHouseModel" "sorts" "[I", .methodLink RX5 120 yX5_panelAt, .instanceMethod yX5_panelAt, .selects RX5 yX5_panelAt yX5_panelAt, .initialized RX5, .code yX5_panelAt cX5_panelAt 4 (some .int), .fieldLink RX5 13 "BedHouseModel" "plan" "[I", .methodLink RX5 110 yX5_slotIn, .instanceMethod yX5_slotIn, .selects RX5 yX5_slotIn yX5_slotIn, .code yX5_slotIn cX5_slotIn 3 (some .int), .methodLink RX5 107 yX5_power, .static yX5_power, .code yX5_power cX5_power 3 (some .int)] ++ wsX50)
def wsX5_leaksIn : List Cond := .code yX5_leaksIn cX5_leaksIn 4 (some .int) :: ([.fieldLink RX5 13 "BedHouseModel" "plan" "[I", .methodLink RX5 123 yX5_sortAt, .instanceMethod yX5_sortAt, .selects RX5 yX5_sortAt yX5_sortAt, .initialized RX5, .code yX5_sortAt cX5_sortAt 4 (some .int), .fieldLink RX5 17 "BedHouseModel" "sorts" "[I", .methodLink RX5 120 yX5_panelAt, .instanceMethod yX5_panelAt, .selects RX5 yX5_panelAt yX5_panelAt, .code yX5_panelAt cX5_panelAt 4 (some .int), .methodLink RX5 110 yX5_slotIn, .instanceMethod yX5_slotIn, .selects RX5 yX5_slotIn yX5_slotIn, .code yX5_slotIn cX5_slotIn 3 (some .int), .methodLink RX5 107 yX5_power, .static yX5_power, .code yX5_power cX5_power 3 (some .int), .methodLink RX5 46 yX5_in, .static yX5_in, .code yX5_in cX5_in 3 (some .boolean)] ++ wsX50)
def wsX5_isOpen : List Cond := .code yX5_isOpen cX5_isOpen 4 (some .boolean) :: ([.methodLink RX5 123 yX5_sortAt, .instanceMethod yX5_sortAt, .selects RX5 yX5_sortAt yX5_sortAt, .initialized RX5, .code yX5_sortAt cX5_sortAt 4 (some .int), .fieldLink RX5 17 "BedHouseModel" "sorts" "[I", .methodLink RX5 120 yX5_panelAt, .instanceMethod yX5_panelAt, .selects RX5 yX5_panelAt yX5_panelAt, .code yX5_panelAt cX5_panelAt 4 (some .int), .fieldLink RX5 13 "BedHouseModel" "plan" "[I", .methodLink RX5 110 yX5_slotIn, .instanceMethod yX5_slotIn, .selects RX5 yX5_slotIn yX5_slotIn, .code yX5_slotIn cX5_slotIn 3 (some .int), .methodLink RX5 107 yX5_power, .static yX5_power, .code yX5_power cX5_power 3 (some .int)] ++ wsX50)
def wsX5_isLit : List Cond := .code yX5_isLit cX5_isLit 3 (some .boolean) :: ([.fieldLink RX5 13 "BedHouseModel" "plan" "[I", .methodLink RX5 126 yX5_isOpen, .instanceMethod yX5_isOpen, .selects RX5 yX5_isOpen yX5_isOpen, .initialized RX5, .code yX5_isOpen cX5_isOpen 4 (some .boolean), .methodLink RX5 123 yX5_sortAt, .instanceMethod yX5_sortAt, .selects RX5 yX5_sortAt yX5_sortAt, .code yX5_sortAt cX5_sortAt 4 (some .int), .fieldLink RX5 17 "BedHouseModel" "sorts" "[I", .methodLink RX5 120 yX5_panelAt, .instanceMethod yX5_panelAt, .selects RX5 yX5_panelAt yX5_panelAt, .code yX5_panelAt cX5_panelAt 4 (some .int), .methodLink RX5 110 yX5_slotIn, .instanceMethod yX5_slotIn, .selects RX5 yX5_slotIn yX5_slotIn, .code yX5_slotIn cX5_slotIn 3 (some .int), .methodLink RX5 107 yX5_power, .static yX5_power, .code yX5_power cX5_power 3 (some .int)] ++ wsX50)
def wsX5_worthOf_r1 : List Cond := [Cond.fieldLink RX5 13 "BedHouseModel" "plan" "[I", Cond.methodLink RX5 129 yX5_leaksIn, Cond.instanceMethod yX5_leaksIn, Cond.selects RX5 yX5_leaksIn yX5_leaksIn, Cond.initialized RX5, Cond.code yX5_leaksIn cX5_leaksIn 4 (some .int), Cond.methodLink RX5 123 yX5_sortAt, Cond.instanceMethod yX5_sortAt, Cond.selects RX5 yX5_sortAt yX5_sortAt, Cond.code yX5_sortAt cX5_sortAt 4 (some .int), Cond.fieldLink RX5 17 "BedHouseModel" "sorts" "[I", Cond.methodLink RX5 120 yX5_panelAt, Cond.instanceMethod yX5_panelAt, Cond.selects RX5 yX5_panelAt yX5_panelAt, Cond.code yX5_panelAt cX5_panelAt 4 (some .int), Cond.methodLink RX5 110 yX5_slotIn, Cond.instanceMethod yX5_slotIn, Cond.selects RX5 yX5_slotIn yX5_slotIn, Cond.code yX5_slotIn cX5_slotIn 3 (some .int), Cond.methodLink RX5 107 yX5_power, Cond.static yX5_power, Cond.code yX5_power cX5_power 3 (some .int), Cond.methodLink RX5 46 yX5_in, Cond.static yX5_in]
def wsX5_worthOf_r2 : List Cond := [Cond.code yX5_in cX5_in 3 (some .boolean), Cond.methodLink RX5 132 yX5_isLit, Cond.instanceMethod yX5_isLit, Cond.selects RX5 yX5_isLit yX5_isLit, Cond.code yX5_isLit cX5_isLit 3 (some .boolean), Cond.methodLink RX5 126 yX5_isOpen, Cond.instanceMethod yX5_isOpen, Cond.selects RX5 yX5_isOpen yX5_isOpen, Cond.code yX5_isOpen cX5_isOpen 4 (some .boolean)]
def wsX5_worthOf : List Cond := .code yX5_worthOf cX5_worthOf 4 (some .int) :: ((wsX5_worthOf_r1 ++ wsX5_worthOf_r2) ++ wsX50)
def wsX5_panel : List Cond := .code yX5_panel cX5_panel 3 (some .int) :: ([.fieldLink RX5 17 "BedHouseModel" "sorts" "[I", .fieldLink RX5 26 "BedHouseModel" "now" "[I", .methodLink RX5 135 yX5_isPanel, .instanceMethod yX5_isPanel, .selects RX5 yX5_isPanel yX5_isPanel, .initialized RX5, .code yX5_isPanel cX5_isPanel 2 (some .boolean), .fieldLink RX5 13 "BedHouseModel" "plan" "[I", .methodLink RX5 46 yX5_in, .static yX5_in, .code yX5_in cX5_in 3 (some .boolean), .methodLink RX5 110 yX5_slotIn, .instanceMethod yX5_slotIn, .selects RX5 yX5_slotIn yX5_slotIn, .code yX5_slotIn cX5_slotIn 3 (some .int), .methodLink RX5 107 yX5_power, .static yX5_power, .code yX5_power cX5_power 3 (some .int)] ++ wsX50)
def wsX5_slot : List Cond := .code yX5_slot cX5_slot 3 (some .int) :: ([.fieldLink RX5 26 "BedHouseModel" "now" "[I", .fieldLink RX5 13 "BedHouseModel" "plan" "[I", .methodLink RX5 46 yX5_in, .static yX5_in, .initialized RX5, .code yX5_in cX5_in 3 (some .boolean), .methodLink RX5 120 yX5_panelAt, .instanceMethod yX5_panelAt, .selects RX5 yX5_panelAt yX5_panelAt, .code yX5_panelAt cX5_panelAt 4 (some .int), .methodLink RX5 110 yX5_slotIn, .instanceMethod yX5_slotIn, .selects RX5 yX5_slotIn yX5_slotIn, .code yX5_slotIn cX5_slotIn 3 (some .int), .methodLink RX5 107 yX5_power, .static yX5_power, .code yX5_power cX5_power 3 (some .int)] ++ wsX50)
def wsX5_told : List Cond := .code yX5_told cX5_told 2 (some .int) :: ([.fieldLink RX5 13 "BedHouseModel" "plan" "[I", .methodLink RX5 46 yX5_in, .static yX5_in, .initialized RX5, .code yX5_in cX5_in 3 (some .boolean)] ++ wsX50)
def wsX5_beam : List Cond := .code yX5_beam cX5_beam 2 (some .int) :: ([.fieldLink RX5 13 "BedHouseModel" "plan" "[I", .fieldLink RX5 26 "BedHouseModel" "now" "[I", .methodLink RX5 46 yX5_in, .static yX5_in, .initialized RX5, .code yX5_in cX5_in 3 (some .boolean), .methodLink RX5 116 yX5_isBorne, .instanceMethod yX5_isBorne, .selects RX5 yX5_isBorne yX5_isBorne, .code yX5_isBorne cX5_isBorne 6 (some .boolean), .fieldLink RX5 17 "BedHouseModel" "sorts" "[I", .fieldLink RX5 23 "BedHouseModel" "beams" "[I", .methodLink RX5 110 yX5_slotIn, .instanceMethod yX5_slotIn, .selects RX5 yX5_slotIn yX5_slotIn, .code yX5_slotIn cX5_slotIn 3 (some .int), .methodLink RX5 107 yX5_power, .static yX5_power, .code yX5_power cX5_power 3 (some .int)] ++ wsX50)
def wsX5_act : List Cond := .code yX5_act cX5_act 2 (some .int) :: ([.fieldLink RX5 26 "BedHouseModel" "now" "[I", .fieldLink RX5 13 "BedHouseModel" "plan" "[I", .methodLink RX5 138 yX5_isLawful, .instanceMethod yX5_isLawful, .selects RX5 yX5_isLawful yX5_isLawful, .initialized RX5, .code yX5_isLawful cX5_isLawful 6 (some .boolean), .methodLink RX5 113 yX5_lying, .instanceMethod yX5_lying, .selects RX5 yX5_lying yX5_lying, .code yX5_lying cX5_lying 4 (some .int), .methodLink RX5 110 yX5_slotIn, .instanceMethod yX5_slotIn, .selects RX5 yX5_slotIn yX5_slotIn, .code yX5_slotIn cX5_slotIn 3 (some .int), .methodLink RX5 107 yX5_power, .static yX5_power, .code yX5_power cX5_power 3 (some .int), .methodLink RX5 116 yX5_isBorne, .instanceMethod yX5_isBorne, .selects RX5 yX5_isBorne yX5_isBorne, .code yX5_isBorne cX5_isBorne 6 (some .boolean), .fieldLink RX5 17 "BedHouseModel" "sorts" "[I", .fieldLink RX5 23 "BedHouseModel" "beams" "[I"] ++ wsX50)
def wsX5_down_r1 : List Cond := [Cond.fieldLink RX5 26 "BedHouseModel" "now" "[I", Cond.methodLink RX5 135 yX5_isPanel, Cond.instanceMethod yX5_isPanel, Cond.selects RX5 yX5_isPanel yX5_isPanel, Cond.initialized RX5, Cond.code yX5_isPanel cX5_isPanel 2 (some .boolean), Cond.fieldLink RX5 13 "BedHouseModel" "plan" "[I", Cond.methodLink RX5 46 yX5_in, Cond.static yX5_in, Cond.code yX5_in cX5_in 3 (some .boolean), Cond.methodLink RX5 110 yX5_slotIn, Cond.instanceMethod yX5_slotIn, Cond.selects RX5 yX5_slotIn yX5_slotIn, Cond.code yX5_slotIn cX5_slotIn 3 (some .int), Cond.methodLink RX5 107 yX5_power, Cond.static yX5_power, Cond.code yX5_power cX5_power 3 (some .int), Cond.methodLink RX5 141 yX5_with, Cond.instanceMethod yX5_with, Cond.selects RX5 yX5_with yX5_with, Cond.code yX5_with cX5_with 4 (some .int), Cond.methodLink RX5 145 yX5_act, Cond.instanceMethod yX5_act, Cond.selects RX5 yX5_act yX5_act]
def wsX5_down_r2 : List Cond := [Cond.code yX5_act cX5_act 2 (some .int), Cond.methodLink RX5 138 yX5_isLawful, Cond.instanceMethod yX5_isLawful, Cond.selects RX5 yX5_isLawful yX5_isLawful, Cond.code yX5_isLawful cX5_isLawful 6 (some .boolean), Cond.methodLink RX5 113 yX5_lying, Cond.instanceMethod yX5_lying, Cond.selects RX5 yX5_lying yX5_lying, Cond.code yX5_lying cX5_lying 4 (some .int), Cond.methodLink RX5 116 yX5_isBorne, Cond.instanceMethod yX5_isBorne, Cond.selects RX5 yX5_isBorne yX5_isBorne, Cond.code yX5_isBorne cX5_isBorne 6 (some .boolean), Cond.fieldLink RX5 17 "BedHouseModel" "sorts" "[I", Cond.fieldLink RX5 23 "BedHouseModel" "beams" "[I"]
def wsX5_down : List Cond := .code yX5_down cX5_down 2 (some .int) :: ((wsX5_down_r1 ++ wsX5_down_r2) ++ wsX50)
def wsX5_up_r1 : List Cond := [Cond.fieldLink RX5 26 "BedHouseModel" "now" "[I", Cond.methodLink RX5 135 yX5_isPanel, Cond.instanceMethod yX5_isPanel, Cond.selects RX5 yX5_isPanel yX5_isPanel, Cond.initialized RX5, Cond.code yX5_isPanel cX5_isPanel 2 (some .boolean), Cond.fieldLink RX5 13 "BedHouseModel" "plan" "[I", Cond.methodLink RX5 46 yX5_in, Cond.static yX5_in, Cond.code yX5_in cX5_in 3 (some .boolean), Cond.methodLink RX5 110 yX5_slotIn, Cond.instanceMethod yX5_slotIn, Cond.selects RX5 yX5_slotIn yX5_slotIn, Cond.code yX5_slotIn cX5_slotIn 3 (some .int), Cond.methodLink RX5 107 yX5_power, Cond.static yX5_power, Cond.code yX5_power cX5_power 3 (some .int), Cond.methodLink RX5 120 yX5_panelAt, Cond.instanceMethod yX5_panelAt, Cond.selects RX5 yX5_panelAt yX5_panelAt, Cond.code yX5_panelAt cX5_panelAt 4 (some .int), Cond.methodLink RX5 141 yX5_with, Cond.instanceMethod yX5_with, Cond.selects RX5 yX5_with yX5_with]
def wsX5_up_r2 : List Cond := [Cond.code yX5_with cX5_with 4 (some .int), Cond.methodLink RX5 145 yX5_act, Cond.instanceMethod yX5_act, Cond.selects RX5 yX5_act yX5_act, Cond.code yX5_act cX5_act 2 (some .int), Cond.methodLink RX5 138 yX5_isLawful, Cond.instanceMethod yX5_isLawful, Cond.selects RX5 yX5_isLawful yX5_isLawful, Cond.code yX5_isLawful cX5_isLawful 6 (some .boolean), Cond.methodLink RX5 113 yX5_lying, Cond.instanceMethod yX5_lying, Cond.selects RX5 yX5_lying yX5_lying, Cond.code yX5_lying cX5_lying 4 (some .int), Cond.methodLink RX5 116 yX5_isBorne, Cond.instanceMethod yX5_isBorne, Cond.selects RX5 yX5_isBorne yX5_isBorne, Cond.code yX5_isBorne cX5_isBorne 6 (some .boolean), Cond.fieldLink RX5 17 "BedHouseModel" "sorts" "[I", Cond.fieldLink RX5 23 "BedHouseModel" "beams" "[I"]
def wsX5_up : List Cond := .code yX5_up cX5_up 3 (some .int) :: ((wsX5_up_r1 ++ wsX5_up_r2) ++ wsX50)
def wsX5_night_r1 : List Cond := [Cond.fieldLink RX5 26 "BedHouseModel" "now" "[I", Cond.methodLink RX5 129 yX5_leaksIn, Cond.instanceMethod yX5_leaksIn, Cond.selects RX5 yX5_leaksIn yX5_leaksIn, Cond.initialized RX5, Cond.code yX5_leaksIn cX5_leaksIn 4 (some .int), Cond.fieldLink RX5 13 "BedHouseModel" "plan" "[I", Cond.methodLink RX5 123 yX5_sortAt, Cond.instanceMethod yX5_sortAt, Cond.selects RX5 yX5_sortAt yX5_sortAt, Cond.code yX5_sortAt cX5_sortAt 4 (some .int), Cond.fieldLink RX5 17 "BedHouseModel" "sorts" "[I", Cond.methodLink RX5 120 yX5_panelAt, Cond.instanceMethod yX5_panelAt, Cond.selects RX5 yX5_panelAt yX5_panelAt, Cond.code yX5_panelAt cX5_panelAt 4 (some .int), Cond.methodLink RX5 110 yX5_slotIn, Cond.instanceMethod yX5_slotIn, Cond.selects RX5 yX5_slotIn yX5_slotIn, Cond.code yX5_slotIn cX5_slotIn 3 (some .int), Cond.methodLink RX5 107 yX5_power, Cond.static yX5_power, Cond.code yX5_power cX5_power 3 (some .int), Cond.methodLink RX5 46 yX5_in]
def wsX5_night_r2 : List Cond := [Cond.static yX5_in, Cond.code yX5_in cX5_in 3 (some .boolean)]
def wsX5_night : List Cond := .code yX5_night cX5_night 2 (some .int) :: ((wsX5_night_r1 ++ wsX5_night_r2) ++ wsX50)
def wsX5_now_r1 : List Cond := [Cond.fieldLink RX5 26 "BedHouseModel" "now" "[I", Cond.constant RX5 151 (-1000000), Cond.methodLink RX5 148 yX5_worthOf, Cond.instanceMethod yX5_worthOf, Cond.selects RX5 yX5_worthOf yX5_worthOf, Cond.initialized RX5, Cond.code yX5_worthOf cX5_worthOf 4 (some .int), Cond.fieldLink RX5 13 "BedHouseModel" "plan" "[I", Cond.methodLink RX5 129 yX5_leaksIn, Cond.instanceMethod yX5_leaksIn, Cond.selects RX5 yX5_leaksIn yX5_leaksIn, Cond.code yX5_leaksIn cX5_leaksIn 4 (some .int), Cond.methodLink RX5 123 yX5_sortAt, Cond.instanceMethod yX5_sortAt, Cond.selects RX5 yX5_sortAt yX5_sortAt, Cond.code yX5_sortAt cX5_sortAt 4 (some .int), Cond.fieldLink RX5 17 "BedHouseModel" "sorts" "[I", Cond.methodLink RX5 120 yX5_panelAt, Cond.instanceMethod yX5_panelAt, Cond.selects RX5 yX5_panelAt yX5_panelAt, Cond.code yX5_panelAt cX5_panelAt 4 (some .int), Cond.methodLink RX5 110 yX5_slotIn, Cond.instanceMethod yX5_slotIn, Cond.selects RX5 yX5_slotIn yX5_slotIn]
def wsX5_now_r2 : List Cond := [Cond.code yX5_slotIn cX5_slotIn 3 (some .int), Cond.methodLink RX5 107 yX5_power, Cond.static yX5_power, Cond.code yX5_power cX5_power 3 (some .int), Cond.methodLink RX5 46 yX5_in, Cond.static yX5_in, Cond.code yX5_in cX5_in 3 (some .boolean), Cond.methodLink RX5 132 yX5_isLit, Cond.instanceMethod yX5_isLit, Cond.selects RX5 yX5_isLit yX5_isLit, Cond.code yX5_isLit cX5_isLit 3 (some .boolean), Cond.methodLink RX5 126 yX5_isOpen, Cond.instanceMethod yX5_isOpen, Cond.selects RX5 yX5_isOpen yX5_isOpen, Cond.code yX5_isOpen cX5_isOpen 4 (some .boolean), Cond.methodLink RX5 138 yX5_isLawful, Cond.instanceMethod yX5_isLawful, Cond.selects RX5 yX5_isLawful yX5_isLawful, Cond.code yX5_isLawful cX5_isLawful 6 (some .boolean), Cond.methodLink RX5 113 yX5_lying, Cond.instanceMethod yX5_lying, Cond.selects RX5 yX5_lying yX5_lying, Cond.code yX5_lying cX5_lying 4 (some .int), Cond.methodLink RX5 116 yX5_isBorne]
def wsX5_now_r3 : List Cond := [Cond.instanceMethod yX5_isBorne, Cond.selects RX5 yX5_isBorne yX5_isBorne, Cond.code yX5_isBorne cX5_isBorne 6 (some .boolean), Cond.fieldLink RX5 23 "BedHouseModel" "beams" "[I"]
def wsX5_now : List Cond := .code yX5_now cX5_now 2 (some .int) :: ((wsX5_now_r1 ++ (wsX5_now_r2 ++ wsX5_now_r3)) ++ wsX50)
def wsX5_lit_r1 : List Cond := [Cond.fieldLink RX5 26 "BedHouseModel" "now" "[I", Cond.methodLink RX5 46 yX5_in, Cond.static yX5_in, Cond.initialized RX5, Cond.code yX5_in cX5_in 3 (some .boolean), Cond.methodLink RX5 132 yX5_isLit, Cond.instanceMethod yX5_isLit, Cond.selects RX5 yX5_isLit yX5_isLit, Cond.code yX5_isLit cX5_isLit 3 (some .boolean), Cond.fieldLink RX5 13 "BedHouseModel" "plan" "[I", Cond.methodLink RX5 126 yX5_isOpen, Cond.instanceMethod yX5_isOpen, Cond.selects RX5 yX5_isOpen yX5_isOpen, Cond.code yX5_isOpen cX5_isOpen 4 (some .boolean), Cond.methodLink RX5 123 yX5_sortAt, Cond.instanceMethod yX5_sortAt, Cond.selects RX5 yX5_sortAt yX5_sortAt, Cond.code yX5_sortAt cX5_sortAt 4 (some .int), Cond.fieldLink RX5 17 "BedHouseModel" "sorts" "[I", Cond.methodLink RX5 120 yX5_panelAt, Cond.instanceMethod yX5_panelAt, Cond.selects RX5 yX5_panelAt yX5_panelAt, Cond.code yX5_panelAt cX5_panelAt 4 (some .int), Cond.methodLink RX5 110 yX5_slotIn]
def wsX5_lit_r2 : List Cond := [Cond.instanceMethod yX5_slotIn, Cond.selects RX5 yX5_slotIn yX5_slotIn, Cond.code yX5_slotIn cX5_slotIn 3 (some .int), Cond.methodLink RX5 107 yX5_power, Cond.static yX5_power, Cond.code yX5_power cX5_power 3 (some .int)]
def wsX5_lit : List Cond := .code yX5_lit cX5_lit 2 (some .int) :: ((wsX5_lit_r1 ++ wsX5_lit_r2) ++ wsX50)
def wsX5_reach : List Cond := .code yX5_reach cX5_reach 3 none :: ([.fieldLink RX5 33 "BedHouseModel" "off" "[I", .fieldLink RX5 36 "BedHouseModel" "reached" "[I", .fieldLink RX5 152 "BedHouseModel" "reachedMany" "I"] ++ wsX50)
def wsX5_none : List Cond := .code yX5_none cX5_none 2 none :: ([.fieldLink RX5 33 "BedHouseModel" "off" "[I", .fieldLink RX5 152 "BedHouseModel" "reachedMany" "I"] ++ wsX50)
def wsX5_go_r1 : List Cond := [Cond.fieldLink RX5 152 "BedHouseModel" "reachedMany" "I", Cond.fieldLink RX5 36 "BedHouseModel" "reached" "[I", Cond.fieldLink RX5 13 "BedHouseModel" "plan" "[I", Cond.fieldLink RX5 33 "BedHouseModel" "off" "[I", Cond.methodLink RX5 110 yX5_slotIn, Cond.instanceMethod yX5_slotIn, Cond.selects RX5 yX5_slotIn yX5_slotIn, Cond.initialized RX5, Cond.code yX5_slotIn cX5_slotIn 3 (some .int), Cond.methodLink RX5 107 yX5_power, Cond.static yX5_power, Cond.code yX5_power cX5_power 3 (some .int), Cond.methodLink RX5 120 yX5_panelAt, Cond.instanceMethod yX5_panelAt, Cond.selects RX5 yX5_panelAt yX5_panelAt, Cond.code yX5_panelAt cX5_panelAt 4 (some .int), Cond.methodLink RX5 141 yX5_with, Cond.instanceMethod yX5_with, Cond.selects RX5 yX5_with yX5_with, Cond.code yX5_with cX5_with 4 (some .int), Cond.methodLink RX5 138 yX5_isLawful, Cond.instanceMethod yX5_isLawful, Cond.selects RX5 yX5_isLawful yX5_isLawful, Cond.code yX5_isLawful cX5_isLawful 6 (some .boolean)]
def wsX5_go_r2 : List Cond := [Cond.methodLink RX5 113 yX5_lying, Cond.instanceMethod yX5_lying, Cond.selects RX5 yX5_lying yX5_lying, Cond.code yX5_lying cX5_lying 4 (some .int), Cond.methodLink RX5 116 yX5_isBorne, Cond.instanceMethod yX5_isBorne, Cond.selects RX5 yX5_isBorne yX5_isBorne, Cond.code yX5_isBorne cX5_isBorne 6 (some .boolean), Cond.fieldLink RX5 17 "BedHouseModel" "sorts" "[I", Cond.fieldLink RX5 23 "BedHouseModel" "beams" "[I", Cond.methodLink RX5 155 yX5_reach, Cond.instanceMethod yX5_reach, Cond.selects RX5 yX5_reach yX5_reach, Cond.code yX5_reach cX5_reach 3 none]
def wsX5_go : List Cond := .code yX5_go cX5_go 8 none :: ((wsX5_go_r1 ++ wsX5_go_r2) ++ wsX50)
def wsX5_goFrom_r1 : List Cond := [Cond.methodLink RX5 159 yX5_none, Cond.instanceMethod yX5_none, Cond.selects RX5 yX5_none yX5_none, Cond.initialized RX5, Cond.code yX5_none cX5_none 2 none, Cond.fieldLink RX5 33 "BedHouseModel" "off" "[I", Cond.fieldLink RX5 152 "BedHouseModel" "reachedMany" "I", Cond.methodLink RX5 155 yX5_reach, Cond.instanceMethod yX5_reach, Cond.selects RX5 yX5_reach yX5_reach, Cond.code yX5_reach cX5_reach 3 none, Cond.fieldLink RX5 36 "BedHouseModel" "reached" "[I", Cond.methodLink RX5 162 yX5_go, Cond.instanceMethod yX5_go, Cond.selects RX5 yX5_go yX5_go, Cond.code yX5_go cX5_go 8 none, Cond.fieldLink RX5 13 "BedHouseModel" "plan" "[I", Cond.methodLink RX5 110 yX5_slotIn, Cond.instanceMethod yX5_slotIn, Cond.selects RX5 yX5_slotIn yX5_slotIn, Cond.code yX5_slotIn cX5_slotIn 3 (some .int), Cond.methodLink RX5 107 yX5_power, Cond.static yX5_power, Cond.code yX5_power cX5_power 3 (some .int)]
def wsX5_goFrom_r2 : List Cond := [Cond.methodLink RX5 120 yX5_panelAt, Cond.instanceMethod yX5_panelAt, Cond.selects RX5 yX5_panelAt yX5_panelAt, Cond.code yX5_panelAt cX5_panelAt 4 (some .int), Cond.methodLink RX5 141 yX5_with, Cond.instanceMethod yX5_with, Cond.selects RX5 yX5_with yX5_with, Cond.code yX5_with cX5_with 4 (some .int), Cond.methodLink RX5 138 yX5_isLawful, Cond.instanceMethod yX5_isLawful, Cond.selects RX5 yX5_isLawful yX5_isLawful, Cond.code yX5_isLawful cX5_isLawful 6 (some .boolean), Cond.methodLink RX5 113 yX5_lying, Cond.instanceMethod yX5_lying, Cond.selects RX5 yX5_lying yX5_lying, Cond.code yX5_lying cX5_lying 4 (some .int), Cond.methodLink RX5 116 yX5_isBorne, Cond.instanceMethod yX5_isBorne, Cond.selects RX5 yX5_isBorne yX5_isBorne, Cond.code yX5_isBorne cX5_isBorne 6 (some .boolean), Cond.fieldLink RX5 17 "BedHouseModel" "sorts" "[I", Cond.fieldLink RX5 23 "BedHouseModel" "beams" "[I"]
def wsX5_goFrom : List Cond := .code yX5_goFrom cX5_goFrom 2 none :: ((wsX5_goFrom_r1 ++ wsX5_goFrom_r2) ++ wsX50)
def wsX5_refuses : List Cond := .code yX5_refuses cX5_refuses 2 (some .int) :: ([.fieldLink RX5 29 "BedHouseModel" "isKept" "[Z", .methodLink RX5 46 yX5_in, .static yX5_in, .initialized RX5, .code yX5_in cX5_in 3 (some .boolean)] ++ wsX50)
def wsX5_houseOf : List Cond := .code yX5_houseOf cX5_houseOf 2 (some .int) :: ([.fieldLink RX5 26 "BedHouseModel" "now" "[I"] ++ wsX50)
def wsX5_fewest_r1 : List Cond := [Cond.fieldLink RX5 26 "BedHouseModel" "now" "[I", Cond.fieldLink RX5 33 "BedHouseModel" "off" "[I", Cond.methodLink RX5 165 yX5_refuses, Cond.instanceMethod yX5_refuses, Cond.selects RX5 yX5_refuses yX5_refuses, Cond.initialized RX5, Cond.code yX5_refuses cX5_refuses 2 (some .int), Cond.fieldLink RX5 29 "BedHouseModel" "isKept" "[Z", Cond.methodLink RX5 46 yX5_in, Cond.static yX5_in, Cond.code yX5_in cX5_in 3 (some .boolean), Cond.methodLink RX5 168 yX5_goFrom, Cond.instanceMethod yX5_goFrom, Cond.selects RX5 yX5_goFrom yX5_goFrom, Cond.code yX5_goFrom cX5_goFrom 2 none, Cond.methodLink RX5 159 yX5_none, Cond.instanceMethod yX5_none, Cond.selects RX5 yX5_none yX5_none, Cond.code yX5_none cX5_none 2 none, Cond.fieldLink RX5 152 "BedHouseModel" "reachedMany" "I", Cond.methodLink RX5 155 yX5_reach, Cond.instanceMethod yX5_reach, Cond.selects RX5 yX5_reach yX5_reach, Cond.code yX5_reach cX5_reach 3 none]
def wsX5_fewest_r2 : List Cond := [Cond.fieldLink RX5 36 "BedHouseModel" "reached" "[I", Cond.methodLink RX5 162 yX5_go, Cond.instanceMethod yX5_go, Cond.selects RX5 yX5_go yX5_go, Cond.code yX5_go cX5_go 8 none, Cond.fieldLink RX5 13 "BedHouseModel" "plan" "[I", Cond.methodLink RX5 110 yX5_slotIn, Cond.instanceMethod yX5_slotIn, Cond.selects RX5 yX5_slotIn yX5_slotIn, Cond.code yX5_slotIn cX5_slotIn 3 (some .int), Cond.methodLink RX5 107 yX5_power, Cond.static yX5_power, Cond.code yX5_power cX5_power 3 (some .int), Cond.methodLink RX5 120 yX5_panelAt, Cond.instanceMethod yX5_panelAt, Cond.selects RX5 yX5_panelAt yX5_panelAt, Cond.code yX5_panelAt cX5_panelAt 4 (some .int), Cond.methodLink RX5 141 yX5_with, Cond.instanceMethod yX5_with, Cond.selects RX5 yX5_with yX5_with, Cond.code yX5_with cX5_with 4 (some .int), Cond.methodLink RX5 138 yX5_isLawful, Cond.instanceMethod yX5_isLawful, Cond.selects RX5 yX5_isLawful yX5_isLawful]
def wsX5_fewest_r3 : List Cond := [Cond.code yX5_isLawful cX5_isLawful 6 (some .boolean), Cond.methodLink RX5 113 yX5_lying, Cond.instanceMethod yX5_lying, Cond.selects RX5 yX5_lying yX5_lying, Cond.code yX5_lying cX5_lying 4 (some .int), Cond.methodLink RX5 116 yX5_isBorne, Cond.instanceMethod yX5_isBorne, Cond.selects RX5 yX5_isBorne yX5_isBorne, Cond.code yX5_isBorne cX5_isBorne 6 (some .boolean), Cond.fieldLink RX5 17 "BedHouseModel" "sorts" "[I", Cond.fieldLink RX5 23 "BedHouseModel" "beams" "[I", Cond.methodLink RX5 171 yX5_houseOf, Cond.instanceMethod yX5_houseOf, Cond.selects RX5 yX5_houseOf yX5_houseOf, Cond.code yX5_houseOf cX5_houseOf 2 (some .int)]
def wsX5_fewest : List Cond := .code yX5_fewest cX5_fewest 3 (some .int) :: ((wsX5_fewest_r1 ++ (wsX5_fewest_r2 ++ wsX5_fewest_r3)) ++ wsX50)
def wsX5_first_r1 : List Cond := [Cond.fieldLink RX5 26 "BedHouseModel" "now" "[I", Cond.fieldLink RX5 13 "BedHouseModel" "plan" "[I", Cond.fieldLink RX5 33 "BedHouseModel" "off" "[I", Cond.methodLink RX5 165 yX5_refuses, Cond.instanceMethod yX5_refuses, Cond.selects RX5 yX5_refuses yX5_refuses, Cond.initialized RX5, Cond.code yX5_refuses cX5_refuses 2 (some .int), Cond.fieldLink RX5 29 "BedHouseModel" "isKept" "[Z", Cond.methodLink RX5 46 yX5_in, Cond.static yX5_in, Cond.code yX5_in cX5_in 3 (some .boolean), Cond.methodLink RX5 171 yX5_houseOf, Cond.instanceMethod yX5_houseOf, Cond.selects RX5 yX5_houseOf yX5_houseOf, Cond.code yX5_houseOf cX5_houseOf 2 (some .int), Cond.methodLink RX5 138 yX5_isLawful, Cond.instanceMethod yX5_isLawful, Cond.selects RX5 yX5_isLawful yX5_isLawful, Cond.code yX5_isLawful cX5_isLawful 6 (some .boolean), Cond.methodLink RX5 113 yX5_lying, Cond.instanceMethod yX5_lying, Cond.selects RX5 yX5_lying yX5_lying, Cond.code yX5_lying cX5_lying 4 (some .int)]
def wsX5_first_r2 : List Cond := [Cond.methodLink RX5 110 yX5_slotIn, Cond.instanceMethod yX5_slotIn, Cond.selects RX5 yX5_slotIn yX5_slotIn, Cond.code yX5_slotIn cX5_slotIn 3 (some .int), Cond.methodLink RX5 107 yX5_power, Cond.static yX5_power, Cond.code yX5_power cX5_power 3 (some .int), Cond.methodLink RX5 116 yX5_isBorne, Cond.instanceMethod yX5_isBorne, Cond.selects RX5 yX5_isBorne yX5_isBorne, Cond.code yX5_isBorne cX5_isBorne 6 (some .boolean), Cond.fieldLink RX5 17 "BedHouseModel" "sorts" "[I", Cond.fieldLink RX5 23 "BedHouseModel" "beams" "[I", Cond.methodLink RX5 168 yX5_goFrom, Cond.instanceMethod yX5_goFrom, Cond.selects RX5 yX5_goFrom yX5_goFrom, Cond.code yX5_goFrom cX5_goFrom 2 none, Cond.methodLink RX5 159 yX5_none, Cond.instanceMethod yX5_none, Cond.selects RX5 yX5_none yX5_none, Cond.code yX5_none cX5_none 2 none, Cond.fieldLink RX5 152 "BedHouseModel" "reachedMany" "I", Cond.methodLink RX5 155 yX5_reach, Cond.instanceMethod yX5_reach]
def wsX5_first_r3 : List Cond := [Cond.selects RX5 yX5_reach yX5_reach, Cond.code yX5_reach cX5_reach 3 none, Cond.fieldLink RX5 36 "BedHouseModel" "reached" "[I", Cond.methodLink RX5 162 yX5_go, Cond.instanceMethod yX5_go, Cond.selects RX5 yX5_go yX5_go, Cond.code yX5_go cX5_go 8 none, Cond.methodLink RX5 120 yX5_panelAt, Cond.instanceMethod yX5_panelAt, Cond.selects RX5 yX5_panelAt yX5_panelAt, Cond.code yX5_panelAt cX5_panelAt 4 (some .int), Cond.methodLink RX5 141 yX5_with, Cond.instanceMethod yX5_with, Cond.selects RX5 yX5_with yX5_with, Cond.code yX5_with cX5_with 4 (some .int)]
def wsX5_first : List Cond := .code yX5_first cX5_first 11 (some .int) :: ((wsX5_first_r1 ++ (wsX5_first_r2 ++ wsX5_first_r3)) ++ wsX50)
def wsX5_nights_r1 : List Cond := [Cond.fieldLink RX5 26 "BedHouseModel" "now" "[I", Cond.fieldLink RX5 13 "BedHouseModel" "plan" "[I", Cond.fieldLink RX5 33 "BedHouseModel" "off" "[I", Cond.fieldLink RX5 39 "BedHouseModel" "isSlept" "[Z", Cond.methodLink RX5 165 yX5_refuses, Cond.instanceMethod yX5_refuses, Cond.selects RX5 yX5_refuses yX5_refuses, Cond.initialized RX5, Cond.code yX5_refuses cX5_refuses 2 (some .int), Cond.fieldLink RX5 29 "BedHouseModel" "isKept" "[Z", Cond.methodLink RX5 46 yX5_in, Cond.static yX5_in, Cond.code yX5_in cX5_in 3 (some .boolean), Cond.methodLink RX5 171 yX5_houseOf, Cond.instanceMethod yX5_houseOf, Cond.selects RX5 yX5_houseOf yX5_houseOf, Cond.code yX5_houseOf cX5_houseOf 2 (some .int), Cond.methodLink RX5 159 yX5_none, Cond.instanceMethod yX5_none, Cond.selects RX5 yX5_none yX5_none, Cond.code yX5_none cX5_none 2 none, Cond.fieldLink RX5 152 "BedHouseModel" "reachedMany" "I", Cond.methodLink RX5 155 yX5_reach, Cond.instanceMethod yX5_reach]
def wsX5_nights_r2 : List Cond := [Cond.selects RX5 yX5_reach yX5_reach, Cond.code yX5_reach cX5_reach 3 none, Cond.fieldLink RX5 36 "BedHouseModel" "reached" "[I", Cond.methodLink RX5 162 yX5_go, Cond.instanceMethod yX5_go, Cond.selects RX5 yX5_go yX5_go, Cond.code yX5_go cX5_go 8 none, Cond.methodLink RX5 110 yX5_slotIn, Cond.instanceMethod yX5_slotIn, Cond.selects RX5 yX5_slotIn yX5_slotIn, Cond.code yX5_slotIn cX5_slotIn 3 (some .int), Cond.methodLink RX5 107 yX5_power, Cond.static yX5_power, Cond.code yX5_power cX5_power 3 (some .int), Cond.methodLink RX5 120 yX5_panelAt, Cond.instanceMethod yX5_panelAt, Cond.selects RX5 yX5_panelAt yX5_panelAt, Cond.code yX5_panelAt cX5_panelAt 4 (some .int), Cond.methodLink RX5 141 yX5_with, Cond.instanceMethod yX5_with, Cond.selects RX5 yX5_with yX5_with, Cond.code yX5_with cX5_with 4 (some .int), Cond.methodLink RX5 138 yX5_isLawful, Cond.instanceMethod yX5_isLawful]
def wsX5_nights_r3 : List Cond := [Cond.selects RX5 yX5_isLawful yX5_isLawful, Cond.code yX5_isLawful cX5_isLawful 6 (some .boolean), Cond.methodLink RX5 113 yX5_lying, Cond.instanceMethod yX5_lying, Cond.selects RX5 yX5_lying yX5_lying, Cond.code yX5_lying cX5_lying 4 (some .int), Cond.methodLink RX5 116 yX5_isBorne, Cond.instanceMethod yX5_isBorne, Cond.selects RX5 yX5_isBorne yX5_isBorne, Cond.code yX5_isBorne cX5_isBorne 6 (some .boolean), Cond.fieldLink RX5 17 "BedHouseModel" "sorts" "[I", Cond.fieldLink RX5 23 "BedHouseModel" "beams" "[I", Cond.methodLink RX5 174 yX5_houses, Cond.instanceMethod yX5_houses, Cond.selects RX5 yX5_houses yX5_houses, Cond.code yX5_houses cX5_houses 1 (some .int), Cond.methodLink RX5 129 yX5_leaksIn, Cond.instanceMethod yX5_leaksIn, Cond.selects RX5 yX5_leaksIn yX5_leaksIn, Cond.code yX5_leaksIn cX5_leaksIn 4 (some .int), Cond.methodLink RX5 123 yX5_sortAt, Cond.instanceMethod yX5_sortAt, Cond.selects RX5 yX5_sortAt yX5_sortAt, Cond.code yX5_sortAt cX5_sortAt 4 (some .int)]
def wsX5_nights : List Cond := .code yX5_nights cX5_nights 5 (some .int) :: ((wsX5_nights_r1 ++ (wsX5_nights_r2 ++ wsX5_nights_r3)) ++ wsX50)
def wsX5_piano_r1 : List Cond := [Cond.fieldLink RX5 26 "BedHouseModel" "now" "[I", Cond.fieldLink RX5 152 "BedHouseModel" "reachedMany" "I", Cond.fieldLink RX5 36 "BedHouseModel" "reached" "[I", Cond.fieldLink RX5 33 "BedHouseModel" "off" "[I", Cond.methodLink RX5 46 yX5_in, Cond.static yX5_in, Cond.initialized RX5, Cond.code yX5_in cX5_in 3 (some .boolean), Cond.methodLink RX5 168 yX5_goFrom, Cond.instanceMethod yX5_goFrom, Cond.selects RX5 yX5_goFrom yX5_goFrom, Cond.code yX5_goFrom cX5_goFrom 2 none, Cond.methodLink RX5 159 yX5_none, Cond.instanceMethod yX5_none, Cond.selects RX5 yX5_none yX5_none, Cond.code yX5_none cX5_none 2 none, Cond.methodLink RX5 155 yX5_reach, Cond.instanceMethod yX5_reach, Cond.selects RX5 yX5_reach yX5_reach, Cond.code yX5_reach cX5_reach 3 none, Cond.methodLink RX5 162 yX5_go, Cond.instanceMethod yX5_go, Cond.selects RX5 yX5_go yX5_go, Cond.code yX5_go cX5_go 8 none]
def wsX5_piano_r2 : List Cond := [Cond.fieldLink RX5 13 "BedHouseModel" "plan" "[I", Cond.methodLink RX5 110 yX5_slotIn, Cond.instanceMethod yX5_slotIn, Cond.selects RX5 yX5_slotIn yX5_slotIn, Cond.code yX5_slotIn cX5_slotIn 3 (some .int), Cond.methodLink RX5 107 yX5_power, Cond.static yX5_power, Cond.code yX5_power cX5_power 3 (some .int), Cond.methodLink RX5 120 yX5_panelAt, Cond.instanceMethod yX5_panelAt, Cond.selects RX5 yX5_panelAt yX5_panelAt, Cond.code yX5_panelAt cX5_panelAt 4 (some .int), Cond.methodLink RX5 141 yX5_with, Cond.instanceMethod yX5_with, Cond.selects RX5 yX5_with yX5_with, Cond.code yX5_with cX5_with 4 (some .int), Cond.methodLink RX5 138 yX5_isLawful, Cond.instanceMethod yX5_isLawful, Cond.selects RX5 yX5_isLawful yX5_isLawful, Cond.code yX5_isLawful cX5_isLawful 6 (some .boolean), Cond.methodLink RX5 113 yX5_lying, Cond.instanceMethod yX5_lying, Cond.selects RX5 yX5_lying yX5_lying, Cond.code yX5_lying cX5_lying 4 (some .int)]
def wsX5_piano_r3 : List Cond := [Cond.methodLink RX5 116 yX5_isBorne, Cond.instanceMethod yX5_isBorne, Cond.selects RX5 yX5_isBorne yX5_isBorne, Cond.code yX5_isBorne cX5_isBorne 6 (some .boolean), Cond.fieldLink RX5 17 "BedHouseModel" "sorts" "[I", Cond.fieldLink RX5 23 "BedHouseModel" "beams" "[I"]
def wsX5_piano : List Cond := .code yX5_piano cX5_piano 4 (some .int) :: ((wsX5_piano_r1 ++ (wsX5_piano_r2 ++ wsX5_piano_r3)) ++ wsX50)
def wsX5_best_r1 : List Cond := [Cond.fieldLink RX5 13 "BedHouseModel" "plan" "[I", Cond.constant RX5 151 (-1000000), Cond.methodLink RX5 46 yX5_in, Cond.static yX5_in, Cond.initialized RX5, Cond.code yX5_in cX5_in 3 (some .boolean), Cond.methodLink RX5 174 yX5_houses, Cond.instanceMethod yX5_houses, Cond.selects RX5 yX5_houses yX5_houses, Cond.code yX5_houses cX5_houses 1 (some .int), Cond.methodLink RX5 107 yX5_power, Cond.static yX5_power, Cond.code yX5_power cX5_power 3 (some .int), Cond.methodLink RX5 138 yX5_isLawful, Cond.instanceMethod yX5_isLawful, Cond.selects RX5 yX5_isLawful yX5_isLawful, Cond.code yX5_isLawful cX5_isLawful 6 (some .boolean), Cond.methodLink RX5 113 yX5_lying, Cond.instanceMethod yX5_lying, Cond.selects RX5 yX5_lying yX5_lying, Cond.code yX5_lying cX5_lying 4 (some .int), Cond.methodLink RX5 110 yX5_slotIn, Cond.instanceMethod yX5_slotIn, Cond.selects RX5 yX5_slotIn yX5_slotIn]
def wsX5_best_r2 : List Cond := [Cond.code yX5_slotIn cX5_slotIn 3 (some .int), Cond.methodLink RX5 116 yX5_isBorne, Cond.instanceMethod yX5_isBorne, Cond.selects RX5 yX5_isBorne yX5_isBorne, Cond.code yX5_isBorne cX5_isBorne 6 (some .boolean), Cond.fieldLink RX5 17 "BedHouseModel" "sorts" "[I", Cond.fieldLink RX5 23 "BedHouseModel" "beams" "[I", Cond.methodLink RX5 148 yX5_worthOf, Cond.instanceMethod yX5_worthOf, Cond.selects RX5 yX5_worthOf yX5_worthOf, Cond.code yX5_worthOf cX5_worthOf 4 (some .int), Cond.methodLink RX5 129 yX5_leaksIn, Cond.instanceMethod yX5_leaksIn, Cond.selects RX5 yX5_leaksIn yX5_leaksIn, Cond.code yX5_leaksIn cX5_leaksIn 4 (some .int), Cond.methodLink RX5 123 yX5_sortAt, Cond.instanceMethod yX5_sortAt, Cond.selects RX5 yX5_sortAt yX5_sortAt, Cond.code yX5_sortAt cX5_sortAt 4 (some .int), Cond.methodLink RX5 120 yX5_panelAt, Cond.instanceMethod yX5_panelAt, Cond.selects RX5 yX5_panelAt yX5_panelAt, Cond.code yX5_panelAt cX5_panelAt 4 (some .int), Cond.methodLink RX5 132 yX5_isLit]
def wsX5_best_r3 : List Cond := [Cond.instanceMethod yX5_isLit, Cond.selects RX5 yX5_isLit yX5_isLit, Cond.code yX5_isLit cX5_isLit 3 (some .boolean), Cond.methodLink RX5 126 yX5_isOpen, Cond.instanceMethod yX5_isOpen, Cond.selects RX5 yX5_isOpen yX5_isOpen, Cond.code yX5_isOpen cX5_isOpen 4 (some .boolean)]
def wsX5_best : List Cond := .code yX5_best cX5_best 5 (some .int) :: ((wsX5_best_r1 ++ (wsX5_best_r2 ++ wsX5_best_r3)) ++ wsX50)
def wsX5_clue : List Cond := .code yX5_clue cX5_clue 3 (some .int) :: ([.fieldLink RX5 26 "BedHouseModel" "now" "[I", .methodLink RX5 46 yX5_in, .static yX5_in, .initialized RX5, .code yX5_in cX5_in 3 (some .boolean)] ++ wsX50)
def wsX5_isFit_r1 : List Cond := [Cond.fieldLink RX5 26 "BedHouseModel" "now" "[I", Cond.methodLink RX5 138 yX5_isLawful, Cond.instanceMethod yX5_isLawful, Cond.selects RX5 yX5_isLawful yX5_isLawful, Cond.initialized RX5, Cond.code yX5_isLawful cX5_isLawful 6 (some .boolean), Cond.fieldLink RX5 13 "BedHouseModel" "plan" "[I", Cond.methodLink RX5 113 yX5_lying, Cond.instanceMethod yX5_lying, Cond.selects RX5 yX5_lying yX5_lying, Cond.code yX5_lying cX5_lying 4 (some .int), Cond.methodLink RX5 110 yX5_slotIn, Cond.instanceMethod yX5_slotIn, Cond.selects RX5 yX5_slotIn yX5_slotIn, Cond.code yX5_slotIn cX5_slotIn 3 (some .int), Cond.methodLink RX5 107 yX5_power, Cond.static yX5_power, Cond.code yX5_power cX5_power 3 (some .int), Cond.methodLink RX5 116 yX5_isBorne, Cond.instanceMethod yX5_isBorne, Cond.selects RX5 yX5_isBorne yX5_isBorne, Cond.code yX5_isBorne cX5_isBorne 6 (some .boolean), Cond.fieldLink RX5 17 "BedHouseModel" "sorts" "[I", Cond.fieldLink RX5 23 "BedHouseModel" "beams" "[I"]
def wsX5_isFit_r2 : List Cond := [Cond.methodLink RX5 132 yX5_isLit, Cond.instanceMethod yX5_isLit, Cond.selects RX5 yX5_isLit yX5_isLit, Cond.code yX5_isLit cX5_isLit 3 (some .boolean), Cond.methodLink RX5 126 yX5_isOpen, Cond.instanceMethod yX5_isOpen, Cond.selects RX5 yX5_isOpen yX5_isOpen, Cond.code yX5_isOpen cX5_isOpen 4 (some .boolean), Cond.methodLink RX5 123 yX5_sortAt, Cond.instanceMethod yX5_sortAt, Cond.selects RX5 yX5_sortAt yX5_sortAt, Cond.code yX5_sortAt cX5_sortAt 4 (some .int), Cond.methodLink RX5 120 yX5_panelAt, Cond.instanceMethod yX5_panelAt, Cond.selects RX5 yX5_panelAt yX5_panelAt, Cond.code yX5_panelAt cX5_panelAt 4 (some .int)]
def wsX5_isFit : List Cond := .code yX5_isFit cX5_isFit 4 (some .boolean) :: ((wsX5_isFit_r1 ++ wsX5_isFit_r2) ++ wsX50)
def wsX5_fit_r1 : List Cond := [Cond.methodLink RX5 174 yX5_houses, Cond.instanceMethod yX5_houses, Cond.selects RX5 yX5_houses yX5_houses, Cond.initialized RX5, Cond.code yX5_houses cX5_houses 1 (some .int), Cond.fieldLink RX5 13 "BedHouseModel" "plan" "[I", Cond.methodLink RX5 107 yX5_power, Cond.static yX5_power, Cond.code yX5_power cX5_power 3 (some .int), Cond.methodLink RX5 177 yX5_isFit, Cond.instanceMethod yX5_isFit, Cond.selects RX5 yX5_isFit yX5_isFit, Cond.code yX5_isFit cX5_isFit 4 (some .boolean), Cond.fieldLink RX5 26 "BedHouseModel" "now" "[I", Cond.methodLink RX5 138 yX5_isLawful, Cond.instanceMethod yX5_isLawful, Cond.selects RX5 yX5_isLawful yX5_isLawful, Cond.code yX5_isLawful cX5_isLawful 6 (some .boolean), Cond.methodLink RX5 113 yX5_lying, Cond.instanceMethod yX5_lying, Cond.selects RX5 yX5_lying yX5_lying, Cond.code yX5_lying cX5_lying 4 (some .int), Cond.methodLink RX5 110 yX5_slotIn, Cond.instanceMethod yX5_slotIn]
def wsX5_fit_r2 : List Cond := [Cond.selects RX5 yX5_slotIn yX5_slotIn, Cond.code yX5_slotIn cX5_slotIn 3 (some .int), Cond.methodLink RX5 116 yX5_isBorne, Cond.instanceMethod yX5_isBorne, Cond.selects RX5 yX5_isBorne yX5_isBorne, Cond.code yX5_isBorne cX5_isBorne 6 (some .boolean), Cond.fieldLink RX5 17 "BedHouseModel" "sorts" "[I", Cond.fieldLink RX5 23 "BedHouseModel" "beams" "[I", Cond.methodLink RX5 132 yX5_isLit, Cond.instanceMethod yX5_isLit, Cond.selects RX5 yX5_isLit yX5_isLit, Cond.code yX5_isLit cX5_isLit 3 (some .boolean), Cond.methodLink RX5 126 yX5_isOpen, Cond.instanceMethod yX5_isOpen, Cond.selects RX5 yX5_isOpen yX5_isOpen, Cond.code yX5_isOpen cX5_isOpen 4 (some .boolean), Cond.methodLink RX5 123 yX5_sortAt, Cond.instanceMethod yX5_sortAt, Cond.selects RX5 yX5_sortAt yX5_sortAt, Cond.code yX5_sortAt cX5_sortAt 4 (some .int), Cond.methodLink RX5 120 yX5_panelAt, Cond.instanceMethod yX5_panelAt, Cond.selects RX5 yX5_panelAt yX5_panelAt, Cond.code yX5_panelAt cX5_panelAt 4 (some .int)]
def wsX5_fit : List Cond := .code yX5_fit cX5_fit 3 (some .int) :: ((wsX5_fit_r1 ++ wsX5_fit_r2) ++ wsX50)
def wsX5_sure_r1 : List Cond := [Cond.methodLink RX5 135 yX5_isPanel, Cond.instanceMethod yX5_isPanel, Cond.selects RX5 yX5_isPanel yX5_isPanel, Cond.initialized RX5, Cond.code yX5_isPanel cX5_isPanel 2 (some .boolean), Cond.fieldLink RX5 13 "BedHouseModel" "plan" "[I", Cond.methodLink RX5 46 yX5_in, Cond.static yX5_in, Cond.code yX5_in cX5_in 3 (some .boolean), Cond.methodLink RX5 174 yX5_houses, Cond.instanceMethod yX5_houses, Cond.selects RX5 yX5_houses yX5_houses, Cond.code yX5_houses cX5_houses 1 (some .int), Cond.methodLink RX5 107 yX5_power, Cond.static yX5_power, Cond.code yX5_power cX5_power 3 (some .int), Cond.methodLink RX5 177 yX5_isFit, Cond.instanceMethod yX5_isFit, Cond.selects RX5 yX5_isFit yX5_isFit, Cond.code yX5_isFit cX5_isFit 4 (some .boolean), Cond.fieldLink RX5 26 "BedHouseModel" "now" "[I", Cond.methodLink RX5 138 yX5_isLawful, Cond.instanceMethod yX5_isLawful, Cond.selects RX5 yX5_isLawful yX5_isLawful]
def wsX5_sure_r2 : List Cond := [Cond.code yX5_isLawful cX5_isLawful 6 (some .boolean), Cond.methodLink RX5 113 yX5_lying, Cond.instanceMethod yX5_lying, Cond.selects RX5 yX5_lying yX5_lying, Cond.code yX5_lying cX5_lying 4 (some .int), Cond.methodLink RX5 110 yX5_slotIn, Cond.instanceMethod yX5_slotIn, Cond.selects RX5 yX5_slotIn yX5_slotIn, Cond.code yX5_slotIn cX5_slotIn 3 (some .int), Cond.methodLink RX5 116 yX5_isBorne, Cond.instanceMethod yX5_isBorne, Cond.selects RX5 yX5_isBorne yX5_isBorne, Cond.code yX5_isBorne cX5_isBorne 6 (some .boolean), Cond.fieldLink RX5 17 "BedHouseModel" "sorts" "[I", Cond.fieldLink RX5 23 "BedHouseModel" "beams" "[I", Cond.methodLink RX5 132 yX5_isLit, Cond.instanceMethod yX5_isLit, Cond.selects RX5 yX5_isLit yX5_isLit, Cond.code yX5_isLit cX5_isLit 3 (some .boolean), Cond.methodLink RX5 126 yX5_isOpen, Cond.instanceMethod yX5_isOpen, Cond.selects RX5 yX5_isOpen yX5_isOpen, Cond.code yX5_isOpen cX5_isOpen 4 (some .boolean), Cond.methodLink RX5 123 yX5_sortAt]
def wsX5_sure_r3 : List Cond := [Cond.instanceMethod yX5_sortAt, Cond.selects RX5 yX5_sortAt yX5_sortAt, Cond.code yX5_sortAt cX5_sortAt 4 (some .int), Cond.methodLink RX5 120 yX5_panelAt, Cond.instanceMethod yX5_panelAt, Cond.selects RX5 yX5_panelAt yX5_panelAt, Cond.code yX5_panelAt cX5_panelAt 4 (some .int)]
def wsX5_sure : List Cond := .code yX5_sure cX5_sure 5 (some .int) :: ((wsX5_sure_r1 ++ (wsX5_sure_r2 ++ wsX5_sure_r3)) ++ wsX50)
def wsX5_forget : List Cond := .code yX5_forget cX5_forget 2 (some .int) :: ([.fieldLink RX5 26 "BedHouseModel" "now" "[I"] ++ wsX50)
def wsX5_mark_r1 : List Cond := [Cond.constant RX5 151 (-1000000), Cond.fieldLink RX5 26 "BedHouseModel" "now" "[I", Cond.fieldLink RX5 180 "BedHouseModel" "trace" "J", Cond.constantLong RX5 184 (11), Cond.constantLong RX5 186 (101), Cond.fieldLink RX5 17 "BedHouseModel" "sorts" "[I", Cond.constantLong RX5 188 (1011), Cond.constantLong RX5 190 (10101), Cond.constantLong RX5 192 (100001), Cond.methodLink RX5 46 yX5_in, Cond.static yX5_in, Cond.initialized RX5, Cond.code yX5_in cX5_in 3 (some .boolean), Cond.methodLink RX5 135 yX5_isPanel, Cond.instanceMethod yX5_isPanel, Cond.selects RX5 yX5_isPanel yX5_isPanel, Cond.code yX5_isPanel cX5_isPanel 2 (some .boolean), Cond.fieldLink RX5 13 "BedHouseModel" "plan" "[I", Cond.methodLink RX5 110 yX5_slotIn, Cond.instanceMethod yX5_slotIn, Cond.selects RX5 yX5_slotIn yX5_slotIn, Cond.code yX5_slotIn cX5_slotIn 3 (some .int), Cond.methodLink RX5 107 yX5_power, Cond.static yX5_power]
def wsX5_mark_r2 : List Cond := [Cond.code yX5_power cX5_power 3 (some .int), Cond.methodLink RX5 113 yX5_lying, Cond.instanceMethod yX5_lying, Cond.selects RX5 yX5_lying yX5_lying, Cond.code yX5_lying cX5_lying 4 (some .int)]
def wsX5_mark : List Cond := .code yX5_mark cX5_mark 4 (some .int) :: ((wsX5_mark_r1 ++ wsX5_mark_r2) ++ wsX50)
def wsX5_copy : List Cond := .code yX5_copy cX5_copy 4 none :: ([.fieldLink RX5 26 "BedHouseModel" "now" "[I"] ++ wsX50)
def wsX5_keep : List Cond := .code yX5_keep cX5_keep 2 (some .int) :: ([.fieldLink RX5 29 "BedHouseModel" "isKept" "[Z", .fieldLink RX5 26 "BedHouseModel" "now" "[I", .methodLink RX5 46 yX5_in, .static yX5_in, .initialized RX5, .code yX5_in cX5_in 3 (some .boolean), .methodLink RX5 194 yX5_copy, .instanceMethod yX5_copy, .selects RX5 yX5_copy yX5_copy, .code yX5_copy cX5_copy 4 none] ++ wsX50)
def wsX5_back : List Cond := .code yX5_back cX5_back 2 (some .int) :: ([.fieldLink RX5 26 "BedHouseModel" "now" "[I", .methodLink RX5 165 yX5_refuses, .instanceMethod yX5_refuses, .selects RX5 yX5_refuses yX5_refuses, .initialized RX5, .code yX5_refuses cX5_refuses 2 (some .int), .fieldLink RX5 29 "BedHouseModel" "isKept" "[Z", .methodLink RX5 46 yX5_in, .static yX5_in, .code yX5_in cX5_in 3 (some .boolean), .methodLink RX5 194 yX5_copy, .instanceMethod yX5_copy, .selects RX5 yX5_copy yX5_copy, .code yX5_copy cX5_copy 4 none] ++ wsX50)
def wsX5_count : List Cond := .code yX5_count cX5_count 2 (some .int) :: ([.fieldLink RX5 13 "BedHouseModel" "plan" "[I", .fieldLink RX5 26 "BedHouseModel" "now" "[I", .fieldLink RX5 50 "BedHouseModel" "typed" "I", .methodLink RX5 113 yX5_lying, .instanceMethod yX5_lying, .selects RX5 yX5_lying yX5_lying, .initialized RX5, .code yX5_lying cX5_lying 4 (some .int), .methodLink RX5 110 yX5_slotIn, .instanceMethod yX5_slotIn, .selects RX5 yX5_slotIn yX5_slotIn, .code yX5_slotIn cX5_slotIn 3 (some .int), .methodLink RX5 107 yX5_power, .static yX5_power, .code yX5_power cX5_power 3 (some .int)] ++ wsX50)
def wsX5_trace : List Cond := .code yX5_trace cX5_trace 1 (some .long) :: ([.fieldLink RX5 180 "BedHouseModel" "trace" "J"] ++ wsX50)
def wsJ9_min_7cf53 : List Cond := .code yJ9_min_7cf53 cJ9_min_7cf53 2 (some .int) :: ([])
def wsL_law_r1 : List Cond := [Cond.classLink RL 7 RX4, Cond.instantiable RX4 7, Cond.initialized RX4, Cond.classLink RL 10 RX5, Cond.instantiable RX5 19, Cond.initialized RX5, Cond.constantLong RL 13 (4294967295), Cond.methodLink RL 9 yX4_init, Cond.instanceMethod yX4_init, Cond.code yX4_init cX4_init 1 none, Cond.methodLink RX4 3 objectInit, Cond.instanceMethod objectInit, Cond.code objectInit ⟨#[0xb1]⟩ 1 none, Cond.classLink RX4 9 RX3, Cond.instantiable RX3 8, Cond.initialized RX3, Cond.fieldLink RX4 12 "BedHouse" "text" "LBedHouse$Text;", Cond.classLink RX4 16 RX2, Cond.instantiable RX2 5, Cond.initialized RX2, Cond.fieldLink RX4 19 "BedHouse" "search" "LBedHouse$Search;", Cond.classLink RX4 23 RX0, Cond.instantiable RX0 8, Cond.initialized RX0]
def wsL_law_r2 : List Cond := [Cond.fieldLink RX4 26 "BedHouse" "present" "LBedHouse$Moment;", Cond.fieldLink RX4 30 "BedHouse" "images" "[LBedHouse$Moment;", Cond.classLink RX4 34 RX1, Cond.instantiable RX1 11, Cond.initialized RX1, Cond.fieldLink RX4 37 "BedHouse" "plan" "LBedHouse$Plan;", Cond.fieldLink RX4 41 "BedHouse" "draft" "LBedHouse$Plan;", Cond.instanceMethod yX3_init, Cond.code yX3_init cX3_init 1 none, Cond.methodLink RX3 3 objectInit, Cond.arrayClass .int, Cond.fieldLink RX3 11 "BedHouse$Text" "bytes" "[I", Cond.instanceMethod yX2_init, Cond.code yX2_init cX2_init 1 none, Cond.methodLink RX2 3 objectInit, Cond.arrayClass .byte, Cond.fieldLink RX2 11 "BedHouse$Search" "lawful" "[B", Cond.fieldLink RX2 15 "BedHouse$Search" "far" "[I", Cond.fieldLink RX2 19 "BedHouse$Search" "queue" "[I", Cond.instanceMethod yX0_init, Cond.code yX0_init cX0_init 1 none, Cond.methodLink RX0 1 objectInit, Cond.instanceMethod yX1_init, Cond.code yX1_init cX1_init 1 none]
def wsL_law_r3 : List Cond := [Cond.methodLink RX1 3 objectInit, Cond.fieldLink RX1 9 "BedHouse$Plan" "sorts" "[I", Cond.fieldLink RX1 15 "BedHouse$Plan" "beamSlots" "[I", Cond.methodLink RX1 18 yX1_startAnew, Cond.instanceMethod yX1_startAnew, Cond.selects RX1 yX1_startAnew yX1_startAnew, Cond.code yX1_startAnew cX1_startAnew 1 none, Cond.fieldLink RX1 21 "BedHouse$Plan" "panels" "I", Cond.fieldLink RX1 25 "BedHouse$Plan" "toldHouse" "I", Cond.fieldLink RX1 28 "BedHouse$Plan" "beams" "I", Cond.fieldLink RX1 31 "BedHouse$Plan" "rain" "I", Cond.fieldLink RX1 34 "BedHouse$Plan" "sun" "I", Cond.fieldLink RX1 37 "BedHouse$Plan" "view" "I", Cond.fieldLink RX1 40 "BedHouse$Plan" "noise" "I", Cond.fieldLink RX1 43 "BedHouse$Plan" "mostLying" "I", Cond.fieldLink RX1 46 "BedHouse$Plan" "hands" "I", Cond.methodLink RL 12 yX5_init, Cond.instanceMethod yX5_init, Cond.code yX5_init cX5_init 1 none, Cond.methodLink RX5 1 objectInit, Cond.fieldLink RX5 7 "BedHouseModel" "text" "[B", Cond.fieldLink RX5 13 "BedHouseModel" "plan" "[I", Cond.fieldLink RX5 17 "BedHouseModel" "sorts" "[I", Cond.fieldLink RX5 20 "BedHouseModel" "at0" "[I"]
def wsL_law_r4 : List Cond := [Cond.fieldLink RX5 23 "BedHouseModel" "beams" "[I", Cond.fieldLink RX5 26 "BedHouseModel" "now" "[I", Cond.arrayClass .boolean, Cond.fieldLink RX5 29 "BedHouseModel" "isKept" "[Z", Cond.fieldLink RX5 33 "BedHouseModel" "off" "[I", Cond.fieldLink RX5 36 "BedHouseModel" "reached" "[I", Cond.fieldLink RX5 39 "BedHouseModel" "isSlept" "[Z", Cond.methodLink RX5 42 yX5_begin, Cond.instanceMethod yX5_begin, Cond.selects RX5 yX5_begin yX5_begin, Cond.code yX5_begin cX5_begin 2 none, Cond.methodLink RL 15 yX4_type, Cond.instanceMethod yX4_type, Cond.selects RX4 yX4_type yX4_type, Cond.code yX4_type cX4_type 5 (some .int), Cond.instanceMethod yX3_append, Cond.selects RX3 yX3_append yX3_append, Cond.code yX3_append cX3_append 2 none, Cond.fieldLink RX3 15 "BedHouse$Text" "length" "I", Cond.methodLink RL 19 yX5_type, Cond.instanceMethod yX5_type, Cond.selects RX5 yX5_type yX5_type, Cond.code yX5_type cX5_type 5 (some .int), Cond.fieldLink RX5 50 "BedHouseModel" "typed" "I"]
def wsL_law_r5 : List Cond := [Cond.constantLong RX5 54 (255), Cond.methodLink RX5 46 yX5_in, Cond.static yX5_in, Cond.code yX5_in cX5_in 3 (some .boolean), Cond.methodLink RL 20 yX4_clear, Cond.instanceMethod yX4_clear, Cond.selects RX4 yX4_clear yX4_clear, Cond.code yX4_clear cX4_clear 2 (some .int), Cond.methodLink RL 24 yX5_clear, Cond.instanceMethod yX5_clear, Cond.selects RX5 yX5_clear yX5_clear, Cond.code yX5_clear cX5_clear 2 (some .int), Cond.methodLink RL 25 yX4_house, Cond.instanceMethod yX4_house, Cond.selects RX4 yX4_house yX4_house, Cond.code yX4_house cX4_house 4 (some .int), Cond.instanceMethod yX3_tell, Cond.selects RX3 yX3_tell yX3_tell, Cond.code yX3_tell cX3_tell 4 (some .int), Cond.fieldLink RX3 24 "BedHouse$Text" "downTold" "Z", Cond.fieldLink RX3 28 "BedHouse$Text" "handsTold" "Z", Cond.fieldLink RX3 31 "BedHouse$Text" "at" "I", Cond.fieldLink RX3 37 "BedHouse$Text" "token" "I", Cond.fieldLink RX3 44 "BedHouse$Text" "tokenStart" "I"]
def wsL_law_r6 : List Cond := [Cond.methodLink RX3 34 yX3_nextToken, Cond.instanceMethod yX3_nextToken, Cond.selects RX3 yX3_nextToken yX3_nextToken, Cond.code yX3_nextToken cX3_nextToken 2 none, Cond.methodLink RX3 108 yX3_byteAt, Cond.instanceMethod yX3_byteAt, Cond.selects RX3 yX3_byteAt yX3_byteAt, Cond.code yX3_byteAt cX3_byteAt 2 (some .int), Cond.methodLink RX3 112 yX3_isLetter, Cond.static yX3_isLetter, Cond.code yX3_isLetter cX3_isLetter 1 (some .boolean), Cond.methodLink RX3 115 yX3_readWord, Cond.instanceMethod yX3_readWord, Cond.selects RX3 yX3_readWord yX3_readWord, Cond.code yX3_readWord cX3_readWord 2 none, Cond.fieldLink RX3 47 "BedHouse$Text" "value" "I", Cond.methodLink RX3 124 yX3_spelling, Cond.static yX3_spelling, Cond.code yX3_spelling cX3_spelling 1 (some (.object "java/lang/String")), Cond.methodLink RX3 128 yX3_isSpelled, Cond.instanceMethod yX3_isSpelled, Cond.selects RX3 yX3_isSpelled yX3_isSpelled, Cond.code yX3_isSpelled cX3_isSpelled 3 (some .boolean), Cond.methodLink RX3 132 yJ0_length_8abf5]
def wsL_law_r7 : List Cond := [Cond.instanceMethod yJ0_length_8abf5, Cond.selects RJ0 yJ0_length_8abf5 yJ0_length_8abf5, Cond.initialized RJ0, Cond.code yJ0_length_8abf5 cJ0_length_8abf5 1 (some .int), Cond.fieldLink RJ0 9 "java/lang/String" "value" "[B", Cond.methodLink RJ0 335 yJ0_coder_7d493, Cond.instanceMethod yJ0_coder_7d493, Cond.selects RJ0 yJ0_coder_7d493 yJ0_coder_7d493, Cond.code yJ0_coder_7d493 cJ0_coder_7d493 1 (some .byte), Cond.fieldLink RJ0 38 "java/lang/String" "COMPACT_STRINGS" "Z", Cond.fieldLink RJ0 15 "java/lang/String" "coder" "B", Cond.methodLink RX3 137 yJ0_charAt_5068e, Cond.instanceMethod yJ0_charAt_5068e, Cond.selects RJ0 yJ0_charAt_5068e yJ0_charAt_5068e, Cond.code yJ0_charAt_5068e cJ0_charAt_5068e 2 (some .char), Cond.methodLink RJ0 492 yJ0_isLatin1_aae02, Cond.instanceMethod yJ0_isLatin1_aae02, Cond.selects RJ0 yJ0_isLatin1_aae02 yJ0_isLatin1_aae02, Cond.code yJ0_isLatin1_aae02 cJ0_isLatin1_aae02 1 (some .boolean), Cond.methodLink RJ0 495 yJ1_charAt_3b067, Cond.static yJ1_charAt_3b067, Cond.initialized RJ1, Cond.code yJ1_charAt_3b067 cJ1_charAt_3b067 2 (some .char), Cond.methodLink RJ1 9 yJ0_checkIndex_df160]
def wsL_law_r8 : List Cond := [Cond.static yJ0_checkIndex_df160, Cond.code yJ0_checkIndex_df160 cJ0_checkIndex_df160 2 none, Cond.fieldLink RJ0 1053 "jdk/internal/util/Preconditions" "SIOOBE_FORMATTER" "Ljava/util/function/BiFunction;", Cond.methodLink RJ0 1059 yJ3_checkIndex_8e157, Cond.static yJ3_checkIndex_8e157, Cond.initialized RJ3, Cond.code yJ3_checkIndex_8e157 cJ3_checkIndex_8e157 3 (some .int), Cond.methodLink RJ0 498 yJ2_charAt_3b067, Cond.static yJ2_charAt_3b067, Cond.initialized RJ2, Cond.code yJ2_charAt_3b067 cJ2_charAt_3b067 2 (some .char), Cond.methodLink RJ2 67 yJ2_checkIndex_2214a, Cond.static yJ2_checkIndex_2214a, Cond.code yJ2_checkIndex_2214a cJ2_checkIndex_2214a 2 none, Cond.methodLink RJ2 48 yJ2_length_9d52b, Cond.static yJ2_length_9d52b, Cond.code yJ2_length_9d52b cJ2_length_9d52b 1 (some .int), Cond.methodLink RJ2 414 yJ0_checkIndex_df160, Cond.methodLink RJ2 71 yJ2_getChar_3b067, Cond.static yJ2_getChar_3b067, Cond.code yJ2_getChar_3b067 cJ2_getChar_3b067 2 (some .char), Cond.fieldLink RJ2 44 "java/lang/StringUTF16" "$assertionsDisabled" "Z", Cond.fieldLink RJ2 59 "java/lang/StringUTF16" "HI_BYTE_SHIFT" "I", Cond.fieldLink RJ2 63 "java/lang/StringUTF16" "LO_BYTE_SHIFT" "I"]
def wsL_law_r9 : List Cond := [Cond.methodLink RX3 118 yX3_isDigit, Cond.static yX3_isDigit, Cond.code yX3_isDigit cX3_isDigit 1 (some .boolean), Cond.methodLink RX3 121 yX3_readNumber, Cond.instanceMethod yX3_readNumber, Cond.selects RX3 yX3_readNumber yX3_readNumber, Cond.code yX3_readNumber cX3_readNumber 2 none, Cond.methodLink RX3 141 Lib.Math.min.name, Cond.static Lib.Math.min.name, Cond.initialized "java/lang/Math", Cond.code Lib.Math.min.name Lib.Math.min.code 2 (some .int), Cond.methodLink RX3 40 yX3_tellItem, Cond.instanceMethod yX3_tellItem, Cond.selects RX3 yX3_tellItem yX3_tellItem, Cond.code yX3_tellItem cX3_tellItem 5 (some .boolean), Cond.methodLink RX3 50 yX3_mayBegin, Cond.instanceMethod yX3_mayBegin, Cond.selects RX3 yX3_mayBegin yX3_mayBegin, Cond.code yX3_mayBegin cX3_mayBegin 3 (some .boolean), Cond.methodLink RX3 54 yX3_mayBeFirst, Cond.static yX3_mayBeFirst, Cond.code yX3_mayBeFirst cX3_mayBeFirst 3 (some .boolean), Cond.static yX4_isSlot, Cond.code yX4_isSlot cX4_isSlot 1 (some .boolean)]
def wsL_law_r10 : List Cond := [Cond.instanceMethod yX1_panelAt, Cond.selects RX1 yX1_panelAt yX1_panelAt, Cond.code yX1_panelAt cX1_panelAt 4 (some .int), Cond.static yX4_placeIn, Cond.code yX4_placeIn cX4_placeIn 2 (some .int), Cond.methodLink RX3 58 yX3_apply, Cond.instanceMethod yX3_apply, Cond.selects RX3 yX3_apply yX3_apply, Cond.code yX3_apply cX3_apply 5 none, Cond.methodLink RX3 85 yX3_slotsFrom, Cond.static yX3_slotsFrom, Cond.code yX3_slotsFrom cX3_slotsFrom 4 (some .int), Cond.instanceMethod yX1_addBeam, Cond.selects RX1 yX1_addBeam yX1_addBeam, Cond.code yX1_addBeam cX1_addBeam 2 none, Cond.instanceMethod yX1_addPanel, Cond.selects RX1 yX1_addPanel yX1_addPanel, Cond.code yX1_addPanel cX1_addPanel 3 none, Cond.static yX4_unitOf, Cond.code yX4_unitOf cX4_unitOf 1 (some .int), Cond.instanceMethod yX0_begin, Cond.selects RX0 yX0_begin yX0_begin, Cond.code yX0_begin cX0_begin 2 none, Cond.fieldLink RX0 7 "BedHouse$Moment" "home" "I"]
def wsL_law_r11 : List Cond := [Cond.fieldLink RX0 13 "BedHouse$Moment" "day" "I", Cond.fieldLink RX0 16 "BedHouse$Moment" "acts" "I", Cond.fieldLink RX0 19 "BedHouse$Moment" "leaks" "I", Cond.fieldLink RX0 22 "BedHouse$Moment" "clues" "I", Cond.fieldLink RX0 25 "BedHouse$Moment" "litHours" "I", Cond.fieldLink RX0 28 "BedHouse$Moment" "darkHours" "I", Cond.methodLink RL 28 yX5_house, Cond.instanceMethod yX5_house, Cond.selects RX5 yX5_house yX5_house, Cond.code yX5_house cX5_house 4 (some .int), Cond.fieldLink RX5 56 "BedHouseModel" "at" "I", Cond.fieldLink RX5 77 "BedHouseModel" "fault" "I", Cond.fieldLink RX5 91 "BedHouseModel" "told" "I", Cond.fieldLink RX5 69 "BedHouseModel" "sort" "I", Cond.methodLink RX5 80 yX5_next, Cond.instanceMethod yX5_next, Cond.selects RX5 yX5_next yX5_next, Cond.code yX5_next cX5_next 5 none, Cond.fieldLink RX5 63 "BedHouseModel" "start" "I", Cond.fieldLink RX5 66 "BedHouseModel" "value" "I", Cond.constant RX5 76 (54575892), Cond.methodLink RX5 59 yX5_here, Cond.instanceMethod yX5_here, Cond.selects RX5 yX5_here yX5_here]
def wsL_law_r12 : List Cond := [Cond.code yX5_here cX5_here 1 (some .int), Cond.methodLink RX5 72 yX5_meaning, Cond.static yX5_meaning, Cond.code yX5_meaning cX5_meaning 1 (some .int), Cond.methodLink RX5 104 yX5_readItem, Cond.instanceMethod yX5_readItem, Cond.selects RX5 yX5_readItem yX5_readItem, Cond.code yX5_readItem cX5_readItem 4 none, Cond.methodLink RX5 94 yX5_mayItem, Cond.instanceMethod yX5_mayItem, Cond.selects RX5 yX5_mayItem yX5_mayItem, Cond.code yX5_mayItem cX5_mayItem 2 (some .boolean), Cond.methodLink RX5 83 yX5_due, Cond.instanceMethod yX5_due, Cond.selects RX5 yX5_due yX5_due, Cond.code yX5_due cX5_due 3 (some .int), Cond.methodLink RX5 98 yX5_stands, Cond.instanceMethod yX5_stands, Cond.selects RX5 yX5_stands yX5_stands, Cond.code yX5_stands cX5_stands 4 (some .boolean), Cond.methodLink RX5 101 yX5_round, Cond.instanceMethod yX5_round, Cond.selects RX5 yX5_round yX5_round, Cond.code yX5_round cX5_round 5 (some .int)]
def wsL_law_r13 : List Cond := [Cond.methodLink RX5 87 yX5_number, Cond.instanceMethod yX5_number, Cond.selects RX5 yX5_number yX5_number, Cond.code yX5_number cX5_number 3 (some .int), Cond.methodLink RL 29 yX4_panel, Cond.instanceMethod yX4_panel, Cond.selects RX4 yX4_panel yX4_panel, Cond.code yX4_panel cX4_panel 3 (some .int), Cond.instanceMethod yX1_hasPanel, Cond.selects RX1 yX1_hasPanel yX1_hasPanel, Cond.code yX1_hasPanel cX1_hasPanel 2 (some .boolean), Cond.instanceMethod yX1_sortOf, Cond.selects RX1 yX1_sortOf yX1_sortOf, Cond.code yX1_sortOf cX1_sortOf 2 (some .int), Cond.methodLink RX1 53 yX1_hasPanel, Cond.methodLink RX4 80 yX4_placeIn, Cond.methodLink RL 33 yX5_panel, Cond.instanceMethod yX5_panel, Cond.selects RX5 yX5_panel yX5_panel, Cond.code yX5_panel cX5_panel 3 (some .int), Cond.methodLink RX5 135 yX5_isPanel, Cond.instanceMethod yX5_isPanel, Cond.selects RX5 yX5_isPanel yX5_isPanel, Cond.code yX5_isPanel cX5_isPanel 2 (some .boolean)]
def wsL_law_r14 : List Cond := [Cond.methodLink RX5 110 yX5_slotIn, Cond.instanceMethod yX5_slotIn, Cond.selects RX5 yX5_slotIn yX5_slotIn, Cond.code yX5_slotIn cX5_slotIn 3 (some .int), Cond.methodLink RX5 107 yX5_power, Cond.static yX5_power, Cond.code yX5_power cX5_power 3 (some .int), Cond.methodLink RL 34 yX4_slot, Cond.instanceMethod yX4_slot, Cond.selects RX4 yX4_slot yX4_slot, Cond.code yX4_slot cX4_slot 3 (some .int), Cond.methodLink RX4 84 yX4_isSlot, Cond.methodLink RL 37 yX5_slot, Cond.instanceMethod yX5_slot, Cond.selects RX5 yX5_slot yX5_slot, Cond.code yX5_slot cX5_slot 3 (some .int), Cond.methodLink RX5 120 yX5_panelAt, Cond.instanceMethod yX5_panelAt, Cond.selects RX5 yX5_panelAt yX5_panelAt, Cond.code yX5_panelAt cX5_panelAt 4 (some .int), Cond.methodLink RL 38 yX4_told, Cond.instanceMethod yX4_told, Cond.selects RX4 yX4_told yX4_told, Cond.code yX4_told cX4_told 2 (some .int)]
def wsL_law_r15 : List Cond := [Cond.methodLink RL 42 yX5_told, Cond.instanceMethod yX5_told, Cond.selects RX5 yX5_told yX5_told, Cond.code yX5_told cX5_told 2 (some .int), Cond.methodLink RL 43 yX4_beam, Cond.instanceMethod yX4_beam, Cond.selects RX4 yX4_beam yX4_beam, Cond.code yX4_beam cX4_beam 2 (some .int), Cond.instanceMethod yX1_hasBeam, Cond.selects RX1 yX1_hasBeam yX1_hasBeam, Cond.code yX1_hasBeam cX1_hasBeam 2 (some .boolean), Cond.instanceMethod yX1_isBorne, Cond.selects RX1 yX1_isBorne yX1_isBorne, Cond.code yX1_isBorne cX1_isBorne 3 (some .boolean), Cond.methodLink RX1 61 yX1_hasBeam, Cond.methodLink RX1 64 yX1_slotsUnder, Cond.instanceMethod yX1_slotsUnder, Cond.selects RX1 yX1_slotsUnder yX1_slotsUnder, Cond.code yX1_slotsUnder cX1_slotsUnder 6 (some .int), Cond.methodLink RX4 115 yX4_asNumber, Cond.static yX4_asNumber, Cond.code yX4_asNumber cX4_asNumber 1 (some .int), Cond.methodLink RL 46 yX5_beam, Cond.instanceMethod yX5_beam]
def wsL_law_r16 : List Cond := [Cond.selects RX5 yX5_beam yX5_beam, Cond.code yX5_beam cX5_beam 2 (some .int), Cond.methodLink RX5 116 yX5_isBorne, Cond.instanceMethod yX5_isBorne, Cond.selects RX5 yX5_isBorne yX5_isBorne, Cond.code yX5_isBorne cX5_isBorne 6 (some .boolean), Cond.methodLink RL 47 yX4_down, Cond.instanceMethod yX4_down, Cond.selects RX4 yX4_down yX4_down, Cond.code yX4_down cX4_down 2 (some .int), Cond.methodLink RX4 119 yX4_act, Cond.instanceMethod yX4_act, Cond.selects RX4 yX4_act yX4_act, Cond.code yX4_act cX4_act 4 (some .int), Cond.methodLink RX4 214 yX4_moved, Cond.static yX4_moved, Cond.code yX4_moved cX4_moved 3 (some .int), Cond.methodLink RX4 228 yX4_unitOf, Cond.instanceMethod yX1_allows, Cond.selects RX1 yX1_allows yX1_allows, Cond.code yX1_allows cX1_allows 4 (some .boolean), Cond.methodLink RX1 67 yX1_lyingIn, Cond.instanceMethod yX1_lyingIn, Cond.selects RX1 yX1_lyingIn yX1_lyingIn]
def wsL_law_r17 : List Cond := [Cond.code yX1_lyingIn cX1_lyingIn 4 (some .int), Cond.methodLink RX1 70 yJ6_bitCount_0f7a4, Cond.static yJ6_bitCount_0f7a4, Cond.initialized RJ6, Cond.code yJ6_bitCount_0f7a4 cJ6_bitCount_0f7a4 1 (some .int), Cond.constant RJ6 265 (1431655765), Cond.constant RJ6 266 (858993459), Cond.constant RJ6 267 (252645135), Cond.methodLink RX1 75 yX1_isBorne, Cond.methodLink RL 50 yX5_down, Cond.instanceMethod yX5_down, Cond.selects RX5 yX5_down yX5_down, Cond.code yX5_down cX5_down 2 (some .int), Cond.methodLink RX5 141 yX5_with, Cond.instanceMethod yX5_with, Cond.selects RX5 yX5_with yX5_with, Cond.code yX5_with cX5_with 4 (some .int), Cond.methodLink RX5 145 yX5_act, Cond.instanceMethod yX5_act, Cond.selects RX5 yX5_act yX5_act, Cond.code yX5_act cX5_act 2 (some .int), Cond.methodLink RX5 138 yX5_isLawful, Cond.instanceMethod yX5_isLawful, Cond.selects RX5 yX5_isLawful yX5_isLawful]
def wsL_law_r18 : List Cond := [Cond.code yX5_isLawful cX5_isLawful 6 (some .boolean), Cond.methodLink RX5 113 yX5_lying, Cond.instanceMethod yX5_lying, Cond.selects RX5 yX5_lying yX5_lying, Cond.code yX5_lying cX5_lying 4 (some .int), Cond.methodLink RL 51 yX4_up, Cond.instanceMethod yX4_up, Cond.selects RX4 yX4_up yX4_up, Cond.code yX4_up cX4_up 3 (some .int), Cond.methodLink RL 54 yX5_up, Cond.instanceMethod yX5_up, Cond.selects RX5 yX5_up yX5_up, Cond.code yX5_up cX5_up 3 (some .int), Cond.methodLink RL 55 yX4_night, Cond.instanceMethod yX4_night, Cond.selects RX4 yX4_night yX4_night, Cond.code yX4_night cX4_night 2 (some .int), Cond.instanceMethod yX1_leaksOf, Cond.selects RX1 yX1_leaksOf yX1_leaksOf, Cond.code yX1_leaksOf cX1_leaksOf 2 (some .int), Cond.methodLink RL 58 yX5_night, Cond.instanceMethod yX5_night, Cond.selects RX5 yX5_night yX5_night, Cond.code yX5_night cX5_night 2 (some .int)]
def wsL_law_r19 : List Cond := [Cond.methodLink RX5 129 yX5_leaksIn, Cond.instanceMethod yX5_leaksIn, Cond.selects RX5 yX5_leaksIn yX5_leaksIn, Cond.code yX5_leaksIn cX5_leaksIn 4 (some .int), Cond.methodLink RX5 123 yX5_sortAt, Cond.instanceMethod yX5_sortAt, Cond.selects RX5 yX5_sortAt yX5_sortAt, Cond.code yX5_sortAt cX5_sortAt 4 (some .int), Cond.methodLink RL 59 yX4_now, Cond.instanceMethod yX4_now, Cond.selects RX4 yX4_now yX4_now, Cond.code yX4_now cX4_now 2 (some .int), Cond.constant RX4 140 (-1000000), Cond.instanceMethod yX1_worthOf, Cond.selects RX1 yX1_worthOf yX1_worthOf, Cond.code yX1_worthOf cX1_worthOf 3 (some .int), Cond.methodLink RX1 79 yX1_litHours, Cond.instanceMethod yX1_litHours, Cond.selects RX1 yX1_litHours yX1_litHours, Cond.code yX1_litHours cX1_litHours 2 (some .int), Cond.methodLink RX1 82 yX1_leaksOf, Cond.methodLink RX1 85 yX1_quietIn, Cond.instanceMethod yX1_quietIn, Cond.selects RX1 yX1_quietIn yX1_quietIn]
def wsL_law_r20 : List Cond := [Cond.code yX1_quietIn cX1_quietIn 2 (some .int), Cond.methodLink RL 62 yX5_now, Cond.instanceMethod yX5_now, Cond.selects RX5 yX5_now yX5_now, Cond.code yX5_now cX5_now 2 (some .int), Cond.constant RX5 151 (-1000000), Cond.methodLink RX5 148 yX5_worthOf, Cond.instanceMethod yX5_worthOf, Cond.selects RX5 yX5_worthOf yX5_worthOf, Cond.code yX5_worthOf cX5_worthOf 4 (some .int), Cond.methodLink RX5 132 yX5_isLit, Cond.instanceMethod yX5_isLit, Cond.selects RX5 yX5_isLit yX5_isLit, Cond.code yX5_isLit cX5_isLit 3 (some .boolean), Cond.methodLink RX5 126 yX5_isOpen, Cond.instanceMethod yX5_isOpen, Cond.selects RX5 yX5_isOpen yX5_isOpen, Cond.code yX5_isOpen cX5_isOpen 4 (some .boolean), Cond.methodLink RL 63 yX4_lit, Cond.instanceMethod yX4_lit, Cond.selects RX4 yX4_lit yX4_lit, Cond.code yX4_lit cX4_lit 2 (some .int), Cond.methodLink RL 66 yX5_lit, Cond.instanceMethod yX5_lit]
def wsL_law_r21 : List Cond := [Cond.selects RX5 yX5_lit yX5_lit, Cond.code yX5_lit cX5_lit 2 (some .int), Cond.methodLink RL 67 yX4_fewest, Cond.instanceMethod yX4_fewest, Cond.selects RX4 yX4_fewest yX4_fewest, Cond.code yX4_fewest cX4_fewest 2 (some .int), Cond.methodLink RX4 144 yX4_isImage, Cond.instanceMethod yX4_isImage, Cond.selects RX4 yX4_isImage yX4_isImage, Cond.code yX4_isImage cX4_isImage 2 (some .boolean), Cond.instanceMethod yX2_fewestActs, Cond.selects RX2 yX2_fewestActs yX2_fewestActs, Cond.code yX2_fewestActs cX2_fewestActs 4 (some .int), Cond.methodLink RX2 68 yX2_survey, Cond.instanceMethod yX2_survey, Cond.selects RX2 yX2_survey yX2_survey, Cond.code yX2_survey cX2_survey 4 none, Cond.fieldLink RX2 22 "BedHouse$Search" "surveyed" "Z", Cond.methodLink RX2 72 yX2_spreadFrom, Cond.instanceMethod yX2_spreadFrom, Cond.selects RX2 yX2_spreadFrom yX2_spreadFrom, Cond.code yX2_spreadFrom cX2_spreadFrom 3 none, Cond.methodLink RX2 40 yX2_spread, Cond.instanceMethod yX2_spread]
def wsL_law_r22 : List Cond := [Cond.selects RX2 yX2_spread yX2_spread, Cond.code yX2_spread cX2_spread 6 none, Cond.fieldLink RX2 44 "BedHouse$Search" "reached" "I", Cond.methodLink RX2 47 yX2_farTo, Cond.instanceMethod yX2_farTo, Cond.selects RX2 yX2_farTo yX2_farTo, Cond.code yX2_farTo cX2_farTo 2 (some .int), Cond.methodLink RX2 50 yX2_spreadByOneAct, Cond.instanceMethod yX2_spreadByOneAct, Cond.selects RX2 yX2_spreadByOneAct yX2_spreadByOneAct, Cond.code yX2_spreadByOneAct cX2_spreadByOneAct 6 none, Cond.methodLink RX2 61 yX2_reach, Cond.instanceMethod yX2_reach, Cond.selects RX2 yX2_reach yX2_reach, Cond.code yX2_reach cX2_reach 3 none, Cond.methodLink RX2 65 yX2_isLawful, Cond.instanceMethod yX2_isLawful, Cond.selects RX2 yX2_isLawful yX2_isLawful, Cond.code yX2_isLawful cX2_isLawful 2 (some .boolean), Cond.methodLink RL 70 yX5_fewest, Cond.instanceMethod yX5_fewest, Cond.selects RX5 yX5_fewest yX5_fewest, Cond.code yX5_fewest cX5_fewest 3 (some .int), Cond.methodLink RX5 165 yX5_refuses]
def wsL_law_r23 : List Cond := [Cond.instanceMethod yX5_refuses, Cond.selects RX5 yX5_refuses yX5_refuses, Cond.code yX5_refuses cX5_refuses 2 (some .int), Cond.methodLink RX5 168 yX5_goFrom, Cond.instanceMethod yX5_goFrom, Cond.selects RX5 yX5_goFrom yX5_goFrom, Cond.code yX5_goFrom cX5_goFrom 2 none, Cond.methodLink RX5 159 yX5_none, Cond.instanceMethod yX5_none, Cond.selects RX5 yX5_none yX5_none, Cond.code yX5_none cX5_none 2 none, Cond.fieldLink RX5 152 "BedHouseModel" "reachedMany" "I", Cond.methodLink RX5 155 yX5_reach, Cond.instanceMethod yX5_reach, Cond.selects RX5 yX5_reach yX5_reach, Cond.code yX5_reach cX5_reach 3 none, Cond.methodLink RX5 162 yX5_go, Cond.instanceMethod yX5_go, Cond.selects RX5 yX5_go yX5_go, Cond.code yX5_go cX5_go 8 none, Cond.methodLink RX5 171 yX5_houseOf, Cond.instanceMethod yX5_houseOf, Cond.selects RX5 yX5_houseOf yX5_houseOf, Cond.code yX5_houseOf cX5_houseOf 2 (some .int)]
def wsL_law_r24 : List Cond := [Cond.methodLink RL 71 yX4_first, Cond.instanceMethod yX4_first, Cond.selects RX4 yX4_first yX4_first, Cond.code yX4_first cX4_first 2 (some .int), Cond.instanceMethod yX2_firstAct, Cond.selects RX2 yX2_firstAct yX2_firstAct, Cond.code yX2_firstAct cX2_firstAct 12 (some .int), Cond.methodLink RL 74 yX5_first, Cond.instanceMethod yX5_first, Cond.selects RX5 yX5_first yX5_first, Cond.code yX5_first cX5_first 11 (some .int), Cond.methodLink RL 75 yX4_nights, Cond.instanceMethod yX4_nights, Cond.selects RX4 yX4_nights yX4_nights, Cond.code yX4_nights cX4_nights 2 (some .int), Cond.instanceMethod yX2_fewestNights, Cond.selects RX2 yX2_fewestNights yX2_fewestNights, Cond.code yX2_fewestNights cX2_fewestNights 7 (some .int), Cond.methodLink RX2 90 yX2_keepDry, Cond.instanceMethod yX2_keepDry, Cond.selects RX2 yX2_keepDry yX2_keepDry, Cond.code yX2_keepDry cX2_keepDry 4 (some .int), Cond.methodLink RL 78 yX5_nights, Cond.instanceMethod yX5_nights]
def wsL_law_r25 : List Cond := [Cond.selects RX5 yX5_nights yX5_nights, Cond.code yX5_nights cX5_nights 5 (some .int), Cond.methodLink RX5 174 yX5_houses, Cond.instanceMethod yX5_houses, Cond.selects RX5 yX5_houses yX5_houses, Cond.code yX5_houses cX5_houses 1 (some .int), Cond.methodLink RL 79 yX4_piano, Cond.instanceMethod yX4_piano, Cond.selects RX4 yX4_piano yX4_piano, Cond.code yX4_piano cX4_piano 2 (some .int), Cond.instanceMethod yX2_actsToEmpty, Cond.selects RX2 yX2_actsToEmpty yX2_actsToEmpty, Cond.code yX2_actsToEmpty cX2_actsToEmpty 5 (some .int), Cond.methodLink RL 82 yX5_piano, Cond.instanceMethod yX5_piano, Cond.selects RX5 yX5_piano yX5_piano, Cond.code yX5_piano cX5_piano 4 (some .int), Cond.methodLink RL 83 yX4_best, Cond.instanceMethod yX4_best, Cond.selects RX4 yX4_best yX4_best, Cond.code yX4_best cX4_best 3 (some .int), Cond.instanceMethod yX2_bestHome, Cond.selects RX2 yX2_bestHome yX2_bestHome, Cond.code yX2_bestHome cX2_bestHome 6 (some .int)]
def wsL_law_r26 : List Cond := [Cond.constant RX2 100 (-1000000), Cond.methodLink RL 86 yX5_best, Cond.instanceMethod yX5_best, Cond.selects RX5 yX5_best yX5_best, Cond.code yX5_best cX5_best 5 (some .int), Cond.methodLink RL 87 yX4_clue, Cond.instanceMethod yX4_clue, Cond.selects RX4 yX4_clue yX4_clue, Cond.code yX4_clue cX4_clue 3 (some .int), Cond.methodLink RL 90 yX5_clue, Cond.instanceMethod yX5_clue, Cond.selects RX5 yX5_clue yX5_clue, Cond.code yX5_clue cX5_clue 3 (some .int), Cond.methodLink RL 91 yX4_fit, Cond.instanceMethod yX4_fit, Cond.selects RX4 yX4_fit yX4_fit, Cond.code yX4_fit cX4_fit 1 (some .int), Cond.instanceMethod yX2_countFitting, Cond.selects RX2 yX2_countFitting yX2_countFitting, Cond.code yX2_countFitting cX2_countFitting 5 (some .int), Cond.instanceMethod yX1_fitsLetter, Cond.selects RX1 yX1_fitsLetter yX1_fitsLetter, Cond.code yX1_fitsLetter cX1_fitsLetter 4 (some .boolean), Cond.methodLink RL 94 yX5_fit]
def wsL_law_r27 : List Cond := [Cond.instanceMethod yX5_fit, Cond.selects RX5 yX5_fit yX5_fit, Cond.code yX5_fit cX5_fit 3 (some .int), Cond.methodLink RX5 177 yX5_isFit, Cond.instanceMethod yX5_isFit, Cond.selects RX5 yX5_isFit yX5_isFit, Cond.code yX5_isFit cX5_isFit 4 (some .boolean), Cond.methodLink RL 95 yX4_sure, Cond.instanceMethod yX4_sure, Cond.selects RX4 yX4_sure yX4_sure, Cond.code yX4_sure cX4_sure 2 (some .int), Cond.instanceMethod yX2_surePlace, Cond.selects RX2 yX2_surePlace yX2_surePlace, Cond.code yX2_surePlace cX2_surePlace 7 (some .int), Cond.methodLink RL 98 yX5_sure, Cond.instanceMethod yX5_sure, Cond.selects RX5 yX5_sure yX5_sure, Cond.code yX5_sure cX5_sure 5 (some .int), Cond.methodLink RL 99 yX4_forget, Cond.instanceMethod yX4_forget, Cond.selects RX4 yX4_forget yX4_forget, Cond.code yX4_forget cX4_forget 2 (some .int), Cond.methodLink RL 102 yX5_forget, Cond.instanceMethod yX5_forget]
def wsL_law_r28 : List Cond := [Cond.selects RX5 yX5_forget yX5_forget, Cond.code yX5_forget cX5_forget 2 (some .int), Cond.methodLink RL 103 yX4_mark, Cond.instanceMethod yX4_mark, Cond.selects RX4 yX4_mark yX4_mark, Cond.code yX4_mark cX4_mark 3 (some .int), Cond.methodLink RX4 179 yX4_markOfPanel, Cond.instanceMethod yX4_markOfPanel, Cond.selects RX4 yX4_markOfPanel yX4_markOfPanel, Cond.code yX4_markOfPanel cX4_markOfPanel 2 (some .int), Cond.fieldLink RX4 210 "BedHouse" "traced" "J", Cond.methodLink RX4 182 yX4_markOfBearing, Cond.instanceMethod yX4_markOfBearing, Cond.selects RX4 yX4_markOfBearing yX4_markOfBearing, Cond.code yX4_markOfBearing cX4_markOfBearing 2 (some .int), Cond.constantLong RX4 218 (10), Cond.methodLink RX4 185 yX4_markOfLight, Cond.instanceMethod yX4_markOfLight, Cond.selects RX4 yX4_markOfLight yX4_markOfLight, Cond.code yX4_markOfLight cX4_markOfLight 2 (some .int), Cond.constantLong RX4 220 (100), Cond.methodLink RX4 188 yX4_markOfOld, Cond.instanceMethod yX4_markOfOld, Cond.selects RX4 yX4_markOfOld yX4_markOfOld]
def wsL_law_r29 : List Cond := [Cond.code yX4_markOfOld cX4_markOfOld 2 (some .int), Cond.constantLong RX4 222 (1000), Cond.methodLink RX4 191 yX4_markOfClear, Cond.instanceMethod yX4_markOfClear, Cond.selects RX4 yX4_markOfClear yX4_markOfClear, Cond.code yX4_markOfClear cX4_markOfClear 2 (some .int), Cond.constantLong RX4 224 (10000), Cond.methodLink RX4 194 yX4_markOfNeighbours, Cond.instanceMethod yX4_markOfNeighbours, Cond.selects RX4 yX4_markOfNeighbours yX4_markOfNeighbours, Cond.code yX4_markOfNeighbours cX4_markOfNeighbours 2 (some .int), Cond.constantLong RX4 226 (100000), Cond.methodLink RL 106 yX5_mark, Cond.instanceMethod yX5_mark, Cond.selects RX5 yX5_mark yX5_mark, Cond.code yX5_mark cX5_mark 4 (some .int), Cond.fieldLink RX5 180 "BedHouseModel" "trace" "J", Cond.constantLong RX5 184 (11), Cond.constantLong RX5 186 (101), Cond.constantLong RX5 188 (1011), Cond.constantLong RX5 190 (10101), Cond.constantLong RX5 192 (100001), Cond.methodLink RL 107 yX4_keep, Cond.instanceMethod yX4_keep]
def wsL_law_r30 : List Cond := [Cond.selects RX4 yX4_keep yX4_keep, Cond.code yX4_keep cX4_keep 2 (some .int), Cond.instanceMethod yX0_copyFrom, Cond.selects RX0 yX0_copyFrom yX0_copyFrom, Cond.code yX0_copyFrom cX0_copyFrom 2 none, Cond.methodLink RL 110 yX5_keep, Cond.instanceMethod yX5_keep, Cond.selects RX5 yX5_keep yX5_keep, Cond.code yX5_keep cX5_keep 2 (some .int), Cond.methodLink RX5 194 yX5_copy, Cond.instanceMethod yX5_copy, Cond.selects RX5 yX5_copy yX5_copy, Cond.code yX5_copy cX5_copy 4 none, Cond.methodLink RL 111 yX4_back, Cond.instanceMethod yX4_back, Cond.selects RX4 yX4_back yX4_back, Cond.code yX4_back cX4_back 2 (some .int), Cond.methodLink RL 114 yX5_back, Cond.instanceMethod yX5_back, Cond.selects RX5 yX5_back yX5_back, Cond.code yX5_back cX5_back 2 (some .int), Cond.methodLink RL 115 yX4_count, Cond.instanceMethod yX4_count, Cond.selects RX4 yX4_count yX4_count]
def wsL_law_r31 : List Cond := [Cond.code yX4_count cX4_count 2 (some .int), Cond.methodLink RL 118 yX5_count, Cond.instanceMethod yX5_count, Cond.selects RX5 yX5_count yX5_count, Cond.code yX5_count cX5_count 2 (some .int), Cond.methodLink RL 119 yX4_trace, Cond.instanceMethod yX4_trace, Cond.selects RX4 yX4_trace yX4_trace, Cond.code yX4_trace cX4_trace 1 (some .long), Cond.methodLink RL 123 yX5_trace, Cond.instanceMethod yX5_trace, Cond.selects RX5 yX5_trace yX5_trace, Cond.code yX5_trace cX5_trace 1 (some .long)]
def wsL_law : List Cond := (wsL_law_r1 ++ (wsL_law_r2 ++ (wsL_law_r3 ++ (wsL_law_r4 ++ (wsL_law_r5 ++ (wsL_law_r6 ++ (wsL_law_r7 ++ (wsL_law_r8 ++ (wsL_law_r9 ++ (wsL_law_r10 ++ (wsL_law_r11 ++ (wsL_law_r12 ++ (wsL_law_r13 ++ (wsL_law_r14 ++ (wsL_law_r15 ++ (wsL_law_r16 ++ (wsL_law_r17 ++ (wsL_law_r18 ++ (wsL_law_r19 ++ (wsL_law_r20 ++ (wsL_law_r21 ++ (wsL_law_r22 ++ (wsL_law_r23 ++ (wsL_law_r24 ++ (wsL_law_r25 ++ (wsL_law_r26 ++ (wsL_law_r27 ++ (wsL_law_r28 ++ (wsL_law_r29 ++ (wsL_law_r30 ++ wsL_law_r31)))))))))))))))))))))))))))))) ++ wsX40 ++ wsX50 ++ wsX30 ++ wsX20 ++ wsX00 ++ wsX10 ++ ([] : List Cond)
set_option maxRecDepth 20000 in
theorem wsL_law_in : ∀ w ∈ wsL_law, w ∈ lw_tbl := fun w h => (goodIn_p wsL_law [99, 102, 107, 140, 164, 208, 213, 721, 726, 293, 297, 789, 792, 301, 797, 305, 309, 314, 318, 321, 325, 328, 343, 347, 351, 357, 361, 364, 367, 372, 375, 378, 381, 385, 394, 398, 401, 405, 409, 412, 415, 419, 422, 426, 429, 433, 437, 440, 444, 801, 805, 809, 812, 817, 821, 825, 829, 833, 837, 448, 452, 456, 841, 845, 849, 852, 462, 856, 860, 468, 864, 472, 476, 480, 485, 488, 868, 872, 492, 496, 499, 504, 508, 511, 876, 880, 884, 888, 892, 520, 896, 524, 528, 900, 904, 908, 532, 536, 540, 545, 912, 916, 920, 924, 550, 929, 555, 559, 563, 567, 573, 577, 581, 585, 591, 595, 933, 937, 941, 945, 949, 953, 957, 599, 603, 961, 607, 611, 615, 965, 969, 620, 624, 973, 629, 633, 977, 639, 981, 643, 647, 651, 985, 989, 655, 659, 993, 663, 997, 667, 671, 675, 680, 685, 690, 695, 1001, 700, 704, 1010, 1014, 708, 1018, 712, 1022, 716, 1026] (by decide +kernel) (by decide +kernel) w h).1
theorem inlX0 : ∀ w ∈ wsX00, w ∈ wsL_law := fun _ h => List.mem_append_left _ (List.mem_append_left _ (List.mem_append_right _ h))
theorem inX0 : ∀ w ∈ wsX00, w ∈ lw_tbl := fun w h => wsL_law_in w (inlX0 w h)
theorem inlX1 : ∀ w ∈ wsX10, w ∈ wsL_law := fun _ h => List.mem_append_left _ (List.mem_append_right _ h)
theorem inX1 : ∀ w ∈ wsX10, w ∈ lw_tbl := fun w h => wsL_law_in w (inlX1 w h)
theorem inlX2 : ∀ w ∈ wsX20, w ∈ wsL_law := fun _ h => List.mem_append_left _ (List.mem_append_left _ (List.mem_append_left _ (List.mem_append_right _ h)))
theorem inX2 : ∀ w ∈ wsX20, w ∈ lw_tbl := fun w h => wsL_law_in w (inlX2 w h)
theorem inlX3 : ∀ w ∈ wsX30, w ∈ wsL_law := fun _ h => List.mem_append_left _ (List.mem_append_left _ (List.mem_append_left _ (List.mem_append_left _ (List.mem_append_right _ h))))
theorem inX3 : ∀ w ∈ wsX30, w ∈ lw_tbl := fun w h => wsL_law_in w (inlX3 w h)
theorem inlX4 : ∀ w ∈ wsX40, w ∈ wsL_law := fun _ h => List.mem_append_left _ (List.mem_append_left _ (List.mem_append_left _ (List.mem_append_left _ (List.mem_append_left _ (List.mem_append_left _ (List.mem_append_right _ h))))))
theorem inX4 : ∀ w ∈ wsX40, w ∈ lw_tbl := fun w h => wsL_law_in w (inlX4 w h)
theorem inlX5 : ∀ w ∈ wsX50, w ∈ wsL_law := fun _ h => List.mem_append_left _ (List.mem_append_left _ (List.mem_append_left _ (List.mem_append_left _ (List.mem_append_left _ (List.mem_append_right _ h)))))
theorem inX5 : ∀ w ∈ wsX50, w ∈ lw_tbl := fun w h => wsL_law_in w (inlX5 w h)
theorem inJ6 : ∀ w ∈ wsJ60, w ∈ lw_tbl := by decide +kernel
theorem inJ9 : ∀ w ∈ wsJ90, w ∈ lw_tbl := by decide +kernel
theorem inJ0 : ∀ w ∈ wsJ00, w ∈ lw_tbl := by decide +kernel
theorem inJ1 : ∀ w ∈ wsJ10, w ∈ lw_tbl := by decide +kernel
theorem inJ2 : ∀ w ∈ wsJ20, w ∈ lw_tbl := by decide +kernel
theorem inJ3 : ∀ w ∈ wsJ30, w ∈ lw_tbl := by decide +kernel
abbrev vwCl : List vw_C := [(RX0, TX0, 8), (RX1, TX1, 11), (RX2, TX2, 5), (RX3, TX3, 8), (RX4, TX4, 7), (RX5, TX5, 19)]
end
section
theorem dX0_init_0 : decode cX0_init 0 = .ok (.aload_n 0, 1) := by decide +kernel
theorem dX0_init_1 : decode cX0_init 1 = .ok (.invokespecial 1, 3) := by decide +kernel
theorem dX0_init_4 : decode cX0_init 4 = .ok (.return_, 1) := by decide +kernel
theorem dX0_begin_0 : decode cX0_begin 0 = .ok (.aload_n 0, 1) := by decide +kernel
theorem dX0_begin_1 : decode cX0_begin 1 = .ok (.iload_n 1, 1) := by decide +kernel
theorem dX0_begin_2 : decode cX0_begin 2 = .ok (.putfield 7, 3) := by decide +kernel
theorem dX0_begin_5 : decode cX0_begin 5 = .ok (.aload_n 0, 1) := by decide +kernel
theorem dX0_begin_6 : decode cX0_begin 6 = .ok (.iconst 0, 1) := by decide +kernel
theorem dX0_begin_7 : decode cX0_begin 7 = .ok (.putfield 13, 3) := by decide +kernel
theorem dX0_begin_10 : decode cX0_begin 10 = .ok (.aload_n 0, 1) := by decide +kernel
theorem dX0_begin_11 : decode cX0_begin 11 = .ok (.iconst 0, 1) := by decide +kernel
theorem dX0_begin_12 : decode cX0_begin 12 = .ok (.putfield 16, 3) := by decide +kernel
theorem dX0_begin_15 : decode cX0_begin 15 = .ok (.aload_n 0, 1) := by decide +kernel
theorem dX0_begin_16 : decode cX0_begin 16 = .ok (.iconst 0, 1) := by decide +kernel
theorem dX0_begin_17 : decode cX0_begin 17 = .ok (.putfield 19, 3) := by decide +kernel
theorem dX0_begin_20 : decode cX0_begin 20 = .ok (.aload_n 0, 1) := by decide +kernel
theorem dX0_begin_21 : decode cX0_begin 21 = .ok (.iconst 0, 1) := by decide +kernel
theorem dX0_begin_22 : decode cX0_begin 22 = .ok (.putfield 22, 3) := by decide +kernel
theorem dX0_begin_25 : decode cX0_begin 25 = .ok (.aload_n 0, 1) := by decide +kernel
theorem dX0_begin_26 : decode cX0_begin 26 = .ok (.iconst 0, 1) := by decide +kernel
theorem dX0_begin_27 : decode cX0_begin 27 = .ok (.putfield 25, 3) := by decide +kernel
theorem dX0_begin_30 : decode cX0_begin 30 = .ok (.aload_n 0, 1) := by decide +kernel
theorem dX0_begin_31 : decode cX0_begin 31 = .ok (.iconst 0, 1) := by decide +kernel
theorem dX0_begin_32 : decode cX0_begin 32 = .ok (.putfield 28, 3) := by decide +kernel
theorem dX0_begin_35 : decode cX0_begin 35 = .ok (.return_, 1) := by decide +kernel
theorem dX0_copyFrom_0 : decode cX0_copyFrom 0 = .ok (.aload_n 0, 1) := by decide +kernel
theorem dX0_copyFrom_1 : decode cX0_copyFrom 1 = .ok (.aload_n 1, 1) := by decide +kernel
theorem dX0_copyFrom_2 : decode cX0_copyFrom 2 = .ok (.getfield 7, 3) := by decide +kernel
theorem dX0_copyFrom_5 : decode cX0_copyFrom 5 = .ok (.putfield 7, 3) := by decide +kernel
theorem dX0_copyFrom_8 : decode cX0_copyFrom 8 = .ok (.aload_n 0, 1) := by decide +kernel
theorem dX0_copyFrom_9 : decode cX0_copyFrom 9 = .ok (.aload_n 1, 1) := by decide +kernel
theorem dX0_copyFrom_10 : decode cX0_copyFrom 10 = .ok (.getfield 13, 3) := by decide +kernel
theorem dX0_copyFrom_13 : decode cX0_copyFrom 13 = .ok (.putfield 13, 3) := by decide +kernel
theorem dX0_copyFrom_16 : decode cX0_copyFrom 16 = .ok (.aload_n 0, 1) := by decide +kernel
theorem dX0_copyFrom_17 : decode cX0_copyFrom 17 = .ok (.aload_n 1, 1) := by decide +kernel
theorem dX0_copyFrom_18 : decode cX0_copyFrom 18 = .ok (.getfield 16, 3) := by decide +kernel
theorem dX0_copyFrom_21 : decode cX0_copyFrom 21 = .ok (.putfield 16, 3) := by decide +kernel
theorem dX0_copyFrom_24 : decode cX0_copyFrom 24 = .ok (.aload_n 0, 1) := by decide +kernel
theorem dX0_copyFrom_25 : decode cX0_copyFrom 25 = .ok (.aload_n 1, 1) := by decide +kernel
theorem dX0_copyFrom_26 : decode cX0_copyFrom 26 = .ok (.getfield 19, 3) := by decide +kernel
theorem dX0_copyFrom_29 : decode cX0_copyFrom 29 = .ok (.putfield 19, 3) := by decide +kernel
theorem dX0_copyFrom_32 : decode cX0_copyFrom 32 = .ok (.aload_n 0, 1) := by decide +kernel
theorem dX0_copyFrom_33 : decode cX0_copyFrom 33 = .ok (.aload_n 1, 1) := by decide +kernel
theorem dX0_copyFrom_34 : decode cX0_copyFrom 34 = .ok (.getfield 22, 3) := by decide +kernel
theorem dX0_copyFrom_37 : decode cX0_copyFrom 37 = .ok (.putfield 22, 3) := by decide +kernel
theorem dX0_copyFrom_40 : decode cX0_copyFrom 40 = .ok (.aload_n 0, 1) := by decide +kernel
theorem dX0_copyFrom_41 : decode cX0_copyFrom 41 = .ok (.aload_n 1, 1) := by decide +kernel
theorem dX0_copyFrom_42 : decode cX0_copyFrom 42 = .ok (.getfield 25, 3) := by decide +kernel
theorem dX0_copyFrom_45 : decode cX0_copyFrom 45 = .ok (.putfield 25, 3) := by decide +kernel
theorem dX0_copyFrom_48 : decode cX0_copyFrom 48 = .ok (.aload_n 0, 1) := by decide +kernel
theorem dX0_copyFrom_49 : decode cX0_copyFrom 49 = .ok (.aload_n 1, 1) := by decide +kernel
theorem dX0_copyFrom_50 : decode cX0_copyFrom 50 = .ok (.getfield 28, 3) := by decide +kernel
theorem dX0_copyFrom_53 : decode cX0_copyFrom 53 = .ok (.putfield 28, 3) := by decide +kernel
theorem dX0_copyFrom_56 : decode cX0_copyFrom 56 = .ok (.return_, 1) := by decide +kernel
set_option maxRecDepth 20000 in
theorem ggX1_init_X1_startAnew : GoodIn wsX1_init wsX1_startAnew := goodIn_r _ [11, 12, 13, 14, 15, 16, 17, 18, 19, 20, 21, 22, 23, 24, 25, 26, 27, 28, 29, 30, 31] (by decide +kernel) (by decide +kernel)
set_option maxRecDepth 20000 in
theorem gX1_init_X1_startAnew : GoodIn wsX1_init (wsV RX1 18 RX1 yX1_startAnew wsX1_startAnew) := goodIn_app (goodIn_of _ (by decide +kernel)) ggX1_init_X1_startAnew
theorem dX1_init_0 : decode cX1_init 0 = .ok (.aload_n 0, 1) := by decide +kernel
theorem dX1_init_1 : decode cX1_init 1 = .ok (.invokespecial 3, 3) := by decide +kernel
theorem dX1_init_4 : decode cX1_init 4 = .ok (.aload_n 0, 1) := by decide +kernel
theorem dX1_init_5 : decode cX1_init 5 = .ok (.iconst 4, 1) := by decide +kernel
theorem dX1_init_6 : decode cX1_init 6 = .ok (.newarray .int, 2) := by decide +kernel
theorem dX1_init_8 : decode cX1_init 8 = .ok (.putfield 9, 3) := by decide +kernel
theorem dX1_init_11 : decode cX1_init 11 = .ok (.aload_n 0, 1) := by decide +kernel
theorem dX1_init_12 : decode cX1_init 12 = .ok (.iconst 2, 1) := by decide +kernel
theorem dX1_init_13 : decode cX1_init 13 = .ok (.newarray .int, 2) := by decide +kernel
theorem dX1_init_15 : decode cX1_init 15 = .ok (.putfield 15, 3) := by decide +kernel
theorem dX1_init_18 : decode cX1_init 18 = .ok (.aload_n 0, 1) := by decide +kernel
theorem dX1_init_19 : decode cX1_init 19 = .ok (.invokevirtual 18, 3) := by decide +kernel
theorem dX1_init_22 : decode cX1_init 22 = .ok (.return_, 1) := by decide +kernel
theorem dX1_startAnew_0 : decode cX1_startAnew 0 = .ok (.aload_n 0, 1) := by decide +kernel
theorem dX1_startAnew_1 : decode cX1_startAnew 1 = .ok (.iconst 0, 1) := by decide +kernel
theorem dX1_startAnew_2 : decode cX1_startAnew 2 = .ok (.putfield 21, 3) := by decide +kernel
theorem dX1_startAnew_5 : decode cX1_startAnew 5 = .ok (.aload_n 0, 1) := by decide +kernel
theorem dX1_startAnew_6 : decode cX1_startAnew 6 = .ok (.iconst 0, 1) := by decide +kernel
theorem dX1_startAnew_7 : decode cX1_startAnew 7 = .ok (.putfield 25, 3) := by decide +kernel
theorem dX1_startAnew_10 : decode cX1_startAnew 10 = .ok (.aload_n 0, 1) := by decide +kernel
theorem dX1_startAnew_11 : decode cX1_startAnew 11 = .ok (.iconst 0, 1) := by decide +kernel
theorem dX1_startAnew_12 : decode cX1_startAnew 12 = .ok (.putfield 28, 3) := by decide +kernel
theorem dX1_startAnew_15 : decode cX1_startAnew 15 = .ok (.aload_n 0, 1) := by decide +kernel
theorem dX1_startAnew_16 : decode cX1_startAnew 16 = .ok (.iconst 0, 1) := by decide +kernel
theorem dX1_startAnew_17 : decode cX1_startAnew 17 = .ok (.putfield 31, 3) := by decide +kernel
theorem dX1_startAnew_20 : decode cX1_startAnew 20 = .ok (.aload_n 0, 1) := by decide +kernel
theorem dX1_startAnew_21 : decode cX1_startAnew 21 = .ok (.iconst 0, 1) := by decide +kernel
theorem dX1_startAnew_22 : decode cX1_startAnew 22 = .ok (.putfield 34, 3) := by decide +kernel
theorem dX1_startAnew_25 : decode cX1_startAnew 25 = .ok (.aload_n 0, 1) := by decide +kernel
theorem dX1_startAnew_26 : decode cX1_startAnew 26 = .ok (.bipush (-9), 2) := by decide +kernel
theorem dX1_startAnew_28 : decode cX1_startAnew 28 = .ok (.putfield 37, 3) := by decide +kernel
theorem dX1_startAnew_31 : decode cX1_startAnew 31 = .ok (.aload_n 0, 1) := by decide +kernel
theorem dX1_startAnew_32 : decode cX1_startAnew 32 = .ok (.bipush (-9), 2) := by decide +kernel
theorem dX1_startAnew_34 : decode cX1_startAnew 34 = .ok (.putfield 40, 3) := by decide +kernel
theorem dX1_startAnew_37 : decode cX1_startAnew 37 = .ok (.aload_n 0, 1) := by decide +kernel
theorem dX1_startAnew_38 : decode cX1_startAnew 38 = .ok (.iconst 3, 1) := by decide +kernel
theorem dX1_startAnew_39 : decode cX1_startAnew 39 = .ok (.putfield 43, 3) := by decide +kernel
theorem dX1_startAnew_42 : decode cX1_startAnew 42 = .ok (.aload_n 0, 1) := by decide +kernel
theorem dX1_startAnew_43 : decode cX1_startAnew 43 = .ok (.iconst 2, 1) := by decide +kernel
theorem dX1_startAnew_44 : decode cX1_startAnew 44 = .ok (.putfield 46, 3) := by decide +kernel
theorem dX1_startAnew_47 : decode cX1_startAnew 47 = .ok (.return_, 1) := by decide +kernel
theorem dX1_hasPanel_0 : decode cX1_hasPanel 0 = .ok (.iload_n 1, 1) := by decide +kernel
theorem dX1_hasPanel_1 : decode cX1_hasPanel 1 = .ok (.ifCond .lt 24, 3) := by decide +kernel
theorem dX1_hasPanel_4 : decode cX1_hasPanel 4 = .ok (.iload_n 1, 1) := by decide +kernel
theorem dX1_hasPanel_5 : decode cX1_hasPanel 5 = .ok (.aload_n 0, 1) := by decide +kernel
theorem dX1_hasPanel_6 : decode cX1_hasPanel 6 = .ok (.getfield 21, 3) := by decide +kernel
theorem dX1_hasPanel_9 : decode cX1_hasPanel 9 = .ok (.if_icmp .ge 16, 3) := by decide +kernel
theorem dX1_hasPanel_12 : decode cX1_hasPanel 12 = .ok (.iload_n 1, 1) := by decide +kernel
theorem dX1_hasPanel_13 : decode cX1_hasPanel 13 = .ok (.aload_n 0, 1) := by decide +kernel
theorem dX1_hasPanel_14 : decode cX1_hasPanel 14 = .ok (.getfield 9, 3) := by decide +kernel
theorem dX1_hasPanel_17 : decode cX1_hasPanel 17 = .ok (.arraylength, 1) := by decide +kernel
theorem dX1_hasPanel_18 : decode cX1_hasPanel 18 = .ok (.if_icmp .ge 7, 3) := by decide +kernel
theorem dX1_hasPanel_21 : decode cX1_hasPanel 21 = .ok (.iconst 1, 1) := by decide +kernel
theorem dX1_hasPanel_22 : decode cX1_hasPanel 22 = .ok (.goto 4, 3) := by decide +kernel
theorem dX1_hasPanel_25 : decode cX1_hasPanel 25 = .ok (.iconst 0, 1) := by decide +kernel
theorem dX1_hasPanel_26 : decode cX1_hasPanel 26 = .ok (.ireturn, 1) := by decide +kernel
theorem dX1_hasBeam_0 : decode cX1_hasBeam 0 = .ok (.iload_n 1, 1) := by decide +kernel
theorem dX1_hasBeam_1 : decode cX1_hasBeam 1 = .ok (.ifCond .lt 24, 3) := by decide +kernel
theorem dX1_hasBeam_4 : decode cX1_hasBeam 4 = .ok (.iload_n 1, 1) := by decide +kernel
theorem dX1_hasBeam_5 : decode cX1_hasBeam 5 = .ok (.aload_n 0, 1) := by decide +kernel
theorem dX1_hasBeam_6 : decode cX1_hasBeam 6 = .ok (.getfield 28, 3) := by decide +kernel
theorem dX1_hasBeam_9 : decode cX1_hasBeam 9 = .ok (.if_icmp .ge 16, 3) := by decide +kernel
theorem dX1_hasBeam_12 : decode cX1_hasBeam 12 = .ok (.iload_n 1, 1) := by decide +kernel
theorem dX1_hasBeam_13 : decode cX1_hasBeam 13 = .ok (.aload_n 0, 1) := by decide +kernel
theorem dX1_hasBeam_14 : decode cX1_hasBeam 14 = .ok (.getfield 15, 3) := by decide +kernel
theorem dX1_hasBeam_17 : decode cX1_hasBeam 17 = .ok (.arraylength, 1) := by decide +kernel
theorem dX1_hasBeam_18 : decode cX1_hasBeam 18 = .ok (.if_icmp .ge 7, 3) := by decide +kernel
theorem dX1_hasBeam_21 : decode cX1_hasBeam 21 = .ok (.iconst 1, 1) := by decide +kernel
theorem dX1_hasBeam_22 : decode cX1_hasBeam 22 = .ok (.goto 4, 3) := by decide +kernel
theorem dX1_hasBeam_25 : decode cX1_hasBeam 25 = .ok (.iconst 0, 1) := by decide +kernel
theorem dX1_hasBeam_26 : decode cX1_hasBeam 26 = .ok (.ireturn, 1) := by decide +kernel
set_option maxRecDepth 20000 in
theorem ggX1_addPanel_X4_unitOf : GoodIn wsX1_addPanel wsX4_unitOf := goodIn_r _ [6] (by decide +kernel) (by decide +kernel)
set_option maxRecDepth 20000 in
theorem gX1_addPanel_X4_unitOf_n49 : GoodIn wsX1_addPanel (wsX4_unitOf) := ggX1_addPanel_X4_unitOf
theorem dX1_addPanel_0 : decode cX1_addPanel 0 = .ok (.aload_n 0, 1) := by decide +kernel
theorem dX1_addPanel_1 : decode cX1_addPanel 1 = .ok (.getfield 21, 3) := by decide +kernel
theorem dX1_addPanel_4 : decode cX1_addPanel 4 = .ok (.aload_n 0, 1) := by decide +kernel
theorem dX1_addPanel_5 : decode cX1_addPanel 5 = .ok (.getfield 9, 3) := by decide +kernel
theorem dX1_addPanel_8 : decode cX1_addPanel 8 = .ok (.arraylength, 1) := by decide +kernel
theorem dX1_addPanel_9 : decode cX1_addPanel 9 = .ok (.if_icmp .ge 41, 3) := by decide +kernel
theorem dX1_addPanel_12 : decode cX1_addPanel 12 = .ok (.aload_n 0, 1) := by decide +kernel
theorem dX1_addPanel_13 : decode cX1_addPanel 13 = .ok (.getfield 9, 3) := by decide +kernel
theorem dX1_addPanel_16 : decode cX1_addPanel 16 = .ok (.aload_n 0, 1) := by decide +kernel
theorem dX1_addPanel_17 : decode cX1_addPanel 17 = .ok (.getfield 21, 3) := by decide +kernel
theorem dX1_addPanel_20 : decode cX1_addPanel 20 = .ok (.iload_n 1, 1) := by decide +kernel
theorem dX1_addPanel_21 : decode cX1_addPanel 21 = .ok (.iastore, 1) := by decide +kernel
theorem dX1_addPanel_22 : decode cX1_addPanel 22 = .ok (.aload_n 0, 1) := by decide +kernel
theorem dX1_addPanel_23 : decode cX1_addPanel 23 = .ok (.dup, 1) := by decide +kernel
theorem dX1_addPanel_24 : decode cX1_addPanel 24 = .ok (.getfield 25, 3) := by decide +kernel
theorem dX1_addPanel_27 : decode cX1_addPanel 27 = .ok (.iload_n 2, 1) := by decide +kernel
theorem dX1_addPanel_28 : decode cX1_addPanel 28 = .ok (.aload_n 0, 1) := by decide +kernel
theorem dX1_addPanel_29 : decode cX1_addPanel 29 = .ok (.getfield 21, 3) := by decide +kernel
theorem dX1_addPanel_32 : decode cX1_addPanel 32 = .ok (.invokestatic 49, 3) := by decide +kernel
theorem dX1_addPanel_35 : decode cX1_addPanel 35 = .ok (.imul, 1) := by decide +kernel
theorem dX1_addPanel_36 : decode cX1_addPanel 36 = .ok (.iadd, 1) := by decide +kernel
theorem dX1_addPanel_37 : decode cX1_addPanel 37 = .ok (.putfield 25, 3) := by decide +kernel
theorem dX1_addPanel_40 : decode cX1_addPanel 40 = .ok (.aload_n 0, 1) := by decide +kernel
theorem dX1_addPanel_41 : decode cX1_addPanel 41 = .ok (.dup, 1) := by decide +kernel
theorem dX1_addPanel_42 : decode cX1_addPanel 42 = .ok (.getfield 21, 3) := by decide +kernel
theorem dX1_addPanel_45 : decode cX1_addPanel 45 = .ok (.iconst 1, 1) := by decide +kernel
theorem dX1_addPanel_46 : decode cX1_addPanel 46 = .ok (.iadd, 1) := by decide +kernel
theorem dX1_addPanel_47 : decode cX1_addPanel 47 = .ok (.putfield 21, 3) := by decide +kernel
theorem dX1_addPanel_50 : decode cX1_addPanel 50 = .ok (.return_, 1) := by decide +kernel
theorem dX1_addBeam_0 : decode cX1_addBeam 0 = .ok (.aload_n 0, 1) := by decide +kernel
theorem dX1_addBeam_1 : decode cX1_addBeam 1 = .ok (.getfield 28, 3) := by decide +kernel
theorem dX1_addBeam_4 : decode cX1_addBeam 4 = .ok (.aload_n 0, 1) := by decide +kernel
theorem dX1_addBeam_5 : decode cX1_addBeam 5 = .ok (.getfield 15, 3) := by decide +kernel
theorem dX1_addBeam_8 : decode cX1_addBeam 8 = .ok (.arraylength, 1) := by decide +kernel
theorem dX1_addBeam_9 : decode cX1_addBeam 9 = .ok (.if_icmp .ge 23, 3) := by decide +kernel
theorem dX1_addBeam_12 : decode cX1_addBeam 12 = .ok (.aload_n 0, 1) := by decide +kernel
theorem dX1_addBeam_13 : decode cX1_addBeam 13 = .ok (.getfield 15, 3) := by decide +kernel
theorem dX1_addBeam_16 : decode cX1_addBeam 16 = .ok (.aload_n 0, 1) := by decide +kernel
theorem dX1_addBeam_17 : decode cX1_addBeam 17 = .ok (.getfield 28, 3) := by decide +kernel
theorem dX1_addBeam_20 : decode cX1_addBeam 20 = .ok (.iload_n 1, 1) := by decide +kernel
theorem dX1_addBeam_21 : decode cX1_addBeam 21 = .ok (.iastore, 1) := by decide +kernel
theorem dX1_addBeam_22 : decode cX1_addBeam 22 = .ok (.aload_n 0, 1) := by decide +kernel
theorem dX1_addBeam_23 : decode cX1_addBeam 23 = .ok (.dup, 1) := by decide +kernel
theorem dX1_addBeam_24 : decode cX1_addBeam 24 = .ok (.getfield 28, 3) := by decide +kernel
theorem dX1_addBeam_27 : decode cX1_addBeam 27 = .ok (.iconst 1, 1) := by decide +kernel
theorem dX1_addBeam_28 : decode cX1_addBeam 28 = .ok (.iadd, 1) := by decide +kernel
theorem dX1_addBeam_29 : decode cX1_addBeam 29 = .ok (.putfield 28, 3) := by decide +kernel
theorem dX1_addBeam_32 : decode cX1_addBeam 32 = .ok (.return_, 1) := by decide +kernel
set_option maxRecDepth 20000 in
theorem ggX1_sortOf_X1_hasPanel : GoodIn wsX1_sortOf wsX1_hasPanel := goodIn_r _ [6, 7, 1, 8, 9, 10, 11, 12, 13, 14, 15, 16, 17, 18] (by decide +kernel) (by decide +kernel)
set_option maxRecDepth 20000 in
theorem gX1_sortOf_X1_hasPanel : GoodIn wsX1_sortOf (wsV RX1 53 RX1 yX1_hasPanel wsX1_hasPanel) := goodIn_app (goodIn_of _ (by decide +kernel)) ggX1_sortOf_X1_hasPanel
theorem dX1_sortOf_0 : decode cX1_sortOf 0 = .ok (.aload_n 0, 1) := by decide +kernel
theorem dX1_sortOf_1 : decode cX1_sortOf 1 = .ok (.iload_n 1, 1) := by decide +kernel
theorem dX1_sortOf_2 : decode cX1_sortOf 2 = .ok (.invokevirtual 53, 3) := by decide +kernel
theorem dX1_sortOf_5 : decode cX1_sortOf 5 = .ok (.ifCond .eq 12, 3) := by decide +kernel
theorem dX1_sortOf_8 : decode cX1_sortOf 8 = .ok (.aload_n 0, 1) := by decide +kernel
theorem dX1_sortOf_9 : decode cX1_sortOf 9 = .ok (.getfield 9, 3) := by decide +kernel
theorem dX1_sortOf_12 : decode cX1_sortOf 12 = .ok (.iload_n 1, 1) := by decide +kernel
theorem dX1_sortOf_13 : decode cX1_sortOf 13 = .ok (.iaload, 1) := by decide +kernel
theorem dX1_sortOf_14 : decode cX1_sortOf 14 = .ok (.goto 5, 3) := by decide +kernel
theorem dX1_sortOf_17 : decode cX1_sortOf 17 = .ok (.bipush (-9), 2) := by decide +kernel
theorem dX1_sortOf_19 : decode cX1_sortOf 19 = .ok (.ireturn, 1) := by decide +kernel
set_option maxRecDepth 20000 in
theorem ggX1_panelAt_X4_placeIn : GoodIn wsX1_panelAt wsX4_placeIn := goodIn_r _ [4] (by decide +kernel) (by decide +kernel)
set_option maxRecDepth 20000 in
theorem gX1_panelAt_X4_placeIn_n57 : GoodIn wsX1_panelAt (wsX4_placeIn) := ggX1_panelAt_X4_placeIn
theorem dX1_panelAt_0 : decode cX1_panelAt 0 = .ok (.iconst 0, 1) := by decide +kernel
theorem dX1_panelAt_1 : decode cX1_panelAt 1 = .ok (.istore_n 3, 1) := by decide +kernel
theorem dX1_panelAt_2 : decode cX1_panelAt 2 = .ok (.iload_n 3, 1) := by decide +kernel
theorem dX1_panelAt_3 : decode cX1_panelAt 3 = .ok (.aload_n 0, 1) := by decide +kernel
theorem dX1_panelAt_4 : decode cX1_panelAt 4 = .ok (.getfield 21, 3) := by decide +kernel
theorem dX1_panelAt_7 : decode cX1_panelAt 7 = .ok (.if_icmp .ge 20, 3) := by decide +kernel
theorem dX1_panelAt_10 : decode cX1_panelAt 10 = .ok (.iload_n 1, 1) := by decide +kernel
theorem dX1_panelAt_11 : decode cX1_panelAt 11 = .ok (.iload_n 3, 1) := by decide +kernel
theorem dX1_panelAt_12 : decode cX1_panelAt 12 = .ok (.invokestatic 57, 3) := by decide +kernel
theorem dX1_panelAt_15 : decode cX1_panelAt 15 = .ok (.iload_n 2, 1) := by decide +kernel
theorem dX1_panelAt_16 : decode cX1_panelAt 16 = .ok (.if_icmp .ne 5, 3) := by decide +kernel
theorem dX1_panelAt_19 : decode cX1_panelAt 19 = .ok (.iload_n 3, 1) := by decide +kernel
theorem dX1_panelAt_20 : decode cX1_panelAt 20 = .ok (.ireturn, 1) := by decide +kernel
theorem dX1_panelAt_21 : decode cX1_panelAt 21 = .ok (.iinc 3 1, 3) := by decide +kernel
theorem dX1_panelAt_24 : decode cX1_panelAt 24 = .ok (.goto (-22), 3) := by decide +kernel
theorem dX1_panelAt_27 : decode cX1_panelAt 27 = .ok (.bipush (-9), 2) := by decide +kernel
theorem dX1_panelAt_29 : decode cX1_panelAt 29 = .ok (.ireturn, 1) := by decide +kernel
set_option maxRecDepth 20000 in
theorem ggX1_slotsUnder_X4_placeIn : GoodIn wsX1_slotsUnder wsX4_placeIn := goodIn_r _ [5] (by decide +kernel) (by decide +kernel)
set_option maxRecDepth 20000 in
theorem gX1_slotsUnder_X4_placeIn_n57 : GoodIn wsX1_slotsUnder (wsX4_placeIn) := ggX1_slotsUnder_X4_placeIn
theorem dX1_slotsUnder_0 : decode cX1_slotsUnder 0 = .ok (.iconst 0, 1) := by decide +kernel
theorem dX1_slotsUnder_1 : decode cX1_slotsUnder 1 = .ok (.istore_n 3, 1) := by decide +kernel
theorem dX1_slotsUnder_2 : decode cX1_slotsUnder 2 = .ok (.iconst 0, 1) := by decide +kernel
theorem dX1_slotsUnder_3 : decode cX1_slotsUnder 3 = .ok (.istore 4, 2) := by decide +kernel
theorem dX1_slotsUnder_5 : decode cX1_slotsUnder 5 = .ok (.iload 4, 2) := by decide +kernel
theorem dX1_slotsUnder_7 : decode cX1_slotsUnder 7 = .ok (.aload_n 0, 1) := by decide +kernel
theorem dX1_slotsUnder_8 : decode cX1_slotsUnder 8 = .ok (.getfield 21, 3) := by decide +kernel
theorem dX1_slotsUnder_11 : decode cX1_slotsUnder 11 = .ok (.if_icmp .ge 56, 3) := by decide +kernel
theorem dX1_slotsUnder_14 : decode cX1_slotsUnder 14 = .ok (.iload 4, 2) := by decide +kernel
theorem dX1_slotsUnder_16 : decode cX1_slotsUnder 16 = .ok (.aload_n 0, 1) := by decide +kernel
theorem dX1_slotsUnder_17 : decode cX1_slotsUnder 17 = .ok (.getfield 9, 3) := by decide +kernel
theorem dX1_slotsUnder_20 : decode cX1_slotsUnder 20 = .ok (.arraylength, 1) := by decide +kernel
theorem dX1_slotsUnder_21 : decode cX1_slotsUnder 21 = .ok (.if_icmp .ge 46, 3) := by decide +kernel
theorem dX1_slotsUnder_24 : decode cX1_slotsUnder 24 = .ok (.iload_n 1, 1) := by decide +kernel
theorem dX1_slotsUnder_25 : decode cX1_slotsUnder 25 = .ok (.iload 4, 2) := by decide +kernel
theorem dX1_slotsUnder_27 : decode cX1_slotsUnder 27 = .ok (.invokestatic 57, 3) := by decide +kernel
theorem dX1_slotsUnder_30 : decode cX1_slotsUnder 30 = .ok (.istore 5, 2) := by decide +kernel
theorem dX1_slotsUnder_32 : decode cX1_slotsUnder 32 = .ok (.iload 5, 2) := by decide +kernel
theorem dX1_slotsUnder_34 : decode cX1_slotsUnder 34 = .ok (.bipush 8, 2) := by decide +kernel
theorem dX1_slotsUnder_36 : decode cX1_slotsUnder 36 = .ok (.if_icmp .eq 25, 3) := by decide +kernel
theorem dX1_slotsUnder_39 : decode cX1_slotsUnder 39 = .ok (.iload_n 2, 1) := by decide +kernel
theorem dX1_slotsUnder_40 : decode cX1_slotsUnder 40 = .ok (.aload_n 0, 1) := by decide +kernel
theorem dX1_slotsUnder_41 : decode cX1_slotsUnder 41 = .ok (.getfield 9, 3) := by decide +kernel
theorem dX1_slotsUnder_44 : decode cX1_slotsUnder 44 = .ok (.iload 4, 2) := by decide +kernel
theorem dX1_slotsUnder_46 : decode cX1_slotsUnder 46 = .ok (.iaload, 1) := by decide +kernel
theorem dX1_slotsUnder_47 : decode cX1_slotsUnder 47 = .ok (.ishr, 1) := by decide +kernel
theorem dX1_slotsUnder_48 : decode cX1_slotsUnder 48 = .ok (.iconst 1, 1) := by decide +kernel
theorem dX1_slotsUnder_49 : decode cX1_slotsUnder 49 = .ok (.iand, 1) := by decide +kernel
theorem dX1_slotsUnder_50 : decode cX1_slotsUnder 50 = .ok (.iconst 1, 1) := by decide +kernel
theorem dX1_slotsUnder_51 : decode cX1_slotsUnder 51 = .ok (.if_icmp .ne 10, 3) := by decide +kernel
theorem dX1_slotsUnder_54 : decode cX1_slotsUnder 54 = .ok (.iload_n 3, 1) := by decide +kernel
theorem dX1_slotsUnder_55 : decode cX1_slotsUnder 55 = .ok (.iconst 1, 1) := by decide +kernel
theorem dX1_slotsUnder_56 : decode cX1_slotsUnder 56 = .ok (.iload 5, 2) := by decide +kernel
theorem dX1_slotsUnder_58 : decode cX1_slotsUnder 58 = .ok (.ishl, 1) := by decide +kernel
theorem dX1_slotsUnder_59 : decode cX1_slotsUnder 59 = .ok (.ior, 1) := by decide +kernel
theorem dX1_slotsUnder_60 : decode cX1_slotsUnder 60 = .ok (.istore_n 3, 1) := by decide +kernel
theorem dX1_slotsUnder_61 : decode cX1_slotsUnder 61 = .ok (.iinc 4 1, 3) := by decide +kernel
theorem dX1_slotsUnder_64 : decode cX1_slotsUnder 64 = .ok (.goto (-59), 3) := by decide +kernel
theorem dX1_slotsUnder_67 : decode cX1_slotsUnder 67 = .ok (.iload_n 3, 1) := by decide +kernel
theorem dX1_slotsUnder_68 : decode cX1_slotsUnder 68 = .ok (.ireturn, 1) := by decide +kernel
set_option maxRecDepth 20000 in
theorem ggX1_lyingIn_X4_placeIn : GoodIn wsX1_lyingIn wsX4_placeIn := goodIn_r _ [4] (by decide +kernel) (by decide +kernel)
set_option maxRecDepth 20000 in
theorem gX1_lyingIn_X4_placeIn_n57 : GoodIn wsX1_lyingIn (wsX4_placeIn) := ggX1_lyingIn_X4_placeIn
theorem dX1_lyingIn_0 : decode cX1_lyingIn 0 = .ok (.iconst 0, 1) := by decide +kernel
theorem dX1_lyingIn_1 : decode cX1_lyingIn 1 = .ok (.istore_n 2, 1) := by decide +kernel
theorem dX1_lyingIn_2 : decode cX1_lyingIn 2 = .ok (.iconst 0, 1) := by decide +kernel
theorem dX1_lyingIn_3 : decode cX1_lyingIn 3 = .ok (.istore_n 3, 1) := by decide +kernel
theorem dX1_lyingIn_4 : decode cX1_lyingIn 4 = .ok (.iload_n 3, 1) := by decide +kernel
theorem dX1_lyingIn_5 : decode cX1_lyingIn 5 = .ok (.aload_n 0, 1) := by decide +kernel
theorem dX1_lyingIn_6 : decode cX1_lyingIn 6 = .ok (.getfield 21, 3) := by decide +kernel
theorem dX1_lyingIn_9 : decode cX1_lyingIn 9 = .ok (.if_icmp .ge 22, 3) := by decide +kernel
theorem dX1_lyingIn_12 : decode cX1_lyingIn 12 = .ok (.iload_n 1, 1) := by decide +kernel
theorem dX1_lyingIn_13 : decode cX1_lyingIn 13 = .ok (.iload_n 3, 1) := by decide +kernel
theorem dX1_lyingIn_14 : decode cX1_lyingIn 14 = .ok (.invokestatic 57, 3) := by decide +kernel
theorem dX1_lyingIn_17 : decode cX1_lyingIn 17 = .ok (.bipush 8, 2) := by decide +kernel
theorem dX1_lyingIn_19 : decode cX1_lyingIn 19 = .ok (.if_icmp .ne 6, 3) := by decide +kernel
theorem dX1_lyingIn_22 : decode cX1_lyingIn 22 = .ok (.iinc 2 1, 3) := by decide +kernel
theorem dX1_lyingIn_25 : decode cX1_lyingIn 25 = .ok (.iinc 3 1, 3) := by decide +kernel
theorem dX1_lyingIn_28 : decode cX1_lyingIn 28 = .ok (.goto (-24), 3) := by decide +kernel
theorem dX1_lyingIn_31 : decode cX1_lyingIn 31 = .ok (.iload_n 2, 1) := by decide +kernel
theorem dX1_lyingIn_32 : decode cX1_lyingIn 32 = .ok (.ireturn, 1) := by decide +kernel
set_option maxRecDepth 20000 in
theorem ggX1_isBorne_X1_hasBeam : GoodIn wsX1_isBorne wsX1_hasBeam := goodIn_r _ [6, 7, 1, 17, 18, 19, 20, 21, 22, 23, 24, 25, 26, 27] (by decide +kernel) (by decide +kernel)
set_option maxRecDepth 20000 in
theorem gX1_isBorne_X1_hasBeam : GoodIn wsX1_isBorne (wsV RX1 61 RX1 yX1_hasBeam wsX1_hasBeam) := goodIn_app (goodIn_of _ (by decide +kernel)) ggX1_isBorne_X1_hasBeam
set_option maxRecDepth 20000 in
theorem ggX1_isBorne_X1_slotsUnder : GoodIn wsX1_isBorne wsX1_slotsUnder := goodIn_r _ [11, 12, 13, 14, 15, 16, 17, 18, 19, 20, 21, 22, 23, 24, 25, 26, 27] (by decide +kernel) (by decide +kernel)
set_option maxRecDepth 20000 in
theorem gX1_isBorne_X1_slotsUnder : GoodIn wsX1_isBorne (wsV RX1 64 RX1 yX1_slotsUnder wsX1_slotsUnder) := goodIn_app (goodIn_of _ (by decide +kernel)) ggX1_isBorne_X1_slotsUnder
theorem dX1_isBorne_0 : decode cX1_isBorne 0 = .ok (.aload_n 0, 1) := by decide +kernel
theorem dX1_isBorne_1 : decode cX1_isBorne 1 = .ok (.iload_n 2, 1) := by decide +kernel
theorem dX1_isBorne_2 : decode cX1_isBorne 2 = .ok (.invokevirtual 61, 3) := by decide +kernel
theorem dX1_isBorne_5 : decode cX1_isBorne 5 = .ok (.ifCond .eq 23, 3) := by decide +kernel
theorem dX1_isBorne_8 : decode cX1_isBorne 8 = .ok (.aload_n 0, 1) := by decide +kernel
theorem dX1_isBorne_9 : decode cX1_isBorne 9 = .ok (.iload_n 1, 1) := by decide +kernel
theorem dX1_isBorne_10 : decode cX1_isBorne 10 = .ok (.iconst 1, 1) := by decide +kernel
theorem dX1_isBorne_11 : decode cX1_isBorne 11 = .ok (.invokevirtual 64, 3) := by decide +kernel
theorem dX1_isBorne_14 : decode cX1_isBorne 14 = .ok (.aload_n 0, 1) := by decide +kernel
theorem dX1_isBorne_15 : decode cX1_isBorne 15 = .ok (.getfield 15, 3) := by decide +kernel
theorem dX1_isBorne_18 : decode cX1_isBorne 18 = .ok (.iload_n 2, 1) := by decide +kernel
theorem dX1_isBorne_19 : decode cX1_isBorne 19 = .ok (.iaload, 1) := by decide +kernel
theorem dX1_isBorne_20 : decode cX1_isBorne 20 = .ok (.iand, 1) := by decide +kernel
theorem dX1_isBorne_21 : decode cX1_isBorne 21 = .ok (.ifCond .eq 7, 3) := by decide +kernel
theorem dX1_isBorne_24 : decode cX1_isBorne 24 = .ok (.iconst 1, 1) := by decide +kernel
theorem dX1_isBorne_25 : decode cX1_isBorne 25 = .ok (.goto 4, 3) := by decide +kernel
theorem dX1_isBorne_28 : decode cX1_isBorne 28 = .ok (.iconst 0, 1) := by decide +kernel
theorem dX1_isBorne_29 : decode cX1_isBorne 29 = .ok (.ireturn, 1) := by decide +kernel
set_option maxRecDepth 20000 in
theorem ggX1_allows_X1_lyingIn : GoodIn wsX1_allows wsX1_lyingIn := goodIn_r _ [8, 2, 9, 10, 11, 33, 34, 35, 36, 37, 38, 39, 40, 41, 42, 43] (by decide +kernel) (by decide +kernel)
set_option maxRecDepth 20000 in
theorem gX1_allows_X1_lyingIn : GoodIn wsX1_allows (wsV RX1 67 RX1 yX1_lyingIn wsX1_lyingIn) := goodIn_app (goodIn_of _ (by decide +kernel)) ggX1_allows_X1_lyingIn
set_option maxRecDepth 20000 in
theorem ggX1_allows_X1_slotsUnder : GoodIn wsX1_allows wsX1_slotsUnder := goodIn_r _ [15, 2, 16, 9, 10, 11, 33, 34, 35, 36, 37, 38, 39, 40, 41, 42, 43] (by decide +kernel) (by decide +kernel)
set_option maxRecDepth 20000 in
theorem gX1_allows_X1_slotsUnder : GoodIn wsX1_allows (wsV RX1 64 RX1 yX1_slotsUnder wsX1_slotsUnder) := goodIn_app (goodIn_of _ (by decide +kernel)) ggX1_allows_X1_slotsUnder
set_option maxRecDepth 20000 in
theorem ggX1_allows_J6_bitCount_0f7a4 : GoodIn wsX1_allows wsJ6_bitCount_0f7a4 := goodIn_r _ [20, 21, 22, 23] (by decide +kernel) (by decide +kernel)
set_option maxRecDepth 20000 in
theorem gX1_allows_J6_bitCount_0f7a4 : GoodIn wsX1_allows (va_wsS RX1 70 yJ6_bitCount_0f7a4 wsJ6_bitCount_0f7a4) := goodIn_app (goodIn_of _ (by decide +kernel)) ggX1_allows_J6_bitCount_0f7a4
set_option maxRecDepth 20000 in
theorem ggX1_allows_X1_isBorne : GoodIn wsX1_allows wsX1_isBorne := goodIn_r _ [27, 28, 29, 30, 31, 7, 32, 3, 12, 13, 14, 15, 2, 16, 9, 10, 11, 33, 34, 35, 36, 37, 38, 39, 40, 41, 42, 43] (by decide +kernel) (by decide +kernel)
set_option maxRecDepth 20000 in
theorem gX1_allows_X1_isBorne : GoodIn wsX1_allows (wsV RX1 75 RX1 yX1_isBorne wsX1_isBorne) := goodIn_app (goodIn_of _ (by decide +kernel)) ggX1_allows_X1_isBorne
theorem dX1_allows_0 : decode cX1_allows 0 = .ok (.aload_n 0, 1) := by decide +kernel
theorem dX1_allows_1 : decode cX1_allows 1 = .ok (.iload_n 1, 1) := by decide +kernel
theorem dX1_allows_2 : decode cX1_allows 2 = .ok (.invokevirtual 67, 3) := by decide +kernel
theorem dX1_allows_5 : decode cX1_allows 5 = .ok (.istore_n 2, 1) := by decide +kernel
theorem dX1_allows_6 : decode cX1_allows 6 = .ok (.iload_n 2, 1) := by decide +kernel
theorem dX1_allows_7 : decode cX1_allows 7 = .ok (.aload_n 0, 1) := by decide +kernel
theorem dX1_allows_8 : decode cX1_allows 8 = .ok (.getfield 43, 3) := by decide +kernel
theorem dX1_allows_11 : decode cX1_allows 11 = .ok (.if_icmp .le 5, 3) := by decide +kernel
theorem dX1_allows_14 : decode cX1_allows 14 = .ok (.iconst 0, 1) := by decide +kernel
theorem dX1_allows_15 : decode cX1_allows 15 = .ok (.ireturn, 1) := by decide +kernel
theorem dX1_allows_16 : decode cX1_allows 16 = .ok (.aload_n 0, 1) := by decide +kernel
theorem dX1_allows_17 : decode cX1_allows 17 = .ok (.iload_n 1, 1) := by decide +kernel
theorem dX1_allows_18 : decode cX1_allows 18 = .ok (.bipush 15, 2) := by decide +kernel
theorem dX1_allows_20 : decode cX1_allows 20 = .ok (.invokevirtual 64, 3) := by decide +kernel
theorem dX1_allows_23 : decode cX1_allows 23 = .ok (.invokestatic 70, 3) := by decide +kernel
theorem dX1_allows_26 : decode cX1_allows 26 = .ok (.iload_n 2, 1) := by decide +kernel
theorem dX1_allows_27 : decode cX1_allows 27 = .ok (.iadd, 1) := by decide +kernel
theorem dX1_allows_28 : decode cX1_allows 28 = .ok (.aload_n 0, 1) := by decide +kernel
theorem dX1_allows_29 : decode cX1_allows 29 = .ok (.getfield 21, 3) := by decide +kernel
theorem dX1_allows_32 : decode cX1_allows 32 = .ok (.if_icmp .eq 5, 3) := by decide +kernel
theorem dX1_allows_35 : decode cX1_allows 35 = .ok (.iconst 0, 1) := by decide +kernel
theorem dX1_allows_36 : decode cX1_allows 36 = .ok (.ireturn, 1) := by decide +kernel
theorem dX1_allows_37 : decode cX1_allows 37 = .ok (.iconst 0, 1) := by decide +kernel
theorem dX1_allows_38 : decode cX1_allows 38 = .ok (.istore_n 3, 1) := by decide +kernel
theorem dX1_allows_39 : decode cX1_allows 39 = .ok (.iload_n 3, 1) := by decide +kernel
theorem dX1_allows_40 : decode cX1_allows 40 = .ok (.aload_n 0, 1) := by decide +kernel
theorem dX1_allows_41 : decode cX1_allows 41 = .ok (.getfield 28, 3) := by decide +kernel
theorem dX1_allows_44 : decode cX1_allows 44 = .ok (.if_icmp .ge 20, 3) := by decide +kernel
theorem dX1_allows_47 : decode cX1_allows 47 = .ok (.aload_n 0, 1) := by decide +kernel
theorem dX1_allows_48 : decode cX1_allows 48 = .ok (.iload_n 1, 1) := by decide +kernel
theorem dX1_allows_49 : decode cX1_allows 49 = .ok (.iload_n 3, 1) := by decide +kernel
theorem dX1_allows_50 : decode cX1_allows 50 = .ok (.invokevirtual 75, 3) := by decide +kernel
theorem dX1_allows_53 : decode cX1_allows 53 = .ok (.ifCond .ne 5, 3) := by decide +kernel
theorem dX1_allows_56 : decode cX1_allows 56 = .ok (.iconst 0, 1) := by decide +kernel
theorem dX1_allows_57 : decode cX1_allows 57 = .ok (.ireturn, 1) := by decide +kernel
theorem dX1_allows_58 : decode cX1_allows 58 = .ok (.iinc 3 1, 3) := by decide +kernel
theorem dX1_allows_61 : decode cX1_allows 61 = .ok (.goto (-22), 3) := by decide +kernel
theorem dX1_allows_64 : decode cX1_allows 64 = .ok (.iconst 1, 1) := by decide +kernel
theorem dX1_allows_65 : decode cX1_allows 65 = .ok (.ireturn, 1) := by decide +kernel
set_option maxRecDepth 20000 in
theorem ggX1_leaksOf_X1_slotsUnder : GoodIn wsX1_leaksOf wsX1_slotsUnder := goodIn_r _ [6, 7, 8, 9, 10, 11, 19, 20, 21, 22, 23, 24, 25, 26, 27, 28, 29] (by decide +kernel) (by decide +kernel)
set_option maxRecDepth 20000 in
theorem gX1_leaksOf_X1_slotsUnder : GoodIn wsX1_leaksOf (wsV RX1 64 RX1 yX1_slotsUnder wsX1_slotsUnder) := goodIn_app (goodIn_of _ (by decide +kernel)) ggX1_leaksOf_X1_slotsUnder
set_option maxRecDepth 20000 in
theorem ggX1_leaksOf_J6_bitCount_0f7a4 : GoodIn wsX1_leaksOf wsJ6_bitCount_0f7a4 := goodIn_r _ [15, 16, 17, 18] (by decide +kernel) (by decide +kernel)
set_option maxRecDepth 20000 in
theorem gX1_leaksOf_J6_bitCount_0f7a4 : GoodIn wsX1_leaksOf (va_wsS RX1 70 yJ6_bitCount_0f7a4 wsJ6_bitCount_0f7a4) := goodIn_app (goodIn_of _ (by decide +kernel)) ggX1_leaksOf_J6_bitCount_0f7a4
theorem dX1_leaksOf_0 : decode cX1_leaksOf 0 = .ok (.aload_n 0, 1) := by decide +kernel
theorem dX1_leaksOf_1 : decode cX1_leaksOf 1 = .ok (.getfield 31, 3) := by decide +kernel
theorem dX1_leaksOf_4 : decode cX1_leaksOf 4 = .ok (.aload_n 0, 1) := by decide +kernel
theorem dX1_leaksOf_5 : decode cX1_leaksOf 5 = .ok (.iload_n 1, 1) := by decide +kernel
theorem dX1_leaksOf_6 : decode cX1_leaksOf 6 = .ok (.iconst 3, 1) := by decide +kernel
theorem dX1_leaksOf_7 : decode cX1_leaksOf 7 = .ok (.invokevirtual 64, 3) := by decide +kernel
theorem dX1_leaksOf_10 : decode cX1_leaksOf 10 = .ok (.iconst (-1), 1) := by decide +kernel
theorem dX1_leaksOf_11 : decode cX1_leaksOf 11 = .ok (.ixor, 1) := by decide +kernel
theorem dX1_leaksOf_12 : decode cX1_leaksOf 12 = .ok (.iand, 1) := by decide +kernel
theorem dX1_leaksOf_13 : decode cX1_leaksOf 13 = .ok (.invokestatic 70, 3) := by decide +kernel
theorem dX1_leaksOf_16 : decode cX1_leaksOf 16 = .ok (.ireturn, 1) := by decide +kernel
set_option maxRecDepth 20000 in
theorem ggX1_litHours_X1_slotsUnder : GoodIn wsX1_litHours wsX1_slotsUnder := goodIn_r _ [6, 7, 8, 9, 10, 11, 12, 13, 14, 15, 16, 17, 18, 19, 20, 21, 22] (by decide +kernel) (by decide +kernel)
set_option maxRecDepth 20000 in
theorem gX1_litHours_X1_slotsUnder : GoodIn wsX1_litHours (wsV RX1 64 RX1 yX1_slotsUnder wsX1_slotsUnder) := goodIn_app (goodIn_of _ (by decide +kernel)) ggX1_litHours_X1_slotsUnder
theorem dX1_litHours_0 : decode cX1_litHours 0 = .ok (.aload_n 0, 1) := by decide +kernel
theorem dX1_litHours_1 : decode cX1_litHours 1 = .ok (.getfield 34, 3) := by decide +kernel
theorem dX1_litHours_4 : decode cX1_litHours 4 = .ok (.aload_n 0, 1) := by decide +kernel
theorem dX1_litHours_5 : decode cX1_litHours 5 = .ok (.iload_n 1, 1) := by decide +kernel
theorem dX1_litHours_6 : decode cX1_litHours 6 = .ok (.bipush 13, 2) := by decide +kernel
theorem dX1_litHours_8 : decode cX1_litHours 8 = .ok (.invokevirtual 64, 3) := by decide +kernel
theorem dX1_litHours_11 : decode cX1_litHours 11 = .ok (.iconst (-1), 1) := by decide +kernel
theorem dX1_litHours_12 : decode cX1_litHours 12 = .ok (.ixor, 1) := by decide +kernel
theorem dX1_litHours_13 : decode cX1_litHours 13 = .ok (.iand, 1) := by decide +kernel
theorem dX1_litHours_14 : decode cX1_litHours 14 = .ok (.ireturn, 1) := by decide +kernel
set_option maxRecDepth 20000 in
theorem ggX1_worthOf_X1_litHours : GoodIn wsX1_worthOf wsX1_litHours := goodIn_r _ [7, 8, 9, 10, 11, 6, 12, 13, 14, 15, 16, 17, 34, 35, 36, 37, 38, 39, 40, 41, 42, 43, 44] (by decide +kernel) (by decide +kernel)
set_option maxRecDepth 20000 in
theorem gX1_worthOf_X1_litHours : GoodIn wsX1_worthOf (wsV RX1 79 RX1 yX1_litHours wsX1_litHours) := goodIn_app (goodIn_of _ (by decide +kernel)) ggX1_worthOf_X1_litHours
set_option maxRecDepth 20000 in
theorem ggX1_worthOf_J6_bitCount_0f7a4 : GoodIn wsX1_worthOf wsJ6_bitCount_0f7a4 := goodIn_r _ [21, 22, 23, 24] (by decide +kernel) (by decide +kernel)
set_option maxRecDepth 20000 in
theorem gX1_worthOf_J6_bitCount_0f7a4 : GoodIn wsX1_worthOf (va_wsS RX1 70 yJ6_bitCount_0f7a4 wsJ6_bitCount_0f7a4) := goodIn_app (goodIn_of _ (by decide +kernel)) ggX1_worthOf_J6_bitCount_0f7a4
set_option maxRecDepth 20000 in
theorem ggX1_worthOf_X1_leaksOf : GoodIn wsX1_worthOf wsX1_leaksOf := goodIn_r _ [28, 29, 9, 10, 11, 6, 12, 13, 14, 15, 16, 17, 18, 19, 20, 21, 22, 23, 24, 34, 35, 36, 37, 38, 39, 40, 41, 42, 43, 44] (by decide +kernel) (by decide +kernel)
set_option maxRecDepth 20000 in
theorem gX1_worthOf_X1_leaksOf : GoodIn wsX1_worthOf (wsV RX1 82 RX1 yX1_leaksOf wsX1_leaksOf) := goodIn_app (goodIn_of _ (by decide +kernel)) ggX1_worthOf_X1_leaksOf
set_option maxRecDepth 20000 in
theorem ggX1_worthOf_X1_slotsUnder : GoodIn wsX1_worthOf wsX1_slotsUnder := goodIn_r _ [12, 13, 14, 15, 16, 17, 34, 35, 36, 37, 38, 39, 40, 41, 42, 43, 44] (by decide +kernel) (by decide +kernel)
set_option maxRecDepth 20000 in
theorem gX1_worthOf_X1_slotsUnder : GoodIn wsX1_worthOf (wsV RX1 64 RX1 yX1_slotsUnder wsX1_slotsUnder) := goodIn_app (goodIn_of _ (by decide +kernel)) ggX1_worthOf_X1_slotsUnder
set_option maxRecDepth 20000 in
theorem ggX1_worthOf_X1_quietIn : GoodIn wsX1_worthOf wsX1_quietIn := goodIn_r _ [33, 2, 9, 10, 11, 6, 12, 13, 14, 15, 16, 17, 34, 35, 36, 37, 38, 39, 40, 41, 42, 43, 44] (by decide +kernel) (by decide +kernel)
set_option maxRecDepth 20000 in
theorem gX1_worthOf_X1_quietIn : GoodIn wsX1_worthOf (wsV RX1 85 RX1 yX1_quietIn wsX1_quietIn) := goodIn_app (goodIn_of _ (by decide +kernel)) ggX1_worthOf_X1_quietIn
theorem dX1_worthOf_0 : decode cX1_worthOf 0 = .ok (.iconst 3, 1) := by decide +kernel
theorem dX1_worthOf_1 : decode cX1_worthOf 1 = .ok (.aload_n 0, 1) := by decide +kernel
theorem dX1_worthOf_2 : decode cX1_worthOf 2 = .ok (.iload_n 1, 1) := by decide +kernel
theorem dX1_worthOf_3 : decode cX1_worthOf 3 = .ok (.invokevirtual 79, 3) := by decide +kernel
theorem dX1_worthOf_6 : decode cX1_worthOf 6 = .ok (.invokestatic 70, 3) := by decide +kernel
theorem dX1_worthOf_9 : decode cX1_worthOf 9 = .ok (.imul, 1) := by decide +kernel
theorem dX1_worthOf_10 : decode cX1_worthOf 10 = .ok (.iconst 2, 1) := by decide +kernel
theorem dX1_worthOf_11 : decode cX1_worthOf 11 = .ok (.aload_n 0, 1) := by decide +kernel
theorem dX1_worthOf_12 : decode cX1_worthOf 12 = .ok (.iload_n 1, 1) := by decide +kernel
theorem dX1_worthOf_13 : decode cX1_worthOf 13 = .ok (.invokevirtual 82, 3) := by decide +kernel
theorem dX1_worthOf_16 : decode cX1_worthOf 16 = .ok (.imul, 1) := by decide +kernel
theorem dX1_worthOf_17 : decode cX1_worthOf 17 = .ok (.isub, 1) := by decide +kernel
theorem dX1_worthOf_18 : decode cX1_worthOf 18 = .ok (.istore_n 2, 1) := by decide +kernel
theorem dX1_worthOf_19 : decode cX1_worthOf 19 = .ok (.aload_n 0, 1) := by decide +kernel
theorem dX1_worthOf_20 : decode cX1_worthOf 20 = .ok (.getfield 37, 3) := by decide +kernel
theorem dX1_worthOf_23 : decode cX1_worthOf 23 = .ok (.bipush (-9), 2) := by decide +kernel
theorem dX1_worthOf_25 : decode cX1_worthOf 25 = .ok (.if_icmp .eq 23, 3) := by decide +kernel
theorem dX1_worthOf_28 : decode cX1_worthOf 28 = .ok (.aload_n 0, 1) := by decide +kernel
theorem dX1_worthOf_29 : decode cX1_worthOf 29 = .ok (.iload_n 1, 1) := by decide +kernel
theorem dX1_worthOf_30 : decode cX1_worthOf 30 = .ok (.bipush 13, 2) := by decide +kernel
theorem dX1_worthOf_32 : decode cX1_worthOf 32 = .ok (.invokevirtual 64, 3) := by decide +kernel
theorem dX1_worthOf_35 : decode cX1_worthOf 35 = .ok (.aload_n 0, 1) := by decide +kernel
theorem dX1_worthOf_36 : decode cX1_worthOf 36 = .ok (.getfield 37, 3) := by decide +kernel
theorem dX1_worthOf_39 : decode cX1_worthOf 39 = .ok (.ishr, 1) := by decide +kernel
theorem dX1_worthOf_40 : decode cX1_worthOf 40 = .ok (.iconst 1, 1) := by decide +kernel
theorem dX1_worthOf_41 : decode cX1_worthOf 41 = .ok (.iand, 1) := by decide +kernel
theorem dX1_worthOf_42 : decode cX1_worthOf 42 = .ok (.ifCond .ne 6, 3) := by decide +kernel
theorem dX1_worthOf_45 : decode cX1_worthOf 45 = .ok (.iinc 2 5, 3) := by decide +kernel
theorem dX1_worthOf_48 : decode cX1_worthOf 48 = .ok (.aload_n 0, 1) := by decide +kernel
theorem dX1_worthOf_49 : decode cX1_worthOf 49 = .ok (.getfield 40, 3) := by decide +kernel
theorem dX1_worthOf_52 : decode cX1_worthOf 52 = .ok (.bipush (-9), 2) := by decide +kernel
theorem dX1_worthOf_54 : decode cX1_worthOf 54 = .ok (.if_icmp .eq 11, 3) := by decide +kernel
theorem dX1_worthOf_57 : decode cX1_worthOf 57 = .ok (.iload_n 2, 1) := by decide +kernel
theorem dX1_worthOf_58 : decode cX1_worthOf 58 = .ok (.aload_n 0, 1) := by decide +kernel
theorem dX1_worthOf_59 : decode cX1_worthOf 59 = .ok (.iload_n 1, 1) := by decide +kernel
theorem dX1_worthOf_60 : decode cX1_worthOf 60 = .ok (.invokevirtual 85, 3) := by decide +kernel
theorem dX1_worthOf_63 : decode cX1_worthOf 63 = .ok (.iadd, 1) := by decide +kernel
theorem dX1_worthOf_64 : decode cX1_worthOf 64 = .ok (.istore_n 2, 1) := by decide +kernel
theorem dX1_worthOf_65 : decode cX1_worthOf 65 = .ok (.iload_n 2, 1) := by decide +kernel
theorem dX1_worthOf_66 : decode cX1_worthOf 66 = .ok (.ireturn, 1) := by decide +kernel
set_option maxRecDepth 20000 in
theorem ggX1_quietIn_X1_slotsUnder : GoodIn wsX1_quietIn wsX1_slotsUnder := goodIn_r _ [6, 7, 8, 9, 10, 11, 12, 13, 14, 15, 16, 17, 18, 19, 20, 21, 22] (by decide +kernel) (by decide +kernel)
set_option maxRecDepth 20000 in
theorem gX1_quietIn_X1_slotsUnder : GoodIn wsX1_quietIn (wsV RX1 64 RX1 yX1_slotsUnder wsX1_slotsUnder) := goodIn_app (goodIn_of _ (by decide +kernel)) ggX1_quietIn_X1_slotsUnder
theorem dX1_quietIn_0 : decode cX1_quietIn 0 = .ok (.aload_n 0, 1) := by decide +kernel
theorem dX1_quietIn_1 : decode cX1_quietIn 1 = .ok (.iload_n 1, 1) := by decide +kernel
theorem dX1_quietIn_2 : decode cX1_quietIn 2 = .ok (.iconst 1, 1) := by decide +kernel
theorem dX1_quietIn_3 : decode cX1_quietIn 3 = .ok (.invokevirtual 64, 3) := by decide +kernel
theorem dX1_quietIn_6 : decode cX1_quietIn 6 = .ok (.aload_n 0, 1) := by decide +kernel
theorem dX1_quietIn_7 : decode cX1_quietIn 7 = .ok (.getfield 40, 3) := by decide +kernel
theorem dX1_quietIn_10 : decode cX1_quietIn 10 = .ok (.ishr, 1) := by decide +kernel
theorem dX1_quietIn_11 : decode cX1_quietIn 11 = .ok (.iconst 1, 1) := by decide +kernel
theorem dX1_quietIn_12 : decode cX1_quietIn 12 = .ok (.iand, 1) := by decide +kernel
theorem dX1_quietIn_13 : decode cX1_quietIn 13 = .ok (.iconst 1, 1) := by decide +kernel
theorem dX1_quietIn_14 : decode cX1_quietIn 14 = .ok (.if_icmp .ne 5, 3) := by decide +kernel
theorem dX1_quietIn_17 : decode cX1_quietIn 17 = .ok (.iconst 4, 1) := by decide +kernel
theorem dX1_quietIn_18 : decode cX1_quietIn 18 = .ok (.ireturn, 1) := by decide +kernel
theorem dX1_quietIn_19 : decode cX1_quietIn 19 = .ok (.aload_n 0, 1) := by decide +kernel
theorem dX1_quietIn_20 : decode cX1_quietIn 20 = .ok (.iload_n 1, 1) := by decide +kernel
theorem dX1_quietIn_21 : decode cX1_quietIn 21 = .ok (.bipush 15, 2) := by decide +kernel
theorem dX1_quietIn_23 : decode cX1_quietIn 23 = .ok (.invokevirtual 64, 3) := by decide +kernel
theorem dX1_quietIn_26 : decode cX1_quietIn 26 = .ok (.aload_n 0, 1) := by decide +kernel
theorem dX1_quietIn_27 : decode cX1_quietIn 27 = .ok (.getfield 40, 3) := by decide +kernel
theorem dX1_quietIn_30 : decode cX1_quietIn 30 = .ok (.ishr, 1) := by decide +kernel
theorem dX1_quietIn_31 : decode cX1_quietIn 31 = .ok (.iconst 1, 1) := by decide +kernel
theorem dX1_quietIn_32 : decode cX1_quietIn 32 = .ok (.iand, 1) := by decide +kernel
theorem dX1_quietIn_33 : decode cX1_quietIn 33 = .ok (.iconst 1, 1) := by decide +kernel
theorem dX1_quietIn_34 : decode cX1_quietIn 34 = .ok (.if_icmp .ne 7, 3) := by decide +kernel
theorem dX1_quietIn_37 : decode cX1_quietIn 37 = .ok (.iconst 2, 1) := by decide +kernel
theorem dX1_quietIn_38 : decode cX1_quietIn 38 = .ok (.goto 4, 3) := by decide +kernel
theorem dX1_quietIn_41 : decode cX1_quietIn 41 = .ok (.iconst 0, 1) := by decide +kernel
theorem dX1_quietIn_42 : decode cX1_quietIn 42 = .ok (.ireturn, 1) := by decide +kernel
set_option maxRecDepth 20000 in
theorem ggX1_fitsLetter_X1_litHours : GoodIn wsX1_fitsLetter wsX1_litHours := goodIn_r _ [5, 6, 7, 8, 9, 4, 10, 11, 12, 13, 14, 15, 24, 25, 26, 27, 28, 29, 30, 31, 32, 33, 34] (by decide +kernel) (by decide +kernel)
set_option maxRecDepth 20000 in
theorem gX1_fitsLetter_X1_litHours : GoodIn wsX1_fitsLetter (wsV RX1 79 RX1 yX1_litHours wsX1_litHours) := goodIn_app (goodIn_of _ (by decide +kernel)) ggX1_fitsLetter_X1_litHours
theorem dX1_fitsLetter_0 : decode cX1_fitsLetter 0 = .ok (.aload_n 0, 1) := by decide +kernel
theorem dX1_fitsLetter_1 : decode cX1_fitsLetter 1 = .ok (.iload_n 1, 1) := by decide +kernel
theorem dX1_fitsLetter_2 : decode cX1_fitsLetter 2 = .ok (.invokevirtual 79, 3) := by decide +kernel
theorem dX1_fitsLetter_5 : decode cX1_fitsLetter 5 = .ok (.istore_n 3, 1) := by decide +kernel
theorem dX1_fitsLetter_6 : decode cX1_fitsLetter 6 = .ok (.aload_n 2, 1) := by decide +kernel
theorem dX1_fitsLetter_7 : decode cX1_fitsLetter 7 = .ok (.getfield 88, 3) := by decide +kernel
theorem dX1_fitsLetter_10 : decode cX1_fitsLetter 10 = .ok (.iload_n 3, 1) := by decide +kernel
theorem dX1_fitsLetter_11 : decode cX1_fitsLetter 11 = .ok (.iconst (-1), 1) := by decide +kernel
theorem dX1_fitsLetter_12 : decode cX1_fitsLetter 12 = .ok (.ixor, 1) := by decide +kernel
theorem dX1_fitsLetter_13 : decode cX1_fitsLetter 13 = .ok (.iand, 1) := by decide +kernel
theorem dX1_fitsLetter_14 : decode cX1_fitsLetter 14 = .ok (.ifCond .ne 16, 3) := by decide +kernel
theorem dX1_fitsLetter_17 : decode cX1_fitsLetter 17 = .ok (.aload_n 2, 1) := by decide +kernel
theorem dX1_fitsLetter_18 : decode cX1_fitsLetter 18 = .ok (.getfield 92, 3) := by decide +kernel
theorem dX1_fitsLetter_21 : decode cX1_fitsLetter 21 = .ok (.iload_n 3, 1) := by decide +kernel
theorem dX1_fitsLetter_22 : decode cX1_fitsLetter 22 = .ok (.iand, 1) := by decide +kernel
theorem dX1_fitsLetter_23 : decode cX1_fitsLetter 23 = .ok (.ifCond .ne 7, 3) := by decide +kernel
theorem dX1_fitsLetter_26 : decode cX1_fitsLetter 26 = .ok (.iconst 1, 1) := by decide +kernel
theorem dX1_fitsLetter_27 : decode cX1_fitsLetter 27 = .ok (.goto 4, 3) := by decide +kernel
theorem dX1_fitsLetter_30 : decode cX1_fitsLetter 30 = .ok (.iconst 0, 1) := by decide +kernel
theorem dX1_fitsLetter_31 : decode cX1_fitsLetter 31 = .ok (.ireturn, 1) := by decide +kernel
theorem dX2_init_0 : decode cX2_init 0 = .ok (.aload_n 0, 1) := by decide +kernel
theorem dX2_init_1 : decode cX2_init 1 = .ok (.invokespecial 3, 3) := by decide +kernel
theorem dX2_init_4 : decode cX2_init 4 = .ok (.aload_n 0, 1) := by decide +kernel
theorem dX2_init_5 : decode cX2_init 5 = .ok (.sipush 6561, 3) := by decide +kernel
theorem dX2_init_8 : decode cX2_init 8 = .ok (.newarray .byte, 2) := by decide +kernel
theorem dX2_init_10 : decode cX2_init 10 = .ok (.putfield 11, 3) := by decide +kernel
theorem dX2_init_13 : decode cX2_init 13 = .ok (.aload_n 0, 1) := by decide +kernel
theorem dX2_init_14 : decode cX2_init 14 = .ok (.sipush 6561, 3) := by decide +kernel
theorem dX2_init_17 : decode cX2_init 17 = .ok (.newarray .int, 2) := by decide +kernel
theorem dX2_init_19 : decode cX2_init 19 = .ok (.putfield 15, 3) := by decide +kernel
theorem dX2_init_22 : decode cX2_init 22 = .ok (.aload_n 0, 1) := by decide +kernel
theorem dX2_init_23 : decode cX2_init 23 = .ok (.sipush 3394, 3) := by decide +kernel
theorem dX2_init_26 : decode cX2_init 26 = .ok (.newarray .int, 2) := by decide +kernel
theorem dX2_init_28 : decode cX2_init 28 = .ok (.putfield 19, 3) := by decide +kernel
theorem dX2_init_31 : decode cX2_init 31 = .ok (.return_, 1) := by decide +kernel
set_option maxRecDepth 20000 in
theorem ggX2_survey_X4_unitOf : GoodIn wsX2_survey wsX4_unitOf := goodIn_r _ [5] (by decide +kernel) (by decide +kernel)
set_option maxRecDepth 20000 in
theorem gX2_survey_X4_unitOf_n32 : GoodIn wsX2_survey (wsX4_unitOf) := ggX2_survey_X4_unitOf
set_option maxRecDepth 20000 in
theorem ggX2_survey_X1_allows : GoodIn wsX2_survey wsX1_allows := goodIn_r _ [9, 10, 11, 12, 13, 14, 15, 7, 16, 17, 4, 18, 19, 20, 21, 22, 23, 24, 25, 26, 27, 28, 29, 30, 31, 32, 33, 34, 35, 36, 37, 38, 39, 45, 46, 47, 48, 49, 50, 51, 52, 53, 54, 55] (by decide +kernel) (by decide +kernel)
set_option maxRecDepth 20000 in
theorem gX2_survey_X1_allows_n36 : GoodIn wsX2_survey (wsX1_allows) := ggX2_survey_X1_allows
theorem dX2_survey_0 : decode cX2_survey 0 = .ok (.aload_n 0, 1) := by decide +kernel
theorem dX2_survey_1 : decode cX2_survey 1 = .ok (.getfield 22, 3) := by decide +kernel
theorem dX2_survey_4 : decode cX2_survey 4 = .ok (.ifCond .eq 4, 3) := by decide +kernel
theorem dX2_survey_7 : decode cX2_survey 7 = .ok (.return_, 1) := by decide +kernel
theorem dX2_survey_8 : decode cX2_survey 8 = .ok (.iconst 0, 1) := by decide +kernel
theorem dX2_survey_9 : decode cX2_survey 9 = .ok (.istore_n 2, 1) := by decide +kernel
theorem dX2_survey_10 : decode cX2_survey 10 = .ok (.iload_n 2, 1) := by decide +kernel
theorem dX2_survey_11 : decode cX2_survey 11 = .ok (.sipush 6561, 3) := by decide +kernel
theorem dX2_survey_14 : decode cX2_survey 14 = .ok (.if_icmp .ge 16, 3) := by decide +kernel
theorem dX2_survey_17 : decode cX2_survey 17 = .ok (.aload_n 0, 1) := by decide +kernel
theorem dX2_survey_18 : decode cX2_survey 18 = .ok (.getfield 11, 3) := by decide +kernel
theorem dX2_survey_21 : decode cX2_survey 21 = .ok (.iload_n 2, 1) := by decide +kernel
theorem dX2_survey_22 : decode cX2_survey 22 = .ok (.iconst 0, 1) := by decide +kernel
theorem dX2_survey_23 : decode cX2_survey 23 = .ok (.bastore, 1) := by decide +kernel
theorem dX2_survey_24 : decode cX2_survey 24 = .ok (.iinc 2 1, 3) := by decide +kernel
theorem dX2_survey_27 : decode cX2_survey 27 = .ok (.goto (-17), 3) := by decide +kernel
theorem dX2_survey_30 : decode cX2_survey 30 = .ok (.aload_n 1, 1) := by decide +kernel
theorem dX2_survey_31 : decode cX2_survey 31 = .ok (.getfield 26, 3) := by decide +kernel
theorem dX2_survey_34 : decode cX2_survey 34 = .ok (.ifCond .ne 9, 3) := by decide +kernel
theorem dX2_survey_37 : decode cX2_survey 37 = .ok (.sipush 6561, 3) := by decide +kernel
theorem dX2_survey_40 : decode cX2_survey 40 = .ok (.goto 12, 3) := by decide +kernel
theorem dX2_survey_43 : decode cX2_survey 43 = .ok (.aload_n 1, 1) := by decide +kernel
theorem dX2_survey_44 : decode cX2_survey 44 = .ok (.getfield 26, 3) := by decide +kernel
theorem dX2_survey_47 : decode cX2_survey 47 = .ok (.iconst 1, 1) := by decide +kernel
theorem dX2_survey_48 : decode cX2_survey 48 = .ok (.isub, 1) := by decide +kernel
theorem dX2_survey_49 : decode cX2_survey 49 = .ok (.invokestatic 32, 3) := by decide +kernel
theorem dX2_survey_52 : decode cX2_survey 52 = .ok (.istore_n 2, 1) := by decide +kernel
theorem dX2_survey_53 : decode cX2_survey 53 = .ok (.iconst 0, 1) := by decide +kernel
theorem dX2_survey_54 : decode cX2_survey 54 = .ok (.istore_n 3, 1) := by decide +kernel
theorem dX2_survey_55 : decode cX2_survey 55 = .ok (.iload_n 3, 1) := by decide +kernel
theorem dX2_survey_56 : decode cX2_survey 56 = .ok (.sipush 6561, 3) := by decide +kernel
theorem dX2_survey_59 : decode cX2_survey 59 = .ok (.if_icmp .ge 37, 3) := by decide +kernel
theorem dX2_survey_62 : decode cX2_survey 62 = .ok (.iload_n 3, 1) := by decide +kernel
theorem dX2_survey_63 : decode cX2_survey 63 = .ok (.iload_n 2, 1) := by decide +kernel
theorem dX2_survey_64 : decode cX2_survey 64 = .ok (.imul, 1) := by decide +kernel
theorem dX2_survey_65 : decode cX2_survey 65 = .ok (.sipush 6561, 3) := by decide +kernel
theorem dX2_survey_68 : decode cX2_survey 68 = .ok (.if_icmp .ge 28, 3) := by decide +kernel
theorem dX2_survey_71 : decode cX2_survey 71 = .ok (.aload_n 1, 1) := by decide +kernel
theorem dX2_survey_72 : decode cX2_survey 72 = .ok (.iload_n 3, 1) := by decide +kernel
theorem dX2_survey_73 : decode cX2_survey 73 = .ok (.iload_n 2, 1) := by decide +kernel
theorem dX2_survey_74 : decode cX2_survey 74 = .ok (.imul, 1) := by decide +kernel
theorem dX2_survey_75 : decode cX2_survey 75 = .ok (.invokevirtual 36, 3) := by decide +kernel
theorem dX2_survey_78 : decode cX2_survey 78 = .ok (.ifCond .eq 12, 3) := by decide +kernel
theorem dX2_survey_81 : decode cX2_survey 81 = .ok (.aload_n 0, 1) := by decide +kernel
theorem dX2_survey_82 : decode cX2_survey 82 = .ok (.getfield 11, 3) := by decide +kernel
theorem dX2_survey_85 : decode cX2_survey 85 = .ok (.iload_n 3, 1) := by decide +kernel
theorem dX2_survey_86 : decode cX2_survey 86 = .ok (.iload_n 2, 1) := by decide +kernel
theorem dX2_survey_87 : decode cX2_survey 87 = .ok (.imul, 1) := by decide +kernel
theorem dX2_survey_88 : decode cX2_survey 88 = .ok (.iconst 1, 1) := by decide +kernel
theorem dX2_survey_89 : decode cX2_survey 89 = .ok (.bastore, 1) := by decide +kernel
theorem dX2_survey_90 : decode cX2_survey 90 = .ok (.iinc 3 1, 3) := by decide +kernel
theorem dX2_survey_93 : decode cX2_survey 93 = .ok (.goto (-38), 3) := by decide +kernel
theorem dX2_survey_96 : decode cX2_survey 96 = .ok (.aload_n 0, 1) := by decide +kernel
theorem dX2_survey_97 : decode cX2_survey 97 = .ok (.iconst 1, 1) := by decide +kernel
theorem dX2_survey_98 : decode cX2_survey 98 = .ok (.putfield 22, 3) := by decide +kernel
theorem dX2_survey_101 : decode cX2_survey 101 = .ok (.return_, 1) := by decide +kernel
theorem dX2_isLawful_0 : decode cX2_isLawful 0 = .ok (.iload_n 1, 1) := by decide +kernel
theorem dX2_isLawful_1 : decode cX2_isLawful 1 = .ok (.ifCond .lt 24, 3) := by decide +kernel
theorem dX2_isLawful_4 : decode cX2_isLawful 4 = .ok (.iload_n 1, 1) := by decide +kernel
theorem dX2_isLawful_5 : decode cX2_isLawful 5 = .ok (.sipush 6561, 3) := by decide +kernel
theorem dX2_isLawful_8 : decode cX2_isLawful 8 = .ok (.if_icmp .ge 17, 3) := by decide +kernel
theorem dX2_isLawful_11 : decode cX2_isLawful 11 = .ok (.aload_n 0, 1) := by decide +kernel
theorem dX2_isLawful_12 : decode cX2_isLawful 12 = .ok (.getfield 11, 3) := by decide +kernel
theorem dX2_isLawful_15 : decode cX2_isLawful 15 = .ok (.iload_n 1, 1) := by decide +kernel
theorem dX2_isLawful_16 : decode cX2_isLawful 16 = .ok (.baload, 1) := by decide +kernel
theorem dX2_isLawful_17 : decode cX2_isLawful 17 = .ok (.iconst 1, 1) := by decide +kernel
theorem dX2_isLawful_18 : decode cX2_isLawful 18 = .ok (.if_icmp .ne 7, 3) := by decide +kernel
theorem dX2_isLawful_21 : decode cX2_isLawful 21 = .ok (.iconst 1, 1) := by decide +kernel
theorem dX2_isLawful_22 : decode cX2_isLawful 22 = .ok (.goto 4, 3) := by decide +kernel
theorem dX2_isLawful_25 : decode cX2_isLawful 25 = .ok (.iconst 0, 1) := by decide +kernel
theorem dX2_isLawful_26 : decode cX2_isLawful 26 = .ok (.ireturn, 1) := by decide +kernel
theorem dX2_farTo_0 : decode cX2_farTo 0 = .ok (.iload_n 1, 1) := by decide +kernel
theorem dX2_farTo_1 : decode cX2_farTo 1 = .ok (.ifCond .lt 19, 3) := by decide +kernel
theorem dX2_farTo_4 : decode cX2_farTo 4 = .ok (.iload_n 1, 1) := by decide +kernel
theorem dX2_farTo_5 : decode cX2_farTo 5 = .ok (.sipush 6561, 3) := by decide +kernel
theorem dX2_farTo_8 : decode cX2_farTo 8 = .ok (.if_icmp .ge 12, 3) := by decide +kernel
theorem dX2_farTo_11 : decode cX2_farTo 11 = .ok (.aload_n 0, 1) := by decide +kernel
theorem dX2_farTo_12 : decode cX2_farTo 12 = .ok (.getfield 15, 3) := by decide +kernel
theorem dX2_farTo_15 : decode cX2_farTo 15 = .ok (.iload_n 1, 1) := by decide +kernel
theorem dX2_farTo_16 : decode cX2_farTo 16 = .ok (.iaload, 1) := by decide +kernel
theorem dX2_farTo_17 : decode cX2_farTo 17 = .ok (.goto 5, 3) := by decide +kernel
theorem dX2_farTo_20 : decode cX2_farTo 20 = .ok (.bipush (-9), 2) := by decide +kernel
theorem dX2_farTo_22 : decode cX2_farTo 22 = .ok (.ireturn, 1) := by decide +kernel
set_option maxRecDepth 20000 in
theorem ggX2_spreadFrom_X2_spread : GoodIn wsX2_spreadFrom wsX2_spread := goodIn_r _ [6, 7, 1, 8, 9, 10, 11, 5, 12, 13, 14, 15, 16, 17, 18, 19, 20, 21, 22, 23, 24, 25, 26, 27, 28, 29, 30, 31, 32, 33, 34, 35, 36, 37, 38, 39, 40, 41, 42, 43, 44, 45, 46, 47, 48, 49, 50] (by decide +kernel) (by decide +kernel)
set_option maxRecDepth 20000 in
theorem gX2_spreadFrom_X2_spread : GoodIn wsX2_spreadFrom (wsV RX2 40 RX2 yX2_spread wsX2_spread) := goodIn_app (goodIn_of _ (by decide +kernel)) ggX2_spreadFrom_X2_spread
theorem dX2_spreadFrom_0 : decode cX2_spreadFrom 0 = .ok (.aload_n 0, 1) := by decide +kernel
theorem dX2_spreadFrom_1 : decode cX2_spreadFrom 1 = .ok (.getfield 19, 3) := by decide +kernel
theorem dX2_spreadFrom_4 : decode cX2_spreadFrom 4 = .ok (.iconst 0, 1) := by decide +kernel
theorem dX2_spreadFrom_5 : decode cX2_spreadFrom 5 = .ok (.iload_n 2, 1) := by decide +kernel
theorem dX2_spreadFrom_6 : decode cX2_spreadFrom 6 = .ok (.iastore, 1) := by decide +kernel
theorem dX2_spreadFrom_7 : decode cX2_spreadFrom 7 = .ok (.aload_n 0, 1) := by decide +kernel
theorem dX2_spreadFrom_8 : decode cX2_spreadFrom 8 = .ok (.aload_n 1, 1) := by decide +kernel
theorem dX2_spreadFrom_9 : decode cX2_spreadFrom 9 = .ok (.iconst 1, 1) := by decide +kernel
theorem dX2_spreadFrom_10 : decode cX2_spreadFrom 10 = .ok (.sipush 6561, 3) := by decide +kernel
theorem dX2_spreadFrom_13 : decode cX2_spreadFrom 13 = .ok (.invokevirtual 40, 3) := by decide +kernel
theorem dX2_spreadFrom_16 : decode cX2_spreadFrom 16 = .ok (.return_, 1) := by decide +kernel
set_option maxRecDepth 20000 in
theorem ggX2_spread_X2_farTo : GoodIn wsX2_spread wsX2_farTo := goodIn_r _ [8, 1, 31, 32, 33, 34, 35] (by decide +kernel) (by decide +kernel)
set_option maxRecDepth 20000 in
theorem gX2_spread_X2_farTo : GoodIn wsX2_spread (wsV RX2 47 RX2 yX2_farTo wsX2_farTo) := goodIn_app (goodIn_of _ (by decide +kernel)) ggX2_spread_X2_farTo
set_option maxRecDepth 20000 in
theorem ggX2_spread_X2_spreadByOneAct : GoodIn wsX2_spread wsX2_spreadByOneAct := goodIn_r _ [12, 13, 14, 15, 16, 17, 18, 19, 20, 21, 22, 23, 24, 7, 25, 1, 3, 2, 26, 27, 28, 29, 30, 36, 37, 38, 39, 40, 41, 42, 43, 44, 45, 46, 31, 32, 33, 34, 35] (by decide +kernel) (by decide +kernel)
set_option maxRecDepth 20000 in
theorem gX2_spread_X2_spreadByOneAct : GoodIn wsX2_spread (wsV RX2 50 RX2 yX2_spreadByOneAct wsX2_spreadByOneAct) := goodIn_app (goodIn_of _ (by decide +kernel)) ggX2_spread_X2_spreadByOneAct
theorem dX2_spread_0 : decode cX2_spread 0 = .ok (.iconst 0, 1) := by decide +kernel
theorem dX2_spread_1 : decode cX2_spread 1 = .ok (.istore 4, 2) := by decide +kernel
theorem dX2_spread_3 : decode cX2_spread 3 = .ok (.iload 4, 2) := by decide +kernel
theorem dX2_spread_5 : decode cX2_spread 5 = .ok (.sipush 6561, 3) := by decide +kernel
theorem dX2_spread_8 : decode cX2_spread 8 = .ok (.if_icmp .ge 18, 3) := by decide +kernel
theorem dX2_spread_11 : decode cX2_spread 11 = .ok (.aload_n 0, 1) := by decide +kernel
theorem dX2_spread_12 : decode cX2_spread 12 = .ok (.getfield 15, 3) := by decide +kernel
theorem dX2_spread_15 : decode cX2_spread 15 = .ok (.iload 4, 2) := by decide +kernel
theorem dX2_spread_17 : decode cX2_spread 17 = .ok (.bipush (-9), 2) := by decide +kernel
theorem dX2_spread_19 : decode cX2_spread 19 = .ok (.iastore, 1) := by decide +kernel
theorem dX2_spread_20 : decode cX2_spread 20 = .ok (.iinc 4 1, 3) := by decide +kernel
theorem dX2_spread_23 : decode cX2_spread 23 = .ok (.goto (-20), 3) := by decide +kernel
theorem dX2_spread_26 : decode cX2_spread 26 = .ok (.iconst 0, 1) := by decide +kernel
theorem dX2_spread_27 : decode cX2_spread 27 = .ok (.istore 4, 2) := by decide +kernel
theorem dX2_spread_29 : decode cX2_spread 29 = .ok (.iload 4, 2) := by decide +kernel
theorem dX2_spread_31 : decode cX2_spread 31 = .ok (.iload_n 2, 1) := by decide +kernel
theorem dX2_spread_32 : decode cX2_spread 32 = .ok (.if_icmp .ge 47, 3) := by decide +kernel
theorem dX2_spread_35 : decode cX2_spread 35 = .ok (.iload 4, 2) := by decide +kernel
theorem dX2_spread_37 : decode cX2_spread 37 = .ok (.sipush 3394, 3) := by decide +kernel
theorem dX2_spread_40 : decode cX2_spread 40 = .ok (.if_icmp .ge 39, 3) := by decide +kernel
theorem dX2_spread_43 : decode cX2_spread 43 = .ok (.aload_n 0, 1) := by decide +kernel
theorem dX2_spread_44 : decode cX2_spread 44 = .ok (.getfield 19, 3) := by decide +kernel
theorem dX2_spread_47 : decode cX2_spread 47 = .ok (.iload 4, 2) := by decide +kernel
theorem dX2_spread_49 : decode cX2_spread 49 = .ok (.iaload, 1) := by decide +kernel
theorem dX2_spread_50 : decode cX2_spread 50 = .ok (.istore 5, 2) := by decide +kernel
theorem dX2_spread_52 : decode cX2_spread 52 = .ok (.iload 5, 2) := by decide +kernel
theorem dX2_spread_54 : decode cX2_spread 54 = .ok (.ifCond .lt 19, 3) := by decide +kernel
theorem dX2_spread_57 : decode cX2_spread 57 = .ok (.iload 5, 2) := by decide +kernel
theorem dX2_spread_59 : decode cX2_spread 59 = .ok (.sipush 6561, 3) := by decide +kernel
theorem dX2_spread_62 : decode cX2_spread 62 = .ok (.if_icmp .ge 11, 3) := by decide +kernel
theorem dX2_spread_65 : decode cX2_spread 65 = .ok (.aload_n 0, 1) := by decide +kernel
theorem dX2_spread_66 : decode cX2_spread 66 = .ok (.getfield 15, 3) := by decide +kernel
theorem dX2_spread_69 : decode cX2_spread 69 = .ok (.iload 5, 2) := by decide +kernel
theorem dX2_spread_71 : decode cX2_spread 71 = .ok (.iconst 0, 1) := by decide +kernel
theorem dX2_spread_72 : decode cX2_spread 72 = .ok (.iastore, 1) := by decide +kernel
theorem dX2_spread_73 : decode cX2_spread 73 = .ok (.iinc 4 1, 3) := by decide +kernel
theorem dX2_spread_76 : decode cX2_spread 76 = .ok (.goto (-47), 3) := by decide +kernel
theorem dX2_spread_79 : decode cX2_spread 79 = .ok (.aload_n 0, 1) := by decide +kernel
theorem dX2_spread_80 : decode cX2_spread 80 = .ok (.iload_n 2, 1) := by decide +kernel
theorem dX2_spread_81 : decode cX2_spread 81 = .ok (.putfield 44, 3) := by decide +kernel
theorem dX2_spread_84 : decode cX2_spread 84 = .ok (.iconst 0, 1) := by decide +kernel
theorem dX2_spread_85 : decode cX2_spread 85 = .ok (.istore 4, 2) := by decide +kernel
theorem dX2_spread_87 : decode cX2_spread 87 = .ok (.iload 4, 2) := by decide +kernel
theorem dX2_spread_89 : decode cX2_spread 89 = .ok (.aload_n 0, 1) := by decide +kernel
theorem dX2_spread_90 : decode cX2_spread 90 = .ok (.getfield 44, 3) := by decide +kernel
theorem dX2_spread_93 : decode cX2_spread 93 = .ok (.if_icmp .ge 52, 3) := by decide +kernel
theorem dX2_spread_96 : decode cX2_spread 96 = .ok (.iload 4, 2) := by decide +kernel
theorem dX2_spread_98 : decode cX2_spread 98 = .ok (.sipush 3394, 3) := by decide +kernel
theorem dX2_spread_101 : decode cX2_spread 101 = .ok (.if_icmp .ge 44, 3) := by decide +kernel
theorem dX2_spread_104 : decode cX2_spread 104 = .ok (.aload_n 0, 1) := by decide +kernel
theorem dX2_spread_105 : decode cX2_spread 105 = .ok (.getfield 19, 3) := by decide +kernel
theorem dX2_spread_108 : decode cX2_spread 108 = .ok (.iload 4, 2) := by decide +kernel
theorem dX2_spread_110 : decode cX2_spread 110 = .ok (.iaload, 1) := by decide +kernel
theorem dX2_spread_111 : decode cX2_spread 111 = .ok (.istore 5, 2) := by decide +kernel
theorem dX2_spread_113 : decode cX2_spread 113 = .ok (.aload_n 0, 1) := by decide +kernel
theorem dX2_spread_114 : decode cX2_spread 114 = .ok (.iload 5, 2) := by decide +kernel
theorem dX2_spread_116 : decode cX2_spread 116 = .ok (.invokevirtual 47, 3) := by decide +kernel
theorem dX2_spread_119 : decode cX2_spread 119 = .ok (.iload_n 3, 1) := by decide +kernel
theorem dX2_spread_120 : decode cX2_spread 120 = .ok (.if_icmp .lt 4, 3) := by decide +kernel
theorem dX2_spread_123 : decode cX2_spread 123 = .ok (.return_, 1) := by decide +kernel
theorem dX2_spread_124 : decode cX2_spread 124 = .ok (.aload_n 0, 1) := by decide +kernel
theorem dX2_spread_125 : decode cX2_spread 125 = .ok (.aload_n 1, 1) := by decide +kernel
theorem dX2_spread_126 : decode cX2_spread 126 = .ok (.iload 5, 2) := by decide +kernel
theorem dX2_spread_128 : decode cX2_spread 128 = .ok (.aload_n 0, 1) := by decide +kernel
theorem dX2_spread_129 : decode cX2_spread 129 = .ok (.iload 5, 2) := by decide +kernel
theorem dX2_spread_131 : decode cX2_spread 131 = .ok (.invokevirtual 47, 3) := by decide +kernel
theorem dX2_spread_134 : decode cX2_spread 134 = .ok (.iconst 1, 1) := by decide +kernel
theorem dX2_spread_135 : decode cX2_spread 135 = .ok (.iadd, 1) := by decide +kernel
theorem dX2_spread_136 : decode cX2_spread 136 = .ok (.invokevirtual 50, 3) := by decide +kernel
theorem dX2_spread_139 : decode cX2_spread 139 = .ok (.iinc 4 1, 3) := by decide +kernel
theorem dX2_spread_142 : decode cX2_spread 142 = .ok (.goto (-55), 3) := by decide +kernel
theorem dX2_spread_145 : decode cX2_spread 145 = .ok (.return_, 1) := by decide +kernel
set_option maxRecDepth 20000 in
theorem ggX2_spreadByOneAct_X4_placeIn : GoodIn wsX2_spreadByOneAct wsX4_placeIn := goodIn_r _ [3] (by decide +kernel) (by decide +kernel)
set_option maxRecDepth 20000 in
theorem gX2_spreadByOneAct_X4_placeIn_n53 : GoodIn wsX2_spreadByOneAct (wsX4_placeIn) := ggX2_spreadByOneAct_X4_placeIn
set_option maxRecDepth 20000 in
theorem ggX2_spreadByOneAct_X4_moved : GoodIn wsX2_spreadByOneAct wsX4_moved := goodIn_r _ [5, 6, 1, 2, 3, 7, 8, 9] (by decide +kernel) (by decide +kernel)
set_option maxRecDepth 20000 in
theorem gX2_spreadByOneAct_X4_moved_n57 : GoodIn wsX2_spreadByOneAct (wsX4_moved) := ggX2_spreadByOneAct_X4_moved
set_option maxRecDepth 20000 in
theorem ggX2_spreadByOneAct_X2_reach : GoodIn wsX2_spreadByOneAct wsX2_reach := goodIn_r _ [14, 15, 16, 17, 18, 19, 20, 13, 21, 22, 34, 35, 36, 37, 38] (by decide +kernel) (by decide +kernel)
set_option maxRecDepth 20000 in
theorem gX2_spreadByOneAct_X2_reach : GoodIn wsX2_spreadByOneAct (wsV RX2 61 RX2 yX2_reach wsX2_reach) := goodIn_app (goodIn_of _ (by decide +kernel)) ggX2_spreadByOneAct_X2_reach
theorem dX2_spreadByOneAct_0 : decode cX2_spreadByOneAct 0 = .ok (.iconst 0, 1) := by decide +kernel
theorem dX2_spreadByOneAct_1 : decode cX2_spreadByOneAct 1 = .ok (.istore 4, 2) := by decide +kernel
theorem dX2_spreadByOneAct_3 : decode cX2_spreadByOneAct 3 = .ok (.iload 4, 2) := by decide +kernel
theorem dX2_spreadByOneAct_5 : decode cX2_spreadByOneAct 5 = .ok (.aload_n 1, 1) := by decide +kernel
theorem dX2_spreadByOneAct_6 : decode cX2_spreadByOneAct 6 = .ok (.getfield 26, 3) := by decide +kernel
theorem dX2_spreadByOneAct_9 : decode cX2_spreadByOneAct 9 = .ok (.if_icmp .ge 65, 3) := by decide +kernel
theorem dX2_spreadByOneAct_12 : decode cX2_spreadByOneAct 12 = .ok (.iload_n 2, 1) := by decide +kernel
theorem dX2_spreadByOneAct_13 : decode cX2_spreadByOneAct 13 = .ok (.iload 4, 2) := by decide +kernel
theorem dX2_spreadByOneAct_15 : decode cX2_spreadByOneAct 15 = .ok (.invokestatic 53, 3) := by decide +kernel
theorem dX2_spreadByOneAct_18 : decode cX2_spreadByOneAct 18 = .ok (.bipush 8, 2) := by decide +kernel
theorem dX2_spreadByOneAct_20 : decode cX2_spreadByOneAct 20 = .ok (.if_icmp .eq 19, 3) := by decide +kernel
theorem dX2_spreadByOneAct_23 : decode cX2_spreadByOneAct 23 = .ok (.aload_n 0, 1) := by decide +kernel
theorem dX2_spreadByOneAct_24 : decode cX2_spreadByOneAct 24 = .ok (.iload_n 2, 1) := by decide +kernel
theorem dX2_spreadByOneAct_25 : decode cX2_spreadByOneAct 25 = .ok (.iload 4, 2) := by decide +kernel
theorem dX2_spreadByOneAct_27 : decode cX2_spreadByOneAct 27 = .ok (.bipush 8, 2) := by decide +kernel
theorem dX2_spreadByOneAct_29 : decode cX2_spreadByOneAct 29 = .ok (.invokestatic 57, 3) := by decide +kernel
theorem dX2_spreadByOneAct_32 : decode cX2_spreadByOneAct 32 = .ok (.iload_n 3, 1) := by decide +kernel
theorem dX2_spreadByOneAct_33 : decode cX2_spreadByOneAct 33 = .ok (.invokevirtual 61, 3) := by decide +kernel
theorem dX2_spreadByOneAct_36 : decode cX2_spreadByOneAct 36 = .ok (.goto 32, 3) := by decide +kernel
theorem dX2_spreadByOneAct_39 : decode cX2_spreadByOneAct 39 = .ok (.iconst 0, 1) := by decide +kernel
theorem dX2_spreadByOneAct_40 : decode cX2_spreadByOneAct 40 = .ok (.istore 5, 2) := by decide +kernel
theorem dX2_spreadByOneAct_42 : decode cX2_spreadByOneAct 42 = .ok (.iload 5, 2) := by decide +kernel
theorem dX2_spreadByOneAct_44 : decode cX2_spreadByOneAct 44 = .ok (.bipush 8, 2) := by decide +kernel
theorem dX2_spreadByOneAct_46 : decode cX2_spreadByOneAct 46 = .ok (.if_icmp .ge 22, 3) := by decide +kernel
theorem dX2_spreadByOneAct_49 : decode cX2_spreadByOneAct 49 = .ok (.aload_n 0, 1) := by decide +kernel
theorem dX2_spreadByOneAct_50 : decode cX2_spreadByOneAct 50 = .ok (.iload_n 2, 1) := by decide +kernel
theorem dX2_spreadByOneAct_51 : decode cX2_spreadByOneAct 51 = .ok (.iload 4, 2) := by decide +kernel
theorem dX2_spreadByOneAct_53 : decode cX2_spreadByOneAct 53 = .ok (.iload 5, 2) := by decide +kernel
theorem dX2_spreadByOneAct_55 : decode cX2_spreadByOneAct 55 = .ok (.invokestatic 57, 3) := by decide +kernel
theorem dX2_spreadByOneAct_58 : decode cX2_spreadByOneAct 58 = .ok (.iload_n 3, 1) := by decide +kernel
theorem dX2_spreadByOneAct_59 : decode cX2_spreadByOneAct 59 = .ok (.invokevirtual 61, 3) := by decide +kernel
theorem dX2_spreadByOneAct_62 : decode cX2_spreadByOneAct 62 = .ok (.iinc 5 1, 3) := by decide +kernel
theorem dX2_spreadByOneAct_65 : decode cX2_spreadByOneAct 65 = .ok (.goto (-23), 3) := by decide +kernel
theorem dX2_spreadByOneAct_68 : decode cX2_spreadByOneAct 68 = .ok (.iinc 4 1, 3) := by decide +kernel
theorem dX2_spreadByOneAct_71 : decode cX2_spreadByOneAct 71 = .ok (.goto (-68), 3) := by decide +kernel
theorem dX2_spreadByOneAct_74 : decode cX2_spreadByOneAct 74 = .ok (.return_, 1) := by decide +kernel
set_option maxRecDepth 20000 in
theorem ggX2_reach_X2_isLawful : GoodIn wsX2_reach wsX2_isLawful := goodIn_r _ [8, 9, 10, 11, 12, 13, 14] (by decide +kernel) (by decide +kernel)
set_option maxRecDepth 20000 in
theorem gX2_reach_X2_isLawful : GoodIn wsX2_reach (wsV RX2 65 RX2 yX2_isLawful wsX2_isLawful) := goodIn_app (goodIn_of _ (by decide +kernel)) ggX2_reach_X2_isLawful
theorem dX2_reach_0 : decode cX2_reach 0 = .ok (.aload_n 0, 1) := by decide +kernel
theorem dX2_reach_1 : decode cX2_reach 1 = .ok (.iload_n 1, 1) := by decide +kernel
theorem dX2_reach_2 : decode cX2_reach 2 = .ok (.invokevirtual 65, 3) := by decide +kernel
theorem dX2_reach_5 : decode cX2_reach 5 = .ok (.ifCond .eq 51, 3) := by decide +kernel
theorem dX2_reach_8 : decode cX2_reach 8 = .ok (.aload_n 0, 1) := by decide +kernel
theorem dX2_reach_9 : decode cX2_reach 9 = .ok (.getfield 15, 3) := by decide +kernel
theorem dX2_reach_12 : decode cX2_reach 12 = .ok (.iload_n 1, 1) := by decide +kernel
theorem dX2_reach_13 : decode cX2_reach 13 = .ok (.iaload, 1) := by decide +kernel
theorem dX2_reach_14 : decode cX2_reach 14 = .ok (.bipush (-9), 2) := by decide +kernel
theorem dX2_reach_16 : decode cX2_reach 16 = .ok (.if_icmp .ne 40, 3) := by decide +kernel
theorem dX2_reach_19 : decode cX2_reach 19 = .ok (.aload_n 0, 1) := by decide +kernel
theorem dX2_reach_20 : decode cX2_reach 20 = .ok (.getfield 44, 3) := by decide +kernel
theorem dX2_reach_23 : decode cX2_reach 23 = .ok (.sipush 3394, 3) := by decide +kernel
theorem dX2_reach_26 : decode cX2_reach 26 = .ok (.if_icmp .ge 30, 3) := by decide +kernel
theorem dX2_reach_29 : decode cX2_reach 29 = .ok (.aload_n 0, 1) := by decide +kernel
theorem dX2_reach_30 : decode cX2_reach 30 = .ok (.getfield 15, 3) := by decide +kernel
theorem dX2_reach_33 : decode cX2_reach 33 = .ok (.iload_n 1, 1) := by decide +kernel
theorem dX2_reach_34 : decode cX2_reach 34 = .ok (.iload_n 2, 1) := by decide +kernel
theorem dX2_reach_35 : decode cX2_reach 35 = .ok (.iastore, 1) := by decide +kernel
theorem dX2_reach_36 : decode cX2_reach 36 = .ok (.aload_n 0, 1) := by decide +kernel
theorem dX2_reach_37 : decode cX2_reach 37 = .ok (.getfield 19, 3) := by decide +kernel
theorem dX2_reach_40 : decode cX2_reach 40 = .ok (.aload_n 0, 1) := by decide +kernel
theorem dX2_reach_41 : decode cX2_reach 41 = .ok (.getfield 44, 3) := by decide +kernel
theorem dX2_reach_44 : decode cX2_reach 44 = .ok (.iload_n 1, 1) := by decide +kernel
theorem dX2_reach_45 : decode cX2_reach 45 = .ok (.iastore, 1) := by decide +kernel
theorem dX2_reach_46 : decode cX2_reach 46 = .ok (.aload_n 0, 1) := by decide +kernel
theorem dX2_reach_47 : decode cX2_reach 47 = .ok (.dup, 1) := by decide +kernel
theorem dX2_reach_48 : decode cX2_reach 48 = .ok (.getfield 44, 3) := by decide +kernel
theorem dX2_reach_51 : decode cX2_reach 51 = .ok (.iconst 1, 1) := by decide +kernel
theorem dX2_reach_52 : decode cX2_reach 52 = .ok (.iadd, 1) := by decide +kernel
theorem dX2_reach_53 : decode cX2_reach 53 = .ok (.putfield 44, 3) := by decide +kernel
theorem dX2_reach_56 : decode cX2_reach 56 = .ok (.return_, 1) := by decide +kernel
set_option maxRecDepth 20000 in
theorem ggX2_fewestActs_X2_survey : GoodIn wsX2_fewestActs wsX2_survey := goodIn_r _ [5, 6, 7, 8, 9, 10, 11, 12, 13, 14, 15, 16, 17, 18, 19, 20, 21, 22, 23, 24, 25, 26, 27, 28, 29, 30, 31, 32, 33, 34, 35, 36, 37, 38, 39, 40, 41, 42, 43, 44, 76, 77, 78, 79, 80, 81, 82, 83, 84, 85, 86, 87, 88, 89, 90, 91] (by decide +kernel) (by decide +kernel)
set_option maxRecDepth 20000 in
theorem gX2_fewestActs_X2_survey : GoodIn wsX2_fewestActs (wsV RX2 68 RX2 yX2_survey wsX2_survey) := goodIn_app (goodIn_of _ (by decide +kernel)) ggX2_fewestActs_X2_survey
set_option maxRecDepth 20000 in
theorem ggX2_fewestActs_X2_spreadFrom : GoodIn wsX2_fewestActs wsX2_spreadFrom := goodIn_r _ [48, 49, 50, 51, 52, 4, 53, 54, 55, 56, 57, 58, 59, 60, 61, 62, 63, 22, 9, 23, 64, 65, 66, 67, 8, 10, 68, 69, 70, 71, 72, 73, 74, 75, 7, 76, 77, 78, 79, 80, 81, 82, 83, 84, 85, 86, 87, 88, 89, 90, 91] (by decide +kernel) (by decide +kernel)
set_option maxRecDepth 20000 in
theorem gX2_fewestActs_X2_spreadFrom : GoodIn wsX2_fewestActs (wsV RX2 72 RX2 yX2_spreadFrom wsX2_spreadFrom) := goodIn_app (goodIn_of _ (by decide +kernel)) ggX2_fewestActs_X2_spreadFrom
set_option maxRecDepth 20000 in
theorem ggX2_fewestActs_X2_farTo : GoodIn wsX2_fewestActs wsX2_farTo := goodIn_r _ [59, 54, 76, 77, 78, 79, 80] (by decide +kernel) (by decide +kernel)
set_option maxRecDepth 20000 in
theorem gX2_fewestActs_X2_farTo : GoodIn wsX2_fewestActs (wsV RX2 47 RX2 yX2_farTo wsX2_farTo) := goodIn_app (goodIn_of _ (by decide +kernel)) ggX2_fewestActs_X2_farTo
theorem dX2_fewestActs_0 : decode cX2_fewestActs 0 = .ok (.aload_n 0, 1) := by decide +kernel
theorem dX2_fewestActs_1 : decode cX2_fewestActs 1 = .ok (.aload_n 1, 1) := by decide +kernel
theorem dX2_fewestActs_2 : decode cX2_fewestActs 2 = .ok (.invokevirtual 68, 3) := by decide +kernel
theorem dX2_fewestActs_5 : decode cX2_fewestActs 5 = .ok (.aload_n 0, 1) := by decide +kernel
theorem dX2_fewestActs_6 : decode cX2_fewestActs 6 = .ok (.aload_n 1, 1) := by decide +kernel
theorem dX2_fewestActs_7 : decode cX2_fewestActs 7 = .ok (.iload_n 2, 1) := by decide +kernel
theorem dX2_fewestActs_8 : decode cX2_fewestActs 8 = .ok (.invokevirtual 72, 3) := by decide +kernel
theorem dX2_fewestActs_11 : decode cX2_fewestActs 11 = .ok (.aload_n 0, 1) := by decide +kernel
theorem dX2_fewestActs_12 : decode cX2_fewestActs 12 = .ok (.iload_n 3, 1) := by decide +kernel
theorem dX2_fewestActs_13 : decode cX2_fewestActs 13 = .ok (.invokevirtual 47, 3) := by decide +kernel
theorem dX2_fewestActs_16 : decode cX2_fewestActs 16 = .ok (.ireturn, 1) := by decide +kernel
set_option maxRecDepth 20000 in
theorem ggX2_firstAct_X2_survey : GoodIn wsX2_firstAct wsX2_survey := goodIn_r _ [5, 6, 7, 8, 9, 10, 11, 12, 13, 14, 15, 16, 17, 18, 19, 20, 21, 22, 23, 24, 25, 26, 27, 28, 29, 30, 31, 32, 33, 34, 35, 36, 37, 38, 39, 40, 41, 42, 43, 44, 87, 88, 89, 90, 91, 76, 77, 78, 79, 80, 81, 82, 83, 84, 85, 86] (by decide +kernel) (by decide +kernel)
set_option maxRecDepth 20000 in
theorem gX2_firstAct_X2_survey : GoodIn wsX2_firstAct (wsV RX2 68 RX2 yX2_survey wsX2_survey) := goodIn_app (goodIn_of _ (by decide +kernel)) ggX2_firstAct_X2_survey
set_option maxRecDepth 20000 in
theorem ggX2_firstAct_X2_isLawful : GoodIn wsX2_firstAct wsX2_isLawful := goodIn_r _ [48, 7, 87, 88, 89, 90, 91] (by decide +kernel) (by decide +kernel)
set_option maxRecDepth 20000 in
theorem gX2_firstAct_X2_isLawful : GoodIn wsX2_firstAct (wsV RX2 65 RX2 yX2_isLawful wsX2_isLawful) := goodIn_app (goodIn_of _ (by decide +kernel)) ggX2_firstAct_X2_isLawful
set_option maxRecDepth 20000 in
theorem ggX2_firstAct_X2_spreadFrom : GoodIn wsX2_firstAct wsX2_spreadFrom := goodIn_r _ [52, 53, 54, 55, 56, 4, 57, 58, 59, 60, 61, 62, 63, 64, 65, 66, 67, 22, 9, 23, 68, 69, 70, 71, 8, 10, 72, 73, 74, 75, 45, 46, 47, 48, 7, 87, 88, 89, 90, 91, 76, 77, 78, 79, 80, 81, 82, 83, 84, 85, 86] (by decide +kernel) (by decide +kernel)
set_option maxRecDepth 20000 in
theorem gX2_firstAct_X2_spreadFrom : GoodIn wsX2_firstAct (wsV RX2 72 RX2 yX2_spreadFrom wsX2_spreadFrom) := goodIn_app (goodIn_of _ (by decide +kernel)) ggX2_firstAct_X2_spreadFrom
set_option maxRecDepth 20000 in
theorem ggX2_firstAct_X4_placeIn : GoodIn wsX2_firstAct wsX4_placeIn := goodIn_r _ [23] (by decide +kernel) (by decide +kernel)
set_option maxRecDepth 20000 in
theorem gX2_firstAct_X4_placeIn_n53 : GoodIn wsX2_firstAct (wsX4_placeIn) := ggX2_firstAct_X4_placeIn
set_option maxRecDepth 20000 in
theorem ggX2_firstAct_X4_moved : GoodIn wsX2_firstAct wsX4_moved := goodIn_r _ [69, 70, 22, 9, 23, 71, 8, 10] (by decide +kernel) (by decide +kernel)
set_option maxRecDepth 20000 in
theorem gX2_firstAct_X4_moved_n57 : GoodIn wsX2_firstAct (wsX4_moved) := ggX2_firstAct_X4_moved
set_option maxRecDepth 20000 in
theorem ggX2_firstAct_X2_farTo : GoodIn wsX2_firstAct wsX2_farTo := goodIn_r _ [63, 58, 87, 88, 89, 90, 91] (by decide +kernel) (by decide +kernel)
set_option maxRecDepth 20000 in
theorem gX2_firstAct_X2_farTo : GoodIn wsX2_firstAct (wsV RX2 47 RX2 yX2_farTo wsX2_farTo) := goodIn_app (goodIn_of _ (by decide +kernel)) ggX2_firstAct_X2_farTo
theorem dX2_firstAct_0 : decode cX2_firstAct 0 = .ok (.aload_n 0, 1) := by decide +kernel
theorem dX2_firstAct_1 : decode cX2_firstAct 1 = .ok (.aload_n 1, 1) := by decide +kernel
theorem dX2_firstAct_2 : decode cX2_firstAct 2 = .ok (.invokevirtual 68, 3) := by decide +kernel
theorem dX2_firstAct_5 : decode cX2_firstAct 5 = .ok (.iload_n 2, 1) := by decide +kernel
theorem dX2_firstAct_6 : decode cX2_firstAct 6 = .ok (.iload_n 3, 1) := by decide +kernel
theorem dX2_firstAct_7 : decode cX2_firstAct 7 = .ok (.if_icmp .eq 11, 3) := by decide +kernel
theorem dX2_firstAct_10 : decode cX2_firstAct 10 = .ok (.aload_n 0, 1) := by decide +kernel
theorem dX2_firstAct_11 : decode cX2_firstAct 11 = .ok (.iload_n 3, 1) := by decide +kernel
theorem dX2_firstAct_12 : decode cX2_firstAct 12 = .ok (.invokevirtual 65, 3) := by decide +kernel
theorem dX2_firstAct_15 : decode cX2_firstAct 15 = .ok (.ifCond .ne 6, 3) := by decide +kernel
theorem dX2_firstAct_18 : decode cX2_firstAct 18 = .ok (.bipush (-9), 2) := by decide +kernel
theorem dX2_firstAct_20 : decode cX2_firstAct 20 = .ok (.ireturn, 1) := by decide +kernel
theorem dX2_firstAct_21 : decode cX2_firstAct 21 = .ok (.aload_n 0, 1) := by decide +kernel
theorem dX2_firstAct_22 : decode cX2_firstAct 22 = .ok (.aload_n 1, 1) := by decide +kernel
theorem dX2_firstAct_23 : decode cX2_firstAct 23 = .ok (.iload_n 3, 1) := by decide +kernel
theorem dX2_firstAct_24 : decode cX2_firstAct 24 = .ok (.invokevirtual 72, 3) := by decide +kernel
theorem dX2_firstAct_27 : decode cX2_firstAct 27 = .ok (.sipush 6561, 3) := by decide +kernel
theorem dX2_firstAct_30 : decode cX2_firstAct 30 = .ok (.istore 4, 2) := by decide +kernel
theorem dX2_firstAct_32 : decode cX2_firstAct 32 = .ok (.bipush (-9), 2) := by decide +kernel
theorem dX2_firstAct_34 : decode cX2_firstAct 34 = .ok (.istore 5, 2) := by decide +kernel
theorem dX2_firstAct_36 : decode cX2_firstAct 36 = .ok (.iconst 0, 1) := by decide +kernel
theorem dX2_firstAct_37 : decode cX2_firstAct 37 = .ok (.istore 6, 2) := by decide +kernel
theorem dX2_firstAct_39 : decode cX2_firstAct 39 = .ok (.iload 6, 2) := by decide +kernel
theorem dX2_firstAct_41 : decode cX2_firstAct 41 = .ok (.aload_n 1, 1) := by decide +kernel
theorem dX2_firstAct_42 : decode cX2_firstAct 42 = .ok (.getfield 26, 3) := by decide +kernel
theorem dX2_firstAct_45 : decode cX2_firstAct 45 = .ok (.if_icmp .ge 113, 3) := by decide +kernel
theorem dX2_firstAct_48 : decode cX2_firstAct 48 = .ok (.iload_n 2, 1) := by decide +kernel
theorem dX2_firstAct_49 : decode cX2_firstAct 49 = .ok (.iload 6, 2) := by decide +kernel
theorem dX2_firstAct_51 : decode cX2_firstAct 51 = .ok (.invokestatic 53, 3) := by decide +kernel
theorem dX2_firstAct_54 : decode cX2_firstAct 54 = .ok (.bipush 8, 2) := by decide +kernel
theorem dX2_firstAct_56 : decode cX2_firstAct 56 = .ok (.if_icmp .ne 7, 3) := by decide +kernel
theorem dX2_firstAct_59 : decode cX2_firstAct 59 = .ok (.iconst 1, 1) := by decide +kernel
theorem dX2_firstAct_60 : decode cX2_firstAct 60 = .ok (.goto 4, 3) := by decide +kernel
theorem dX2_firstAct_63 : decode cX2_firstAct 63 = .ok (.iconst 0, 1) := by decide +kernel
theorem dX2_firstAct_64 : decode cX2_firstAct 64 = .ok (.istore 7, 2) := by decide +kernel
theorem dX2_firstAct_66 : decode cX2_firstAct 66 = .ok (.iload 7, 2) := by decide +kernel
theorem dX2_firstAct_68 : decode cX2_firstAct 68 = .ok (.ifCond .eq 7, 3) := by decide +kernel
theorem dX2_firstAct_71 : decode cX2_firstAct 71 = .ok (.iconst 0, 1) := by decide +kernel
theorem dX2_firstAct_72 : decode cX2_firstAct 72 = .ok (.goto 5, 3) := by decide +kernel
theorem dX2_firstAct_75 : decode cX2_firstAct 75 = .ok (.bipush 8, 2) := by decide +kernel
theorem dX2_firstAct_77 : decode cX2_firstAct 77 = .ok (.istore 8, 2) := by decide +kernel
theorem dX2_firstAct_79 : decode cX2_firstAct 79 = .ok (.iload 7, 2) := by decide +kernel
theorem dX2_firstAct_81 : decode cX2_firstAct 81 = .ok (.ifCond .eq 8, 3) := by decide +kernel
theorem dX2_firstAct_84 : decode cX2_firstAct 84 = .ok (.bipush 7, 2) := by decide +kernel
theorem dX2_firstAct_86 : decode cX2_firstAct 86 = .ok (.goto 5, 3) := by decide +kernel
theorem dX2_firstAct_89 : decode cX2_firstAct 89 = .ok (.bipush 8, 2) := by decide +kernel
theorem dX2_firstAct_91 : decode cX2_firstAct 91 = .ok (.istore 9, 2) := by decide +kernel
theorem dX2_firstAct_93 : decode cX2_firstAct 93 = .ok (.iload 8, 2) := by decide +kernel
theorem dX2_firstAct_95 : decode cX2_firstAct 95 = .ok (.istore 10, 2) := by decide +kernel
theorem dX2_firstAct_97 : decode cX2_firstAct 97 = .ok (.iload 10, 2) := by decide +kernel
theorem dX2_firstAct_99 : decode cX2_firstAct 99 = .ok (.iload 9, 2) := by decide +kernel
theorem dX2_firstAct_101 : decode cX2_firstAct 101 = .ok (.if_icmp .gt 51, 3) := by decide +kernel
theorem dX2_firstAct_104 : decode cX2_firstAct 104 = .ok (.aload_n 0, 1) := by decide +kernel
theorem dX2_firstAct_105 : decode cX2_firstAct 105 = .ok (.iload_n 2, 1) := by decide +kernel
theorem dX2_firstAct_106 : decode cX2_firstAct 106 = .ok (.iload 6, 2) := by decide +kernel
theorem dX2_firstAct_108 : decode cX2_firstAct 108 = .ok (.iload 10, 2) := by decide +kernel
theorem dX2_firstAct_110 : decode cX2_firstAct 110 = .ok (.invokestatic 57, 3) := by decide +kernel
theorem dX2_firstAct_113 : decode cX2_firstAct 113 = .ok (.invokevirtual 47, 3) := by decide +kernel
theorem dX2_firstAct_116 : decode cX2_firstAct 116 = .ok (.istore 11, 2) := by decide +kernel
theorem dX2_firstAct_118 : decode cX2_firstAct 118 = .ok (.iload 11, 2) := by decide +kernel
theorem dX2_firstAct_120 : decode cX2_firstAct 120 = .ok (.bipush (-9), 2) := by decide +kernel
theorem dX2_firstAct_122 : decode cX2_firstAct 122 = .ok (.if_icmp .eq 24, 3) := by decide +kernel
theorem dX2_firstAct_125 : decode cX2_firstAct 125 = .ok (.iload 11, 2) := by decide +kernel
theorem dX2_firstAct_127 : decode cX2_firstAct 127 = .ok (.iload 4, 2) := by decide +kernel
theorem dX2_firstAct_129 : decode cX2_firstAct 129 = .ok (.if_icmp .ge 17, 3) := by decide +kernel
theorem dX2_firstAct_132 : decode cX2_firstAct 132 = .ok (.iload 11, 2) := by decide +kernel
theorem dX2_firstAct_134 : decode cX2_firstAct 134 = .ok (.istore 4, 2) := by decide +kernel
theorem dX2_firstAct_136 : decode cX2_firstAct 136 = .ok (.bipush 10, 2) := by decide +kernel
theorem dX2_firstAct_138 : decode cX2_firstAct 138 = .ok (.iload 6, 2) := by decide +kernel
theorem dX2_firstAct_140 : decode cX2_firstAct 140 = .ok (.imul, 1) := by decide +kernel
theorem dX2_firstAct_141 : decode cX2_firstAct 141 = .ok (.iload 10, 2) := by decide +kernel
theorem dX2_firstAct_143 : decode cX2_firstAct 143 = .ok (.iadd, 1) := by decide +kernel
theorem dX2_firstAct_144 : decode cX2_firstAct 144 = .ok (.istore 5, 2) := by decide +kernel
theorem dX2_firstAct_146 : decode cX2_firstAct 146 = .ok (.iinc 10 1, 3) := by decide +kernel
theorem dX2_firstAct_149 : decode cX2_firstAct 149 = .ok (.goto (-52), 3) := by decide +kernel
theorem dX2_firstAct_152 : decode cX2_firstAct 152 = .ok (.iinc 6 1, 3) := by decide +kernel
theorem dX2_firstAct_155 : decode cX2_firstAct 155 = .ok (.goto (-116), 3) := by decide +kernel
theorem dX2_firstAct_158 : decode cX2_firstAct 158 = .ok (.iload 5, 2) := by decide +kernel
theorem dX2_firstAct_160 : decode cX2_firstAct 160 = .ok (.ireturn, 1) := by decide +kernel
set_option maxRecDepth 20000 in
theorem ggX2_fewestNights_X2_survey : GoodIn wsX2_fewestNights wsX2_survey := goodIn_r _ [6, 7, 8, 9, 10, 11, 12, 13, 14, 15, 16, 17, 18, 19, 20, 21, 22, 23, 24, 25, 26, 27, 28, 29, 30, 31, 32, 33, 34, 35, 36, 37, 38, 39, 40, 41, 42, 43, 44, 45, 80, 81, 82, 83, 84, 93, 94, 95, 96, 97, 98, 99, 100, 101, 102, 103] (by decide +kernel) (by decide +kernel)
set_option maxRecDepth 20000 in
theorem gX2_fewestNights_X2_survey : GoodIn wsX2_fewestNights (wsV RX2 68 RX2 yX2_survey wsX2_survey) := goodIn_app (goodIn_of _ (by decide +kernel)) ggX2_fewestNights_X2_survey
set_option maxRecDepth 20000 in
theorem ggX2_fewestNights_X2_spread : GoodIn wsX2_fewestNights wsX2_spread := goodIn_r _ [49, 50, 1, 51, 52, 53, 54, 5, 55, 56, 57, 58, 59, 23, 10, 24, 60, 61, 62, 63, 9, 11, 64, 65, 66, 67, 68, 69, 70, 71, 8, 80, 81, 82, 83, 84, 93, 94, 95, 96, 97, 98, 99, 100, 101, 102, 103] (by decide +kernel) (by decide +kernel)
set_option maxRecDepth 20000 in
theorem gX2_fewestNights_X2_spread : GoodIn wsX2_fewestNights (wsV RX2 40 RX2 yX2_spread wsX2_spread) := goodIn_app (goodIn_of _ (by decide +kernel)) ggX2_fewestNights_X2_spread
set_option maxRecDepth 20000 in
theorem ggX2_fewestNights_X2_farTo : GoodIn wsX2_fewestNights wsX2_farTo := goodIn_r _ [55, 50, 80, 81, 82, 83, 84] (by decide +kernel) (by decide +kernel)
set_option maxRecDepth 20000 in
theorem gX2_fewestNights_X2_farTo : GoodIn wsX2_fewestNights (wsV RX2 47 RX2 yX2_farTo wsX2_farTo) := goodIn_app (goodIn_of _ (by decide +kernel)) ggX2_fewestNights_X2_farTo
set_option maxRecDepth 20000 in
theorem ggX2_fewestNights_X2_keepDry : GoodIn wsX2_fewestNights wsX2_keepDry := goodIn_r _ [75, 51, 1, 76, 13, 77, 78, 79, 25, 26, 27, 28, 17, 29, 23, 10, 24, 30, 31, 32, 33, 34, 35, 36, 80, 81, 82, 83, 84, 93, 94, 95, 96, 97, 98, 99, 100, 101, 102, 103] (by decide +kernel) (by decide +kernel)
set_option maxRecDepth 20000 in
theorem gX2_fewestNights_X2_keepDry : GoodIn wsX2_fewestNights (wsV RX2 90 RX2 yX2_keepDry wsX2_keepDry) := goodIn_app (goodIn_of _ (by decide +kernel)) ggX2_fewestNights_X2_keepDry
theorem dX2_fewestNights_0 : decode cX2_fewestNights 0 = .ok (.aload_n 0, 1) := by decide +kernel
theorem dX2_fewestNights_1 : decode cX2_fewestNights 1 = .ok (.aload_n 1, 1) := by decide +kernel
theorem dX2_fewestNights_2 : decode cX2_fewestNights 2 = .ok (.invokevirtual 68, 3) := by decide +kernel
theorem dX2_fewestNights_5 : decode cX2_fewestNights 5 = .ok (.aload_n 0, 1) := by decide +kernel
theorem dX2_fewestNights_6 : decode cX2_fewestNights 6 = .ok (.getfield 19, 3) := by decide +kernel
theorem dX2_fewestNights_9 : decode cX2_fewestNights 9 = .ok (.iconst 0, 1) := by decide +kernel
theorem dX2_fewestNights_10 : decode cX2_fewestNights 10 = .ok (.aload_n 2, 1) := by decide +kernel
theorem dX2_fewestNights_11 : decode cX2_fewestNights 11 = .ok (.getfield 76, 3) := by decide +kernel
theorem dX2_fewestNights_14 : decode cX2_fewestNights 14 = .ok (.iastore, 1) := by decide +kernel
theorem dX2_fewestNights_15 : decode cX2_fewestNights 15 = .ok (.aload_n 0, 1) := by decide +kernel
theorem dX2_fewestNights_16 : decode cX2_fewestNights 16 = .ok (.aload_n 1, 1) := by decide +kernel
theorem dX2_fewestNights_17 : decode cX2_fewestNights 17 = .ok (.iconst 1, 1) := by decide +kernel
theorem dX2_fewestNights_18 : decode cX2_fewestNights 18 = .ok (.aload_n 1, 1) := by decide +kernel
theorem dX2_fewestNights_19 : decode cX2_fewestNights 19 = .ok (.getfield 81, 3) := by decide +kernel
theorem dX2_fewestNights_22 : decode cX2_fewestNights 22 = .ok (.aload_n 2, 1) := by decide +kernel
theorem dX2_fewestNights_23 : decode cX2_fewestNights 23 = .ok (.getfield 84, 3) := by decide +kernel
theorem dX2_fewestNights_26 : decode cX2_fewestNights 26 = .ok (.isub, 1) := by decide +kernel
theorem dX2_fewestNights_27 : decode cX2_fewestNights 27 = .ok (.invokevirtual 40, 3) := by decide +kernel
theorem dX2_fewestNights_30 : decode cX2_fewestNights 30 = .ok (.iconst 0, 1) := by decide +kernel
theorem dX2_fewestNights_31 : decode cX2_fewestNights 31 = .ok (.istore 4, 2) := by decide +kernel
theorem dX2_fewestNights_33 : decode cX2_fewestNights 33 = .ok (.iconst 0, 1) := by decide +kernel
theorem dX2_fewestNights_34 : decode cX2_fewestNights 34 = .ok (.istore 5, 2) := by decide +kernel
theorem dX2_fewestNights_36 : decode cX2_fewestNights 36 = .ok (.iload 5, 2) := by decide +kernel
theorem dX2_fewestNights_38 : decode cX2_fewestNights 38 = .ok (.bipush 20, 2) := by decide +kernel
theorem dX2_fewestNights_40 : decode cX2_fewestNights 40 = .ok (.if_icmp .gt 67, 3) := by decide +kernel
theorem dX2_fewestNights_43 : decode cX2_fewestNights 43 = .ok (.aload_n 2, 1) := by decide +kernel
theorem dX2_fewestNights_44 : decode cX2_fewestNights 44 = .ok (.getfield 87, 3) := by decide +kernel
theorem dX2_fewestNights_47 : decode cX2_fewestNights 47 = .ok (.iload 5, 2) := by decide +kernel
theorem dX2_fewestNights_49 : decode cX2_fewestNights 49 = .ok (.iadd, 1) := by decide +kernel
theorem dX2_fewestNights_50 : decode cX2_fewestNights 50 = .ok (.sipush 999, 3) := by decide +kernel
theorem dX2_fewestNights_53 : decode cX2_fewestNights 53 = .ok (.if_icmp .gt 54, 3) := by decide +kernel
theorem dX2_fewestNights_56 : decode cX2_fewestNights 56 = .ok (.aload_n 0, 1) := by decide +kernel
theorem dX2_fewestNights_57 : decode cX2_fewestNights 57 = .ok (.iload_n 3, 1) := by decide +kernel
theorem dX2_fewestNights_58 : decode cX2_fewestNights 58 = .ok (.invokevirtual 47, 3) := by decide +kernel
theorem dX2_fewestNights_61 : decode cX2_fewestNights 61 = .ok (.bipush (-9), 2) := by decide +kernel
theorem dX2_fewestNights_63 : decode cX2_fewestNights 63 = .ok (.if_icmp .eq 6, 3) := by decide +kernel
theorem dX2_fewestNights_66 : decode cX2_fewestNights 66 = .ok (.iload 5, 2) := by decide +kernel
theorem dX2_fewestNights_68 : decode cX2_fewestNights 68 = .ok (.ireturn, 1) := by decide +kernel
theorem dX2_fewestNights_69 : decode cX2_fewestNights 69 = .ok (.aload_n 0, 1) := by decide +kernel
theorem dX2_fewestNights_70 : decode cX2_fewestNights 70 = .ok (.aload_n 1, 1) := by decide +kernel
theorem dX2_fewestNights_71 : decode cX2_fewestNights 71 = .ok (.invokevirtual 90, 3) := by decide +kernel
theorem dX2_fewestNights_74 : decode cX2_fewestNights 74 = .ok (.istore 6, 2) := by decide +kernel
theorem dX2_fewestNights_76 : decode cX2_fewestNights 76 = .ok (.iload 6, 2) := by decide +kernel
theorem dX2_fewestNights_78 : decode cX2_fewestNights 78 = .ok (.iload 4, 2) := by decide +kernel
theorem dX2_fewestNights_80 : decode cX2_fewestNights 80 = .ok (.if_icmp .ne 6, 3) := by decide +kernel
theorem dX2_fewestNights_83 : decode cX2_fewestNights 83 = .ok (.bipush (-9), 2) := by decide +kernel
theorem dX2_fewestNights_85 : decode cX2_fewestNights 85 = .ok (.ireturn, 1) := by decide +kernel
theorem dX2_fewestNights_86 : decode cX2_fewestNights 86 = .ok (.iload 6, 2) := by decide +kernel
theorem dX2_fewestNights_88 : decode cX2_fewestNights 88 = .ok (.istore 4, 2) := by decide +kernel
theorem dX2_fewestNights_90 : decode cX2_fewestNights 90 = .ok (.aload_n 0, 1) := by decide +kernel
theorem dX2_fewestNights_91 : decode cX2_fewestNights 91 = .ok (.aload_n 1, 1) := by decide +kernel
theorem dX2_fewestNights_92 : decode cX2_fewestNights 92 = .ok (.iload 4, 2) := by decide +kernel
theorem dX2_fewestNights_94 : decode cX2_fewestNights 94 = .ok (.aload_n 1, 1) := by decide +kernel
theorem dX2_fewestNights_95 : decode cX2_fewestNights 95 = .ok (.getfield 81, 3) := by decide +kernel
theorem dX2_fewestNights_98 : decode cX2_fewestNights 98 = .ok (.invokevirtual 40, 3) := by decide +kernel
theorem dX2_fewestNights_101 : decode cX2_fewestNights 101 = .ok (.iinc 5 1, 3) := by decide +kernel
theorem dX2_fewestNights_104 : decode cX2_fewestNights 104 = .ok (.goto (-68), 3) := by decide +kernel
theorem dX2_fewestNights_107 : decode cX2_fewestNights 107 = .ok (.bipush (-9), 2) := by decide +kernel
theorem dX2_fewestNights_109 : decode cX2_fewestNights 109 = .ok (.ireturn, 1) := by decide +kernel
set_option maxRecDepth 20000 in
theorem ggX2_keepDry_X1_leaksOf : GoodIn wsX2_keepDry wsX1_leaksOf := goodIn_r _ [6, 7, 8, 9, 10, 4, 11, 12, 13, 14, 15, 16, 17, 18, 19, 20, 21, 22, 23, 29, 30, 31, 32, 33, 34, 35, 36, 37, 38, 39] (by decide +kernel) (by decide +kernel)
set_option maxRecDepth 20000 in
theorem gX2_keepDry_X1_leaksOf_n94 : GoodIn wsX2_keepDry (wsX1_leaksOf) := ggX2_keepDry_X1_leaksOf
theorem dX2_keepDry_0 : decode cX2_keepDry 0 = .ok (.iconst 0, 1) := by decide +kernel
theorem dX2_keepDry_1 : decode cX2_keepDry 1 = .ok (.istore_n 2, 1) := by decide +kernel
theorem dX2_keepDry_2 : decode cX2_keepDry 2 = .ok (.iconst 0, 1) := by decide +kernel
theorem dX2_keepDry_3 : decode cX2_keepDry 3 = .ok (.istore_n 3, 1) := by decide +kernel
theorem dX2_keepDry_4 : decode cX2_keepDry 4 = .ok (.iload_n 3, 1) := by decide +kernel
theorem dX2_keepDry_5 : decode cX2_keepDry 5 = .ok (.aload_n 0, 1) := by decide +kernel
theorem dX2_keepDry_6 : decode cX2_keepDry 6 = .ok (.getfield 44, 3) := by decide +kernel
theorem dX2_keepDry_9 : decode cX2_keepDry 9 = .ok (.if_icmp .ge 44, 3) := by decide +kernel
theorem dX2_keepDry_12 : decode cX2_keepDry 12 = .ok (.iload_n 3, 1) := by decide +kernel
theorem dX2_keepDry_13 : decode cX2_keepDry 13 = .ok (.sipush 3394, 3) := by decide +kernel
theorem dX2_keepDry_16 : decode cX2_keepDry 16 = .ok (.if_icmp .ge 37, 3) := by decide +kernel
theorem dX2_keepDry_19 : decode cX2_keepDry 19 = .ok (.aload_n 1, 1) := by decide +kernel
theorem dX2_keepDry_20 : decode cX2_keepDry 20 = .ok (.aload_n 0, 1) := by decide +kernel
theorem dX2_keepDry_21 : decode cX2_keepDry 21 = .ok (.getfield 19, 3) := by decide +kernel
theorem dX2_keepDry_24 : decode cX2_keepDry 24 = .ok (.iload_n 3, 1) := by decide +kernel
theorem dX2_keepDry_25 : decode cX2_keepDry 25 = .ok (.iaload, 1) := by decide +kernel
theorem dX2_keepDry_26 : decode cX2_keepDry 26 = .ok (.invokevirtual 94, 3) := by decide +kernel
theorem dX2_keepDry_29 : decode cX2_keepDry 29 = .ok (.ifCond .ne 18, 3) := by decide +kernel
theorem dX2_keepDry_32 : decode cX2_keepDry 32 = .ok (.aload_n 0, 1) := by decide +kernel
theorem dX2_keepDry_33 : decode cX2_keepDry 33 = .ok (.getfield 19, 3) := by decide +kernel
theorem dX2_keepDry_36 : decode cX2_keepDry 36 = .ok (.iload_n 2, 1) := by decide +kernel
theorem dX2_keepDry_37 : decode cX2_keepDry 37 = .ok (.aload_n 0, 1) := by decide +kernel
theorem dX2_keepDry_38 : decode cX2_keepDry 38 = .ok (.getfield 19, 3) := by decide +kernel
theorem dX2_keepDry_41 : decode cX2_keepDry 41 = .ok (.iload_n 3, 1) := by decide +kernel
theorem dX2_keepDry_42 : decode cX2_keepDry 42 = .ok (.iaload, 1) := by decide +kernel
theorem dX2_keepDry_43 : decode cX2_keepDry 43 = .ok (.iastore, 1) := by decide +kernel
theorem dX2_keepDry_44 : decode cX2_keepDry 44 = .ok (.iinc 2 1, 3) := by decide +kernel
theorem dX2_keepDry_47 : decode cX2_keepDry 47 = .ok (.iinc 3 1, 3) := by decide +kernel
theorem dX2_keepDry_50 : decode cX2_keepDry 50 = .ok (.goto (-46), 3) := by decide +kernel
theorem dX2_keepDry_53 : decode cX2_keepDry 53 = .ok (.iload_n 2, 1) := by decide +kernel
theorem dX2_keepDry_54 : decode cX2_keepDry 54 = .ok (.ireturn, 1) := by decide +kernel
set_option maxRecDepth 20000 in
theorem ggX2_actsToEmpty_X2_survey : GoodIn wsX2_actsToEmpty wsX2_survey := goodIn_r _ [7, 8, 9, 10, 11, 12, 13, 14, 15, 16, 17, 18, 19, 20, 21, 22, 23, 24, 25, 26, 27, 28, 29, 30, 31, 32, 33, 34, 35, 36, 37, 38, 39, 40, 41, 42, 43, 44, 45, 46, 76, 77, 78, 79, 80, 81, 82, 83, 84, 85, 86, 87, 88, 89, 90, 91] (by decide +kernel) (by decide +kernel)
set_option maxRecDepth 20000 in
theorem gX2_actsToEmpty_X2_survey : GoodIn wsX2_actsToEmpty (wsV RX2 68 RX2 yX2_survey wsX2_survey) := goodIn_app (goodIn_of _ (by decide +kernel)) ggX2_actsToEmpty_X2_survey
set_option maxRecDepth 20000 in
theorem ggX2_actsToEmpty_X2_spreadFrom : GoodIn wsX2_actsToEmpty wsX2_spreadFrom := goodIn_r _ [50, 2, 51, 52, 53, 6, 54, 55, 1, 56, 57, 58, 59, 60, 61, 62, 63, 24, 11, 25, 64, 65, 66, 67, 10, 12, 68, 69, 70, 71, 72, 73, 74, 75, 9, 76, 77, 78, 79, 80, 81, 82, 83, 84, 85, 86, 87, 88, 89, 90, 91] (by decide +kernel) (by decide +kernel)
set_option maxRecDepth 20000 in
theorem gX2_actsToEmpty_X2_spreadFrom : GoodIn wsX2_actsToEmpty (wsV RX2 72 RX2 yX2_spreadFrom wsX2_spreadFrom) := goodIn_app (goodIn_of _ (by decide +kernel)) ggX2_actsToEmpty_X2_spreadFrom
set_option maxRecDepth 20000 in
theorem ggX2_actsToEmpty_X1_slotsUnder : GoodIn wsX2_actsToEmpty wsX1_slotsUnder := goodIn_r _ [29, 18, 30, 24, 11, 25, 81, 82, 83, 84, 85, 86, 87, 88, 89, 90, 91] (by decide +kernel) (by decide +kernel)
set_option maxRecDepth 20000 in
theorem gX2_actsToEmpty_X1_slotsUnder_n97 : GoodIn wsX2_actsToEmpty (wsX1_slotsUnder) := ggX2_actsToEmpty_X1_slotsUnder
set_option maxRecDepth 20000 in
theorem ggX2_actsToEmpty_X2_farTo : GoodIn wsX2_actsToEmpty wsX2_farTo := goodIn_r _ [59, 55, 76, 77, 78, 79, 80] (by decide +kernel) (by decide +kernel)
set_option maxRecDepth 20000 in
theorem gX2_actsToEmpty_X2_farTo : GoodIn wsX2_actsToEmpty (wsV RX2 47 RX2 yX2_farTo wsX2_farTo) := goodIn_app (goodIn_of _ (by decide +kernel)) ggX2_actsToEmpty_X2_farTo
theorem dX2_actsToEmpty_0 : decode cX2_actsToEmpty 0 = .ok (.aload_n 0, 1) := by decide +kernel
theorem dX2_actsToEmpty_1 : decode cX2_actsToEmpty 1 = .ok (.aload_n 1, 1) := by decide +kernel
theorem dX2_actsToEmpty_2 : decode cX2_actsToEmpty 2 = .ok (.invokevirtual 68, 3) := by decide +kernel
theorem dX2_actsToEmpty_5 : decode cX2_actsToEmpty 5 = .ok (.aload_n 0, 1) := by decide +kernel
theorem dX2_actsToEmpty_6 : decode cX2_actsToEmpty 6 = .ok (.aload_n 1, 1) := by decide +kernel
theorem dX2_actsToEmpty_7 : decode cX2_actsToEmpty 7 = .ok (.iload_n 2, 1) := by decide +kernel
theorem dX2_actsToEmpty_8 : decode cX2_actsToEmpty 8 = .ok (.invokevirtual 72, 3) := by decide +kernel
theorem dX2_actsToEmpty_11 : decode cX2_actsToEmpty 11 = .ok (.iconst 0, 1) := by decide +kernel
theorem dX2_actsToEmpty_12 : decode cX2_actsToEmpty 12 = .ok (.istore 4, 2) := by decide +kernel
theorem dX2_actsToEmpty_14 : decode cX2_actsToEmpty 14 = .ok (.iload 4, 2) := by decide +kernel
theorem dX2_actsToEmpty_16 : decode cX2_actsToEmpty 16 = .ok (.aload_n 0, 1) := by decide +kernel
theorem dX2_actsToEmpty_17 : decode cX2_actsToEmpty 17 = .ok (.getfield 44, 3) := by decide +kernel
theorem dX2_actsToEmpty_20 : decode cX2_actsToEmpty 20 = .ok (.if_icmp .ge 47, 3) := by decide +kernel
theorem dX2_actsToEmpty_23 : decode cX2_actsToEmpty 23 = .ok (.iload 4, 2) := by decide +kernel
theorem dX2_actsToEmpty_25 : decode cX2_actsToEmpty 25 = .ok (.sipush 3394, 3) := by decide +kernel
theorem dX2_actsToEmpty_28 : decode cX2_actsToEmpty 28 = .ok (.if_icmp .ge 39, 3) := by decide +kernel
theorem dX2_actsToEmpty_31 : decode cX2_actsToEmpty 31 = .ok (.aload_n 1, 1) := by decide +kernel
theorem dX2_actsToEmpty_32 : decode cX2_actsToEmpty 32 = .ok (.aload_n 0, 1) := by decide +kernel
theorem dX2_actsToEmpty_33 : decode cX2_actsToEmpty 33 = .ok (.getfield 19, 3) := by decide +kernel
theorem dX2_actsToEmpty_36 : decode cX2_actsToEmpty 36 = .ok (.iload 4, 2) := by decide +kernel
theorem dX2_actsToEmpty_38 : decode cX2_actsToEmpty 38 = .ok (.iaload, 1) := by decide +kernel
theorem dX2_actsToEmpty_39 : decode cX2_actsToEmpty 39 = .ok (.bipush 15, 2) := by decide +kernel
theorem dX2_actsToEmpty_41 : decode cX2_actsToEmpty 41 = .ok (.invokevirtual 97, 3) := by decide +kernel
theorem dX2_actsToEmpty_44 : decode cX2_actsToEmpty 44 = .ok (.iload_n 3, 1) := by decide +kernel
theorem dX2_actsToEmpty_45 : decode cX2_actsToEmpty 45 = .ok (.iand, 1) := by decide +kernel
theorem dX2_actsToEmpty_46 : decode cX2_actsToEmpty 46 = .ok (.ifCond .ne 15, 3) := by decide +kernel
theorem dX2_actsToEmpty_49 : decode cX2_actsToEmpty 49 = .ok (.aload_n 0, 1) := by decide +kernel
theorem dX2_actsToEmpty_50 : decode cX2_actsToEmpty 50 = .ok (.aload_n 0, 1) := by decide +kernel
theorem dX2_actsToEmpty_51 : decode cX2_actsToEmpty 51 = .ok (.getfield 19, 3) := by decide +kernel
theorem dX2_actsToEmpty_54 : decode cX2_actsToEmpty 54 = .ok (.iload 4, 2) := by decide +kernel
theorem dX2_actsToEmpty_56 : decode cX2_actsToEmpty 56 = .ok (.iaload, 1) := by decide +kernel
theorem dX2_actsToEmpty_57 : decode cX2_actsToEmpty 57 = .ok (.invokevirtual 47, 3) := by decide +kernel
theorem dX2_actsToEmpty_60 : decode cX2_actsToEmpty 60 = .ok (.ireturn, 1) := by decide +kernel
theorem dX2_actsToEmpty_61 : decode cX2_actsToEmpty 61 = .ok (.iinc 4 1, 3) := by decide +kernel
theorem dX2_actsToEmpty_64 : decode cX2_actsToEmpty 64 = .ok (.goto (-50), 3) := by decide +kernel
theorem dX2_actsToEmpty_67 : decode cX2_actsToEmpty 67 = .ok (.bipush (-9), 2) := by decide +kernel
theorem dX2_actsToEmpty_69 : decode cX2_actsToEmpty 69 = .ok (.ireturn, 1) := by decide +kernel
set_option maxRecDepth 20000 in
theorem ggX2_bestHome_X2_survey : GoodIn wsX2_bestHome wsX2_survey := goodIn_r _ [6, 7, 8, 9, 10, 11, 12, 13, 14, 15, 16, 17, 18, 19, 20, 21, 22, 23, 24, 25, 26, 27, 28, 29, 30, 31, 32, 33, 34, 35, 36, 37, 38, 39, 40, 41, 42, 43, 44, 45, 69, 70, 71, 72, 73, 74, 75, 76, 77, 78, 79, 80, 81, 82, 83, 84] (by decide +kernel) (by decide +kernel)
set_option maxRecDepth 20000 in
theorem gX2_bestHome_X2_survey : GoodIn wsX2_bestHome (wsV RX2 68 RX2 yX2_survey wsX2_survey) := goodIn_app (goodIn_of _ (by decide +kernel)) ggX2_bestHome_X2_survey
set_option maxRecDepth 20000 in
theorem ggX2_bestHome_X2_isLawful : GoodIn wsX2_bestHome wsX2_isLawful := goodIn_r _ [49, 8, 69, 70, 71, 72, 73] (by decide +kernel) (by decide +kernel)
set_option maxRecDepth 20000 in
theorem gX2_bestHome_X2_isLawful : GoodIn wsX2_bestHome (wsV RX2 65 RX2 yX2_isLawful wsX2_isLawful) := goodIn_app (goodIn_of _ (by decide +kernel)) ggX2_bestHome_X2_isLawful
set_option maxRecDepth 20000 in
theorem ggX2_bestHome_X1_worthOf : GoodIn wsX2_bestHome wsX1_worthOf := goodIn_r _ [52, 53, 54, 55, 56, 57, 13, 58, 59, 25, 26, 27, 28, 17, 29, 23, 10, 24, 30, 31, 32, 33, 34, 35, 36, 60, 61, 62, 63, 64, 65, 66, 67, 68, 74, 75, 76, 77, 78, 79, 80, 81, 82, 83, 84] (by decide +kernel) (by decide +kernel)
set_option maxRecDepth 20000 in
theorem gX2_bestHome_X1_worthOf_n101 : GoodIn wsX2_bestHome (wsX1_worthOf) := ggX2_bestHome_X1_worthOf
theorem dX2_bestHome_0 : decode cX2_bestHome 0 = .ok (.aload_n 0, 1) := by decide +kernel
theorem dX2_bestHome_1 : decode cX2_bestHome 1 = .ok (.aload_n 1, 1) := by decide +kernel
theorem dX2_bestHome_2 : decode cX2_bestHome 2 = .ok (.invokevirtual 68, 3) := by decide +kernel
theorem dX2_bestHome_5 : decode cX2_bestHome 5 = .ok (.bipush (-9), 2) := by decide +kernel
theorem dX2_bestHome_7 : decode cX2_bestHome 7 = .ok (.istore_n 2, 1) := by decide +kernel
theorem dX2_bestHome_8 : decode cX2_bestHome 8 = .ok (.ldc 100, 2) := by decide +kernel
theorem dX2_bestHome_10 : decode cX2_bestHome 10 = .ok (.istore_n 3, 1) := by decide +kernel
theorem dX2_bestHome_11 : decode cX2_bestHome 11 = .ok (.iconst 0, 1) := by decide +kernel
theorem dX2_bestHome_12 : decode cX2_bestHome 12 = .ok (.istore 4, 2) := by decide +kernel
theorem dX2_bestHome_14 : decode cX2_bestHome 14 = .ok (.iload 4, 2) := by decide +kernel
theorem dX2_bestHome_16 : decode cX2_bestHome 16 = .ok (.sipush 6561, 3) := by decide +kernel
theorem dX2_bestHome_19 : decode cX2_bestHome 19 = .ok (.if_icmp .ge 43, 3) := by decide +kernel
theorem dX2_bestHome_22 : decode cX2_bestHome 22 = .ok (.aload_n 0, 1) := by decide +kernel
theorem dX2_bestHome_23 : decode cX2_bestHome 23 = .ok (.iload 4, 2) := by decide +kernel
theorem dX2_bestHome_25 : decode cX2_bestHome 25 = .ok (.invokevirtual 65, 3) := by decide +kernel
theorem dX2_bestHome_28 : decode cX2_bestHome 28 = .ok (.ifCond .eq 12, 3) := by decide +kernel
theorem dX2_bestHome_31 : decode cX2_bestHome 31 = .ok (.aload_n 1, 1) := by decide +kernel
theorem dX2_bestHome_32 : decode cX2_bestHome 32 = .ok (.iload 4, 2) := by decide +kernel
theorem dX2_bestHome_34 : decode cX2_bestHome 34 = .ok (.invokevirtual 101, 3) := by decide +kernel
theorem dX2_bestHome_37 : decode cX2_bestHome 37 = .ok (.goto 5, 3) := by decide +kernel
theorem dX2_bestHome_40 : decode cX2_bestHome 40 = .ok (.ldc 100, 2) := by decide +kernel
theorem dX2_bestHome_42 : decode cX2_bestHome 42 = .ok (.istore 5, 2) := by decide +kernel
theorem dX2_bestHome_44 : decode cX2_bestHome 44 = .ok (.iload 5, 2) := by decide +kernel
theorem dX2_bestHome_46 : decode cX2_bestHome 46 = .ok (.iload_n 3, 1) := by decide +kernel
theorem dX2_bestHome_47 : decode cX2_bestHome 47 = .ok (.if_icmp .le 9, 3) := by decide +kernel
theorem dX2_bestHome_50 : decode cX2_bestHome 50 = .ok (.iload 5, 2) := by decide +kernel
theorem dX2_bestHome_52 : decode cX2_bestHome 52 = .ok (.istore_n 3, 1) := by decide +kernel
theorem dX2_bestHome_53 : decode cX2_bestHome 53 = .ok (.iload 4, 2) := by decide +kernel
theorem dX2_bestHome_55 : decode cX2_bestHome 55 = .ok (.istore_n 2, 1) := by decide +kernel
theorem dX2_bestHome_56 : decode cX2_bestHome 56 = .ok (.iinc 4 1, 3) := by decide +kernel
theorem dX2_bestHome_59 : decode cX2_bestHome 59 = .ok (.goto (-45), 3) := by decide +kernel
theorem dX2_bestHome_62 : decode cX2_bestHome 62 = .ok (.iload_n 2, 1) := by decide +kernel
theorem dX2_bestHome_63 : decode cX2_bestHome 63 = .ok (.ireturn, 1) := by decide +kernel
set_option maxRecDepth 20000 in
theorem ggX2_countFitting_X2_survey : GoodIn wsX2_countFitting wsX2_survey := goodIn_r _ [5, 6, 7, 8, 9, 10, 11, 12, 13, 14, 15, 16, 17, 18, 19, 20, 21, 22, 23, 24, 25, 26, 27, 28, 29, 30, 31, 32, 33, 34, 35, 36, 37, 38, 39, 40, 41, 42, 43, 44, 57, 58, 59, 60, 61, 62, 63, 64, 65, 66, 67, 68, 69, 70, 71, 72] (by decide +kernel) (by decide +kernel)
set_option maxRecDepth 20000 in
theorem gX2_countFitting_X2_survey : GoodIn wsX2_countFitting (wsV RX2 68 RX2 yX2_survey wsX2_survey) := goodIn_app (goodIn_of _ (by decide +kernel)) ggX2_countFitting_X2_survey
set_option maxRecDepth 20000 in
theorem ggX2_countFitting_X2_isLawful : GoodIn wsX2_countFitting wsX2_isLawful := goodIn_r _ [48, 7, 57, 58, 59, 60, 61] (by decide +kernel) (by decide +kernel)
set_option maxRecDepth 20000 in
theorem gX2_countFitting_X2_isLawful : GoodIn wsX2_countFitting (wsV RX2 65 RX2 yX2_isLawful wsX2_isLawful) := goodIn_app (goodIn_of _ (by decide +kernel)) ggX2_countFitting_X2_isLawful
set_option maxRecDepth 20000 in
theorem ggX2_countFitting_X1_fitsLetter : GoodIn wsX2_countFitting wsX1_fitsLetter := goodIn_r _ [51, 52, 53, 54, 12, 55, 56, 24, 25, 26, 27, 16, 28, 22, 9, 23, 73, 74, 75, 76, 77, 78, 79, 80, 62, 63, 64, 65, 66, 67, 68, 69, 70, 71, 72] (by decide +kernel) (by decide +kernel)
set_option maxRecDepth 20000 in
theorem gX2_countFitting_X1_fitsLetter_n104 : GoodIn wsX2_countFitting (wsX1_fitsLetter) := ggX2_countFitting_X1_fitsLetter
theorem dX2_countFitting_0 : decode cX2_countFitting 0 = .ok (.aload_n 0, 1) := by decide +kernel
theorem dX2_countFitting_1 : decode cX2_countFitting 1 = .ok (.aload_n 1, 1) := by decide +kernel
theorem dX2_countFitting_2 : decode cX2_countFitting 2 = .ok (.invokevirtual 68, 3) := by decide +kernel
theorem dX2_countFitting_5 : decode cX2_countFitting 5 = .ok (.iconst 0, 1) := by decide +kernel
theorem dX2_countFitting_6 : decode cX2_countFitting 6 = .ok (.istore_n 3, 1) := by decide +kernel
theorem dX2_countFitting_7 : decode cX2_countFitting 7 = .ok (.iconst 0, 1) := by decide +kernel
theorem dX2_countFitting_8 : decode cX2_countFitting 8 = .ok (.istore 4, 2) := by decide +kernel
theorem dX2_countFitting_10 : decode cX2_countFitting 10 = .ok (.iload 4, 2) := by decide +kernel
theorem dX2_countFitting_12 : decode cX2_countFitting 12 = .ok (.sipush 6561, 3) := by decide +kernel
theorem dX2_countFitting_15 : decode cX2_countFitting 15 = .ok (.if_icmp .ge 31, 3) := by decide +kernel
theorem dX2_countFitting_18 : decode cX2_countFitting 18 = .ok (.aload_n 0, 1) := by decide +kernel
theorem dX2_countFitting_19 : decode cX2_countFitting 19 = .ok (.iload 4, 2) := by decide +kernel
theorem dX2_countFitting_21 : decode cX2_countFitting 21 = .ok (.invokevirtual 65, 3) := by decide +kernel
theorem dX2_countFitting_24 : decode cX2_countFitting 24 = .ok (.ifCond .eq 16, 3) := by decide +kernel
theorem dX2_countFitting_27 : decode cX2_countFitting 27 = .ok (.aload_n 1, 1) := by decide +kernel
theorem dX2_countFitting_28 : decode cX2_countFitting 28 = .ok (.iload 4, 2) := by decide +kernel
theorem dX2_countFitting_30 : decode cX2_countFitting 30 = .ok (.aload_n 2, 1) := by decide +kernel
theorem dX2_countFitting_31 : decode cX2_countFitting 31 = .ok (.invokevirtual 104, 3) := by decide +kernel
theorem dX2_countFitting_34 : decode cX2_countFitting 34 = .ok (.ifCond .eq 6, 3) := by decide +kernel
theorem dX2_countFitting_37 : decode cX2_countFitting 37 = .ok (.iinc 3 1, 3) := by decide +kernel
theorem dX2_countFitting_40 : decode cX2_countFitting 40 = .ok (.iinc 4 1, 3) := by decide +kernel
theorem dX2_countFitting_43 : decode cX2_countFitting 43 = .ok (.goto (-33), 3) := by decide +kernel
theorem dX2_countFitting_46 : decode cX2_countFitting 46 = .ok (.iload_n 3, 1) := by decide +kernel
theorem dX2_countFitting_47 : decode cX2_countFitting 47 = .ok (.ireturn, 1) := by decide +kernel
set_option maxRecDepth 20000 in
theorem ggX2_surePlace_X2_survey : GoodIn wsX2_surePlace wsX2_survey := goodIn_r _ [5, 6, 7, 8, 9, 10, 11, 12, 13, 14, 15, 16, 17, 18, 19, 20, 21, 22, 23, 24, 25, 26, 27, 28, 29, 30, 31, 32, 33, 34, 35, 36, 37, 38, 39, 40, 41, 42, 43, 44, 57, 58, 59, 60, 61, 62, 63, 64, 65, 66, 67, 68, 69, 70, 71, 72] (by decide +kernel) (by decide +kernel)
set_option maxRecDepth 20000 in
theorem gX2_surePlace_X2_survey : GoodIn wsX2_surePlace (wsV RX2 68 RX2 yX2_survey wsX2_survey) := goodIn_app (goodIn_of _ (by decide +kernel)) ggX2_surePlace_X2_survey
set_option maxRecDepth 20000 in
theorem ggX2_surePlace_X2_isLawful : GoodIn wsX2_surePlace wsX2_isLawful := goodIn_r _ [48, 7, 57, 58, 59, 60, 61] (by decide +kernel) (by decide +kernel)
set_option maxRecDepth 20000 in
theorem gX2_surePlace_X2_isLawful : GoodIn wsX2_surePlace (wsV RX2 65 RX2 yX2_isLawful wsX2_isLawful) := goodIn_app (goodIn_of _ (by decide +kernel)) ggX2_surePlace_X2_isLawful
set_option maxRecDepth 20000 in
theorem ggX2_surePlace_X1_fitsLetter : GoodIn wsX2_surePlace wsX1_fitsLetter := goodIn_r _ [51, 52, 53, 54, 12, 55, 56, 24, 25, 26, 27, 16, 28, 22, 9, 23, 73, 74, 75, 76, 77, 78, 79, 80, 62, 63, 64, 65, 66, 67, 68, 69, 70, 71, 72] (by decide +kernel) (by decide +kernel)
set_option maxRecDepth 20000 in
theorem gX2_surePlace_X1_fitsLetter_n104 : GoodIn wsX2_surePlace (wsX1_fitsLetter) := ggX2_surePlace_X1_fitsLetter
set_option maxRecDepth 20000 in
theorem ggX2_surePlace_X4_placeIn : GoodIn wsX2_surePlace wsX4_placeIn := goodIn_r _ [23] (by decide +kernel) (by decide +kernel)
set_option maxRecDepth 20000 in
theorem gX2_surePlace_X4_placeIn_n53 : GoodIn wsX2_surePlace (wsX4_placeIn) := ggX2_surePlace_X4_placeIn
theorem dX2_surePlace_0 : decode cX2_surePlace 0 = .ok (.aload_n 0, 1) := by decide +kernel
theorem dX2_surePlace_1 : decode cX2_surePlace 1 = .ok (.aload_n 1, 1) := by decide +kernel
theorem dX2_surePlace_2 : decode cX2_surePlace 2 = .ok (.invokevirtual 68, 3) := by decide +kernel
theorem dX2_surePlace_5 : decode cX2_surePlace 5 = .ok (.bipush (-9), 2) := by decide +kernel
theorem dX2_surePlace_7 : decode cX2_surePlace 7 = .ok (.istore 4, 2) := by decide +kernel
theorem dX2_surePlace_9 : decode cX2_surePlace 9 = .ok (.iconst 0, 1) := by decide +kernel
theorem dX2_surePlace_10 : decode cX2_surePlace 10 = .ok (.istore 5, 2) := by decide +kernel
theorem dX2_surePlace_12 : decode cX2_surePlace 12 = .ok (.iload 5, 2) := by decide +kernel
theorem dX2_surePlace_14 : decode cX2_surePlace 14 = .ok (.sipush 6561, 3) := by decide +kernel
theorem dX2_surePlace_17 : decode cX2_surePlace 17 = .ok (.if_icmp .ge 57, 3) := by decide +kernel
theorem dX2_surePlace_20 : decode cX2_surePlace 20 = .ok (.aload_n 0, 1) := by decide +kernel
theorem dX2_surePlace_21 : decode cX2_surePlace 21 = .ok (.iload 5, 2) := by decide +kernel
theorem dX2_surePlace_23 : decode cX2_surePlace 23 = .ok (.invokevirtual 65, 3) := by decide +kernel
theorem dX2_surePlace_26 : decode cX2_surePlace 26 = .ok (.ifCond .eq 42, 3) := by decide +kernel
theorem dX2_surePlace_29 : decode cX2_surePlace 29 = .ok (.aload_n 1, 1) := by decide +kernel
theorem dX2_surePlace_30 : decode cX2_surePlace 30 = .ok (.iload 5, 2) := by decide +kernel
theorem dX2_surePlace_32 : decode cX2_surePlace 32 = .ok (.aload_n 2, 1) := by decide +kernel
theorem dX2_surePlace_33 : decode cX2_surePlace 33 = .ok (.invokevirtual 104, 3) := by decide +kernel
theorem dX2_surePlace_36 : decode cX2_surePlace 36 = .ok (.ifCond .eq 32, 3) := by decide +kernel
theorem dX2_surePlace_39 : decode cX2_surePlace 39 = .ok (.iload 5, 2) := by decide +kernel
theorem dX2_surePlace_41 : decode cX2_surePlace 41 = .ok (.iload_n 3, 1) := by decide +kernel
theorem dX2_surePlace_42 : decode cX2_surePlace 42 = .ok (.invokestatic 53, 3) := by decide +kernel
theorem dX2_surePlace_45 : decode cX2_surePlace 45 = .ok (.istore 6, 2) := by decide +kernel
theorem dX2_surePlace_47 : decode cX2_surePlace 47 = .ok (.iload 4, 2) := by decide +kernel
theorem dX2_surePlace_49 : decode cX2_surePlace 49 = .ok (.bipush (-9), 2) := by decide +kernel
theorem dX2_surePlace_51 : decode cX2_surePlace 51 = .ok (.if_icmp .eq 13, 3) := by decide +kernel
theorem dX2_surePlace_54 : decode cX2_surePlace 54 = .ok (.iload 4, 2) := by decide +kernel
theorem dX2_surePlace_56 : decode cX2_surePlace 56 = .ok (.iload 6, 2) := by decide +kernel
theorem dX2_surePlace_58 : decode cX2_surePlace 58 = .ok (.if_icmp .eq 6, 3) := by decide +kernel
theorem dX2_surePlace_61 : decode cX2_surePlace 61 = .ok (.bipush (-9), 2) := by decide +kernel
theorem dX2_surePlace_63 : decode cX2_surePlace 63 = .ok (.ireturn, 1) := by decide +kernel
theorem dX2_surePlace_64 : decode cX2_surePlace 64 = .ok (.iload 6, 2) := by decide +kernel
theorem dX2_surePlace_66 : decode cX2_surePlace 66 = .ok (.istore 4, 2) := by decide +kernel
theorem dX2_surePlace_68 : decode cX2_surePlace 68 = .ok (.iinc 5 1, 3) := by decide +kernel
theorem dX2_surePlace_71 : decode cX2_surePlace 71 = .ok (.goto (-59), 3) := by decide +kernel
theorem dX2_surePlace_74 : decode cX2_surePlace 74 = .ok (.iload 4, 2) := by decide +kernel
theorem dX2_surePlace_76 : decode cX2_surePlace 76 = .ok (.ireturn, 1) := by decide +kernel
end
section
theorem dX3_init_0 : decode cX3_init 0 = .ok (.aload_n 0, 1) := by decide +kernel
theorem dX3_init_1 : decode cX3_init 1 = .ok (.invokespecial 3, 3) := by decide +kernel
theorem dX3_init_4 : decode cX3_init 4 = .ok (.aload_n 0, 1) := by decide +kernel
theorem dX3_init_5 : decode cX3_init 5 = .ok (.sipush 200, 3) := by decide +kernel
theorem dX3_init_8 : decode cX3_init 8 = .ok (.newarray .int, 2) := by decide +kernel
theorem dX3_init_10 : decode cX3_init 10 = .ok (.putfield 11, 3) := by decide +kernel
theorem dX3_init_13 : decode cX3_init 13 = .ok (.return_, 1) := by decide +kernel
theorem dX3_append_0 : decode cX3_append 0 = .ok (.aload_n 0, 1) := by decide +kernel
theorem dX3_append_1 : decode cX3_append 1 = .ok (.getfield 15, 3) := by decide +kernel
theorem dX3_append_4 : decode cX3_append 4 = .ok (.ifCond .lt 35, 3) := by decide +kernel
theorem dX3_append_7 : decode cX3_append 7 = .ok (.aload_n 0, 1) := by decide +kernel
theorem dX3_append_8 : decode cX3_append 8 = .ok (.getfield 15, 3) := by decide +kernel
theorem dX3_append_11 : decode cX3_append 11 = .ok (.aload_n 0, 1) := by decide +kernel
theorem dX3_append_12 : decode cX3_append 12 = .ok (.getfield 11, 3) := by decide +kernel
theorem dX3_append_15 : decode cX3_append 15 = .ok (.arraylength, 1) := by decide +kernel
theorem dX3_append_16 : decode cX3_append 16 = .ok (.if_icmp .ge 23, 3) := by decide +kernel
theorem dX3_append_19 : decode cX3_append 19 = .ok (.aload_n 0, 1) := by decide +kernel
theorem dX3_append_20 : decode cX3_append 20 = .ok (.getfield 11, 3) := by decide +kernel
theorem dX3_append_23 : decode cX3_append 23 = .ok (.aload_n 0, 1) := by decide +kernel
theorem dX3_append_24 : decode cX3_append 24 = .ok (.getfield 15, 3) := by decide +kernel
theorem dX3_append_27 : decode cX3_append 27 = .ok (.iload_n 1, 1) := by decide +kernel
theorem dX3_append_28 : decode cX3_append 28 = .ok (.iastore, 1) := by decide +kernel
theorem dX3_append_29 : decode cX3_append 29 = .ok (.aload_n 0, 1) := by decide +kernel
theorem dX3_append_30 : decode cX3_append 30 = .ok (.dup, 1) := by decide +kernel
theorem dX3_append_31 : decode cX3_append 31 = .ok (.getfield 15, 3) := by decide +kernel
theorem dX3_append_34 : decode cX3_append 34 = .ok (.iconst 1, 1) := by decide +kernel
theorem dX3_append_35 : decode cX3_append 35 = .ok (.iadd, 1) := by decide +kernel
theorem dX3_append_36 : decode cX3_append 36 = .ok (.putfield 15, 3) := by decide +kernel
theorem dX3_append_39 : decode cX3_append 39 = .ok (.return_, 1) := by decide +kernel
theorem dX3_byteAt_0 : decode cX3_byteAt 0 = .ok (.iload_n 1, 1) := by decide +kernel
theorem dX3_byteAt_1 : decode cX3_byteAt 1 = .ok (.ifCond .lt 29, 3) := by decide +kernel
theorem dX3_byteAt_4 : decode cX3_byteAt 4 = .ok (.iload_n 1, 1) := by decide +kernel
theorem dX3_byteAt_5 : decode cX3_byteAt 5 = .ok (.aload_n 0, 1) := by decide +kernel
theorem dX3_byteAt_6 : decode cX3_byteAt 6 = .ok (.getfield 15, 3) := by decide +kernel
theorem dX3_byteAt_9 : decode cX3_byteAt 9 = .ok (.if_icmp .ge 21, 3) := by decide +kernel
theorem dX3_byteAt_12 : decode cX3_byteAt 12 = .ok (.iload_n 1, 1) := by decide +kernel
theorem dX3_byteAt_13 : decode cX3_byteAt 13 = .ok (.aload_n 0, 1) := by decide +kernel
theorem dX3_byteAt_14 : decode cX3_byteAt 14 = .ok (.getfield 11, 3) := by decide +kernel
theorem dX3_byteAt_17 : decode cX3_byteAt 17 = .ok (.arraylength, 1) := by decide +kernel
theorem dX3_byteAt_18 : decode cX3_byteAt 18 = .ok (.if_icmp .ge 12, 3) := by decide +kernel
theorem dX3_byteAt_21 : decode cX3_byteAt 21 = .ok (.aload_n 0, 1) := by decide +kernel
theorem dX3_byteAt_22 : decode cX3_byteAt 22 = .ok (.getfield 11, 3) := by decide +kernel
theorem dX3_byteAt_25 : decode cX3_byteAt 25 = .ok (.iload_n 1, 1) := by decide +kernel
theorem dX3_byteAt_26 : decode cX3_byteAt 26 = .ok (.iaload, 1) := by decide +kernel
theorem dX3_byteAt_27 : decode cX3_byteAt 27 = .ok (.goto 4, 3) := by decide +kernel
theorem dX3_byteAt_30 : decode cX3_byteAt 30 = .ok (.iconst (-1), 1) := by decide +kernel
theorem dX3_byteAt_31 : decode cX3_byteAt 31 = .ok (.ireturn, 1) := by decide +kernel
set_option maxRecDepth 20000 in
theorem ggX3_tell_X1_startAnew : GoodIn wsX3_tell wsX1_startAnew := goodIn_r _ [9, 10, 11, 12, 13, 14, 15, 16, 17, 18, 149, 150, 151, 152, 153, 154, 155, 156, 157, 158, 159] (by decide +kernel) (by decide +kernel)
set_option maxRecDepth 20000 in
theorem gX3_tell_X1_startAnew_n19 : GoodIn wsX3_tell (wsX1_startAnew) := ggX3_tell_X1_startAnew
set_option maxRecDepth 20000 in
theorem ggX3_tell_X3_nextToken : GoodIn wsX3_tell wsX3_nextToken := goodIn_r _ [23, 3, 24, 5, 4, 25, 26, 27, 22, 28, 29, 30, 31, 32, 33, 34, 35, 36, 37, 38, 39, 40, 41, 42, 43, 44, 45, 46, 47, 48, 49, 50, 51, 52, 53, 54, 55, 56, 57, 58, 59, 60, 61, 62, 63, 64, 65, 66, 67, 68, 69, 70, 71, 72, 73, 74, 75, 76, 77, 78, 79, 80, 81, 82, 83, 84, 85, 86, 87, 88, 89, 90, 91, 92, 93, 94, 95, 96, 97, 98, 99, 100, 101, 102, 103, 104, 141, 142, 143, 144, 145, 146, 147, 148] (by decide +kernel) (by decide +kernel)
set_option maxRecDepth 20000 in
theorem gX3_tell_X3_nextToken : GoodIn wsX3_tell (wsV RX3 34 RX3 yX3_nextToken wsX3_nextToken) := goodIn_app (goodIn_of _ (by decide +kernel)) ggX3_tell_X3_nextToken
set_option maxRecDepth 20000 in
theorem ggX3_tell_X3_tellItem : GoodIn wsX3_tell wsX3_tellItem := goodIn_r _ [108, 4, 37, 109, 110, 111, 22, 112, 1, 2, 19, 20, 21, 23, 3, 24, 5, 25, 26, 27, 28, 29, 30, 31, 32, 33, 34, 35, 36, 38, 39, 40, 41, 42, 43, 44, 45, 46, 47, 48, 49, 50, 51, 52, 53, 54, 55, 56, 57, 58, 59, 60, 61, 62, 63, 64, 65, 66, 67, 68, 69, 70, 71, 72, 73, 74, 75, 76, 77, 78, 79, 80, 81, 82, 83, 84, 85, 86, 87, 88, 89, 90, 91, 92, 93, 94, 95, 96, 97, 98, 99, 100, 101, 102, 103, 104, 113, 114, 115, 116, 117, 118, 119, 7, 120, 121, 10, 122, 123, 124, 125, 126, 127, 128, 129, 130, 131, 132, 133, 12, 134, 135, 136, 137, 138, 11, 139, 140, 141, 142, 143, 144, 145, 146, 147, 148, 149, 150, 151, 152, 153, 154, 155, 156, 157, 158, 159] (by decide +kernel) (by decide +kernel)
set_option maxRecDepth 20000 in
theorem gX3_tell_X3_tellItem : GoodIn wsX3_tell (wsV RX3 40 RX3 yX3_tellItem wsX3_tellItem) := goodIn_app (goodIn_of _ (by decide +kernel)) ggX3_tell_X3_tellItem
theorem dX3_tell_0 : decode cX3_tell 0 = .ok (.aload_n 1, 1) := by decide +kernel
theorem dX3_tell_1 : decode cX3_tell 1 = .ok (.invokevirtual 19, 3) := by decide +kernel
theorem dX3_tell_4 : decode cX3_tell 4 = .ok (.aload_n 0, 1) := by decide +kernel
theorem dX3_tell_5 : decode cX3_tell 5 = .ok (.iconst 0, 1) := by decide +kernel
theorem dX3_tell_6 : decode cX3_tell 6 = .ok (.putfield 24, 3) := by decide +kernel
theorem dX3_tell_9 : decode cX3_tell 9 = .ok (.aload_n 0, 1) := by decide +kernel
theorem dX3_tell_10 : decode cX3_tell 10 = .ok (.iconst 0, 1) := by decide +kernel
theorem dX3_tell_11 : decode cX3_tell 11 = .ok (.putfield 28, 3) := by decide +kernel
theorem dX3_tell_14 : decode cX3_tell 14 = .ok (.aload_n 0, 1) := by decide +kernel
theorem dX3_tell_15 : decode cX3_tell 15 = .ok (.iconst 0, 1) := by decide +kernel
theorem dX3_tell_16 : decode cX3_tell 16 = .ok (.putfield 31, 3) := by decide +kernel
theorem dX3_tell_19 : decode cX3_tell 19 = .ok (.iconst 0, 1) := by decide +kernel
theorem dX3_tell_20 : decode cX3_tell 20 = .ok (.istore_n 2, 1) := by decide +kernel
theorem dX3_tell_21 : decode cX3_tell 21 = .ok (.aload_n 0, 1) := by decide +kernel
theorem dX3_tell_22 : decode cX3_tell 22 = .ok (.invokevirtual 34, 3) := by decide +kernel
theorem dX3_tell_25 : decode cX3_tell 25 = .ok (.iconst 0, 1) := by decide +kernel
theorem dX3_tell_26 : decode cX3_tell 26 = .ok (.istore_n 3, 1) := by decide +kernel
theorem dX3_tell_27 : decode cX3_tell 27 = .ok (.iload_n 3, 1) := by decide +kernel
theorem dX3_tell_28 : decode cX3_tell 28 = .ok (.sipush 200, 3) := by decide +kernel
theorem dX3_tell_31 : decode cX3_tell 31 = .ok (.if_icmp .gt 39, 3) := by decide +kernel
theorem dX3_tell_34 : decode cX3_tell 34 = .ok (.aload_n 0, 1) := by decide +kernel
theorem dX3_tell_35 : decode cX3_tell 35 = .ok (.getfield 37, 3) := by decide +kernel
theorem dX3_tell_38 : decode cX3_tell 38 = .ok (.ifCond .eq 32, 3) := by decide +kernel
theorem dX3_tell_41 : decode cX3_tell 41 = .ok (.aload_n 0, 1) := by decide +kernel
theorem dX3_tell_42 : decode cX3_tell 42 = .ok (.aload_n 1, 1) := by decide +kernel
theorem dX3_tell_43 : decode cX3_tell 43 = .ok (.invokevirtual 40, 3) := by decide +kernel
theorem dX3_tell_46 : decode cX3_tell 46 = .ok (.ifCond .ne 11, 3) := by decide +kernel
theorem dX3_tell_49 : decode cX3_tell 49 = .ok (.bipush (-10), 2) := by decide +kernel
theorem dX3_tell_51 : decode cX3_tell 51 = .ok (.aload_n 0, 1) := by decide +kernel
theorem dX3_tell_52 : decode cX3_tell 52 = .ok (.getfield 44, 3) := by decide +kernel
theorem dX3_tell_55 : decode cX3_tell 55 = .ok (.isub, 1) := by decide +kernel
theorem dX3_tell_56 : decode cX3_tell 56 = .ok (.ireturn, 1) := by decide +kernel
theorem dX3_tell_57 : decode cX3_tell 57 = .ok (.iinc 2 1, 3) := by decide +kernel
theorem dX3_tell_60 : decode cX3_tell 60 = .ok (.aload_n 0, 1) := by decide +kernel
theorem dX3_tell_61 : decode cX3_tell 61 = .ok (.invokevirtual 34, 3) := by decide +kernel
theorem dX3_tell_64 : decode cX3_tell 64 = .ok (.iinc 3 1, 3) := by decide +kernel
theorem dX3_tell_67 : decode cX3_tell 67 = .ok (.goto (-40), 3) := by decide +kernel
theorem dX3_tell_70 : decode cX3_tell 70 = .ok (.iload_n 2, 1) := by decide +kernel
theorem dX3_tell_71 : decode cX3_tell 71 = .ok (.ireturn, 1) := by decide +kernel
set_option maxRecDepth 20000 in
theorem ggX3_tellItem_X3_mayBegin : GoodIn wsX3_tellItem wsX3_mayBegin := goodIn_r _ [7, 8, 9, 136, 137, 138, 139, 140, 141, 142, 143, 144, 145, 146, 128, 129, 130, 131, 132, 133, 134, 135] (by decide +kernel) (by decide +kernel)
set_option maxRecDepth 20000 in
theorem gX3_tellItem_X3_mayBegin : GoodIn wsX3_tellItem (wsV RX3 50 RX3 yX3_mayBegin wsX3_mayBegin) := goodIn_app (goodIn_of _ (by decide +kernel)) ggX3_tellItem_X3_mayBegin
set_option maxRecDepth 20000 in
theorem ggX3_tellItem_X3_nextToken : GoodIn wsX3_tellItem wsX3_nextToken := goodIn_r _ [13, 14, 15, 16, 1, 17, 18, 19, 6, 20, 21, 22, 23, 24, 25, 26, 27, 28, 2, 29, 30, 31, 32, 33, 34, 35, 36, 37, 38, 39, 40, 41, 42, 43, 44, 45, 46, 47, 48, 49, 50, 51, 52, 53, 54, 55, 56, 57, 58, 59, 60, 61, 62, 63, 64, 65, 66, 67, 68, 69, 70, 71, 72, 73, 74, 75, 76, 77, 78, 79, 80, 81, 82, 83, 84, 85, 86, 87, 88, 89, 90, 91, 92, 93, 94, 95, 128, 129, 130, 131, 132, 133, 134, 135] (by decide +kernel) (by decide +kernel)
set_option maxRecDepth 20000 in
theorem gX3_tellItem_X3_nextToken : GoodIn wsX3_tellItem (wsV RX3 34 RX3 yX3_nextToken wsX3_nextToken) := goodIn_app (goodIn_of _ (by decide +kernel)) ggX3_tellItem_X3_nextToken
set_option maxRecDepth 20000 in
theorem ggX3_tellItem_X3_mayBeFirst : GoodIn wsX3_tellItem wsX3_mayBeFirst := goodIn_r _ [98, 99, 100, 101, 102, 103, 104, 105, 106, 107, 108, 136, 137, 138, 139, 140, 141, 142, 143, 144, 145, 146] (by decide +kernel) (by decide +kernel)
set_option maxRecDepth 20000 in
theorem gX3_tellItem_X3_mayBeFirst : GoodIn wsX3_tellItem (va_wsS RX3 54 yX3_mayBeFirst wsX3_mayBeFirst) := goodIn_app (goodIn_of _ (by decide +kernel)) ggX3_tellItem_X3_mayBeFirst
set_option maxRecDepth 20000 in
theorem ggX3_tellItem_X3_apply : GoodIn wsX3_tellItem wsX3_apply := goodIn_r _ [112, 8, 9, 113, 114, 6, 115, 116, 103, 117, 118, 119, 120, 121, 122, 123, 106, 124, 125, 126, 100, 127, 136, 137, 138, 139, 140, 141, 142, 143, 144, 145, 146, 128, 129, 130, 131, 132, 133, 134, 135] (by decide +kernel) (by decide +kernel)
set_option maxRecDepth 20000 in
theorem gX3_tellItem_X3_apply : GoodIn wsX3_tellItem (wsV RX3 58 RX3 yX3_apply wsX3_apply) := goodIn_app (goodIn_of _ (by decide +kernel)) ggX3_tellItem_X3_apply
theorem dX3_tellItem_0 : decode cX3_tellItem 0 = .ok (.aload_n 0, 1) := by decide +kernel
theorem dX3_tellItem_1 : decode cX3_tellItem 1 = .ok (.getfield 37, 3) := by decide +kernel
theorem dX3_tellItem_4 : decode cX3_tellItem 4 = .ok (.iconst 1, 1) := by decide +kernel
theorem dX3_tellItem_5 : decode cX3_tellItem 5 = .ok (.if_icmp .ne 15, 3) := by decide +kernel
theorem dX3_tellItem_8 : decode cX3_tellItem 8 = .ok (.aload_n 0, 1) := by decide +kernel
theorem dX3_tellItem_9 : decode cX3_tellItem 9 = .ok (.aload_n 0, 1) := by decide +kernel
theorem dX3_tellItem_10 : decode cX3_tellItem 10 = .ok (.getfield 47, 3) := by decide +kernel
theorem dX3_tellItem_13 : decode cX3_tellItem 13 = .ok (.aload_n 1, 1) := by decide +kernel
theorem dX3_tellItem_14 : decode cX3_tellItem 14 = .ok (.invokevirtual 50, 3) := by decide +kernel
theorem dX3_tellItem_17 : decode cX3_tellItem 17 = .ok (.ifCond .ne 5, 3) := by decide +kernel
theorem dX3_tellItem_20 : decode cX3_tellItem 20 = .ok (.iconst 0, 1) := by decide +kernel
theorem dX3_tellItem_21 : decode cX3_tellItem 21 = .ok (.ireturn, 1) := by decide +kernel
theorem dX3_tellItem_22 : decode cX3_tellItem 22 = .ok (.aload_n 0, 1) := by decide +kernel
theorem dX3_tellItem_23 : decode cX3_tellItem 23 = .ok (.getfield 47, 3) := by decide +kernel
theorem dX3_tellItem_26 : decode cX3_tellItem 26 = .ok (.istore_n 2, 1) := by decide +kernel
theorem dX3_tellItem_27 : decode cX3_tellItem 27 = .ok (.aload_n 0, 1) := by decide +kernel
theorem dX3_tellItem_28 : decode cX3_tellItem 28 = .ok (.invokevirtual 34, 3) := by decide +kernel
theorem dX3_tellItem_31 : decode cX3_tellItem 31 = .ok (.aload_n 0, 1) := by decide +kernel
theorem dX3_tellItem_32 : decode cX3_tellItem 32 = .ok (.getfield 37, 3) := by decide +kernel
theorem dX3_tellItem_35 : decode cX3_tellItem 35 = .ok (.iconst 2, 1) := by decide +kernel
theorem dX3_tellItem_36 : decode cX3_tellItem 36 = .ok (.if_icmp .ne 15, 3) := by decide +kernel
theorem dX3_tellItem_39 : decode cX3_tellItem 39 = .ok (.iload_n 2, 1) := by decide +kernel
theorem dX3_tellItem_40 : decode cX3_tellItem 40 = .ok (.aload_n 0, 1) := by decide +kernel
theorem dX3_tellItem_41 : decode cX3_tellItem 41 = .ok (.getfield 47, 3) := by decide +kernel
theorem dX3_tellItem_44 : decode cX3_tellItem 44 = .ok (.aload_n 1, 1) := by decide +kernel
theorem dX3_tellItem_45 : decode cX3_tellItem 45 = .ok (.invokestatic 54, 3) := by decide +kernel
theorem dX3_tellItem_48 : decode cX3_tellItem 48 = .ok (.ifCond .ne 5, 3) := by decide +kernel
theorem dX3_tellItem_51 : decode cX3_tellItem 51 = .ok (.iconst 0, 1) := by decide +kernel
theorem dX3_tellItem_52 : decode cX3_tellItem 52 = .ok (.ireturn, 1) := by decide +kernel
theorem dX3_tellItem_53 : decode cX3_tellItem 53 = .ok (.aload_n 0, 1) := by decide +kernel
theorem dX3_tellItem_54 : decode cX3_tellItem 54 = .ok (.getfield 47, 3) := by decide +kernel
theorem dX3_tellItem_57 : decode cX3_tellItem 57 = .ok (.istore_n 3, 1) := by decide +kernel
theorem dX3_tellItem_58 : decode cX3_tellItem 58 = .ok (.iconst 1, 1) := by decide +kernel
theorem dX3_tellItem_59 : decode cX3_tellItem 59 = .ok (.istore 4, 2) := by decide +kernel
theorem dX3_tellItem_61 : decode cX3_tellItem 61 = .ok (.iload_n 2, 1) := by decide +kernel
theorem dX3_tellItem_62 : decode cX3_tellItem 62 = .ok (.iconst 4, 1) := by decide +kernel
theorem dX3_tellItem_63 : decode cX3_tellItem 63 = .ok (.if_icmp .eq 14, 3) := by decide +kernel
theorem dX3_tellItem_66 : decode cX3_tellItem 66 = .ok (.iload_n 2, 1) := by decide +kernel
theorem dX3_tellItem_67 : decode cX3_tellItem 67 = .ok (.iconst 5, 1) := by decide +kernel
theorem dX3_tellItem_68 : decode cX3_tellItem 68 = .ok (.if_icmp .eq 9, 3) := by decide +kernel
theorem dX3_tellItem_71 : decode cX3_tellItem 71 = .ok (.iload_n 2, 1) := by decide +kernel
theorem dX3_tellItem_72 : decode cX3_tellItem 72 = .ok (.bipush 6, 2) := by decide +kernel
theorem dX3_tellItem_74 : decode cX3_tellItem 74 = .ok (.if_icmp .ne 40, 3) := by decide +kernel
theorem dX3_tellItem_77 : decode cX3_tellItem 77 = .ok (.aload_n 0, 1) := by decide +kernel
theorem dX3_tellItem_78 : decode cX3_tellItem 78 = .ok (.invokevirtual 34, 3) := by decide +kernel
theorem dX3_tellItem_81 : decode cX3_tellItem 81 = .ok (.aload_n 0, 1) := by decide +kernel
theorem dX3_tellItem_82 : decode cX3_tellItem 82 = .ok (.getfield 37, 3) := by decide +kernel
theorem dX3_tellItem_85 : decode cX3_tellItem 85 = .ok (.iconst 2, 1) := by decide +kernel
theorem dX3_tellItem_86 : decode cX3_tellItem 86 = .ok (.if_icmp .ne 20, 3) := by decide +kernel
theorem dX3_tellItem_89 : decode cX3_tellItem 89 = .ok (.aload_n 0, 1) := by decide +kernel
theorem dX3_tellItem_90 : decode cX3_tellItem 90 = .ok (.getfield 47, 3) := by decide +kernel
theorem dX3_tellItem_93 : decode cX3_tellItem 93 = .ok (.iconst 1, 1) := by decide +kernel
theorem dX3_tellItem_94 : decode cX3_tellItem 94 = .ok (.if_icmp .lt 12, 3) := by decide +kernel
theorem dX3_tellItem_97 : decode cX3_tellItem 97 = .ok (.aload_n 0, 1) := by decide +kernel
theorem dX3_tellItem_98 : decode cX3_tellItem 98 = .ok (.getfield 47, 3) := by decide +kernel
theorem dX3_tellItem_101 : decode cX3_tellItem 101 = .ok (.bipush 8, 2) := by decide +kernel
theorem dX3_tellItem_103 : decode cX3_tellItem 103 = .ok (.if_icmp .le 5, 3) := by decide +kernel
theorem dX3_tellItem_106 : decode cX3_tellItem 106 = .ok (.iconst 0, 1) := by decide +kernel
theorem dX3_tellItem_107 : decode cX3_tellItem 107 = .ok (.ireturn, 1) := by decide +kernel
theorem dX3_tellItem_108 : decode cX3_tellItem 108 = .ok (.aload_n 0, 1) := by decide +kernel
theorem dX3_tellItem_109 : decode cX3_tellItem 109 = .ok (.getfield 47, 3) := by decide +kernel
theorem dX3_tellItem_112 : decode cX3_tellItem 112 = .ok (.istore 4, 2) := by decide +kernel
theorem dX3_tellItem_114 : decode cX3_tellItem 114 = .ok (.aload_n 0, 1) := by decide +kernel
theorem dX3_tellItem_115 : decode cX3_tellItem 115 = .ok (.invokevirtual 34, 3) := by decide +kernel
theorem dX3_tellItem_118 : decode cX3_tellItem 118 = .ok (.aload_n 0, 1) := by decide +kernel
theorem dX3_tellItem_119 : decode cX3_tellItem 119 = .ok (.getfield 37, 3) := by decide +kernel
theorem dX3_tellItem_122 : decode cX3_tellItem 122 = .ok (.iconst 3, 1) := by decide +kernel
theorem dX3_tellItem_123 : decode cX3_tellItem 123 = .ok (.if_icmp .eq 5, 3) := by decide +kernel
theorem dX3_tellItem_126 : decode cX3_tellItem 126 = .ok (.iconst 0, 1) := by decide +kernel
theorem dX3_tellItem_127 : decode cX3_tellItem 127 = .ok (.ireturn, 1) := by decide +kernel
theorem dX3_tellItem_128 : decode cX3_tellItem 128 = .ok (.aload_n 0, 1) := by decide +kernel
theorem dX3_tellItem_129 : decode cX3_tellItem 129 = .ok (.iload_n 2, 1) := by decide +kernel
theorem dX3_tellItem_130 : decode cX3_tellItem 130 = .ok (.iload_n 3, 1) := by decide +kernel
theorem dX3_tellItem_131 : decode cX3_tellItem 131 = .ok (.iload 4, 2) := by decide +kernel
theorem dX3_tellItem_133 : decode cX3_tellItem 133 = .ok (.aload_n 1, 1) := by decide +kernel
theorem dX3_tellItem_134 : decode cX3_tellItem 134 = .ok (.invokevirtual 58, 3) := by decide +kernel
theorem dX3_tellItem_137 : decode cX3_tellItem 137 = .ok (.iconst 1, 1) := by decide +kernel
theorem dX3_tellItem_138 : decode cX3_tellItem 138 = .ok (.ireturn, 1) := by decide +kernel
theorem dX3_mayBegin_0 : decode cX3_mayBegin 0 = .ok (.iload_n 1, 1) := by decide +kernel
theorem dX3_mayBegin_1 : decode cX3_mayBegin 1 = .ok (.tableswitch 115 4 10 #[43, 57, 57, 59, 74, 89, 102], 43) := by decide +kernel
theorem dX3_mayBegin_44 : decode cX3_mayBegin 44 = .ok (.aload_n 2, 1) := by decide +kernel
theorem dX3_mayBegin_45 : decode cX3_mayBegin 45 = .ok (.getfield 62, 3) := by decide +kernel
theorem dX3_mayBegin_48 : decode cX3_mayBegin 48 = .ok (.iconst 2, 1) := by decide +kernel
theorem dX3_mayBegin_49 : decode cX3_mayBegin 49 = .ok (.if_icmp .ge 7, 3) := by decide +kernel
theorem dX3_mayBegin_52 : decode cX3_mayBegin 52 = .ok (.iconst 1, 1) := by decide +kernel
theorem dX3_mayBegin_53 : decode cX3_mayBegin 53 = .ok (.goto 4, 3) := by decide +kernel
theorem dX3_mayBegin_56 : decode cX3_mayBegin 56 = .ok (.iconst 0, 1) := by decide +kernel
theorem dX3_mayBegin_57 : decode cX3_mayBegin 57 = .ok (.ireturn, 1) := by decide +kernel
theorem dX3_mayBegin_58 : decode cX3_mayBegin 58 = .ok (.iconst 1, 1) := by decide +kernel
theorem dX3_mayBegin_59 : decode cX3_mayBegin 59 = .ok (.ireturn, 1) := by decide +kernel
theorem dX3_mayBegin_60 : decode cX3_mayBegin 60 = .ok (.aload_n 2, 1) := by decide +kernel
theorem dX3_mayBegin_61 : decode cX3_mayBegin 61 = .ok (.getfield 65, 3) := by decide +kernel
theorem dX3_mayBegin_64 : decode cX3_mayBegin 64 = .ok (.bipush (-9), 2) := by decide +kernel
theorem dX3_mayBegin_66 : decode cX3_mayBegin 66 = .ok (.if_icmp .ne 7, 3) := by decide +kernel
theorem dX3_mayBegin_69 : decode cX3_mayBegin 69 = .ok (.iconst 1, 1) := by decide +kernel
theorem dX3_mayBegin_70 : decode cX3_mayBegin 70 = .ok (.goto 4, 3) := by decide +kernel
theorem dX3_mayBegin_73 : decode cX3_mayBegin 73 = .ok (.iconst 0, 1) := by decide +kernel
theorem dX3_mayBegin_74 : decode cX3_mayBegin 74 = .ok (.ireturn, 1) := by decide +kernel
theorem dX3_mayBegin_75 : decode cX3_mayBegin 75 = .ok (.aload_n 2, 1) := by decide +kernel
theorem dX3_mayBegin_76 : decode cX3_mayBegin 76 = .ok (.getfield 68, 3) := by decide +kernel
theorem dX3_mayBegin_79 : decode cX3_mayBegin 79 = .ok (.bipush (-9), 2) := by decide +kernel
theorem dX3_mayBegin_81 : decode cX3_mayBegin 81 = .ok (.if_icmp .ne 7, 3) := by decide +kernel
theorem dX3_mayBegin_84 : decode cX3_mayBegin 84 = .ok (.iconst 1, 1) := by decide +kernel
theorem dX3_mayBegin_85 : decode cX3_mayBegin 85 = .ok (.goto 4, 3) := by decide +kernel
theorem dX3_mayBegin_88 : decode cX3_mayBegin 88 = .ok (.iconst 0, 1) := by decide +kernel
theorem dX3_mayBegin_89 : decode cX3_mayBegin 89 = .ok (.ireturn, 1) := by decide +kernel
theorem dX3_mayBegin_90 : decode cX3_mayBegin 90 = .ok (.aload_n 0, 1) := by decide +kernel
theorem dX3_mayBegin_91 : decode cX3_mayBegin 91 = .ok (.getfield 24, 3) := by decide +kernel
theorem dX3_mayBegin_94 : decode cX3_mayBegin 94 = .ok (.ifCond .ne 7, 3) := by decide +kernel
theorem dX3_mayBegin_97 : decode cX3_mayBegin 97 = .ok (.iconst 1, 1) := by decide +kernel
theorem dX3_mayBegin_98 : decode cX3_mayBegin 98 = .ok (.goto 4, 3) := by decide +kernel
theorem dX3_mayBegin_101 : decode cX3_mayBegin 101 = .ok (.iconst 0, 1) := by decide +kernel
theorem dX3_mayBegin_102 : decode cX3_mayBegin 102 = .ok (.ireturn, 1) := by decide +kernel
theorem dX3_mayBegin_103 : decode cX3_mayBegin 103 = .ok (.aload_n 0, 1) := by decide +kernel
theorem dX3_mayBegin_104 : decode cX3_mayBegin 104 = .ok (.getfield 28, 3) := by decide +kernel
theorem dX3_mayBegin_107 : decode cX3_mayBegin 107 = .ok (.ifCond .ne 7, 3) := by decide +kernel
theorem dX3_mayBegin_110 : decode cX3_mayBegin 110 = .ok (.iconst 1, 1) := by decide +kernel
theorem dX3_mayBegin_111 : decode cX3_mayBegin 111 = .ok (.goto 4, 3) := by decide +kernel
theorem dX3_mayBegin_114 : decode cX3_mayBegin 114 = .ok (.iconst 0, 1) := by decide +kernel
theorem dX3_mayBegin_115 : decode cX3_mayBegin 115 = .ok (.ireturn, 1) := by decide +kernel
theorem dX3_mayBegin_116 : decode cX3_mayBegin 116 = .ok (.aload_n 2, 1) := by decide +kernel
theorem dX3_mayBegin_117 : decode cX3_mayBegin 117 = .ok (.getfield 71, 3) := by decide +kernel
theorem dX3_mayBegin_120 : decode cX3_mayBegin 120 = .ok (.iconst 4, 1) := by decide +kernel
theorem dX3_mayBegin_121 : decode cX3_mayBegin 121 = .ok (.if_icmp .ge 7, 3) := by decide +kernel
theorem dX3_mayBegin_124 : decode cX3_mayBegin 124 = .ok (.iconst 1, 1) := by decide +kernel
theorem dX3_mayBegin_125 : decode cX3_mayBegin 125 = .ok (.goto 4, 3) := by decide +kernel
theorem dX3_mayBegin_128 : decode cX3_mayBegin 128 = .ok (.iconst 0, 1) := by decide +kernel
theorem dX3_mayBegin_129 : decode cX3_mayBegin 129 = .ok (.ireturn, 1) := by decide +kernel
set_option maxRecDepth 20000 in
theorem ggX3_mayBeFirst_X4_isSlot : GoodIn wsX3_mayBeFirst wsX4_isSlot := goodIn_r _ [3] (by decide +kernel) (by decide +kernel)
set_option maxRecDepth 20000 in
theorem gX3_mayBeFirst_X4_isSlot_n74 : GoodIn wsX3_mayBeFirst (wsX4_isSlot) := ggX3_mayBeFirst_X4_isSlot
set_option maxRecDepth 20000 in
theorem ggX3_mayBeFirst_X1_panelAt : GoodIn wsX3_mayBeFirst wsX1_panelAt := goodIn_r _ [7, 8, 9, 2, 10, 11, 12, 13, 14, 15, 16, 17, 18, 19, 20, 21] (by decide +kernel) (by decide +kernel)
set_option maxRecDepth 20000 in
theorem gX3_mayBeFirst_X1_panelAt_n81 : GoodIn wsX3_mayBeFirst (wsX1_panelAt) := ggX3_mayBeFirst_X1_panelAt
theorem dX3_mayBeFirst_0 : decode cX3_mayBeFirst 0 = .ok (.iload_n 0, 1) := by decide +kernel
theorem dX3_mayBeFirst_1 : decode cX3_mayBeFirst 1 = .ok (.tableswitch 80 4 10 #[43, 43, 43, 43, 43, 48, 63], 43) := by decide +kernel
theorem dX3_mayBeFirst_44 : decode cX3_mayBeFirst 44 = .ok (.iload_n 1, 1) := by decide +kernel
theorem dX3_mayBeFirst_45 : decode cX3_mayBeFirst 45 = .ok (.invokestatic 74, 3) := by decide +kernel
theorem dX3_mayBeFirst_48 : decode cX3_mayBeFirst 48 = .ok (.ireturn, 1) := by decide +kernel
theorem dX3_mayBeFirst_49 : decode cX3_mayBeFirst 49 = .ok (.iload_n 1, 1) := by decide +kernel
theorem dX3_mayBeFirst_50 : decode cX3_mayBeFirst 50 = .ok (.ifCond .lt 12, 3) := by decide +kernel
theorem dX3_mayBeFirst_53 : decode cX3_mayBeFirst 53 = .ok (.iload_n 1, 1) := by decide +kernel
theorem dX3_mayBeFirst_54 : decode cX3_mayBeFirst 54 = .ok (.iconst 4, 1) := by decide +kernel
theorem dX3_mayBeFirst_55 : decode cX3_mayBeFirst 55 = .ok (.if_icmp .gt 7, 3) := by decide +kernel
theorem dX3_mayBeFirst_58 : decode cX3_mayBeFirst 58 = .ok (.iconst 1, 1) := by decide +kernel
theorem dX3_mayBeFirst_59 : decode cX3_mayBeFirst 59 = .ok (.goto 4, 3) := by decide +kernel
theorem dX3_mayBeFirst_62 : decode cX3_mayBeFirst 62 = .ok (.iconst 0, 1) := by decide +kernel
theorem dX3_mayBeFirst_63 : decode cX3_mayBeFirst 63 = .ok (.ireturn, 1) := by decide +kernel
theorem dX3_mayBeFirst_64 : decode cX3_mayBeFirst 64 = .ok (.iload_n 1, 1) := by decide +kernel
theorem dX3_mayBeFirst_65 : decode cX3_mayBeFirst 65 = .ok (.iconst 1, 1) := by decide +kernel
theorem dX3_mayBeFirst_66 : decode cX3_mayBeFirst 66 = .ok (.if_icmp .lt 13, 3) := by decide +kernel
theorem dX3_mayBeFirst_69 : decode cX3_mayBeFirst 69 = .ok (.iload_n 1, 1) := by decide +kernel
theorem dX3_mayBeFirst_70 : decode cX3_mayBeFirst 70 = .ok (.bipush 9, 2) := by decide +kernel
theorem dX3_mayBeFirst_72 : decode cX3_mayBeFirst 72 = .ok (.if_icmp .gt 7, 3) := by decide +kernel
theorem dX3_mayBeFirst_75 : decode cX3_mayBeFirst 75 = .ok (.iconst 1, 1) := by decide +kernel
theorem dX3_mayBeFirst_76 : decode cX3_mayBeFirst 76 = .ok (.goto 4, 3) := by decide +kernel
theorem dX3_mayBeFirst_79 : decode cX3_mayBeFirst 79 = .ok (.iconst 0, 1) := by decide +kernel
theorem dX3_mayBeFirst_80 : decode cX3_mayBeFirst 80 = .ok (.ireturn, 1) := by decide +kernel
theorem dX3_mayBeFirst_81 : decode cX3_mayBeFirst 81 = .ok (.iload_n 1, 1) := by decide +kernel
theorem dX3_mayBeFirst_82 : decode cX3_mayBeFirst 82 = .ok (.bipush 8, 2) := by decide +kernel
theorem dX3_mayBeFirst_84 : decode cX3_mayBeFirst 84 = .ok (.if_icmp .eq 24, 3) := by decide +kernel
theorem dX3_mayBeFirst_87 : decode cX3_mayBeFirst 87 = .ok (.iload_n 1, 1) := by decide +kernel
theorem dX3_mayBeFirst_88 : decode cX3_mayBeFirst 88 = .ok (.invokestatic 74, 3) := by decide +kernel
theorem dX3_mayBeFirst_91 : decode cX3_mayBeFirst 91 = .ok (.ifCond .eq 21, 3) := by decide +kernel
theorem dX3_mayBeFirst_94 : decode cX3_mayBeFirst 94 = .ok (.aload_n 2, 1) := by decide +kernel
theorem dX3_mayBeFirst_95 : decode cX3_mayBeFirst 95 = .ok (.aload_n 2, 1) := by decide +kernel
theorem dX3_mayBeFirst_96 : decode cX3_mayBeFirst 96 = .ok (.getfield 78, 3) := by decide +kernel
theorem dX3_mayBeFirst_99 : decode cX3_mayBeFirst 99 = .ok (.iload_n 1, 1) := by decide +kernel
theorem dX3_mayBeFirst_100 : decode cX3_mayBeFirst 100 = .ok (.invokevirtual 81, 3) := by decide +kernel
theorem dX3_mayBeFirst_103 : decode cX3_mayBeFirst 103 = .ok (.bipush (-9), 2) := by decide +kernel
theorem dX3_mayBeFirst_105 : decode cX3_mayBeFirst 105 = .ok (.if_icmp .ne 7, 3) := by decide +kernel
theorem dX3_mayBeFirst_108 : decode cX3_mayBeFirst 108 = .ok (.iconst 1, 1) := by decide +kernel
theorem dX3_mayBeFirst_109 : decode cX3_mayBeFirst 109 = .ok (.goto 4, 3) := by decide +kernel
theorem dX3_mayBeFirst_112 : decode cX3_mayBeFirst 112 = .ok (.iconst 0, 1) := by decide +kernel
theorem dX3_mayBeFirst_113 : decode cX3_mayBeFirst 113 = .ok (.ireturn, 1) := by decide +kernel
set_option maxRecDepth 20000 in
theorem ggX3_apply_X3_slotsFrom : GoodIn wsX3_apply wsX3_slotsFrom := goodIn_r _ [6] (by decide +kernel) (by decide +kernel)
set_option maxRecDepth 20000 in
theorem gX3_apply_X3_slotsFrom : GoodIn wsX3_apply (va_wsS RX3 85 yX3_slotsFrom wsX3_slotsFrom) := goodIn_app (goodIn_of _ (by decide +kernel)) ggX3_apply_X3_slotsFrom
set_option maxRecDepth 20000 in
theorem ggX3_apply_X1_addBeam : GoodIn wsX3_apply wsX1_addBeam := goodIn_r _ [10, 11, 12, 22, 23, 24, 25, 26, 27, 28, 29, 30, 31, 32] (by decide +kernel) (by decide +kernel)
set_option maxRecDepth 20000 in
theorem gX3_apply_X1_addBeam_n88 : GoodIn wsX3_apply (wsX1_addBeam) := ggX3_apply_X1_addBeam
set_option maxRecDepth 20000 in
theorem ggX3_apply_X1_addPanel : GoodIn wsX3_apply wsX1_addPanel := goodIn_r _ [15, 16, 17, 18, 19, 20, 21, 22, 23, 24, 25, 26, 27, 28, 29, 30, 31, 32] (by decide +kernel) (by decide +kernel)
set_option maxRecDepth 20000 in
theorem gX3_apply_X1_addPanel_n104 : GoodIn wsX3_apply (wsX1_addPanel) := ggX3_apply_X1_addPanel
theorem dX3_apply_0 : decode cX3_apply 0 = .ok (.iload_n 1, 1) := by decide +kernel
theorem dX3_apply_1 : decode cX3_apply 1 = .ok (.tableswitch 138 4 10 #[43, 56, 74, 92, 101, 110, 124], 43) := by decide +kernel
theorem dX3_apply_44 : decode cX3_apply 44 = .ok (.aload 4, 2) := by decide +kernel
theorem dX3_apply_46 : decode cX3_apply 46 = .ok (.iload_n 2, 1) := by decide +kernel
theorem dX3_apply_47 : decode cX3_apply 47 = .ok (.iload_n 3, 1) := by decide +kernel
theorem dX3_apply_48 : decode cX3_apply 48 = .ok (.invokestatic 85, 3) := by decide +kernel
theorem dX3_apply_51 : decode cX3_apply 51 = .ok (.invokevirtual 88, 3) := by decide +kernel
theorem dX3_apply_54 : decode cX3_apply 54 = .ok (.goto 92, 3) := by decide +kernel
theorem dX3_apply_57 : decode cX3_apply 57 = .ok (.aload 4, 2) := by decide +kernel
theorem dX3_apply_59 : decode cX3_apply 59 = .ok (.dup, 1) := by decide +kernel
theorem dX3_apply_60 : decode cX3_apply 60 = .ok (.getfield 92, 3) := by decide +kernel
theorem dX3_apply_63 : decode cX3_apply 63 = .ok (.iload_n 2, 1) := by decide +kernel
theorem dX3_apply_64 : decode cX3_apply 64 = .ok (.iload_n 3, 1) := by decide +kernel
theorem dX3_apply_65 : decode cX3_apply 65 = .ok (.invokestatic 85, 3) := by decide +kernel
theorem dX3_apply_68 : decode cX3_apply 68 = .ok (.ior, 1) := by decide +kernel
theorem dX3_apply_69 : decode cX3_apply 69 = .ok (.putfield 92, 3) := by decide +kernel
theorem dX3_apply_72 : decode cX3_apply 72 = .ok (.goto 74, 3) := by decide +kernel
theorem dX3_apply_75 : decode cX3_apply 75 = .ok (.aload 4, 2) := by decide +kernel
theorem dX3_apply_77 : decode cX3_apply 77 = .ok (.dup, 1) := by decide +kernel
theorem dX3_apply_78 : decode cX3_apply 78 = .ok (.getfield 95, 3) := by decide +kernel
theorem dX3_apply_81 : decode cX3_apply 81 = .ok (.iload_n 2, 1) := by decide +kernel
theorem dX3_apply_82 : decode cX3_apply 82 = .ok (.iload_n 3, 1) := by decide +kernel
theorem dX3_apply_83 : decode cX3_apply 83 = .ok (.invokestatic 85, 3) := by decide +kernel
theorem dX3_apply_86 : decode cX3_apply 86 = .ok (.ior, 1) := by decide +kernel
theorem dX3_apply_87 : decode cX3_apply 87 = .ok (.putfield 95, 3) := by decide +kernel
theorem dX3_apply_90 : decode cX3_apply 90 = .ok (.goto 56, 3) := by decide +kernel
theorem dX3_apply_93 : decode cX3_apply 93 = .ok (.aload 4, 2) := by decide +kernel
theorem dX3_apply_95 : decode cX3_apply 95 = .ok (.iload_n 2, 1) := by decide +kernel
theorem dX3_apply_96 : decode cX3_apply 96 = .ok (.putfield 65, 3) := by decide +kernel
theorem dX3_apply_99 : decode cX3_apply 99 = .ok (.goto 47, 3) := by decide +kernel
theorem dX3_apply_102 : decode cX3_apply 102 = .ok (.aload 4, 2) := by decide +kernel
theorem dX3_apply_104 : decode cX3_apply 104 = .ok (.iload_n 2, 1) := by decide +kernel
theorem dX3_apply_105 : decode cX3_apply 105 = .ok (.putfield 68, 3) := by decide +kernel
theorem dX3_apply_108 : decode cX3_apply 108 = .ok (.goto 38, 3) := by decide +kernel
theorem dX3_apply_111 : decode cX3_apply 111 = .ok (.aload 4, 2) := by decide +kernel
theorem dX3_apply_113 : decode cX3_apply 113 = .ok (.iload_n 2, 1) := by decide +kernel
theorem dX3_apply_114 : decode cX3_apply 114 = .ok (.putfield 98, 3) := by decide +kernel
theorem dX3_apply_117 : decode cX3_apply 117 = .ok (.aload_n 0, 1) := by decide +kernel
theorem dX3_apply_118 : decode cX3_apply 118 = .ok (.iconst 1, 1) := by decide +kernel
theorem dX3_apply_119 : decode cX3_apply 119 = .ok (.putfield 24, 3) := by decide +kernel
theorem dX3_apply_122 : decode cX3_apply 122 = .ok (.goto 24, 3) := by decide +kernel
theorem dX3_apply_125 : decode cX3_apply 125 = .ok (.aload 4, 2) := by decide +kernel
theorem dX3_apply_127 : decode cX3_apply 127 = .ok (.iload_n 2, 1) := by decide +kernel
theorem dX3_apply_128 : decode cX3_apply 128 = .ok (.putfield 101, 3) := by decide +kernel
theorem dX3_apply_131 : decode cX3_apply 131 = .ok (.aload_n 0, 1) := by decide +kernel
theorem dX3_apply_132 : decode cX3_apply 132 = .ok (.iconst 1, 1) := by decide +kernel
theorem dX3_apply_133 : decode cX3_apply 133 = .ok (.putfield 28, 3) := by decide +kernel
theorem dX3_apply_136 : decode cX3_apply 136 = .ok (.goto 10, 3) := by decide +kernel
theorem dX3_apply_139 : decode cX3_apply 139 = .ok (.aload 4, 2) := by decide +kernel
theorem dX3_apply_141 : decode cX3_apply 141 = .ok (.iload_n 1, 1) := by decide +kernel
theorem dX3_apply_142 : decode cX3_apply 142 = .ok (.iload_n 2, 1) := by decide +kernel
theorem dX3_apply_143 : decode cX3_apply 143 = .ok (.invokevirtual 104, 3) := by decide +kernel
theorem dX3_apply_146 : decode cX3_apply 146 = .ok (.return_, 1) := by decide +kernel
theorem dX3_slotsFrom_0 : decode cX3_slotsFrom 0 = .ok (.iconst 0, 1) := by decide +kernel
theorem dX3_slotsFrom_1 : decode cX3_slotsFrom 1 = .ok (.istore_n 2, 1) := by decide +kernel
theorem dX3_slotsFrom_2 : decode cX3_slotsFrom 2 = .ok (.iconst 0, 1) := by decide +kernel
theorem dX3_slotsFrom_3 : decode cX3_slotsFrom 3 = .ok (.istore_n 3, 1) := by decide +kernel
theorem dX3_slotsFrom_4 : decode cX3_slotsFrom 4 = .ok (.iload_n 3, 1) := by decide +kernel
theorem dX3_slotsFrom_5 : decode cX3_slotsFrom 5 = .ok (.iload_n 1, 1) := by decide +kernel
theorem dX3_slotsFrom_6 : decode cX3_slotsFrom 6 = .ok (.if_icmp .ge 26, 3) := by decide +kernel
theorem dX3_slotsFrom_9 : decode cX3_slotsFrom 9 = .ok (.iload_n 3, 1) := by decide +kernel
theorem dX3_slotsFrom_10 : decode cX3_slotsFrom 10 = .ok (.bipush 8, 2) := by decide +kernel
theorem dX3_slotsFrom_12 : decode cX3_slotsFrom 12 = .ok (.if_icmp .ge 20, 3) := by decide +kernel
theorem dX3_slotsFrom_15 : decode cX3_slotsFrom 15 = .ok (.iload_n 2, 1) := by decide +kernel
theorem dX3_slotsFrom_16 : decode cX3_slotsFrom 16 = .ok (.iconst 1, 1) := by decide +kernel
theorem dX3_slotsFrom_17 : decode cX3_slotsFrom 17 = .ok (.iload_n 0, 1) := by decide +kernel
theorem dX3_slotsFrom_18 : decode cX3_slotsFrom 18 = .ok (.iload_n 3, 1) := by decide +kernel
theorem dX3_slotsFrom_19 : decode cX3_slotsFrom 19 = .ok (.iadd, 1) := by decide +kernel
theorem dX3_slotsFrom_20 : decode cX3_slotsFrom 20 = .ok (.bipush 8, 2) := by decide +kernel
theorem dX3_slotsFrom_22 : decode cX3_slotsFrom 22 = .ok (.irem, 1) := by decide +kernel
theorem dX3_slotsFrom_23 : decode cX3_slotsFrom 23 = .ok (.ishl, 1) := by decide +kernel
theorem dX3_slotsFrom_24 : decode cX3_slotsFrom 24 = .ok (.ior, 1) := by decide +kernel
theorem dX3_slotsFrom_25 : decode cX3_slotsFrom 25 = .ok (.istore_n 2, 1) := by decide +kernel
theorem dX3_slotsFrom_26 : decode cX3_slotsFrom 26 = .ok (.iinc 3 1, 3) := by decide +kernel
theorem dX3_slotsFrom_29 : decode cX3_slotsFrom 29 = .ok (.goto (-25), 3) := by decide +kernel
theorem dX3_slotsFrom_32 : decode cX3_slotsFrom 32 = .ok (.iload_n 2, 1) := by decide +kernel
theorem dX3_slotsFrom_33 : decode cX3_slotsFrom 33 = .ok (.ireturn, 1) := by decide +kernel
set_option maxRecDepth 20000 in
theorem ggX3_nextToken_X3_byteAt : GoodIn wsX3_nextToken wsX3_byteAt := goodIn_r _ [9, 2, 10, 86, 87, 88, 89, 90, 91, 92, 93] (by decide +kernel) (by decide +kernel)
set_option maxRecDepth 20000 in
theorem gX3_nextToken_X3_byteAt : GoodIn wsX3_nextToken (wsV RX3 108 RX3 yX3_byteAt wsX3_byteAt) := goodIn_app (goodIn_of _ (by decide +kernel)) ggX3_nextToken_X3_byteAt
set_option maxRecDepth 20000 in
theorem ggX3_nextToken_X3_isLetter : GoodIn wsX3_nextToken wsX3_isLetter := goodIn_r _ [13] (by decide +kernel) (by decide +kernel)
set_option maxRecDepth 20000 in
theorem gX3_nextToken_X3_isLetter : GoodIn wsX3_nextToken (va_wsS RX3 112 yX3_isLetter wsX3_isLetter) := goodIn_app (goodIn_of _ (by decide +kernel)) ggX3_nextToken_X3_isLetter
set_option maxRecDepth 20000 in
theorem ggX3_nextToken_X3_readWord : GoodIn wsX3_nextToken wsX3_readWord := goodIn_r _ [17, 1, 2, 4, 18, 5, 6, 7, 8, 9, 10, 11, 12, 13, 19, 20, 21, 22, 23, 24, 25, 3, 26, 27, 28, 29, 30, 31, 32, 33, 34, 35, 36, 37, 38, 39, 40, 41, 42, 43, 44, 45, 46, 47, 48, 49, 50, 51, 52, 53, 54, 55, 56, 57, 58, 59, 60, 61, 62, 63, 64, 65, 66, 67, 68, 69, 70, 71, 72, 73, 74, 86, 87, 88, 89, 90, 91, 92, 93] (by decide +kernel) (by decide +kernel)
set_option maxRecDepth 20000 in
theorem gX3_nextToken_X3_readWord : GoodIn wsX3_nextToken (wsV RX3 115 RX3 yX3_readWord wsX3_readWord) := goodIn_app (goodIn_of _ (by decide +kernel)) ggX3_nextToken_X3_readWord
set_option maxRecDepth 20000 in
theorem ggX3_nextToken_X3_isDigit : GoodIn wsX3_nextToken wsX3_isDigit := goodIn_r _ [77] (by decide +kernel) (by decide +kernel)
set_option maxRecDepth 20000 in
theorem gX3_nextToken_X3_isDigit : GoodIn wsX3_nextToken (va_wsS RX3 118 yX3_isDigit wsX3_isDigit) := goodIn_app (goodIn_of _ (by decide +kernel)) ggX3_nextToken_X3_isDigit
set_option maxRecDepth 20000 in
theorem ggX3_nextToken_X3_readNumber : GoodIn wsX3_nextToken wsX3_readNumber := goodIn_r _ [81, 18, 1, 2, 82, 83, 84, 85, 3, 4, 5, 6, 7, 8, 9, 10, 75, 76, 77, 86, 87, 88, 89, 90, 91, 92, 93] (by decide +kernel) (by decide +kernel)
set_option maxRecDepth 20000 in
theorem gX3_nextToken_X3_readNumber : GoodIn wsX3_nextToken (wsV RX3 121 RX3 yX3_readNumber wsX3_readNumber) := goodIn_app (goodIn_of _ (by decide +kernel)) ggX3_nextToken_X3_readNumber
theorem dX3_nextToken_0 : decode cX3_nextToken 0 = .ok (.aload_n 0, 1) := by decide +kernel
theorem dX3_nextToken_1 : decode cX3_nextToken 1 = .ok (.getfield 31, 3) := by decide +kernel
theorem dX3_nextToken_4 : decode cX3_nextToken 4 = .ok (.aload_n 0, 1) := by decide +kernel
theorem dX3_nextToken_5 : decode cX3_nextToken 5 = .ok (.getfield 15, 3) := by decide +kernel
theorem dX3_nextToken_8 : decode cX3_nextToken 8 = .ok (.if_icmp .ge 29, 3) := by decide +kernel
theorem dX3_nextToken_11 : decode cX3_nextToken 11 = .ok (.aload_n 0, 1) := by decide +kernel
theorem dX3_nextToken_12 : decode cX3_nextToken 12 = .ok (.aload_n 0, 1) := by decide +kernel
theorem dX3_nextToken_13 : decode cX3_nextToken 13 = .ok (.getfield 31, 3) := by decide +kernel
theorem dX3_nextToken_16 : decode cX3_nextToken 16 = .ok (.invokevirtual 108, 3) := by decide +kernel
theorem dX3_nextToken_19 : decode cX3_nextToken 19 = .ok (.bipush 32, 2) := by decide +kernel
theorem dX3_nextToken_21 : decode cX3_nextToken 21 = .ok (.if_icmp .ne 16, 3) := by decide +kernel
theorem dX3_nextToken_24 : decode cX3_nextToken 24 = .ok (.aload_n 0, 1) := by decide +kernel
theorem dX3_nextToken_25 : decode cX3_nextToken 25 = .ok (.dup, 1) := by decide +kernel
theorem dX3_nextToken_26 : decode cX3_nextToken 26 = .ok (.getfield 31, 3) := by decide +kernel
theorem dX3_nextToken_29 : decode cX3_nextToken 29 = .ok (.iconst 1, 1) := by decide +kernel
theorem dX3_nextToken_30 : decode cX3_nextToken 30 = .ok (.iadd, 1) := by decide +kernel
theorem dX3_nextToken_31 : decode cX3_nextToken 31 = .ok (.putfield 31, 3) := by decide +kernel
theorem dX3_nextToken_34 : decode cX3_nextToken 34 = .ok (.goto (-34), 3) := by decide +kernel
theorem dX3_nextToken_37 : decode cX3_nextToken 37 = .ok (.aload_n 0, 1) := by decide +kernel
theorem dX3_nextToken_38 : decode cX3_nextToken 38 = .ok (.aload_n 0, 1) := by decide +kernel
theorem dX3_nextToken_39 : decode cX3_nextToken 39 = .ok (.getfield 31, 3) := by decide +kernel
theorem dX3_nextToken_42 : decode cX3_nextToken 42 = .ok (.putfield 44, 3) := by decide +kernel
theorem dX3_nextToken_45 : decode cX3_nextToken 45 = .ok (.aload_n 0, 1) := by decide +kernel
theorem dX3_nextToken_46 : decode cX3_nextToken 46 = .ok (.aload_n 0, 1) := by decide +kernel
theorem dX3_nextToken_47 : decode cX3_nextToken 47 = .ok (.getfield 31, 3) := by decide +kernel
theorem dX3_nextToken_50 : decode cX3_nextToken 50 = .ok (.invokevirtual 108, 3) := by decide +kernel
theorem dX3_nextToken_53 : decode cX3_nextToken 53 = .ok (.istore_n 1, 1) := by decide +kernel
theorem dX3_nextToken_54 : decode cX3_nextToken 54 = .ok (.iload_n 1, 1) := by decide +kernel
theorem dX3_nextToken_55 : decode cX3_nextToken 55 = .ok (.ifCond .ge 11, 3) := by decide +kernel
theorem dX3_nextToken_58 : decode cX3_nextToken 58 = .ok (.aload_n 0, 1) := by decide +kernel
theorem dX3_nextToken_59 : decode cX3_nextToken 59 = .ok (.iconst 0, 1) := by decide +kernel
theorem dX3_nextToken_60 : decode cX3_nextToken 60 = .ok (.putfield 37, 3) := by decide +kernel
theorem dX3_nextToken_63 : decode cX3_nextToken 63 = .ok (.goto 56, 3) := by decide +kernel
theorem dX3_nextToken_66 : decode cX3_nextToken 66 = .ok (.iload_n 1, 1) := by decide +kernel
theorem dX3_nextToken_67 : decode cX3_nextToken 67 = .ok (.invokestatic 112, 3) := by decide +kernel
theorem dX3_nextToken_70 : decode cX3_nextToken 70 = .ok (.ifCond .eq 10, 3) := by decide +kernel
theorem dX3_nextToken_73 : decode cX3_nextToken 73 = .ok (.aload_n 0, 1) := by decide +kernel
theorem dX3_nextToken_74 : decode cX3_nextToken 74 = .ok (.invokevirtual 115, 3) := by decide +kernel
theorem dX3_nextToken_77 : decode cX3_nextToken 77 = .ok (.goto 42, 3) := by decide +kernel
theorem dX3_nextToken_80 : decode cX3_nextToken 80 = .ok (.iload_n 1, 1) := by decide +kernel
theorem dX3_nextToken_81 : decode cX3_nextToken 81 = .ok (.invokestatic 118, 3) := by decide +kernel
theorem dX3_nextToken_84 : decode cX3_nextToken 84 = .ok (.ifCond .eq 10, 3) := by decide +kernel
theorem dX3_nextToken_87 : decode cX3_nextToken 87 = .ok (.aload_n 0, 1) := by decide +kernel
theorem dX3_nextToken_88 : decode cX3_nextToken 88 = .ok (.invokevirtual 121, 3) := by decide +kernel
theorem dX3_nextToken_91 : decode cX3_nextToken 91 = .ok (.goto 28, 3) := by decide +kernel
theorem dX3_nextToken_94 : decode cX3_nextToken 94 = .ok (.aload_n 0, 1) := by decide +kernel
theorem dX3_nextToken_95 : decode cX3_nextToken 95 = .ok (.iload_n 1, 1) := by decide +kernel
theorem dX3_nextToken_96 : decode cX3_nextToken 96 = .ok (.bipush 59, 2) := by decide +kernel
theorem dX3_nextToken_98 : decode cX3_nextToken 98 = .ok (.if_icmp .ne 7, 3) := by decide +kernel
theorem dX3_nextToken_101 : decode cX3_nextToken 101 = .ok (.iconst 3, 1) := by decide +kernel
theorem dX3_nextToken_102 : decode cX3_nextToken 102 = .ok (.goto 4, 3) := by decide +kernel
theorem dX3_nextToken_105 : decode cX3_nextToken 105 = .ok (.iconst 4, 1) := by decide +kernel
theorem dX3_nextToken_106 : decode cX3_nextToken 106 = .ok (.putfield 37, 3) := by decide +kernel
theorem dX3_nextToken_109 : decode cX3_nextToken 109 = .ok (.aload_n 0, 1) := by decide +kernel
theorem dX3_nextToken_110 : decode cX3_nextToken 110 = .ok (.dup, 1) := by decide +kernel
theorem dX3_nextToken_111 : decode cX3_nextToken 111 = .ok (.getfield 31, 3) := by decide +kernel
theorem dX3_nextToken_114 : decode cX3_nextToken 114 = .ok (.iconst 1, 1) := by decide +kernel
theorem dX3_nextToken_115 : decode cX3_nextToken 115 = .ok (.iadd, 1) := by decide +kernel
theorem dX3_nextToken_116 : decode cX3_nextToken 116 = .ok (.putfield 31, 3) := by decide +kernel
theorem dX3_nextToken_119 : decode cX3_nextToken 119 = .ok (.return_, 1) := by decide +kernel
set_option maxRecDepth 20000 in
theorem ggX3_readWord_X3_byteAt : GoodIn wsX3_readWord wsX3_byteAt := goodIn_r _ [9, 2, 10, 71, 72, 73, 74, 75, 76, 77, 78] (by decide +kernel) (by decide +kernel)
set_option maxRecDepth 20000 in
theorem gX3_readWord_X3_byteAt : GoodIn wsX3_readWord (wsV RX3 108 RX3 yX3_byteAt wsX3_byteAt) := goodIn_app (goodIn_of _ (by decide +kernel)) ggX3_readWord_X3_byteAt
set_option maxRecDepth 20000 in
theorem ggX3_readWord_X3_isLetter : GoodIn wsX3_readWord wsX3_isLetter := goodIn_r _ [13] (by decide +kernel) (by decide +kernel)
set_option maxRecDepth 20000 in
theorem gX3_readWord_X3_isLetter : GoodIn wsX3_readWord (va_wsS RX3 112 yX3_isLetter wsX3_isLetter) := goodIn_app (goodIn_of _ (by decide +kernel)) ggX3_readWord_X3_isLetter
set_option maxRecDepth 20000 in
theorem ggX3_readWord_X3_spelling : GoodIn wsX3_readWord wsX3_spelling := goodIn_r _ [16] (by decide +kernel) (by decide +kernel)
set_option maxRecDepth 20000 in
theorem gX3_readWord_X3_spelling : GoodIn wsX3_readWord (va_wsS RX3 124 yX3_spelling wsX3_spelling) := goodIn_app (goodIn_of _ (by decide +kernel)) ggX3_readWord_X3_spelling
set_option maxRecDepth 20000 in
theorem ggX3_readWord_X3_isSpelled : GoodIn wsX3_readWord wsX3_isSpelled := goodIn_r _ [20, 1, 21, 22, 23, 24, 25, 26, 27, 28, 29, 30, 31, 32, 33, 34, 35, 36, 37, 38, 39, 40, 41, 42, 43, 44, 45, 46, 47, 48, 49, 50, 51, 52, 53, 54, 55, 56, 57, 58, 59, 60, 61, 62, 63, 64, 65, 66, 67, 68, 69, 70, 5, 6, 7, 8, 9, 2, 10, 71, 72, 73, 74, 75, 76, 77, 78] (by decide +kernel) (by decide +kernel)
set_option maxRecDepth 20000 in
theorem gX3_readWord_X3_isSpelled : GoodIn wsX3_readWord (wsV RX3 128 RX3 yX3_isSpelled wsX3_isSpelled) := goodIn_app (goodIn_of _ (by decide +kernel)) ggX3_readWord_X3_isSpelled
theorem dX3_readWord_0 : decode cX3_readWord 0 = .ok (.aload_n 0, 1) := by decide +kernel
theorem dX3_readWord_1 : decode cX3_readWord 1 = .ok (.getfield 31, 3) := by decide +kernel
theorem dX3_readWord_4 : decode cX3_readWord 4 = .ok (.aload_n 0, 1) := by decide +kernel
theorem dX3_readWord_5 : decode cX3_readWord 5 = .ok (.getfield 15, 3) := by decide +kernel
theorem dX3_readWord_8 : decode cX3_readWord 8 = .ok (.if_icmp .ge 30, 3) := by decide +kernel
theorem dX3_readWord_11 : decode cX3_readWord 11 = .ok (.aload_n 0, 1) := by decide +kernel
theorem dX3_readWord_12 : decode cX3_readWord 12 = .ok (.aload_n 0, 1) := by decide +kernel
theorem dX3_readWord_13 : decode cX3_readWord 13 = .ok (.getfield 31, 3) := by decide +kernel
theorem dX3_readWord_16 : decode cX3_readWord 16 = .ok (.invokevirtual 108, 3) := by decide +kernel
theorem dX3_readWord_19 : decode cX3_readWord 19 = .ok (.invokestatic 112, 3) := by decide +kernel
theorem dX3_readWord_22 : decode cX3_readWord 22 = .ok (.ifCond .eq 16, 3) := by decide +kernel
theorem dX3_readWord_25 : decode cX3_readWord 25 = .ok (.aload_n 0, 1) := by decide +kernel
theorem dX3_readWord_26 : decode cX3_readWord 26 = .ok (.dup, 1) := by decide +kernel
theorem dX3_readWord_27 : decode cX3_readWord 27 = .ok (.getfield 31, 3) := by decide +kernel
theorem dX3_readWord_30 : decode cX3_readWord 30 = .ok (.iconst 1, 1) := by decide +kernel
theorem dX3_readWord_31 : decode cX3_readWord 31 = .ok (.iadd, 1) := by decide +kernel
theorem dX3_readWord_32 : decode cX3_readWord 32 = .ok (.putfield 31, 3) := by decide +kernel
theorem dX3_readWord_35 : decode cX3_readWord 35 = .ok (.goto (-35), 3) := by decide +kernel
theorem dX3_readWord_38 : decode cX3_readWord 38 = .ok (.aload_n 0, 1) := by decide +kernel
theorem dX3_readWord_39 : decode cX3_readWord 39 = .ok (.iconst 4, 1) := by decide +kernel
theorem dX3_readWord_40 : decode cX3_readWord 40 = .ok (.putfield 37, 3) := by decide +kernel
theorem dX3_readWord_43 : decode cX3_readWord 43 = .ok (.iconst 0, 1) := by decide +kernel
theorem dX3_readWord_44 : decode cX3_readWord 44 = .ok (.istore_n 1, 1) := by decide +kernel
theorem dX3_readWord_45 : decode cX3_readWord 45 = .ok (.iload_n 1, 1) := by decide +kernel
theorem dX3_readWord_46 : decode cX3_readWord 46 = .ok (.bipush 11, 2) := by decide +kernel
theorem dX3_readWord_48 : decode cX3_readWord 48 = .ok (.if_icmp .ge 30, 3) := by decide +kernel
theorem dX3_readWord_51 : decode cX3_readWord 51 = .ok (.aload_n 0, 1) := by decide +kernel
theorem dX3_readWord_52 : decode cX3_readWord 52 = .ok (.iload_n 1, 1) := by decide +kernel
theorem dX3_readWord_53 : decode cX3_readWord 53 = .ok (.invokestatic 124, 3) := by decide +kernel
theorem dX3_readWord_56 : decode cX3_readWord 56 = .ok (.invokevirtual 128, 3) := by decide +kernel
theorem dX3_readWord_59 : decode cX3_readWord 59 = .ok (.ifCond .eq 13, 3) := by decide +kernel
theorem dX3_readWord_62 : decode cX3_readWord 62 = .ok (.aload_n 0, 1) := by decide +kernel
theorem dX3_readWord_63 : decode cX3_readWord 63 = .ok (.iconst 1, 1) := by decide +kernel
theorem dX3_readWord_64 : decode cX3_readWord 64 = .ok (.putfield 37, 3) := by decide +kernel
theorem dX3_readWord_67 : decode cX3_readWord 67 = .ok (.aload_n 0, 1) := by decide +kernel
theorem dX3_readWord_68 : decode cX3_readWord 68 = .ok (.iload_n 1, 1) := by decide +kernel
theorem dX3_readWord_69 : decode cX3_readWord 69 = .ok (.putfield 47, 3) := by decide +kernel
theorem dX3_readWord_72 : decode cX3_readWord 72 = .ok (.iinc 1 1, 3) := by decide +kernel
theorem dX3_readWord_75 : decode cX3_readWord 75 = .ok (.goto (-30), 3) := by decide +kernel
theorem dX3_readWord_78 : decode cX3_readWord 78 = .ok (.return_, 1) := by decide +kernel
set_option maxRecDepth 20000 in
theorem ggX3_isSpelled_J0_length_8abf5 : GoodIn wsX3_isSpelled wsJ0_length_8abf5 := goodIn_r _ [7, 8, 9, 10, 11, 6, 12, 13, 14] (by decide +kernel) (by decide +kernel)
set_option maxRecDepth 20000 in
theorem gX3_isSpelled_J0_length_8abf5 : GoodIn wsX3_isSpelled (wsV RX3 132 RJ0 yJ0_length_8abf5 wsJ0_length_8abf5) := goodIn_app (goodIn_of _ (by decide +kernel)) ggX3_isSpelled_J0_length_8abf5
set_option maxRecDepth 20000 in
theorem ggX3_isSpelled_J0_charAt_5068e : GoodIn wsX3_isSpelled wsJ0_charAt_5068e := goodIn_r _ [18, 8, 19, 20, 21, 6, 22, 13, 14, 23, 24, 25, 26, 27, 28, 29, 30, 31, 32, 33, 34, 35, 36, 37, 38, 39, 40, 41, 42, 43, 44, 45, 46, 47, 48, 49, 50, 51] (by decide +kernel) (by decide +kernel)
set_option maxRecDepth 20000 in
theorem gX3_isSpelled_J0_charAt_5068e : GoodIn wsX3_isSpelled (wsV RX3 137 RJ0 yJ0_charAt_5068e wsJ0_charAt_5068e) := goodIn_app (goodIn_of _ (by decide +kernel)) ggX3_isSpelled_J0_charAt_5068e
set_option maxRecDepth 20000 in
theorem ggX3_isSpelled_X3_byteAt : GoodIn wsX3_isSpelled wsX3_byteAt := goodIn_r _ [56, 57, 58, 59, 60, 61, 62, 63, 64, 65, 66] (by decide +kernel) (by decide +kernel)
set_option maxRecDepth 20000 in
theorem gX3_isSpelled_X3_byteAt : GoodIn wsX3_isSpelled (wsV RX3 108 RX3 yX3_byteAt wsX3_byteAt) := goodIn_app (goodIn_of _ (by decide +kernel)) ggX3_isSpelled_X3_byteAt
theorem dX3_isSpelled_0 : decode cX3_isSpelled 0 = .ok (.aload_n 1, 1) := by decide +kernel
theorem dX3_isSpelled_1 : decode cX3_isSpelled 1 = .ok (.invokevirtual 132, 3) := by decide +kernel
theorem dX3_isSpelled_4 : decode cX3_isSpelled 4 = .ok (.aload_n 0, 1) := by decide +kernel
theorem dX3_isSpelled_5 : decode cX3_isSpelled 5 = .ok (.getfield 31, 3) := by decide +kernel
theorem dX3_isSpelled_8 : decode cX3_isSpelled 8 = .ok (.aload_n 0, 1) := by decide +kernel
theorem dX3_isSpelled_9 : decode cX3_isSpelled 9 = .ok (.getfield 44, 3) := by decide +kernel
theorem dX3_isSpelled_12 : decode cX3_isSpelled 12 = .ok (.isub, 1) := by decide +kernel
theorem dX3_isSpelled_13 : decode cX3_isSpelled 13 = .ok (.if_icmp .eq 5, 3) := by decide +kernel
theorem dX3_isSpelled_16 : decode cX3_isSpelled 16 = .ok (.iconst 0, 1) := by decide +kernel
theorem dX3_isSpelled_17 : decode cX3_isSpelled 17 = .ok (.ireturn, 1) := by decide +kernel
theorem dX3_isSpelled_18 : decode cX3_isSpelled 18 = .ok (.iconst 0, 1) := by decide +kernel
theorem dX3_isSpelled_19 : decode cX3_isSpelled 19 = .ok (.istore_n 2, 1) := by decide +kernel
theorem dX3_isSpelled_20 : decode cX3_isSpelled 20 = .ok (.iload_n 2, 1) := by decide +kernel
theorem dX3_isSpelled_21 : decode cX3_isSpelled 21 = .ok (.aload_n 1, 1) := by decide +kernel
theorem dX3_isSpelled_22 : decode cX3_isSpelled 22 = .ok (.invokevirtual 132, 3) := by decide +kernel
theorem dX3_isSpelled_25 : decode cX3_isSpelled 25 = .ok (.if_icmp .ge 29, 3) := by decide +kernel
theorem dX3_isSpelled_28 : decode cX3_isSpelled 28 = .ok (.aload_n 1, 1) := by decide +kernel
theorem dX3_isSpelled_29 : decode cX3_isSpelled 29 = .ok (.iload_n 2, 1) := by decide +kernel
theorem dX3_isSpelled_30 : decode cX3_isSpelled 30 = .ok (.invokevirtual 137, 3) := by decide +kernel
theorem dX3_isSpelled_33 : decode cX3_isSpelled 33 = .ok (.aload_n 0, 1) := by decide +kernel
theorem dX3_isSpelled_34 : decode cX3_isSpelled 34 = .ok (.aload_n 0, 1) := by decide +kernel
theorem dX3_isSpelled_35 : decode cX3_isSpelled 35 = .ok (.getfield 44, 3) := by decide +kernel
theorem dX3_isSpelled_38 : decode cX3_isSpelled 38 = .ok (.iload_n 2, 1) := by decide +kernel
theorem dX3_isSpelled_39 : decode cX3_isSpelled 39 = .ok (.iadd, 1) := by decide +kernel
theorem dX3_isSpelled_40 : decode cX3_isSpelled 40 = .ok (.invokevirtual 108, 3) := by decide +kernel
theorem dX3_isSpelled_43 : decode cX3_isSpelled 43 = .ok (.if_icmp .eq 5, 3) := by decide +kernel
theorem dX3_isSpelled_46 : decode cX3_isSpelled 46 = .ok (.iconst 0, 1) := by decide +kernel
theorem dX3_isSpelled_47 : decode cX3_isSpelled 47 = .ok (.ireturn, 1) := by decide +kernel
theorem dX3_isSpelled_48 : decode cX3_isSpelled 48 = .ok (.iinc 2 1, 3) := by decide +kernel
theorem dX3_isSpelled_51 : decode cX3_isSpelled 51 = .ok (.goto (-31), 3) := by decide +kernel
theorem dX3_isSpelled_54 : decode cX3_isSpelled 54 = .ok (.iconst 1, 1) := by decide +kernel
theorem dX3_isSpelled_55 : decode cX3_isSpelled 55 = .ok (.ireturn, 1) := by decide +kernel
set_option maxRecDepth 20000 in
theorem ggX3_readNumber_X3_byteAt : GoodIn wsX3_readNumber wsX3_byteAt := goodIn_r _ [14, 3, 15, 19, 20, 21, 22, 23, 24, 25, 26] (by decide +kernel) (by decide +kernel)
set_option maxRecDepth 20000 in
theorem gX3_readNumber_X3_byteAt : GoodIn wsX3_readNumber (wsV RX3 108 RX3 yX3_byteAt wsX3_byteAt) := goodIn_app (goodIn_of _ (by decide +kernel)) ggX3_readNumber_X3_byteAt
set_option maxRecDepth 20000 in
theorem ggX3_readNumber_X3_isDigit : GoodIn wsX3_readNumber wsX3_isDigit := goodIn_r _ [18] (by decide +kernel) (by decide +kernel)
set_option maxRecDepth 20000 in
theorem gX3_readNumber_X3_isDigit : GoodIn wsX3_readNumber (va_wsS RX3 118 yX3_isDigit wsX3_isDigit) := goodIn_app (goodIn_of _ (by decide +kernel)) ggX3_readNumber_X3_isDigit
theorem dX3_readNumber_0 : decode cX3_readNumber 0 = .ok (.aload_n 0, 1) := by decide +kernel
theorem dX3_readNumber_1 : decode cX3_readNumber 1 = .ok (.iconst 0, 1) := by decide +kernel
theorem dX3_readNumber_2 : decode cX3_readNumber 2 = .ok (.putfield 47, 3) := by decide +kernel
theorem dX3_readNumber_5 : decode cX3_readNumber 5 = .ok (.aload_n 0, 1) := by decide +kernel
theorem dX3_readNumber_6 : decode cX3_readNumber 6 = .ok (.getfield 31, 3) := by decide +kernel
theorem dX3_readNumber_9 : decode cX3_readNumber 9 = .ok (.aload_n 0, 1) := by decide +kernel
theorem dX3_readNumber_10 : decode cX3_readNumber 10 = .ok (.getfield 15, 3) := by decide +kernel
theorem dX3_readNumber_13 : decode cX3_readNumber 13 = .ok (.if_icmp .ge 58, 3) := by decide +kernel
theorem dX3_readNumber_16 : decode cX3_readNumber 16 = .ok (.aload_n 0, 1) := by decide +kernel
theorem dX3_readNumber_17 : decode cX3_readNumber 17 = .ok (.aload_n 0, 1) := by decide +kernel
theorem dX3_readNumber_18 : decode cX3_readNumber 18 = .ok (.getfield 31, 3) := by decide +kernel
theorem dX3_readNumber_21 : decode cX3_readNumber 21 = .ok (.invokevirtual 108, 3) := by decide +kernel
theorem dX3_readNumber_24 : decode cX3_readNumber 24 = .ok (.invokestatic 118, 3) := by decide +kernel
theorem dX3_readNumber_27 : decode cX3_readNumber 27 = .ok (.ifCond .eq 44, 3) := by decide +kernel
theorem dX3_readNumber_30 : decode cX3_readNumber 30 = .ok (.aload_n 0, 1) := by decide +kernel
theorem dX3_readNumber_31 : decode cX3_readNumber 31 = .ok (.bipush 100, 2) := by decide +kernel
theorem dX3_readNumber_33 : decode cX3_readNumber 33 = .ok (.aload_n 0, 1) := by decide +kernel
theorem dX3_readNumber_34 : decode cX3_readNumber 34 = .ok (.getfield 47, 3) := by decide +kernel
theorem dX3_readNumber_37 : decode cX3_readNumber 37 = .ok (.bipush 10, 2) := by decide +kernel
theorem dX3_readNumber_39 : decode cX3_readNumber 39 = .ok (.imul, 1) := by decide +kernel
theorem dX3_readNumber_40 : decode cX3_readNumber 40 = .ok (.aload_n 0, 1) := by decide +kernel
theorem dX3_readNumber_41 : decode cX3_readNumber 41 = .ok (.aload_n 0, 1) := by decide +kernel
theorem dX3_readNumber_42 : decode cX3_readNumber 42 = .ok (.getfield 31, 3) := by decide +kernel
theorem dX3_readNumber_45 : decode cX3_readNumber 45 = .ok (.invokevirtual 108, 3) := by decide +kernel
theorem dX3_readNumber_48 : decode cX3_readNumber 48 = .ok (.iadd, 1) := by decide +kernel
theorem dX3_readNumber_49 : decode cX3_readNumber 49 = .ok (.bipush 48, 2) := by decide +kernel
theorem dX3_readNumber_51 : decode cX3_readNumber 51 = .ok (.isub, 1) := by decide +kernel
theorem dX3_readNumber_52 : decode cX3_readNumber 52 = .ok (.invokestatic 141, 3) := by decide +kernel
theorem dX3_readNumber_55 : decode cX3_readNumber 55 = .ok (.putfield 47, 3) := by decide +kernel
theorem dX3_readNumber_58 : decode cX3_readNumber 58 = .ok (.aload_n 0, 1) := by decide +kernel
theorem dX3_readNumber_59 : decode cX3_readNumber 59 = .ok (.dup, 1) := by decide +kernel
theorem dX3_readNumber_60 : decode cX3_readNumber 60 = .ok (.getfield 31, 3) := by decide +kernel
theorem dX3_readNumber_63 : decode cX3_readNumber 63 = .ok (.iconst 1, 1) := by decide +kernel
theorem dX3_readNumber_64 : decode cX3_readNumber 64 = .ok (.iadd, 1) := by decide +kernel
theorem dX3_readNumber_65 : decode cX3_readNumber 65 = .ok (.putfield 31, 3) := by decide +kernel
theorem dX3_readNumber_68 : decode cX3_readNumber 68 = .ok (.goto (-63), 3) := by decide +kernel
theorem dX3_readNumber_71 : decode cX3_readNumber 71 = .ok (.aload_n 0, 1) := by decide +kernel
theorem dX3_readNumber_72 : decode cX3_readNumber 72 = .ok (.aload_n 0, 1) := by decide +kernel
theorem dX3_readNumber_73 : decode cX3_readNumber 73 = .ok (.getfield 44, 3) := by decide +kernel
theorem dX3_readNumber_76 : decode cX3_readNumber 76 = .ok (.invokevirtual 108, 3) := by decide +kernel
theorem dX3_readNumber_79 : decode cX3_readNumber 79 = .ok (.bipush 48, 2) := by decide +kernel
theorem dX3_readNumber_81 : decode cX3_readNumber 81 = .ok (.if_icmp .ne 20, 3) := by decide +kernel
theorem dX3_readNumber_84 : decode cX3_readNumber 84 = .ok (.aload_n 0, 1) := by decide +kernel
theorem dX3_readNumber_85 : decode cX3_readNumber 85 = .ok (.getfield 31, 3) := by decide +kernel
theorem dX3_readNumber_88 : decode cX3_readNumber 88 = .ok (.aload_n 0, 1) := by decide +kernel
theorem dX3_readNumber_89 : decode cX3_readNumber 89 = .ok (.getfield 44, 3) := by decide +kernel
theorem dX3_readNumber_92 : decode cX3_readNumber 92 = .ok (.isub, 1) := by decide +kernel
theorem dX3_readNumber_93 : decode cX3_readNumber 93 = .ok (.iconst 1, 1) := by decide +kernel
theorem dX3_readNumber_94 : decode cX3_readNumber 94 = .ok (.if_icmp .le 7, 3) := by decide +kernel
theorem dX3_readNumber_97 : decode cX3_readNumber 97 = .ok (.iconst 1, 1) := by decide +kernel
theorem dX3_readNumber_98 : decode cX3_readNumber 98 = .ok (.goto 4, 3) := by decide +kernel
theorem dX3_readNumber_101 : decode cX3_readNumber 101 = .ok (.iconst 0, 1) := by decide +kernel
theorem dX3_readNumber_102 : decode cX3_readNumber 102 = .ok (.istore_n 1, 1) := by decide +kernel
theorem dX3_readNumber_103 : decode cX3_readNumber 103 = .ok (.aload_n 0, 1) := by decide +kernel
theorem dX3_readNumber_104 : decode cX3_readNumber 104 = .ok (.iload_n 1, 1) := by decide +kernel
theorem dX3_readNumber_105 : decode cX3_readNumber 105 = .ok (.ifCond .ne 12, 3) := by decide +kernel
theorem dX3_readNumber_108 : decode cX3_readNumber 108 = .ok (.aload_n 0, 1) := by decide +kernel
theorem dX3_readNumber_109 : decode cX3_readNumber 109 = .ok (.getfield 47, 3) := by decide +kernel
theorem dX3_readNumber_112 : decode cX3_readNumber 112 = .ok (.bipush 99, 2) := by decide +kernel
theorem dX3_readNumber_114 : decode cX3_readNumber 114 = .ok (.if_icmp .le 7, 3) := by decide +kernel
theorem dX3_readNumber_117 : decode cX3_readNumber 117 = .ok (.iconst 4, 1) := by decide +kernel
theorem dX3_readNumber_118 : decode cX3_readNumber 118 = .ok (.goto 4, 3) := by decide +kernel
theorem dX3_readNumber_121 : decode cX3_readNumber 121 = .ok (.iconst 2, 1) := by decide +kernel
theorem dX3_readNumber_122 : decode cX3_readNumber 122 = .ok (.putfield 37, 3) := by decide +kernel
theorem dX3_readNumber_125 : decode cX3_readNumber 125 = .ok (.return_, 1) := by decide +kernel
theorem dX3_isLetter_0 : decode cX3_isLetter 0 = .ok (.iload_n 0, 1) := by decide +kernel
theorem dX3_isLetter_1 : decode cX3_isLetter 1 = .ok (.bipush 97, 2) := by decide +kernel
theorem dX3_isLetter_3 : decode cX3_isLetter 3 = .ok (.if_icmp .lt 13, 3) := by decide +kernel
theorem dX3_isLetter_6 : decode cX3_isLetter 6 = .ok (.iload_n 0, 1) := by decide +kernel
theorem dX3_isLetter_7 : decode cX3_isLetter 7 = .ok (.bipush 122, 2) := by decide +kernel
theorem dX3_isLetter_9 : decode cX3_isLetter 9 = .ok (.if_icmp .gt 7, 3) := by decide +kernel
theorem dX3_isLetter_12 : decode cX3_isLetter 12 = .ok (.iconst 1, 1) := by decide +kernel
theorem dX3_isLetter_13 : decode cX3_isLetter 13 = .ok (.goto 4, 3) := by decide +kernel
theorem dX3_isLetter_16 : decode cX3_isLetter 16 = .ok (.iconst 0, 1) := by decide +kernel
theorem dX3_isLetter_17 : decode cX3_isLetter 17 = .ok (.ireturn, 1) := by decide +kernel
theorem dX3_isDigit_0 : decode cX3_isDigit 0 = .ok (.iload_n 0, 1) := by decide +kernel
theorem dX3_isDigit_1 : decode cX3_isDigit 1 = .ok (.bipush 48, 2) := by decide +kernel
theorem dX3_isDigit_3 : decode cX3_isDigit 3 = .ok (.if_icmp .lt 13, 3) := by decide +kernel
theorem dX3_isDigit_6 : decode cX3_isDigit 6 = .ok (.iload_n 0, 1) := by decide +kernel
theorem dX3_isDigit_7 : decode cX3_isDigit 7 = .ok (.bipush 57, 2) := by decide +kernel
theorem dX3_isDigit_9 : decode cX3_isDigit 9 = .ok (.if_icmp .gt 7, 3) := by decide +kernel
theorem dX3_isDigit_12 : decode cX3_isDigit 12 = .ok (.iconst 1, 1) := by decide +kernel
theorem dX3_isDigit_13 : decode cX3_isDigit 13 = .ok (.goto 4, 3) := by decide +kernel
theorem dX3_isDigit_16 : decode cX3_isDigit 16 = .ok (.iconst 0, 1) := by decide +kernel
theorem dX3_isDigit_17 : decode cX3_isDigit 17 = .ok (.ireturn, 1) := by decide +kernel
theorem dX3_spelling_0 : decode cX3_spelling 0 = .ok (.iload_n 0, 1) := by decide +kernel
theorem dX3_spelling_1 : decode cX3_spelling 1 = .ok (.tableswitch 85 0 9 #[55, 58, 61, 64, 67, 70, 73, 76, 79, 82], 55) := by decide +kernel
theorem dX3_spelling_56 : decode cX3_spelling 56 = .ok (.ldc 146, 2) := by decide +kernel
theorem dX3_spelling_58 : decode cX3_spelling 58 = .ok (.areturn, 1) := by decide +kernel
theorem dX3_spelling_59 : decode cX3_spelling 59 = .ok (.ldc 148, 2) := by decide +kernel
theorem dX3_spelling_61 : decode cX3_spelling 61 = .ok (.areturn, 1) := by decide +kernel
theorem dX3_spelling_62 : decode cX3_spelling 62 = .ok (.ldc 150, 2) := by decide +kernel
theorem dX3_spelling_64 : decode cX3_spelling 64 = .ok (.areturn, 1) := by decide +kernel
theorem dX3_spelling_65 : decode cX3_spelling 65 = .ok (.ldc 152, 2) := by decide +kernel
theorem dX3_spelling_67 : decode cX3_spelling 67 = .ok (.areturn, 1) := by decide +kernel
theorem dX3_spelling_68 : decode cX3_spelling 68 = .ok (.ldc 154, 2) := by decide +kernel
theorem dX3_spelling_70 : decode cX3_spelling 70 = .ok (.areturn, 1) := by decide +kernel
theorem dX3_spelling_71 : decode cX3_spelling 71 = .ok (.ldc 156, 2) := by decide +kernel
theorem dX3_spelling_73 : decode cX3_spelling 73 = .ok (.areturn, 1) := by decide +kernel
theorem dX3_spelling_74 : decode cX3_spelling 74 = .ok (.ldc 157, 2) := by decide +kernel
theorem dX3_spelling_76 : decode cX3_spelling 76 = .ok (.areturn, 1) := by decide +kernel
theorem dX3_spelling_77 : decode cX3_spelling 77 = .ok (.ldc 158, 2) := by decide +kernel
theorem dX3_spelling_79 : decode cX3_spelling 79 = .ok (.areturn, 1) := by decide +kernel
theorem dX3_spelling_80 : decode cX3_spelling 80 = .ok (.ldc 159, 2) := by decide +kernel
theorem dX3_spelling_82 : decode cX3_spelling 82 = .ok (.areturn, 1) := by decide +kernel
theorem dX3_spelling_83 : decode cX3_spelling 83 = .ok (.ldc 160, 2) := by decide +kernel
theorem dX3_spelling_85 : decode cX3_spelling 85 = .ok (.areturn, 1) := by decide +kernel
theorem dX3_spelling_86 : decode cX3_spelling 86 = .ok (.ldc 162, 2) := by decide +kernel
theorem dX3_spelling_88 : decode cX3_spelling 88 = .ok (.areturn, 1) := by decide +kernel
set_option maxRecDepth 20000 in
theorem ggX4_init_X3_init : GoodIn wsX4_init wsX3_init := goodIn_r _ [23, 24, 2, 3, 25, 26, 55, 56, 57, 58, 59, 60, 61, 62] (by decide +kernel) (by decide +kernel)
set_option maxRecDepth 20000 in
theorem gX4_init_X3_init_n11 : GoodIn wsX4_init (wsX3_init) := ggX4_init_X3_init
set_option maxRecDepth 20000 in
theorem ggX4_init_X2_init : GoodIn wsX4_init wsX2_init := goodIn_r _ [28, 29, 2, 3, 30, 31, 25, 32, 33, 70, 71, 72, 73, 74] (by decide +kernel) (by decide +kernel)
set_option maxRecDepth 20000 in
theorem gX4_init_X2_init_n18 : GoodIn wsX4_init (wsX2_init) := ggX4_init_X2_init
set_option maxRecDepth 20000 in
theorem ggX4_init_X0_init : GoodIn wsX4_init wsX0_init := goodIn_r _ [35, 36, 2, 3] (by decide +kernel) (by decide +kernel)
set_option maxRecDepth 20000 in
theorem gX4_init_X0_init_n25 : GoodIn wsX4_init (wsX0_init) := ggX4_init_X0_init
set_option maxRecDepth 20000 in
theorem ggX4_init_X1_init : GoodIn wsX4_init wsX1_init := goodIn_r _ [38, 39, 2, 3, 25, 40, 41, 42, 43, 44, 19, 45, 46, 47, 48, 49, 50, 51, 52, 53, 54, 83, 84, 85, 86, 87, 88, 89, 90, 91, 92, 93] (by decide +kernel) (by decide +kernel)
set_option maxRecDepth 20000 in
theorem gX4_init_X1_init_n36 : GoodIn wsX4_init (wsX1_init) := ggX4_init_X1_init
theorem dX4_init_0 : decode cX4_init 0 = .ok (.aload_n 0, 1) := by decide +kernel
theorem dX4_init_1 : decode cX4_init 1 = .ok (.invokespecial 3, 3) := by decide +kernel
theorem dX4_init_4 : decode cX4_init 4 = .ok (.aload_n 0, 1) := by decide +kernel
theorem dX4_init_5 : decode cX4_init 5 = .ok (.new 9, 3) := by decide +kernel
theorem dX4_init_8 : decode cX4_init 8 = .ok (.dup, 1) := by decide +kernel
theorem dX4_init_9 : decode cX4_init 9 = .ok (.invokespecial 11, 3) := by decide +kernel
theorem dX4_init_12 : decode cX4_init 12 = .ok (.putfield 12, 3) := by decide +kernel
theorem dX4_init_15 : decode cX4_init 15 = .ok (.aload_n 0, 1) := by decide +kernel
theorem dX4_init_16 : decode cX4_init 16 = .ok (.new 16, 3) := by decide +kernel
theorem dX4_init_19 : decode cX4_init 19 = .ok (.dup, 1) := by decide +kernel
theorem dX4_init_20 : decode cX4_init 20 = .ok (.invokespecial 18, 3) := by decide +kernel
theorem dX4_init_23 : decode cX4_init 23 = .ok (.putfield 19, 3) := by decide +kernel
theorem dX4_init_26 : decode cX4_init 26 = .ok (.aload_n 0, 1) := by decide +kernel
theorem dX4_init_27 : decode cX4_init 27 = .ok (.new 23, 3) := by decide +kernel
theorem dX4_init_30 : decode cX4_init 30 = .ok (.dup, 1) := by decide +kernel
theorem dX4_init_31 : decode cX4_init 31 = .ok (.invokespecial 25, 3) := by decide +kernel
theorem dX4_init_34 : decode cX4_init 34 = .ok (.putfield 26, 3) := by decide +kernel
theorem dX4_init_37 : decode cX4_init 37 = .ok (.aload_n 0, 1) := by decide +kernel
theorem dX4_init_38 : decode cX4_init 38 = .ok (.iconst 2, 1) := by decide +kernel
theorem dX4_init_39 : decode cX4_init 39 = .ok (.anewarray 23, 3) := by decide +kernel
theorem dX4_init_42 : decode cX4_init 42 = .ok (.dup, 1) := by decide +kernel
theorem dX4_init_43 : decode cX4_init 43 = .ok (.iconst 0, 1) := by decide +kernel
theorem dX4_init_44 : decode cX4_init 44 = .ok (.new 23, 3) := by decide +kernel
theorem dX4_init_47 : decode cX4_init 47 = .ok (.dup, 1) := by decide +kernel
theorem dX4_init_48 : decode cX4_init 48 = .ok (.invokespecial 25, 3) := by decide +kernel
theorem dX4_init_51 : decode cX4_init 51 = .ok (.aastore, 1) := by decide +kernel
theorem dX4_init_52 : decode cX4_init 52 = .ok (.dup, 1) := by decide +kernel
theorem dX4_init_53 : decode cX4_init 53 = .ok (.iconst 1, 1) := by decide +kernel
theorem dX4_init_54 : decode cX4_init 54 = .ok (.new 23, 3) := by decide +kernel
theorem dX4_init_57 : decode cX4_init 57 = .ok (.dup, 1) := by decide +kernel
theorem dX4_init_58 : decode cX4_init 58 = .ok (.invokespecial 25, 3) := by decide +kernel
theorem dX4_init_61 : decode cX4_init 61 = .ok (.aastore, 1) := by decide +kernel
theorem dX4_init_62 : decode cX4_init 62 = .ok (.putfield 30, 3) := by decide +kernel
theorem dX4_init_65 : decode cX4_init 65 = .ok (.aload_n 0, 1) := by decide +kernel
theorem dX4_init_66 : decode cX4_init 66 = .ok (.new 34, 3) := by decide +kernel
theorem dX4_init_69 : decode cX4_init 69 = .ok (.dup, 1) := by decide +kernel
theorem dX4_init_70 : decode cX4_init 70 = .ok (.invokespecial 36, 3) := by decide +kernel
theorem dX4_init_73 : decode cX4_init 73 = .ok (.putfield 37, 3) := by decide +kernel
theorem dX4_init_76 : decode cX4_init 76 = .ok (.aload_n 0, 1) := by decide +kernel
theorem dX4_init_77 : decode cX4_init 77 = .ok (.new 34, 3) := by decide +kernel
theorem dX4_init_80 : decode cX4_init 80 = .ok (.dup, 1) := by decide +kernel
theorem dX4_init_81 : decode cX4_init 81 = .ok (.invokespecial 36, 3) := by decide +kernel
theorem dX4_init_84 : decode cX4_init 84 = .ok (.putfield 41, 3) := by decide +kernel
theorem dX4_init_87 : decode cX4_init 87 = .ok (.return_, 1) := by decide +kernel
set_option maxRecDepth 20000 in
theorem ggX4_type_X3_append : GoodIn wsX4_type wsX3_append := goodIn_r _ [5, 6, 7, 15, 16, 17, 18, 19, 20, 21, 22] (by decide +kernel) (by decide +kernel)
set_option maxRecDepth 20000 in
theorem gX4_type_X3_append_n48 : GoodIn wsX4_type (wsX3_append) := ggX4_type_X3_append
theorem dX4_type_0 : decode cX4_type 0 = .ok (.iload_n 3, 1) := by decide +kernel
theorem dX4_type_1 : decode cX4_type 1 = .ok (.iconst 1, 1) := by decide +kernel
theorem dX4_type_2 : decode cX4_type 2 = .ok (.if_icmp .lt 9, 3) := by decide +kernel
theorem dX4_type_5 : decode cX4_type 5 = .ok (.iload_n 3, 1) := by decide +kernel
theorem dX4_type_6 : decode cX4_type 6 = .ok (.bipush 8, 2) := by decide +kernel
theorem dX4_type_8 : decode cX4_type 8 = .ok (.if_icmp .le 5, 3) := by decide +kernel
theorem dX4_type_11 : decode cX4_type 11 = .ok (.iconst (-1), 1) := by decide +kernel
theorem dX4_type_12 : decode cX4_type 12 = .ok (.ireturn, 1) := by decide +kernel
theorem dX4_type_13 : decode cX4_type 13 = .ok (.iload_n 3, 1) := by decide +kernel
theorem dX4_type_14 : decode cX4_type 14 = .ok (.sipush 200, 3) := by decide +kernel
theorem dX4_type_17 : decode cX4_type 17 = .ok (.aload_n 0, 1) := by decide +kernel
theorem dX4_type_18 : decode cX4_type 18 = .ok (.getfield 12, 3) := by decide +kernel
theorem dX4_type_21 : decode cX4_type 21 = .ok (.getfield 44, 3) := by decide +kernel
theorem dX4_type_24 : decode cX4_type 24 = .ok (.isub, 1) := by decide +kernel
theorem dX4_type_25 : decode cX4_type 25 = .ok (.if_icmp .le 6, 3) := by decide +kernel
theorem dX4_type_28 : decode cX4_type 28 = .ok (.bipush (-3), 2) := by decide +kernel
theorem dX4_type_30 : decode cX4_type 30 = .ok (.ireturn, 1) := by decide +kernel
theorem dX4_type_31 : decode cX4_type 31 = .ok (.iload_n 3, 1) := by decide +kernel
theorem dX4_type_32 : decode cX4_type 32 = .ok (.iconst 1, 1) := by decide +kernel
theorem dX4_type_33 : decode cX4_type 33 = .ok (.isub, 1) := by decide +kernel
theorem dX4_type_34 : decode cX4_type 34 = .ok (.istore 4, 2) := by decide +kernel
theorem dX4_type_36 : decode cX4_type 36 = .ok (.iload 4, 2) := by decide +kernel
theorem dX4_type_38 : decode cX4_type 38 = .ok (.ifCond .lt 28, 3) := by decide +kernel
theorem dX4_type_41 : decode cX4_type 41 = .ok (.aload_n 0, 1) := by decide +kernel
theorem dX4_type_42 : decode cX4_type 42 = .ok (.getfield 12, 3) := by decide +kernel
theorem dX4_type_45 : decode cX4_type 45 = .ok (.lload_n 1, 1) := by decide +kernel
theorem dX4_type_46 : decode cX4_type 46 = .ok (.bipush 8, 2) := by decide +kernel
theorem dX4_type_48 : decode cX4_type 48 = .ok (.iload 4, 2) := by decide +kernel
theorem dX4_type_50 : decode cX4_type 50 = .ok (.imul, 1) := by decide +kernel
theorem dX4_type_51 : decode cX4_type 51 = .ok (.lushr, 1) := by decide +kernel
theorem dX4_type_52 : decode cX4_type 52 = .ok (.l2i, 1) := by decide +kernel
theorem dX4_type_53 : decode cX4_type 53 = .ok (.sipush 255, 3) := by decide +kernel
theorem dX4_type_56 : decode cX4_type 56 = .ok (.iand, 1) := by decide +kernel
theorem dX4_type_57 : decode cX4_type 57 = .ok (.invokevirtual 48, 3) := by decide +kernel
theorem dX4_type_60 : decode cX4_type 60 = .ok (.iinc 4 (-1), 3) := by decide +kernel
theorem dX4_type_63 : decode cX4_type 63 = .ok (.goto (-27), 3) := by decide +kernel
theorem dX4_type_66 : decode cX4_type 66 = .ok (.aload_n 0, 1) := by decide +kernel
theorem dX4_type_67 : decode cX4_type 67 = .ok (.getfield 12, 3) := by decide +kernel
theorem dX4_type_70 : decode cX4_type 70 = .ok (.getfield 44, 3) := by decide +kernel
theorem dX4_type_73 : decode cX4_type 73 = .ok (.ireturn, 1) := by decide +kernel
theorem dX4_clear_0 : decode cX4_clear 0 = .ok (.aload_n 0, 1) := by decide +kernel
theorem dX4_clear_1 : decode cX4_clear 1 = .ok (.getfield 12, 3) := by decide +kernel
theorem dX4_clear_4 : decode cX4_clear 4 = .ok (.getfield 44, 3) := by decide +kernel
theorem dX4_clear_7 : decode cX4_clear 7 = .ok (.istore_n 1, 1) := by decide +kernel
theorem dX4_clear_8 : decode cX4_clear 8 = .ok (.aload_n 0, 1) := by decide +kernel
theorem dX4_clear_9 : decode cX4_clear 9 = .ok (.getfield 12, 3) := by decide +kernel
theorem dX4_clear_12 : decode cX4_clear 12 = .ok (.iconst 0, 1) := by decide +kernel
theorem dX4_clear_13 : decode cX4_clear 13 = .ok (.putfield 44, 3) := by decide +kernel
theorem dX4_clear_16 : decode cX4_clear 16 = .ok (.iload_n 1, 1) := by decide +kernel
theorem dX4_clear_17 : decode cX4_clear 17 = .ok (.ireturn, 1) := by decide +kernel
set_option maxRecDepth 20000 in
theorem ggX4_house_X3_tell : GoodIn wsX4_house wsX3_tell := goodIn_r _ [10, 11, 12, 13, 14, 15, 16, 17, 18, 19, 20, 21, 22, 23, 24, 25, 26, 27, 28, 29, 30, 31, 8, 32, 33, 34, 35, 36, 37, 38, 39, 40, 41, 42, 43, 44, 45, 46, 47, 48, 49, 50, 51, 52, 53, 54, 55, 56, 57, 58, 59, 60, 61, 62, 63, 64, 65, 66, 67, 68, 69, 70, 71, 72, 73, 74, 75, 76, 77, 78, 79, 80, 81, 82, 83, 84, 85, 86, 87, 88, 89, 90, 91, 92, 93, 94, 95, 96, 97, 98, 99, 100, 101, 102, 103, 104, 105, 106, 107, 108, 109, 110, 111, 112, 113, 114, 115, 116, 117, 118, 119, 120, 121, 122, 123, 124, 125, 126, 127, 128, 129, 130, 131, 132, 133, 134, 135, 136, 137, 138, 139, 140, 141, 142, 143, 144, 145, 146, 147, 148, 149, 168, 169, 170, 171, 172, 173, 174, 175, 181, 182, 183, 184, 185, 186, 187, 188, 189, 190, 191] (by decide +kernel) (by decide +kernel)
set_option maxRecDepth 20000 in
theorem gX4_house_X3_tell_n52 : GoodIn wsX4_house (wsX3_tell) := ggX4_house_X3_tell
set_option maxRecDepth 20000 in
theorem ggX4_house_X0_begin : GoodIn wsX4_house wsX0_begin := goodIn_r _ [153, 154, 155, 156, 157, 158, 159, 160, 192, 193, 194, 195, 196, 197, 198, 199] (by decide +kernel) (by decide +kernel)
set_option maxRecDepth 20000 in
theorem gX4_house_X0_begin_n63 : GoodIn wsX4_house (wsX0_begin) := ggX4_house_X0_begin
theorem dX4_house_0 : decode cX4_house 0 = .ok (.aload_n 0, 1) := by decide +kernel
theorem dX4_house_1 : decode cX4_house 1 = .ok (.getfield 12, 3) := by decide +kernel
theorem dX4_house_4 : decode cX4_house 4 = .ok (.aload_n 0, 1) := by decide +kernel
theorem dX4_house_5 : decode cX4_house 5 = .ok (.getfield 41, 3) := by decide +kernel
theorem dX4_house_8 : decode cX4_house 8 = .ok (.invokevirtual 52, 3) := by decide +kernel
theorem dX4_house_11 : decode cX4_house 11 = .ok (.istore_n 1, 1) := by decide +kernel
theorem dX4_house_12 : decode cX4_house 12 = .ok (.iload_n 1, 1) := by decide +kernel
theorem dX4_house_13 : decode cX4_house 13 = .ok (.ifCond .ge 5, 3) := by decide +kernel
theorem dX4_house_16 : decode cX4_house 16 = .ok (.iload_n 1, 1) := by decide +kernel
theorem dX4_house_17 : decode cX4_house 17 = .ok (.ireturn, 1) := by decide +kernel
theorem dX4_house_18 : decode cX4_house 18 = .ok (.aload_n 0, 1) := by decide +kernel
theorem dX4_house_19 : decode cX4_house 19 = .ok (.getfield 37, 3) := by decide +kernel
theorem dX4_house_22 : decode cX4_house 22 = .ok (.astore_n 2, 1) := by decide +kernel
theorem dX4_house_23 : decode cX4_house 23 = .ok (.aload_n 0, 1) := by decide +kernel
theorem dX4_house_24 : decode cX4_house 24 = .ok (.aload_n 0, 1) := by decide +kernel
theorem dX4_house_25 : decode cX4_house 25 = .ok (.getfield 41, 3) := by decide +kernel
theorem dX4_house_28 : decode cX4_house 28 = .ok (.putfield 37, 3) := by decide +kernel
theorem dX4_house_31 : decode cX4_house 31 = .ok (.aload_n 0, 1) := by decide +kernel
theorem dX4_house_32 : decode cX4_house 32 = .ok (.aload_n 2, 1) := by decide +kernel
theorem dX4_house_33 : decode cX4_house 33 = .ok (.putfield 41, 3) := by decide +kernel
theorem dX4_house_36 : decode cX4_house 36 = .ok (.aload_n 0, 1) := by decide +kernel
theorem dX4_house_37 : decode cX4_house 37 = .ok (.getfield 12, 3) := by decide +kernel
theorem dX4_house_40 : decode cX4_house 40 = .ok (.iconst 0, 1) := by decide +kernel
theorem dX4_house_41 : decode cX4_house 41 = .ok (.putfield 44, 3) := by decide +kernel
theorem dX4_house_44 : decode cX4_house 44 = .ok (.aload_n 0, 1) := by decide +kernel
theorem dX4_house_45 : decode cX4_house 45 = .ok (.getfield 19, 3) := by decide +kernel
theorem dX4_house_48 : decode cX4_house 48 = .ok (.iconst 0, 1) := by decide +kernel
theorem dX4_house_49 : decode cX4_house 49 = .ok (.putfield 56, 3) := by decide +kernel
theorem dX4_house_52 : decode cX4_house 52 = .ok (.aload_n 0, 1) := by decide +kernel
theorem dX4_house_53 : decode cX4_house 53 = .ok (.getfield 26, 3) := by decide +kernel
theorem dX4_house_56 : decode cX4_house 56 = .ok (.aload_n 0, 1) := by decide +kernel
theorem dX4_house_57 : decode cX4_house 57 = .ok (.getfield 37, 3) := by decide +kernel
theorem dX4_house_60 : decode cX4_house 60 = .ok (.getfield 60, 3) := by decide +kernel
theorem dX4_house_63 : decode cX4_house 63 = .ok (.invokevirtual 63, 3) := by decide +kernel
theorem dX4_house_66 : decode cX4_house 66 = .ok (.iconst 0, 1) := by decide +kernel
theorem dX4_house_67 : decode cX4_house 67 = .ok (.istore_n 3, 1) := by decide +kernel
theorem dX4_house_68 : decode cX4_house 68 = .ok (.iload_n 3, 1) := by decide +kernel
theorem dX4_house_69 : decode cX4_house 69 = .ok (.aload_n 0, 1) := by decide +kernel
theorem dX4_house_70 : decode cX4_house 70 = .ok (.getfield 30, 3) := by decide +kernel
theorem dX4_house_73 : decode cX4_house 73 = .ok (.arraylength, 1) := by decide +kernel
theorem dX4_house_74 : decode cX4_house 74 = .ok (.if_icmp .ge 19, 3) := by decide +kernel
theorem dX4_house_77 : decode cX4_house 77 = .ok (.aload_n 0, 1) := by decide +kernel
theorem dX4_house_78 : decode cX4_house 78 = .ok (.getfield 30, 3) := by decide +kernel
theorem dX4_house_81 : decode cX4_house 81 = .ok (.iload_n 3, 1) := by decide +kernel
theorem dX4_house_82 : decode cX4_house 82 = .ok (.aaload, 1) := by decide +kernel
theorem dX4_house_83 : decode cX4_house 83 = .ok (.iconst 0, 1) := by decide +kernel
theorem dX4_house_84 : decode cX4_house 84 = .ok (.putfield 66, 3) := by decide +kernel
theorem dX4_house_87 : decode cX4_house 87 = .ok (.iinc 3 1, 3) := by decide +kernel
theorem dX4_house_90 : decode cX4_house 90 = .ok (.goto (-22), 3) := by decide +kernel
theorem dX4_house_93 : decode cX4_house 93 = .ok (.iload_n 1, 1) := by decide +kernel
theorem dX4_house_94 : decode cX4_house 94 = .ok (.ireturn, 1) := by decide +kernel
set_option maxRecDepth 20000 in
theorem ggX4_panel_X1_hasPanel : GoodIn wsX4_panel wsX1_hasPanel := goodIn_r _ [6, 7, 8, 32, 33, 34, 35, 36, 37, 38, 39, 40, 41, 42] (by decide +kernel) (by decide +kernel)
set_option maxRecDepth 20000 in
theorem gX4_panel_X1_hasPanel_n69 : GoodIn wsX4_panel (wsX1_hasPanel) := ggX4_panel_X1_hasPanel
set_option maxRecDepth 20000 in
theorem ggX4_panel_X1_sortOf : GoodIn wsX4_panel wsX1_sortOf := goodIn_r _ [11, 8, 12, 3, 5, 4, 6, 7, 32, 33, 34, 35, 36, 37, 38, 39, 40, 41, 42] (by decide +kernel) (by decide +kernel)
set_option maxRecDepth 20000 in
theorem gX4_panel_X1_sortOf_n73 : GoodIn wsX4_panel (wsX1_sortOf) := ggX4_panel_X1_sortOf
set_option maxRecDepth 20000 in
theorem ggX4_panel_X4_placeIn : GoodIn wsX4_panel wsX4_placeIn := goodIn_r _ [16] (by decide +kernel) (by decide +kernel)
set_option maxRecDepth 20000 in
theorem gX4_panel_X4_placeIn : GoodIn wsX4_panel (va_wsS RX4 80 yX4_placeIn wsX4_placeIn) := goodIn_app (goodIn_of _ (by decide +kernel)) ggX4_panel_X4_placeIn
theorem dX4_panel_0 : decode cX4_panel 0 = .ok (.aload_n 0, 1) := by decide +kernel
theorem dX4_panel_1 : decode cX4_panel 1 = .ok (.getfield 37, 3) := by decide +kernel
theorem dX4_panel_4 : decode cX4_panel 4 = .ok (.iload_n 1, 1) := by decide +kernel
theorem dX4_panel_5 : decode cX4_panel 5 = .ok (.invokevirtual 69, 3) := by decide +kernel
theorem dX4_panel_8 : decode cX4_panel 8 = .ok (.ifCond .ne 5, 3) := by decide +kernel
theorem dX4_panel_11 : decode cX4_panel 11 = .ok (.iconst (-1), 1) := by decide +kernel
theorem dX4_panel_12 : decode cX4_panel 12 = .ok (.ireturn, 1) := by decide +kernel
theorem dX4_panel_13 : decode cX4_panel 13 = .ok (.iload_n 2, 1) := by decide +kernel
theorem dX4_panel_14 : decode cX4_panel 14 = .ok (.lookupswitch 47 #[(0, 26), (1, 35)], 26) := by decide +kernel
theorem dX4_panel_40 : decode cX4_panel 40 = .ok (.aload_n 0, 1) := by decide +kernel
theorem dX4_panel_41 : decode cX4_panel 41 = .ok (.getfield 37, 3) := by decide +kernel
theorem dX4_panel_44 : decode cX4_panel 44 = .ok (.iload_n 1, 1) := by decide +kernel
theorem dX4_panel_45 : decode cX4_panel 45 = .ok (.invokevirtual 73, 3) := by decide +kernel
theorem dX4_panel_48 : decode cX4_panel 48 = .ok (.ireturn, 1) := by decide +kernel
theorem dX4_panel_49 : decode cX4_panel 49 = .ok (.aload_n 0, 1) := by decide +kernel
theorem dX4_panel_50 : decode cX4_panel 50 = .ok (.getfield 26, 3) := by decide +kernel
theorem dX4_panel_53 : decode cX4_panel 53 = .ok (.getfield 77, 3) := by decide +kernel
theorem dX4_panel_56 : decode cX4_panel 56 = .ok (.iload_n 1, 1) := by decide +kernel
theorem dX4_panel_57 : decode cX4_panel 57 = .ok (.invokestatic 80, 3) := by decide +kernel
theorem dX4_panel_60 : decode cX4_panel 60 = .ok (.ireturn, 1) := by decide +kernel
theorem dX4_panel_61 : decode cX4_panel 61 = .ok (.iconst (-1), 1) := by decide +kernel
theorem dX4_panel_62 : decode cX4_panel 62 = .ok (.ireturn, 1) := by decide +kernel
set_option maxRecDepth 20000 in
theorem ggX4_slot_X4_isSlot : GoodIn wsX4_slot wsX4_isSlot := goodIn_r _ [6] (by decide +kernel) (by decide +kernel)
set_option maxRecDepth 20000 in
theorem gX4_slot_X4_isSlot : GoodIn wsX4_slot (va_wsS RX4 84 yX4_isSlot wsX4_isSlot) := goodIn_app (goodIn_of _ (by decide +kernel)) ggX4_slot_X4_isSlot
set_option maxRecDepth 20000 in
theorem ggX4_slot_X1_panelAt : GoodIn wsX4_slot wsX1_panelAt := goodIn_r _ [10, 11, 12, 5, 13, 29, 30, 31, 32, 33, 34, 35, 36, 37, 38, 39] (by decide +kernel) (by decide +kernel)
set_option maxRecDepth 20000 in
theorem gX4_slot_X1_panelAt_n87 : GoodIn wsX4_slot (wsX1_panelAt) := ggX4_slot_X1_panelAt
theorem dX4_slot_0 : decode cX4_slot 0 = .ok (.iload_n 1, 1) := by decide +kernel
theorem dX4_slot_1 : decode cX4_slot 1 = .ok (.invokestatic 84, 3) := by decide +kernel
theorem dX4_slot_4 : decode cX4_slot 4 = .ok (.ifCond .ne 5, 3) := by decide +kernel
theorem dX4_slot_7 : decode cX4_slot 7 = .ok (.iconst (-1), 1) := by decide +kernel
theorem dX4_slot_8 : decode cX4_slot 8 = .ok (.ireturn, 1) := by decide +kernel
theorem dX4_slot_9 : decode cX4_slot 9 = .ok (.iload_n 2, 1) := by decide +kernel
theorem dX4_slot_10 : decode cX4_slot 10 = .ok (.tableswitch 66 0 2 #[26, 42, 54], 26) := by decide +kernel
theorem dX4_slot_36 : decode cX4_slot 36 = .ok (.aload_n 0, 1) := by decide +kernel
theorem dX4_slot_37 : decode cX4_slot 37 = .ok (.getfield 37, 3) := by decide +kernel
theorem dX4_slot_40 : decode cX4_slot 40 = .ok (.aload_n 0, 1) := by decide +kernel
theorem dX4_slot_41 : decode cX4_slot 41 = .ok (.getfield 26, 3) := by decide +kernel
theorem dX4_slot_44 : decode cX4_slot 44 = .ok (.getfield 77, 3) := by decide +kernel
theorem dX4_slot_47 : decode cX4_slot 47 = .ok (.iload_n 1, 1) := by decide +kernel
theorem dX4_slot_48 : decode cX4_slot 48 = .ok (.invokevirtual 87, 3) := by decide +kernel
theorem dX4_slot_51 : decode cX4_slot 51 = .ok (.ireturn, 1) := by decide +kernel
theorem dX4_slot_52 : decode cX4_slot 52 = .ok (.aload_n 0, 1) := by decide +kernel
theorem dX4_slot_53 : decode cX4_slot 53 = .ok (.getfield 37, 3) := by decide +kernel
theorem dX4_slot_56 : decode cX4_slot 56 = .ok (.getfield 90, 3) := by decide +kernel
theorem dX4_slot_59 : decode cX4_slot 59 = .ok (.iload_n 1, 1) := by decide +kernel
theorem dX4_slot_60 : decode cX4_slot 60 = .ok (.ishr, 1) := by decide +kernel
theorem dX4_slot_61 : decode cX4_slot 61 = .ok (.iconst 1, 1) := by decide +kernel
theorem dX4_slot_62 : decode cX4_slot 62 = .ok (.iand, 1) := by decide +kernel
theorem dX4_slot_63 : decode cX4_slot 63 = .ok (.ireturn, 1) := by decide +kernel
theorem dX4_slot_64 : decode cX4_slot 64 = .ok (.aload_n 0, 1) := by decide +kernel
theorem dX4_slot_65 : decode cX4_slot 65 = .ok (.getfield 37, 3) := by decide +kernel
theorem dX4_slot_68 : decode cX4_slot 68 = .ok (.getfield 93, 3) := by decide +kernel
theorem dX4_slot_71 : decode cX4_slot 71 = .ok (.iload_n 1, 1) := by decide +kernel
theorem dX4_slot_72 : decode cX4_slot 72 = .ok (.ishr, 1) := by decide +kernel
theorem dX4_slot_73 : decode cX4_slot 73 = .ok (.iconst 1, 1) := by decide +kernel
theorem dX4_slot_74 : decode cX4_slot 74 = .ok (.iand, 1) := by decide +kernel
theorem dX4_slot_75 : decode cX4_slot 75 = .ok (.ireturn, 1) := by decide +kernel
theorem dX4_slot_76 : decode cX4_slot 76 = .ok (.iconst (-1), 1) := by decide +kernel
theorem dX4_slot_77 : decode cX4_slot 77 = .ok (.ireturn, 1) := by decide +kernel
theorem dX4_told_0 : decode cX4_told 0 = .ok (.iload_n 1, 1) := by decide +kernel
theorem dX4_told_1 : decode cX4_told 1 = .ok (.tableswitch 63 0 3 #[31, 39, 47, 55], 31) := by decide +kernel
theorem dX4_told_32 : decode cX4_told 32 = .ok (.aload_n 0, 1) := by decide +kernel
theorem dX4_told_33 : decode cX4_told 33 = .ok (.getfield 37, 3) := by decide +kernel
theorem dX4_told_36 : decode cX4_told 36 = .ok (.getfield 96, 3) := by decide +kernel
theorem dX4_told_39 : decode cX4_told 39 = .ok (.ireturn, 1) := by decide +kernel
theorem dX4_told_40 : decode cX4_told 40 = .ok (.aload_n 0, 1) := by decide +kernel
theorem dX4_told_41 : decode cX4_told 41 = .ok (.getfield 37, 3) := by decide +kernel
theorem dX4_told_44 : decode cX4_told 44 = .ok (.getfield 99, 3) := by decide +kernel
theorem dX4_told_47 : decode cX4_told 47 = .ok (.ireturn, 1) := by decide +kernel
theorem dX4_told_48 : decode cX4_told 48 = .ok (.aload_n 0, 1) := by decide +kernel
theorem dX4_told_49 : decode cX4_told 49 = .ok (.getfield 37, 3) := by decide +kernel
theorem dX4_told_52 : decode cX4_told 52 = .ok (.getfield 102, 3) := by decide +kernel
theorem dX4_told_55 : decode cX4_told 55 = .ok (.ireturn, 1) := by decide +kernel
theorem dX4_told_56 : decode cX4_told 56 = .ok (.aload_n 0, 1) := by decide +kernel
theorem dX4_told_57 : decode cX4_told 57 = .ok (.getfield 37, 3) := by decide +kernel
theorem dX4_told_60 : decode cX4_told 60 = .ok (.getfield 105, 3) := by decide +kernel
theorem dX4_told_63 : decode cX4_told 63 = .ok (.ireturn, 1) := by decide +kernel
theorem dX4_told_64 : decode cX4_told 64 = .ok (.iconst (-1), 1) := by decide +kernel
theorem dX4_told_65 : decode cX4_told 65 = .ok (.ireturn, 1) := by decide +kernel
set_option maxRecDepth 20000 in
theorem ggX4_beam_X1_hasBeam : GoodIn wsX4_beam wsX1_hasBeam := goodIn_r _ [6, 7, 8, 40, 41, 42, 43, 44, 45, 46, 47, 48, 49, 50] (by decide +kernel) (by decide +kernel)
set_option maxRecDepth 20000 in
theorem gX4_beam_X1_hasBeam_n108 : GoodIn wsX4_beam (wsX1_hasBeam) := ggX4_beam_X1_hasBeam
set_option maxRecDepth 20000 in
theorem ggX4_beam_X1_isBorne : GoodIn wsX4_beam wsX1_isBorne := goodIn_r _ [11, 8, 12, 3, 5, 4, 6, 7, 13, 14, 15, 16, 17, 18, 19, 20, 21, 40, 41, 42, 43, 44, 45, 46, 47, 48, 49, 50] (by decide +kernel) (by decide +kernel)
set_option maxRecDepth 20000 in
theorem gX4_beam_X1_isBorne_n111 : GoodIn wsX4_beam (wsX1_isBorne) := ggX4_beam_X1_isBorne
set_option maxRecDepth 20000 in
theorem ggX4_beam_X4_asNumber : GoodIn wsX4_beam wsX4_asNumber := goodIn_r _ [24] (by decide +kernel) (by decide +kernel)
set_option maxRecDepth 20000 in
theorem gX4_beam_X4_asNumber : GoodIn wsX4_beam (va_wsS RX4 115 yX4_asNumber wsX4_asNumber) := goodIn_app (goodIn_of _ (by decide +kernel)) ggX4_beam_X4_asNumber
theorem dX4_beam_0 : decode cX4_beam 0 = .ok (.aload_n 0, 1) := by decide +kernel
theorem dX4_beam_1 : decode cX4_beam 1 = .ok (.getfield 37, 3) := by decide +kernel
theorem dX4_beam_4 : decode cX4_beam 4 = .ok (.iload_n 1, 1) := by decide +kernel
theorem dX4_beam_5 : decode cX4_beam 5 = .ok (.invokevirtual 108, 3) := by decide +kernel
theorem dX4_beam_8 : decode cX4_beam 8 = .ok (.ifCond .ne 5, 3) := by decide +kernel
theorem dX4_beam_11 : decode cX4_beam 11 = .ok (.iconst (-1), 1) := by decide +kernel
theorem dX4_beam_12 : decode cX4_beam 12 = .ok (.ireturn, 1) := by decide +kernel
theorem dX4_beam_13 : decode cX4_beam 13 = .ok (.aload_n 0, 1) := by decide +kernel
theorem dX4_beam_14 : decode cX4_beam 14 = .ok (.getfield 37, 3) := by decide +kernel
theorem dX4_beam_17 : decode cX4_beam 17 = .ok (.aload_n 0, 1) := by decide +kernel
theorem dX4_beam_18 : decode cX4_beam 18 = .ok (.getfield 26, 3) := by decide +kernel
theorem dX4_beam_21 : decode cX4_beam 21 = .ok (.getfield 77, 3) := by decide +kernel
theorem dX4_beam_24 : decode cX4_beam 24 = .ok (.iload_n 1, 1) := by decide +kernel
theorem dX4_beam_25 : decode cX4_beam 25 = .ok (.invokevirtual 111, 3) := by decide +kernel
theorem dX4_beam_28 : decode cX4_beam 28 = .ok (.invokestatic 115, 3) := by decide +kernel
theorem dX4_beam_31 : decode cX4_beam 31 = .ok (.ireturn, 1) := by decide +kernel
set_option maxRecDepth 20000 in
theorem ggX4_down_X1_hasPanel : GoodIn wsX4_down wsX1_hasPanel := goodIn_r _ [6, 7, 8, 67, 68, 69, 70, 71, 72, 73, 74, 75, 76, 77] (by decide +kernel) (by decide +kernel)
set_option maxRecDepth 20000 in
theorem gX4_down_X1_hasPanel_n69 : GoodIn wsX4_down (wsX1_hasPanel) := ggX4_down_X1_hasPanel
set_option maxRecDepth 20000 in
theorem ggX4_down_X4_placeIn : GoodIn wsX4_down wsX4_placeIn := goodIn_r _ [12] (by decide +kernel) (by decide +kernel)
set_option maxRecDepth 20000 in
theorem gX4_down_X4_placeIn : GoodIn wsX4_down (va_wsS RX4 80 yX4_placeIn wsX4_placeIn) := goodIn_app (goodIn_of _ (by decide +kernel)) ggX4_down_X4_placeIn
set_option maxRecDepth 20000 in
theorem ggX4_down_X4_act : GoodIn wsX4_down wsX4_act := goodIn_r _ [16, 2, 1, 17, 18, 11, 19, 9, 10, 12, 20, 21, 22, 23, 4, 24, 25, 26, 7, 27, 28, 29, 30, 31, 32, 33, 34, 35, 8, 36, 37, 38, 39, 40, 41, 42, 43, 44, 45, 46, 47, 48, 49, 50, 51, 52, 53, 54, 55, 56, 57, 58, 59, 60, 61, 62, 63, 64, 65, 66, 67, 68, 69, 70, 71, 72, 73, 74, 75, 76, 77] (by decide +kernel) (by decide +kernel)
set_option maxRecDepth 20000 in
theorem gX4_down_X4_act : GoodIn wsX4_down (wsV RX4 119 RX4 yX4_act wsX4_act) := goodIn_app (goodIn_of _ (by decide +kernel)) ggX4_down_X4_act
theorem dX4_down_0 : decode cX4_down 0 = .ok (.aload_n 0, 1) := by decide +kernel
theorem dX4_down_1 : decode cX4_down 1 = .ok (.getfield 37, 3) := by decide +kernel
theorem dX4_down_4 : decode cX4_down 4 = .ok (.iload_n 1, 1) := by decide +kernel
theorem dX4_down_5 : decode cX4_down 5 = .ok (.invokevirtual 69, 3) := by decide +kernel
theorem dX4_down_8 : decode cX4_down 8 = .ok (.ifCond .ne 5, 3) := by decide +kernel
theorem dX4_down_11 : decode cX4_down 11 = .ok (.iconst (-1), 1) := by decide +kernel
theorem dX4_down_12 : decode cX4_down 12 = .ok (.ireturn, 1) := by decide +kernel
theorem dX4_down_13 : decode cX4_down 13 = .ok (.aload_n 0, 1) := by decide +kernel
theorem dX4_down_14 : decode cX4_down 14 = .ok (.getfield 26, 3) := by decide +kernel
theorem dX4_down_17 : decode cX4_down 17 = .ok (.getfield 77, 3) := by decide +kernel
theorem dX4_down_20 : decode cX4_down 20 = .ok (.iload_n 1, 1) := by decide +kernel
theorem dX4_down_21 : decode cX4_down 21 = .ok (.invokestatic 80, 3) := by decide +kernel
theorem dX4_down_24 : decode cX4_down 24 = .ok (.bipush 8, 2) := by decide +kernel
theorem dX4_down_26 : decode cX4_down 26 = .ok (.if_icmp .ne 6, 3) := by decide +kernel
theorem dX4_down_29 : decode cX4_down 29 = .ok (.bipush (-2), 2) := by decide +kernel
theorem dX4_down_31 : decode cX4_down 31 = .ok (.ireturn, 1) := by decide +kernel
theorem dX4_down_32 : decode cX4_down 32 = .ok (.aload_n 0, 1) := by decide +kernel
theorem dX4_down_33 : decode cX4_down 33 = .ok (.iload_n 1, 1) := by decide +kernel
theorem dX4_down_34 : decode cX4_down 34 = .ok (.bipush 8, 2) := by decide +kernel
theorem dX4_down_36 : decode cX4_down 36 = .ok (.invokevirtual 119, 3) := by decide +kernel
theorem dX4_down_39 : decode cX4_down 39 = .ok (.ireturn, 1) := by decide +kernel
set_option maxRecDepth 20000 in
theorem ggX4_up_X1_hasPanel : GoodIn wsX4_up wsX1_hasPanel := goodIn_r _ [6, 7, 8, 73, 74, 75, 76, 77, 78, 79, 80, 81, 82, 83] (by decide +kernel) (by decide +kernel)
set_option maxRecDepth 20000 in
theorem gX4_up_X1_hasPanel_n69 : GoodIn wsX4_up (wsX1_hasPanel) := ggX4_up_X1_hasPanel
set_option maxRecDepth 20000 in
theorem ggX4_up_X4_isSlot : GoodIn wsX4_up wsX4_isSlot := goodIn_r _ [12] (by decide +kernel) (by decide +kernel)
set_option maxRecDepth 20000 in
theorem gX4_up_X4_isSlot : GoodIn wsX4_up (va_wsS RX4 84 yX4_isSlot wsX4_isSlot) := goodIn_app (goodIn_of _ (by decide +kernel)) ggX4_up_X4_isSlot
set_option maxRecDepth 20000 in
theorem ggX4_up_X4_placeIn : GoodIn wsX4_up wsX4_placeIn := goodIn_r _ [15] (by decide +kernel) (by decide +kernel)
set_option maxRecDepth 20000 in
theorem gX4_up_X4_placeIn : GoodIn wsX4_up (va_wsS RX4 80 yX4_placeIn wsX4_placeIn) := goodIn_app (goodIn_of _ (by decide +kernel)) ggX4_up_X4_placeIn
set_option maxRecDepth 20000 in
theorem ggX4_up_X1_panelAt : GoodIn wsX4_up wsX1_panelAt := goodIn_r _ [18, 7, 14, 11, 15, 73, 74, 75, 76, 77, 78, 79, 80, 81, 82, 83] (by decide +kernel) (by decide +kernel)
set_option maxRecDepth 20000 in
theorem gX4_up_X1_panelAt_n87 : GoodIn wsX4_up (wsX1_panelAt) := ggX4_up_X1_panelAt
set_option maxRecDepth 20000 in
theorem ggX4_up_X4_act : GoodIn wsX4_up wsX4_act := goodIn_r _ [22, 2, 1, 23, 24, 11, 25, 13, 14, 15, 26, 27, 28, 29, 4, 30, 31, 32, 7, 33, 34, 35, 36, 37, 38, 39, 40, 41, 8, 42, 43, 44, 45, 46, 47, 48, 49, 50, 51, 52, 53, 54, 55, 56, 57, 58, 59, 60, 61, 62, 63, 64, 65, 66, 67, 68, 69, 70, 71, 72, 73, 74, 75, 76, 77, 78, 79, 80, 81, 82, 83] (by decide +kernel) (by decide +kernel)
set_option maxRecDepth 20000 in
theorem gX4_up_X4_act : GoodIn wsX4_up (wsV RX4 119 RX4 yX4_act wsX4_act) := goodIn_app (goodIn_of _ (by decide +kernel)) ggX4_up_X4_act
theorem dX4_up_0 : decode cX4_up 0 = .ok (.aload_n 0, 1) := by decide +kernel
theorem dX4_up_1 : decode cX4_up 1 = .ok (.getfield 37, 3) := by decide +kernel
theorem dX4_up_4 : decode cX4_up 4 = .ok (.iload_n 1, 1) := by decide +kernel
theorem dX4_up_5 : decode cX4_up 5 = .ok (.invokevirtual 69, 3) := by decide +kernel
theorem dX4_up_8 : decode cX4_up 8 = .ok (.ifCond .eq 10, 3) := by decide +kernel
theorem dX4_up_11 : decode cX4_up 11 = .ok (.iload_n 2, 1) := by decide +kernel
theorem dX4_up_12 : decode cX4_up 12 = .ok (.invokestatic 84, 3) := by decide +kernel
theorem dX4_up_15 : decode cX4_up 15 = .ok (.ifCond .ne 5, 3) := by decide +kernel
theorem dX4_up_18 : decode cX4_up 18 = .ok (.iconst (-1), 1) := by decide +kernel
theorem dX4_up_19 : decode cX4_up 19 = .ok (.ireturn, 1) := by decide +kernel
theorem dX4_up_20 : decode cX4_up 20 = .ok (.aload_n 0, 1) := by decide +kernel
theorem dX4_up_21 : decode cX4_up 21 = .ok (.getfield 26, 3) := by decide +kernel
theorem dX4_up_24 : decode cX4_up 24 = .ok (.getfield 77, 3) := by decide +kernel
theorem dX4_up_27 : decode cX4_up 27 = .ok (.iload_n 1, 1) := by decide +kernel
theorem dX4_up_28 : decode cX4_up 28 = .ok (.invokestatic 80, 3) := by decide +kernel
theorem dX4_up_31 : decode cX4_up 31 = .ok (.bipush 8, 2) := by decide +kernel
theorem dX4_up_33 : decode cX4_up 33 = .ok (.if_icmp .ne 23, 3) := by decide +kernel
theorem dX4_up_36 : decode cX4_up 36 = .ok (.aload_n 0, 1) := by decide +kernel
theorem dX4_up_37 : decode cX4_up 37 = .ok (.getfield 37, 3) := by decide +kernel
theorem dX4_up_40 : decode cX4_up 40 = .ok (.aload_n 0, 1) := by decide +kernel
theorem dX4_up_41 : decode cX4_up 41 = .ok (.getfield 26, 3) := by decide +kernel
theorem dX4_up_44 : decode cX4_up 44 = .ok (.getfield 77, 3) := by decide +kernel
theorem dX4_up_47 : decode cX4_up 47 = .ok (.iload_n 2, 1) := by decide +kernel
theorem dX4_up_48 : decode cX4_up 48 = .ok (.invokevirtual 87, 3) := by decide +kernel
theorem dX4_up_51 : decode cX4_up 51 = .ok (.bipush (-9), 2) := by decide +kernel
theorem dX4_up_53 : decode cX4_up 53 = .ok (.if_icmp .eq 6, 3) := by decide +kernel
theorem dX4_up_56 : decode cX4_up 56 = .ok (.bipush (-2), 2) := by decide +kernel
theorem dX4_up_58 : decode cX4_up 58 = .ok (.ireturn, 1) := by decide +kernel
theorem dX4_up_59 : decode cX4_up 59 = .ok (.aload_n 0, 1) := by decide +kernel
theorem dX4_up_60 : decode cX4_up 60 = .ok (.iload_n 1, 1) := by decide +kernel
theorem dX4_up_61 : decode cX4_up 61 = .ok (.iload_n 2, 1) := by decide +kernel
theorem dX4_up_62 : decode cX4_up 62 = .ok (.invokevirtual 119, 3) := by decide +kernel
theorem dX4_up_65 : decode cX4_up 65 = .ok (.ireturn, 1) := by decide +kernel
set_option maxRecDepth 20000 in
theorem ggX4_night_X1_leaksOf : GoodIn wsX4_night wsX1_leaksOf := goodIn_r _ [6, 7, 8, 9, 10, 4, 11, 12, 13, 14, 15, 16, 17, 18, 19, 20, 21, 22, 23, 39, 40, 41, 42, 43, 44, 45, 46, 47, 48, 49] (by decide +kernel) (by decide +kernel)
set_option maxRecDepth 20000 in
theorem gX4_night_X1_leaksOf_n125 : GoodIn wsX4_night (wsX1_leaksOf) := ggX4_night_X1_leaksOf
theorem dX4_night_0 : decode cX4_night 0 = .ok (.aload_n 0, 1) := by decide +kernel
theorem dX4_night_1 : decode cX4_night 1 = .ok (.getfield 26, 3) := by decide +kernel
theorem dX4_night_4 : decode cX4_night 4 = .ok (.getfield 122, 3) := by decide +kernel
theorem dX4_night_7 : decode cX4_night 7 = .ok (.sipush 999, 3) := by decide +kernel
theorem dX4_night_10 : decode cX4_night 10 = .ok (.if_icmp .lt 6, 3) := by decide +kernel
theorem dX4_night_13 : decode cX4_night 13 = .ok (.bipush (-2), 2) := by decide +kernel
theorem dX4_night_15 : decode cX4_night 15 = .ok (.ireturn, 1) := by decide +kernel
theorem dX4_night_16 : decode cX4_night 16 = .ok (.aload_n 0, 1) := by decide +kernel
theorem dX4_night_17 : decode cX4_night 17 = .ok (.getfield 37, 3) := by decide +kernel
theorem dX4_night_20 : decode cX4_night 20 = .ok (.aload_n 0, 1) := by decide +kernel
theorem dX4_night_21 : decode cX4_night 21 = .ok (.getfield 26, 3) := by decide +kernel
theorem dX4_night_24 : decode cX4_night 24 = .ok (.getfield 77, 3) := by decide +kernel
theorem dX4_night_27 : decode cX4_night 27 = .ok (.invokevirtual 125, 3) := by decide +kernel
theorem dX4_night_30 : decode cX4_night 30 = .ok (.istore_n 1, 1) := by decide +kernel
theorem dX4_night_31 : decode cX4_night 31 = .ok (.aload_n 0, 1) := by decide +kernel
theorem dX4_night_32 : decode cX4_night 32 = .ok (.getfield 26, 3) := by decide +kernel
theorem dX4_night_35 : decode cX4_night 35 = .ok (.dup, 1) := by decide +kernel
theorem dX4_night_36 : decode cX4_night 36 = .ok (.getfield 128, 3) := by decide +kernel
theorem dX4_night_39 : decode cX4_night 39 = .ok (.iload_n 1, 1) := by decide +kernel
theorem dX4_night_40 : decode cX4_night 40 = .ok (.iadd, 1) := by decide +kernel
theorem dX4_night_41 : decode cX4_night 41 = .ok (.putfield 128, 3) := by decide +kernel
theorem dX4_night_44 : decode cX4_night 44 = .ok (.aload_n 0, 1) := by decide +kernel
theorem dX4_night_45 : decode cX4_night 45 = .ok (.getfield 26, 3) := by decide +kernel
theorem dX4_night_48 : decode cX4_night 48 = .ok (.dup, 1) := by decide +kernel
theorem dX4_night_49 : decode cX4_night 49 = .ok (.getfield 122, 3) := by decide +kernel
theorem dX4_night_52 : decode cX4_night 52 = .ok (.iconst 1, 1) := by decide +kernel
theorem dX4_night_53 : decode cX4_night 53 = .ok (.iadd, 1) := by decide +kernel
theorem dX4_night_54 : decode cX4_night 54 = .ok (.putfield 122, 3) := by decide +kernel
theorem dX4_night_57 : decode cX4_night 57 = .ok (.aload_n 0, 1) := by decide +kernel
theorem dX4_night_58 : decode cX4_night 58 = .ok (.getfield 26, 3) := by decide +kernel
theorem dX4_night_61 : decode cX4_night 61 = .ok (.iconst 0, 1) := by decide +kernel
theorem dX4_night_62 : decode cX4_night 62 = .ok (.putfield 131, 3) := by decide +kernel
theorem dX4_night_65 : decode cX4_night 65 = .ok (.iload_n 1, 1) := by decide +kernel
theorem dX4_night_66 : decode cX4_night 66 = .ok (.ireturn, 1) := by decide +kernel
set_option maxRecDepth 20000 in
theorem ggX4_now_X1_worthOf : GoodIn wsX4_now wsX1_worthOf := goodIn_r _ [7, 8, 9, 10, 11, 12, 5, 13, 14, 15, 16, 17, 18, 19, 20, 21, 22, 23, 24, 25, 26, 27, 28, 29, 30, 31, 32, 33, 34, 35, 36, 37, 38, 39, 76, 77, 78, 79, 80, 81, 82, 83, 84, 85, 86] (by decide +kernel) (by decide +kernel)
set_option maxRecDepth 20000 in
theorem gX4_now_X1_worthOf_n134 : GoodIn wsX4_now (wsX1_worthOf) := ggX4_now_X1_worthOf
set_option maxRecDepth 20000 in
theorem ggX4_now_X1_allows : GoodIn wsX4_now wsX1_allows := goodIn_r _ [42, 43, 19, 44, 45, 46, 47, 5, 48, 21, 22, 23, 15, 16, 17, 18, 20, 24, 25, 26, 27, 28, 29, 30, 49, 50, 51, 52, 53, 54, 55, 56, 57, 76, 77, 78, 79, 80, 81, 82, 83, 84, 85, 86] (by decide +kernel) (by decide +kernel)
set_option maxRecDepth 20000 in
theorem gX4_now_X1_allows_n137 : GoodIn wsX4_now (wsX1_allows) := ggX4_now_X1_allows
set_option maxRecDepth 20000 in
theorem ggX4_now_X4_asNumber : GoodIn wsX4_now wsX4_asNumber := goodIn_r _ [60] (by decide +kernel) (by decide +kernel)
set_option maxRecDepth 20000 in
theorem gX4_now_X4_asNumber : GoodIn wsX4_now (va_wsS RX4 115 yX4_asNumber wsX4_asNumber) := goodIn_app (goodIn_of _ (by decide +kernel)) ggX4_now_X4_asNumber
set_option maxRecDepth 20000 in
theorem ggX4_now_X1_leaksOf : GoodIn wsX4_now wsX1_leaksOf := goodIn_r _ [34, 35, 15, 16, 17, 5, 18, 19, 20, 21, 22, 23, 24, 25, 26, 27, 28, 29, 30, 76, 77, 78, 79, 80, 81, 82, 83, 84, 85, 86] (by decide +kernel) (by decide +kernel)
set_option maxRecDepth 20000 in
theorem gX4_now_X1_leaksOf_n125 : GoodIn wsX4_now (wsX1_leaksOf) := ggX4_now_X1_leaksOf
theorem dX4_now_0 : decode cX4_now 0 = .ok (.iload_n 1, 1) := by decide +kernel
theorem dX4_now_1 : decode cX4_now 1 = .ok (.tableswitch 111 0 5 #[39, 47, 55, 63, 78, 96], 39) := by decide +kernel
theorem dX4_now_40 : decode cX4_now 40 = .ok (.aload_n 0, 1) := by decide +kernel
theorem dX4_now_41 : decode cX4_now 41 = .ok (.getfield 26, 3) := by decide +kernel
theorem dX4_now_44 : decode cX4_now 44 = .ok (.getfield 122, 3) := by decide +kernel
theorem dX4_now_47 : decode cX4_now 47 = .ok (.ireturn, 1) := by decide +kernel
theorem dX4_now_48 : decode cX4_now 48 = .ok (.aload_n 0, 1) := by decide +kernel
theorem dX4_now_49 : decode cX4_now 49 = .ok (.getfield 26, 3) := by decide +kernel
theorem dX4_now_52 : decode cX4_now 52 = .ok (.getfield 131, 3) := by decide +kernel
theorem dX4_now_55 : decode cX4_now 55 = .ok (.ireturn, 1) := by decide +kernel
theorem dX4_now_56 : decode cX4_now 56 = .ok (.aload_n 0, 1) := by decide +kernel
theorem dX4_now_57 : decode cX4_now 57 = .ok (.getfield 26, 3) := by decide +kernel
theorem dX4_now_60 : decode cX4_now 60 = .ok (.getfield 128, 3) := by decide +kernel
theorem dX4_now_63 : decode cX4_now 63 = .ok (.ireturn, 1) := by decide +kernel
theorem dX4_now_64 : decode cX4_now 64 = .ok (.aload_n 0, 1) := by decide +kernel
theorem dX4_now_65 : decode cX4_now 65 = .ok (.getfield 37, 3) := by decide +kernel
theorem dX4_now_68 : decode cX4_now 68 = .ok (.aload_n 0, 1) := by decide +kernel
theorem dX4_now_69 : decode cX4_now 69 = .ok (.getfield 26, 3) := by decide +kernel
theorem dX4_now_72 : decode cX4_now 72 = .ok (.getfield 77, 3) := by decide +kernel
theorem dX4_now_75 : decode cX4_now 75 = .ok (.invokevirtual 134, 3) := by decide +kernel
theorem dX4_now_78 : decode cX4_now 78 = .ok (.ireturn, 1) := by decide +kernel
theorem dX4_now_79 : decode cX4_now 79 = .ok (.aload_n 0, 1) := by decide +kernel
theorem dX4_now_80 : decode cX4_now 80 = .ok (.getfield 37, 3) := by decide +kernel
theorem dX4_now_83 : decode cX4_now 83 = .ok (.aload_n 0, 1) := by decide +kernel
theorem dX4_now_84 : decode cX4_now 84 = .ok (.getfield 26, 3) := by decide +kernel
theorem dX4_now_87 : decode cX4_now 87 = .ok (.getfield 77, 3) := by decide +kernel
theorem dX4_now_90 : decode cX4_now 90 = .ok (.invokevirtual 137, 3) := by decide +kernel
theorem dX4_now_93 : decode cX4_now 93 = .ok (.invokestatic 115, 3) := by decide +kernel
theorem dX4_now_96 : decode cX4_now 96 = .ok (.ireturn, 1) := by decide +kernel
theorem dX4_now_97 : decode cX4_now 97 = .ok (.aload_n 0, 1) := by decide +kernel
theorem dX4_now_98 : decode cX4_now 98 = .ok (.getfield 37, 3) := by decide +kernel
theorem dX4_now_101 : decode cX4_now 101 = .ok (.aload_n 0, 1) := by decide +kernel
theorem dX4_now_102 : decode cX4_now 102 = .ok (.getfield 26, 3) := by decide +kernel
theorem dX4_now_105 : decode cX4_now 105 = .ok (.getfield 77, 3) := by decide +kernel
theorem dX4_now_108 : decode cX4_now 108 = .ok (.invokevirtual 125, 3) := by decide +kernel
theorem dX4_now_111 : decode cX4_now 111 = .ok (.ireturn, 1) := by decide +kernel
theorem dX4_now_112 : decode cX4_now 112 = .ok (.ldc 140, 2) := by decide +kernel
theorem dX4_now_114 : decode cX4_now 114 = .ok (.ireturn, 1) := by decide +kernel
set_option maxRecDepth 20000 in
theorem ggX4_lit_X4_isSlot : GoodIn wsX4_lit wsX4_isSlot := goodIn_r _ [6] (by decide +kernel) (by decide +kernel)
set_option maxRecDepth 20000 in
theorem gX4_lit_X4_isSlot : GoodIn wsX4_lit (va_wsS RX4 84 yX4_isSlot wsX4_isSlot) := goodIn_app (goodIn_of _ (by decide +kernel)) ggX4_lit_X4_isSlot
set_option maxRecDepth 20000 in
theorem ggX4_lit_X1_litHours : GoodIn wsX4_lit wsX1_litHours := goodIn_r _ [10, 11, 12, 13, 14, 8, 15, 16, 17, 18, 5, 19, 35, 36, 37, 38, 39, 40, 41, 42, 43, 44, 45] (by decide +kernel) (by decide +kernel)
set_option maxRecDepth 20000 in
theorem gX4_lit_X1_litHours_n141 : GoodIn wsX4_lit (wsX1_litHours) := ggX4_lit_X1_litHours
theorem dX4_lit_0 : decode cX4_lit 0 = .ok (.iload_n 1, 1) := by decide +kernel
theorem dX4_lit_1 : decode cX4_lit 1 = .ok (.invokestatic 84, 3) := by decide +kernel
theorem dX4_lit_4 : decode cX4_lit 4 = .ok (.ifCond .ne 5, 3) := by decide +kernel
theorem dX4_lit_7 : decode cX4_lit 7 = .ok (.iconst (-1), 1) := by decide +kernel
theorem dX4_lit_8 : decode cX4_lit 8 = .ok (.ireturn, 1) := by decide +kernel
theorem dX4_lit_9 : decode cX4_lit 9 = .ok (.aload_n 0, 1) := by decide +kernel
theorem dX4_lit_10 : decode cX4_lit 10 = .ok (.getfield 37, 3) := by decide +kernel
theorem dX4_lit_13 : decode cX4_lit 13 = .ok (.aload_n 0, 1) := by decide +kernel
theorem dX4_lit_14 : decode cX4_lit 14 = .ok (.getfield 26, 3) := by decide +kernel
theorem dX4_lit_17 : decode cX4_lit 17 = .ok (.getfield 77, 3) := by decide +kernel
theorem dX4_lit_20 : decode cX4_lit 20 = .ok (.invokevirtual 141, 3) := by decide +kernel
theorem dX4_lit_23 : decode cX4_lit 23 = .ok (.iload_n 1, 1) := by decide +kernel
theorem dX4_lit_24 : decode cX4_lit 24 = .ok (.ishr, 1) := by decide +kernel
theorem dX4_lit_25 : decode cX4_lit 25 = .ok (.iconst 1, 1) := by decide +kernel
theorem dX4_lit_26 : decode cX4_lit 26 = .ok (.iand, 1) := by decide +kernel
theorem dX4_lit_27 : decode cX4_lit 27 = .ok (.ireturn, 1) := by decide +kernel
set_option maxRecDepth 20000 in
theorem ggX4_fewest_X4_isImage : GoodIn wsX4_fewest wsX4_isImage := goodIn_r _ [9, 1, 87, 88, 89, 90, 91, 92, 93] (by decide +kernel) (by decide +kernel)
set_option maxRecDepth 20000 in
theorem gX4_fewest_X4_isImage : GoodIn wsX4_fewest (wsV RX4 144 RX4 yX4_isImage wsX4_isImage) := goodIn_app (goodIn_of _ (by decide +kernel)) ggX4_fewest_X4_isImage
set_option maxRecDepth 20000 in
theorem ggX4_fewest_X2_fewestActs : GoodIn wsX4_fewest wsX2_fewestActs := goodIn_r _ [13, 14, 15, 16, 11, 17, 18, 19, 20, 8, 21, 22, 23, 24, 25, 26, 27, 28, 29, 30, 31, 32, 33, 34, 35, 36, 37, 38, 39, 40, 41, 42, 43, 44, 45, 46, 47, 48, 49, 50, 51, 52, 53, 54, 55, 56, 57, 58, 59, 60, 61, 62, 63, 64, 65, 66, 67, 68, 69, 70, 71, 72, 73, 74, 75, 76, 77, 78, 79, 80, 81, 82, 83, 84, 85, 86, 102, 103, 104, 105, 106, 107, 108, 109, 110, 111, 112, 113, 114, 115, 116, 117] (by decide +kernel) (by decide +kernel)
set_option maxRecDepth 20000 in
theorem gX4_fewest_X2_fewestActs_n147 : GoodIn wsX4_fewest (wsX2_fewestActs) := ggX4_fewest_X2_fewestActs
theorem dX4_fewest_0 : decode cX4_fewest 0 = .ok (.aload_n 0, 1) := by decide +kernel
theorem dX4_fewest_1 : decode cX4_fewest 1 = .ok (.iload_n 1, 1) := by decide +kernel
theorem dX4_fewest_2 : decode cX4_fewest 2 = .ok (.invokevirtual 144, 3) := by decide +kernel
theorem dX4_fewest_5 : decode cX4_fewest 5 = .ok (.ifCond .ne 5, 3) := by decide +kernel
theorem dX4_fewest_8 : decode cX4_fewest 8 = .ok (.iconst (-1), 1) := by decide +kernel
theorem dX4_fewest_9 : decode cX4_fewest 9 = .ok (.ireturn, 1) := by decide +kernel
theorem dX4_fewest_10 : decode cX4_fewest 10 = .ok (.aload_n 0, 1) := by decide +kernel
theorem dX4_fewest_11 : decode cX4_fewest 11 = .ok (.getfield 30, 3) := by decide +kernel
theorem dX4_fewest_14 : decode cX4_fewest 14 = .ok (.iload_n 1, 1) := by decide +kernel
theorem dX4_fewest_15 : decode cX4_fewest 15 = .ok (.aaload, 1) := by decide +kernel
theorem dX4_fewest_16 : decode cX4_fewest 16 = .ok (.getfield 66, 3) := by decide +kernel
theorem dX4_fewest_19 : decode cX4_fewest 19 = .ok (.ifCond .ne 6, 3) := by decide +kernel
theorem dX4_fewest_22 : decode cX4_fewest 22 = .ok (.bipush (-2), 2) := by decide +kernel
theorem dX4_fewest_24 : decode cX4_fewest 24 = .ok (.ireturn, 1) := by decide +kernel
theorem dX4_fewest_25 : decode cX4_fewest 25 = .ok (.aload_n 0, 1) := by decide +kernel
theorem dX4_fewest_26 : decode cX4_fewest 26 = .ok (.getfield 19, 3) := by decide +kernel
theorem dX4_fewest_29 : decode cX4_fewest 29 = .ok (.aload_n 0, 1) := by decide +kernel
theorem dX4_fewest_30 : decode cX4_fewest 30 = .ok (.getfield 37, 3) := by decide +kernel
theorem dX4_fewest_33 : decode cX4_fewest 33 = .ok (.aload_n 0, 1) := by decide +kernel
theorem dX4_fewest_34 : decode cX4_fewest 34 = .ok (.getfield 26, 3) := by decide +kernel
theorem dX4_fewest_37 : decode cX4_fewest 37 = .ok (.getfield 77, 3) := by decide +kernel
theorem dX4_fewest_40 : decode cX4_fewest 40 = .ok (.aload_n 0, 1) := by decide +kernel
theorem dX4_fewest_41 : decode cX4_fewest 41 = .ok (.getfield 30, 3) := by decide +kernel
theorem dX4_fewest_44 : decode cX4_fewest 44 = .ok (.iload_n 1, 1) := by decide +kernel
theorem dX4_fewest_45 : decode cX4_fewest 45 = .ok (.aaload, 1) := by decide +kernel
theorem dX4_fewest_46 : decode cX4_fewest 46 = .ok (.getfield 77, 3) := by decide +kernel
theorem dX4_fewest_49 : decode cX4_fewest 49 = .ok (.invokevirtual 147, 3) := by decide +kernel
theorem dX4_fewest_52 : decode cX4_fewest 52 = .ok (.ireturn, 1) := by decide +kernel
set_option maxRecDepth 20000 in
theorem ggX4_first_X4_isImage : GoodIn wsX4_first wsX4_isImage := goodIn_r _ [9, 1, 87, 88, 89, 90, 91, 92, 93] (by decide +kernel) (by decide +kernel)
set_option maxRecDepth 20000 in
theorem gX4_first_X4_isImage : GoodIn wsX4_first (wsV RX4 144 RX4 yX4_isImage wsX4_isImage) := goodIn_app (goodIn_of _ (by decide +kernel)) ggX4_first_X4_isImage
set_option maxRecDepth 20000 in
theorem ggX4_first_X2_firstAct : GoodIn wsX4_first wsX2_firstAct := goodIn_r _ [13, 14, 15, 16, 11, 17, 18, 19, 20, 8, 21, 22, 23, 24, 25, 26, 27, 28, 29, 30, 31, 32, 33, 34, 35, 36, 37, 38, 39, 40, 41, 42, 43, 44, 45, 46, 47, 48, 49, 50, 51, 52, 53, 54, 55, 56, 57, 58, 59, 60, 61, 62, 63, 64, 65, 66, 67, 68, 69, 70, 71, 72, 73, 74, 75, 76, 77, 78, 79, 80, 81, 82, 83, 84, 85, 86, 102, 103, 104, 105, 106, 107, 108, 109, 110, 111, 112, 113, 114, 115, 116, 117] (by decide +kernel) (by decide +kernel)
set_option maxRecDepth 20000 in
theorem gX4_first_X2_firstAct_n151 : GoodIn wsX4_first (wsX2_firstAct) := ggX4_first_X2_firstAct
theorem dX4_first_0 : decode cX4_first 0 = .ok (.aload_n 0, 1) := by decide +kernel
theorem dX4_first_1 : decode cX4_first 1 = .ok (.iload_n 1, 1) := by decide +kernel
theorem dX4_first_2 : decode cX4_first 2 = .ok (.invokevirtual 144, 3) := by decide +kernel
theorem dX4_first_5 : decode cX4_first 5 = .ok (.ifCond .ne 5, 3) := by decide +kernel
theorem dX4_first_8 : decode cX4_first 8 = .ok (.iconst (-1), 1) := by decide +kernel
theorem dX4_first_9 : decode cX4_first 9 = .ok (.ireturn, 1) := by decide +kernel
theorem dX4_first_10 : decode cX4_first 10 = .ok (.aload_n 0, 1) := by decide +kernel
theorem dX4_first_11 : decode cX4_first 11 = .ok (.getfield 30, 3) := by decide +kernel
theorem dX4_first_14 : decode cX4_first 14 = .ok (.iload_n 1, 1) := by decide +kernel
theorem dX4_first_15 : decode cX4_first 15 = .ok (.aaload, 1) := by decide +kernel
theorem dX4_first_16 : decode cX4_first 16 = .ok (.getfield 66, 3) := by decide +kernel
theorem dX4_first_19 : decode cX4_first 19 = .ok (.ifCond .ne 6, 3) := by decide +kernel
theorem dX4_first_22 : decode cX4_first 22 = .ok (.bipush (-2), 2) := by decide +kernel
theorem dX4_first_24 : decode cX4_first 24 = .ok (.ireturn, 1) := by decide +kernel
theorem dX4_first_25 : decode cX4_first 25 = .ok (.aload_n 0, 1) := by decide +kernel
theorem dX4_first_26 : decode cX4_first 26 = .ok (.getfield 19, 3) := by decide +kernel
theorem dX4_first_29 : decode cX4_first 29 = .ok (.aload_n 0, 1) := by decide +kernel
theorem dX4_first_30 : decode cX4_first 30 = .ok (.getfield 37, 3) := by decide +kernel
theorem dX4_first_33 : decode cX4_first 33 = .ok (.aload_n 0, 1) := by decide +kernel
theorem dX4_first_34 : decode cX4_first 34 = .ok (.getfield 26, 3) := by decide +kernel
theorem dX4_first_37 : decode cX4_first 37 = .ok (.getfield 77, 3) := by decide +kernel
theorem dX4_first_40 : decode cX4_first 40 = .ok (.aload_n 0, 1) := by decide +kernel
theorem dX4_first_41 : decode cX4_first 41 = .ok (.getfield 30, 3) := by decide +kernel
theorem dX4_first_44 : decode cX4_first 44 = .ok (.iload_n 1, 1) := by decide +kernel
theorem dX4_first_45 : decode cX4_first 45 = .ok (.aaload, 1) := by decide +kernel
theorem dX4_first_46 : decode cX4_first 46 = .ok (.getfield 77, 3) := by decide +kernel
theorem dX4_first_49 : decode cX4_first 49 = .ok (.invokevirtual 151, 3) := by decide +kernel
theorem dX4_first_52 : decode cX4_first 52 = .ok (.ireturn, 1) := by decide +kernel
set_option maxRecDepth 20000 in
theorem ggX4_nights_X4_isImage : GoodIn wsX4_nights wsX4_isImage := goodIn_r _ [9, 1, 91, 92, 93, 94, 95, 96, 97] (by decide +kernel) (by decide +kernel)
set_option maxRecDepth 20000 in
theorem gX4_nights_X4_isImage : GoodIn wsX4_nights (wsV RX4 144 RX4 yX4_isImage wsX4_isImage) := goodIn_app (goodIn_of _ (by decide +kernel)) ggX4_nights_X4_isImage
set_option maxRecDepth 20000 in
theorem ggX4_nights_X2_fewestNights : GoodIn wsX4_nights wsX2_fewestNights := goodIn_r _ [13, 14, 15, 16, 17, 11, 18, 19, 20, 21, 8, 22, 23, 24, 25, 26, 27, 28, 29, 30, 31, 32, 33, 34, 35, 36, 37, 38, 39, 40, 41, 42, 43, 44, 45, 46, 47, 48, 49, 50, 51, 52, 53, 54, 55, 56, 57, 58, 59, 60, 61, 62, 63, 64, 65, 66, 67, 68, 69, 70, 71, 72, 73, 74, 75, 76, 77, 78, 79, 80, 81, 82, 83, 84, 85, 86, 87, 88, 89, 90, 106, 107, 108, 109, 110, 98, 99, 100, 101, 102, 103, 104, 105, 111, 112, 113, 114, 115, 116, 117, 118, 119, 120, 121] (by decide +kernel) (by decide +kernel)
set_option maxRecDepth 20000 in
theorem gX4_nights_X2_fewestNights_n154 : GoodIn wsX4_nights (wsX2_fewestNights) := ggX4_nights_X2_fewestNights
theorem dX4_nights_0 : decode cX4_nights 0 = .ok (.aload_n 0, 1) := by decide +kernel
theorem dX4_nights_1 : decode cX4_nights 1 = .ok (.iload_n 1, 1) := by decide +kernel
theorem dX4_nights_2 : decode cX4_nights 2 = .ok (.invokevirtual 144, 3) := by decide +kernel
theorem dX4_nights_5 : decode cX4_nights 5 = .ok (.ifCond .ne 5, 3) := by decide +kernel
theorem dX4_nights_8 : decode cX4_nights 8 = .ok (.iconst (-1), 1) := by decide +kernel
theorem dX4_nights_9 : decode cX4_nights 9 = .ok (.ireturn, 1) := by decide +kernel
theorem dX4_nights_10 : decode cX4_nights 10 = .ok (.aload_n 0, 1) := by decide +kernel
theorem dX4_nights_11 : decode cX4_nights 11 = .ok (.getfield 30, 3) := by decide +kernel
theorem dX4_nights_14 : decode cX4_nights 14 = .ok (.iload_n 1, 1) := by decide +kernel
theorem dX4_nights_15 : decode cX4_nights 15 = .ok (.aaload, 1) := by decide +kernel
theorem dX4_nights_16 : decode cX4_nights 16 = .ok (.getfield 66, 3) := by decide +kernel
theorem dX4_nights_19 : decode cX4_nights 19 = .ok (.ifCond .ne 6, 3) := by decide +kernel
theorem dX4_nights_22 : decode cX4_nights 22 = .ok (.bipush (-2), 2) := by decide +kernel
theorem dX4_nights_24 : decode cX4_nights 24 = .ok (.ireturn, 1) := by decide +kernel
theorem dX4_nights_25 : decode cX4_nights 25 = .ok (.aload_n 0, 1) := by decide +kernel
theorem dX4_nights_26 : decode cX4_nights 26 = .ok (.getfield 19, 3) := by decide +kernel
theorem dX4_nights_29 : decode cX4_nights 29 = .ok (.aload_n 0, 1) := by decide +kernel
theorem dX4_nights_30 : decode cX4_nights 30 = .ok (.getfield 37, 3) := by decide +kernel
theorem dX4_nights_33 : decode cX4_nights 33 = .ok (.aload_n 0, 1) := by decide +kernel
theorem dX4_nights_34 : decode cX4_nights 34 = .ok (.getfield 26, 3) := by decide +kernel
theorem dX4_nights_37 : decode cX4_nights 37 = .ok (.aload_n 0, 1) := by decide +kernel
theorem dX4_nights_38 : decode cX4_nights 38 = .ok (.getfield 30, 3) := by decide +kernel
theorem dX4_nights_41 : decode cX4_nights 41 = .ok (.iload_n 1, 1) := by decide +kernel
theorem dX4_nights_42 : decode cX4_nights 42 = .ok (.aaload, 1) := by decide +kernel
theorem dX4_nights_43 : decode cX4_nights 43 = .ok (.getfield 77, 3) := by decide +kernel
theorem dX4_nights_46 : decode cX4_nights 46 = .ok (.invokevirtual 154, 3) := by decide +kernel
theorem dX4_nights_49 : decode cX4_nights 49 = .ok (.ireturn, 1) := by decide +kernel
set_option maxRecDepth 20000 in
theorem ggX4_piano_X4_isSlot : GoodIn wsX4_piano wsX4_isSlot := goodIn_r _ [7] (by decide +kernel) (by decide +kernel)
set_option maxRecDepth 20000 in
theorem gX4_piano_X4_isSlot : GoodIn wsX4_piano (va_wsS RX4 84 yX4_isSlot wsX4_isSlot) := goodIn_app (goodIn_of _ (by decide +kernel)) ggX4_piano_X4_isSlot
set_option maxRecDepth 20000 in
theorem ggX4_piano_X2_actsToEmpty : GoodIn wsX4_piano wsX2_actsToEmpty := goodIn_r _ [11, 12, 13, 14, 15, 16, 9, 17, 18, 19, 20, 6, 21, 22, 23, 24, 25, 26, 27, 28, 29, 30, 31, 32, 33, 34, 35, 36, 37, 38, 39, 40, 41, 42, 43, 44, 45, 46, 47, 48, 49, 50, 51, 52, 53, 54, 55, 56, 57, 58, 59, 60, 61, 62, 63, 64, 65, 66, 67, 68, 69, 70, 71, 72, 73, 74, 75, 76, 77, 78, 79, 80, 81, 82, 83, 84, 100, 101, 102, 103, 104, 105, 106, 107, 108, 109, 110, 111, 112, 113, 114, 115] (by decide +kernel) (by decide +kernel)
set_option maxRecDepth 20000 in
theorem gX4_piano_X2_actsToEmpty_n158 : GoodIn wsX4_piano (wsX2_actsToEmpty) := ggX4_piano_X2_actsToEmpty
theorem dX4_piano_0 : decode cX4_piano 0 = .ok (.iload_n 1, 1) := by decide +kernel
theorem dX4_piano_1 : decode cX4_piano 1 = .ok (.invokestatic 84, 3) := by decide +kernel
theorem dX4_piano_4 : decode cX4_piano 4 = .ok (.ifCond .ne 5, 3) := by decide +kernel
theorem dX4_piano_7 : decode cX4_piano 7 = .ok (.iconst (-1), 1) := by decide +kernel
theorem dX4_piano_8 : decode cX4_piano 8 = .ok (.ireturn, 1) := by decide +kernel
theorem dX4_piano_9 : decode cX4_piano 9 = .ok (.aload_n 0, 1) := by decide +kernel
theorem dX4_piano_10 : decode cX4_piano 10 = .ok (.getfield 19, 3) := by decide +kernel
theorem dX4_piano_13 : decode cX4_piano 13 = .ok (.aload_n 0, 1) := by decide +kernel
theorem dX4_piano_14 : decode cX4_piano 14 = .ok (.getfield 37, 3) := by decide +kernel
theorem dX4_piano_17 : decode cX4_piano 17 = .ok (.aload_n 0, 1) := by decide +kernel
theorem dX4_piano_18 : decode cX4_piano 18 = .ok (.getfield 26, 3) := by decide +kernel
theorem dX4_piano_21 : decode cX4_piano 21 = .ok (.getfield 77, 3) := by decide +kernel
theorem dX4_piano_24 : decode cX4_piano 24 = .ok (.iconst 1, 1) := by decide +kernel
theorem dX4_piano_25 : decode cX4_piano 25 = .ok (.iload_n 1, 1) := by decide +kernel
theorem dX4_piano_26 : decode cX4_piano 26 = .ok (.ishl, 1) := by decide +kernel
theorem dX4_piano_27 : decode cX4_piano 27 = .ok (.iconst 1, 1) := by decide +kernel
theorem dX4_piano_28 : decode cX4_piano 28 = .ok (.iload_n 1, 1) := by decide +kernel
theorem dX4_piano_29 : decode cX4_piano 29 = .ok (.iconst 1, 1) := by decide +kernel
theorem dX4_piano_30 : decode cX4_piano 30 = .ok (.iadd, 1) := by decide +kernel
theorem dX4_piano_31 : decode cX4_piano 31 = .ok (.bipush 8, 2) := by decide +kernel
theorem dX4_piano_33 : decode cX4_piano 33 = .ok (.irem, 1) := by decide +kernel
theorem dX4_piano_34 : decode cX4_piano 34 = .ok (.ishl, 1) := by decide +kernel
theorem dX4_piano_35 : decode cX4_piano 35 = .ok (.ior, 1) := by decide +kernel
theorem dX4_piano_36 : decode cX4_piano 36 = .ok (.invokevirtual 158, 3) := by decide +kernel
theorem dX4_piano_39 : decode cX4_piano 39 = .ok (.ireturn, 1) := by decide +kernel
set_option maxRecDepth 20000 in
theorem ggX4_best_X1_hasPanel : GoodIn wsX4_best wsX1_hasPanel := goodIn_r _ [7, 8, 9, 86, 87, 88, 89, 90, 91, 92, 93, 94, 95, 96] (by decide +kernel) (by decide +kernel)
set_option maxRecDepth 20000 in
theorem gX4_best_X1_hasPanel_n69 : GoodIn wsX4_best (wsX1_hasPanel) := ggX4_best_X1_hasPanel
set_option maxRecDepth 20000 in
theorem ggX4_best_X2_bestHome : GoodIn wsX4_best wsX2_bestHome := goodIn_r _ [13, 14, 15, 16, 17, 11, 18, 19, 20, 21, 22, 23, 24, 5, 25, 26, 27, 8, 28, 29, 30, 31, 32, 33, 34, 35, 36, 37, 38, 9, 39, 40, 41, 42, 43, 44, 45, 46, 47, 48, 49, 50, 51, 52, 53, 54, 55, 56, 57, 58, 59, 60, 61, 62, 63, 64, 65, 66, 67, 68, 69, 70, 71, 72, 73, 74, 75, 76, 77, 97, 98, 99, 100, 101, 86, 87, 88, 89, 90, 91, 92, 93, 94, 95, 96] (by decide +kernel) (by decide +kernel)
set_option maxRecDepth 20000 in
theorem gX4_best_X2_bestHome_n161 : GoodIn wsX4_best (wsX2_bestHome) := ggX4_best_X2_bestHome
set_option maxRecDepth 20000 in
theorem ggX4_best_X1_worthOf : GoodIn wsX4_best wsX1_worthOf := goodIn_r _ [61, 62, 63, 64, 65, 66, 5, 67, 68, 35, 36, 37, 38, 8, 9, 33, 22, 34, 39, 40, 41, 42, 43, 44, 45, 69, 70, 71, 72, 73, 74, 75, 76, 77, 86, 87, 88, 89, 90, 91, 92, 93, 94, 95, 96] (by decide +kernel) (by decide +kernel)
set_option maxRecDepth 20000 in
theorem gX4_best_X1_worthOf_n134 : GoodIn wsX4_best (wsX1_worthOf) := ggX4_best_X1_worthOf
set_option maxRecDepth 20000 in
theorem ggX4_best_X4_placeIn : GoodIn wsX4_best wsX4_placeIn := goodIn_r _ [34] (by decide +kernel) (by decide +kernel)
set_option maxRecDepth 20000 in
theorem gX4_best_X4_placeIn : GoodIn wsX4_best (va_wsS RX4 80 yX4_placeIn wsX4_placeIn) := goodIn_app (goodIn_of _ (by decide +kernel)) ggX4_best_X4_placeIn
theorem dX4_best_0 : decode cX4_best 0 = .ok (.iload_n 1, 1) := by decide +kernel
theorem dX4_best_1 : decode cX4_best 1 = .ok (.iconst (-1), 1) := by decide +kernel
theorem dX4_best_2 : decode cX4_best 2 = .ok (.if_icmp .eq 17, 3) := by decide +kernel
theorem dX4_best_5 : decode cX4_best 5 = .ok (.aload_n 0, 1) := by decide +kernel
theorem dX4_best_6 : decode cX4_best 6 = .ok (.getfield 37, 3) := by decide +kernel
theorem dX4_best_9 : decode cX4_best 9 = .ok (.iload_n 1, 1) := by decide +kernel
theorem dX4_best_10 : decode cX4_best 10 = .ok (.invokevirtual 69, 3) := by decide +kernel
theorem dX4_best_13 : decode cX4_best 13 = .ok (.ifCond .ne 6, 3) := by decide +kernel
theorem dX4_best_16 : decode cX4_best 16 = .ok (.ldc 140, 2) := by decide +kernel
theorem dX4_best_18 : decode cX4_best 18 = .ok (.ireturn, 1) := by decide +kernel
theorem dX4_best_19 : decode cX4_best 19 = .ok (.aload_n 0, 1) := by decide +kernel
theorem dX4_best_20 : decode cX4_best 20 = .ok (.getfield 19, 3) := by decide +kernel
theorem dX4_best_23 : decode cX4_best 23 = .ok (.aload_n 0, 1) := by decide +kernel
theorem dX4_best_24 : decode cX4_best 24 = .ok (.getfield 37, 3) := by decide +kernel
theorem dX4_best_27 : decode cX4_best 27 = .ok (.invokevirtual 161, 3) := by decide +kernel
theorem dX4_best_30 : decode cX4_best 30 = .ok (.istore_n 2, 1) := by decide +kernel
theorem dX4_best_31 : decode cX4_best 31 = .ok (.iload_n 2, 1) := by decide +kernel
theorem dX4_best_32 : decode cX4_best 32 = .ok (.bipush (-9), 2) := by decide +kernel
theorem dX4_best_34 : decode cX4_best 34 = .ok (.if_icmp .ne 6, 3) := by decide +kernel
theorem dX4_best_37 : decode cX4_best 37 = .ok (.ldc 140, 2) := by decide +kernel
theorem dX4_best_39 : decode cX4_best 39 = .ok (.ireturn, 1) := by decide +kernel
theorem dX4_best_40 : decode cX4_best 40 = .ok (.iload_n 1, 1) := by decide +kernel
theorem dX4_best_41 : decode cX4_best 41 = .ok (.iconst (-1), 1) := by decide +kernel
theorem dX4_best_42 : decode cX4_best 42 = .ok (.if_icmp .ne 14, 3) := by decide +kernel
theorem dX4_best_45 : decode cX4_best 45 = .ok (.aload_n 0, 1) := by decide +kernel
theorem dX4_best_46 : decode cX4_best 46 = .ok (.getfield 37, 3) := by decide +kernel
theorem dX4_best_49 : decode cX4_best 49 = .ok (.iload_n 2, 1) := by decide +kernel
theorem dX4_best_50 : decode cX4_best 50 = .ok (.invokevirtual 134, 3) := by decide +kernel
theorem dX4_best_53 : decode cX4_best 53 = .ok (.goto 8, 3) := by decide +kernel
theorem dX4_best_56 : decode cX4_best 56 = .ok (.iload_n 2, 1) := by decide +kernel
theorem dX4_best_57 : decode cX4_best 57 = .ok (.iload_n 1, 1) := by decide +kernel
theorem dX4_best_58 : decode cX4_best 58 = .ok (.invokestatic 80, 3) := by decide +kernel
theorem dX4_best_61 : decode cX4_best 61 = .ok (.ireturn, 1) := by decide +kernel
set_option maxRecDepth 20000 in
theorem ggX4_clue_X4_isSlot : GoodIn wsX4_clue wsX4_isSlot := goodIn_r _ [5] (by decide +kernel) (by decide +kernel)
set_option maxRecDepth 20000 in
theorem gX4_clue_X4_isSlot : GoodIn wsX4_clue (va_wsS RX4 84 yX4_isSlot wsX4_isSlot) := goodIn_app (goodIn_of _ (by decide +kernel)) ggX4_clue_X4_isSlot
theorem dX4_clue_0 : decode cX4_clue 0 = .ok (.iload_n 1, 1) := by decide +kernel
theorem dX4_clue_1 : decode cX4_clue 1 = .ok (.invokestatic 84, 3) := by decide +kernel
theorem dX4_clue_4 : decode cX4_clue 4 = .ok (.ifCond .eq 12, 3) := by decide +kernel
theorem dX4_clue_7 : decode cX4_clue 7 = .ok (.iload_n 2, 1) := by decide +kernel
theorem dX4_clue_8 : decode cX4_clue 8 = .ok (.ifCond .lt 8, 3) := by decide +kernel
theorem dX4_clue_11 : decode cX4_clue 11 = .ok (.iload_n 2, 1) := by decide +kernel
theorem dX4_clue_12 : decode cX4_clue 12 = .ok (.iconst 1, 1) := by decide +kernel
theorem dX4_clue_13 : decode cX4_clue 13 = .ok (.if_icmp .le 5, 3) := by decide +kernel
theorem dX4_clue_16 : decode cX4_clue 16 = .ok (.iconst (-1), 1) := by decide +kernel
theorem dX4_clue_17 : decode cX4_clue 17 = .ok (.ireturn, 1) := by decide +kernel
theorem dX4_clue_18 : decode cX4_clue 18 = .ok (.aload_n 0, 1) := by decide +kernel
theorem dX4_clue_19 : decode cX4_clue 19 = .ok (.getfield 26, 3) := by decide +kernel
theorem dX4_clue_22 : decode cX4_clue 22 = .ok (.getfield 164, 3) := by decide +kernel
theorem dX4_clue_25 : decode cX4_clue 25 = .ok (.bipush 8, 2) := by decide +kernel
theorem dX4_clue_27 : decode cX4_clue 27 = .ok (.if_icmp .lt 6, 3) := by decide +kernel
theorem dX4_clue_30 : decode cX4_clue 30 = .ok (.bipush (-3), 2) := by decide +kernel
theorem dX4_clue_32 : decode cX4_clue 32 = .ok (.ireturn, 1) := by decide +kernel
theorem dX4_clue_33 : decode cX4_clue 33 = .ok (.aload_n 0, 1) := by decide +kernel
theorem dX4_clue_34 : decode cX4_clue 34 = .ok (.getfield 26, 3) := by decide +kernel
theorem dX4_clue_37 : decode cX4_clue 37 = .ok (.dup, 1) := by decide +kernel
theorem dX4_clue_38 : decode cX4_clue 38 = .ok (.getfield 164, 3) := by decide +kernel
theorem dX4_clue_41 : decode cX4_clue 41 = .ok (.iconst 1, 1) := by decide +kernel
theorem dX4_clue_42 : decode cX4_clue 42 = .ok (.iadd, 1) := by decide +kernel
theorem dX4_clue_43 : decode cX4_clue 43 = .ok (.putfield 164, 3) := by decide +kernel
theorem dX4_clue_46 : decode cX4_clue 46 = .ok (.iload_n 2, 1) := by decide +kernel
theorem dX4_clue_47 : decode cX4_clue 47 = .ok (.iconst 1, 1) := by decide +kernel
theorem dX4_clue_48 : decode cX4_clue 48 = .ok (.if_icmp .ne 21, 3) := by decide +kernel
theorem dX4_clue_51 : decode cX4_clue 51 = .ok (.aload_n 0, 1) := by decide +kernel
theorem dX4_clue_52 : decode cX4_clue 52 = .ok (.getfield 26, 3) := by decide +kernel
theorem dX4_clue_55 : decode cX4_clue 55 = .ok (.dup, 1) := by decide +kernel
theorem dX4_clue_56 : decode cX4_clue 56 = .ok (.getfield 167, 3) := by decide +kernel
theorem dX4_clue_59 : decode cX4_clue 59 = .ok (.iconst 1, 1) := by decide +kernel
theorem dX4_clue_60 : decode cX4_clue 60 = .ok (.iload_n 1, 1) := by decide +kernel
theorem dX4_clue_61 : decode cX4_clue 61 = .ok (.ishl, 1) := by decide +kernel
theorem dX4_clue_62 : decode cX4_clue 62 = .ok (.ior, 1) := by decide +kernel
theorem dX4_clue_63 : decode cX4_clue 63 = .ok (.putfield 167, 3) := by decide +kernel
theorem dX4_clue_66 : decode cX4_clue 66 = .ok (.goto 18, 3) := by decide +kernel
theorem dX4_clue_69 : decode cX4_clue 69 = .ok (.aload_n 0, 1) := by decide +kernel
theorem dX4_clue_70 : decode cX4_clue 70 = .ok (.getfield 26, 3) := by decide +kernel
theorem dX4_clue_73 : decode cX4_clue 73 = .ok (.dup, 1) := by decide +kernel
theorem dX4_clue_74 : decode cX4_clue 74 = .ok (.getfield 169, 3) := by decide +kernel
theorem dX4_clue_77 : decode cX4_clue 77 = .ok (.iconst 1, 1) := by decide +kernel
theorem dX4_clue_78 : decode cX4_clue 78 = .ok (.iload_n 1, 1) := by decide +kernel
theorem dX4_clue_79 : decode cX4_clue 79 = .ok (.ishl, 1) := by decide +kernel
theorem dX4_clue_80 : decode cX4_clue 80 = .ok (.ior, 1) := by decide +kernel
theorem dX4_clue_81 : decode cX4_clue 81 = .ok (.putfield 169, 3) := by decide +kernel
theorem dX4_clue_84 : decode cX4_clue 84 = .ok (.aload_n 0, 1) := by decide +kernel
theorem dX4_clue_85 : decode cX4_clue 85 = .ok (.getfield 26, 3) := by decide +kernel
theorem dX4_clue_88 : decode cX4_clue 88 = .ok (.getfield 164, 3) := by decide +kernel
theorem dX4_clue_91 : decode cX4_clue 91 = .ok (.ireturn, 1) := by decide +kernel
set_option maxRecDepth 20000 in
theorem ggX4_fit_X2_countFitting : GoodIn wsX4_fit wsX2_countFitting := goodIn_r _ [7, 8, 9, 10, 5, 11, 12, 13, 14, 15, 16, 17, 18, 19, 20, 21, 22, 23, 24, 25, 26, 27, 28, 29, 30, 31, 32, 33, 34, 35, 36, 37, 38, 39, 40, 41, 42, 43, 44, 45, 46, 47, 48, 49, 50, 51, 52, 53, 54, 55, 56, 57, 58, 59, 60, 61, 62, 70, 71, 72, 73, 74, 75, 76, 77, 78, 79, 80, 81, 82, 83, 84, 85, 86, 87, 88, 89, 90, 91, 92, 93] (by decide +kernel) (by decide +kernel)
set_option maxRecDepth 20000 in
theorem gX4_fit_X2_countFitting_n172 : GoodIn wsX4_fit (wsX2_countFitting) := ggX4_fit_X2_countFitting
theorem dX4_fit_0 : decode cX4_fit 0 = .ok (.aload_n 0, 1) := by decide +kernel
theorem dX4_fit_1 : decode cX4_fit 1 = .ok (.getfield 19, 3) := by decide +kernel
theorem dX4_fit_4 : decode cX4_fit 4 = .ok (.aload_n 0, 1) := by decide +kernel
theorem dX4_fit_5 : decode cX4_fit 5 = .ok (.getfield 37, 3) := by decide +kernel
theorem dX4_fit_8 : decode cX4_fit 8 = .ok (.aload_n 0, 1) := by decide +kernel
theorem dX4_fit_9 : decode cX4_fit 9 = .ok (.getfield 26, 3) := by decide +kernel
theorem dX4_fit_12 : decode cX4_fit 12 = .ok (.invokevirtual 172, 3) := by decide +kernel
theorem dX4_fit_15 : decode cX4_fit 15 = .ok (.ireturn, 1) := by decide +kernel
set_option maxRecDepth 20000 in
theorem ggX4_sure_X1_hasPanel : GoodIn wsX4_sure wsX1_hasPanel := goodIn_r _ [7, 8, 9, 73, 74, 75, 76, 77, 78, 79, 80, 81, 82, 83] (by decide +kernel) (by decide +kernel)
set_option maxRecDepth 20000 in
theorem gX4_sure_X1_hasPanel_n69 : GoodIn wsX4_sure (wsX1_hasPanel) := ggX4_sure_X1_hasPanel
set_option maxRecDepth 20000 in
theorem ggX4_sure_X2_surePlace : GoodIn wsX4_sure wsX2_surePlace := goodIn_r _ [13, 14, 15, 16, 11, 17, 18, 19, 20, 21, 22, 23, 5, 24, 25, 26, 8, 27, 28, 29, 30, 31, 32, 33, 34, 35, 36, 37, 9, 38, 39, 40, 41, 42, 43, 44, 45, 46, 47, 48, 49, 50, 51, 52, 53, 54, 55, 56, 57, 58, 59, 60, 61, 62, 63, 64, 65, 84, 85, 86, 87, 88, 73, 74, 75, 76, 77, 78, 79, 80, 81, 82, 83, 89, 90, 91, 92, 93, 94, 95, 96] (by decide +kernel) (by decide +kernel)
set_option maxRecDepth 20000 in
theorem gX4_sure_X2_surePlace_n176 : GoodIn wsX4_sure (wsX2_surePlace) := ggX4_sure_X2_surePlace
theorem dX4_sure_0 : decode cX4_sure 0 = .ok (.aload_n 0, 1) := by decide +kernel
theorem dX4_sure_1 : decode cX4_sure 1 = .ok (.getfield 37, 3) := by decide +kernel
theorem dX4_sure_4 : decode cX4_sure 4 = .ok (.iload_n 1, 1) := by decide +kernel
theorem dX4_sure_5 : decode cX4_sure 5 = .ok (.invokevirtual 69, 3) := by decide +kernel
theorem dX4_sure_8 : decode cX4_sure 8 = .ok (.ifCond .ne 5, 3) := by decide +kernel
theorem dX4_sure_11 : decode cX4_sure 11 = .ok (.iconst (-1), 1) := by decide +kernel
theorem dX4_sure_12 : decode cX4_sure 12 = .ok (.ireturn, 1) := by decide +kernel
theorem dX4_sure_13 : decode cX4_sure 13 = .ok (.aload_n 0, 1) := by decide +kernel
theorem dX4_sure_14 : decode cX4_sure 14 = .ok (.getfield 19, 3) := by decide +kernel
theorem dX4_sure_17 : decode cX4_sure 17 = .ok (.aload_n 0, 1) := by decide +kernel
theorem dX4_sure_18 : decode cX4_sure 18 = .ok (.getfield 37, 3) := by decide +kernel
theorem dX4_sure_21 : decode cX4_sure 21 = .ok (.aload_n 0, 1) := by decide +kernel
theorem dX4_sure_22 : decode cX4_sure 22 = .ok (.getfield 26, 3) := by decide +kernel
theorem dX4_sure_25 : decode cX4_sure 25 = .ok (.iload_n 1, 1) := by decide +kernel
theorem dX4_sure_26 : decode cX4_sure 26 = .ok (.invokevirtual 176, 3) := by decide +kernel
theorem dX4_sure_29 : decode cX4_sure 29 = .ok (.ireturn, 1) := by decide +kernel
theorem dX4_forget_0 : decode cX4_forget 0 = .ok (.aload_n 0, 1) := by decide +kernel
theorem dX4_forget_1 : decode cX4_forget 1 = .ok (.getfield 26, 3) := by decide +kernel
theorem dX4_forget_4 : decode cX4_forget 4 = .ok (.getfield 164, 3) := by decide +kernel
theorem dX4_forget_7 : decode cX4_forget 7 = .ok (.istore_n 1, 1) := by decide +kernel
theorem dX4_forget_8 : decode cX4_forget 8 = .ok (.aload_n 0, 1) := by decide +kernel
theorem dX4_forget_9 : decode cX4_forget 9 = .ok (.getfield 26, 3) := by decide +kernel
theorem dX4_forget_12 : decode cX4_forget 12 = .ok (.iconst 0, 1) := by decide +kernel
theorem dX4_forget_13 : decode cX4_forget 13 = .ok (.putfield 164, 3) := by decide +kernel
theorem dX4_forget_16 : decode cX4_forget 16 = .ok (.aload_n 0, 1) := by decide +kernel
theorem dX4_forget_17 : decode cX4_forget 17 = .ok (.getfield 26, 3) := by decide +kernel
theorem dX4_forget_20 : decode cX4_forget 20 = .ok (.iconst 0, 1) := by decide +kernel
theorem dX4_forget_21 : decode cX4_forget 21 = .ok (.putfield 167, 3) := by decide +kernel
theorem dX4_forget_24 : decode cX4_forget 24 = .ok (.aload_n 0, 1) := by decide +kernel
theorem dX4_forget_25 : decode cX4_forget 25 = .ok (.getfield 26, 3) := by decide +kernel
theorem dX4_forget_28 : decode cX4_forget 28 = .ok (.iconst 0, 1) := by decide +kernel
theorem dX4_forget_29 : decode cX4_forget 29 = .ok (.putfield 169, 3) := by decide +kernel
theorem dX4_forget_32 : decode cX4_forget 32 = .ok (.iload_n 1, 1) := by decide +kernel
theorem dX4_forget_33 : decode cX4_forget 33 = .ok (.ireturn, 1) := by decide +kernel
set_option maxRecDepth 20000 in
theorem ggX4_mark_X1_hasPanel : GoodIn wsX4_mark wsX1_hasPanel := goodIn_r _ [6, 7, 8, 58, 59, 60, 61, 62, 63, 64, 65, 66, 67, 68] (by decide +kernel) (by decide +kernel)
set_option maxRecDepth 20000 in
theorem gX4_mark_X1_hasPanel_n69 : GoodIn wsX4_mark (wsX1_hasPanel) := ggX4_mark_X1_hasPanel
set_option maxRecDepth 20000 in
theorem ggX4_mark_X4_markOfPanel : GoodIn wsX4_mark wsX4_markOfPanel := goodIn_r _ [13, 14, 15, 16, 17, 12, 18, 51, 52, 53, 54, 55, 56, 57, 69, 70, 71, 72, 73, 74, 75, 76] (by decide +kernel) (by decide +kernel)
set_option maxRecDepth 20000 in
theorem gX4_mark_X4_markOfPanel : GoodIn wsX4_mark (wsV RX4 179 RX4 yX4_markOfPanel wsX4_markOfPanel) := goodIn_app (goodIn_of _ (by decide +kernel)) ggX4_mark_X4_markOfPanel
set_option maxRecDepth 20000 in
theorem ggX4_mark_X4_markOfBearing : GoodIn wsX4_mark wsX4_markOfBearing := goodIn_r _ [22, 14, 23, 9, 10, 11, 12, 13, 15, 16, 17, 18, 51, 52, 53, 54, 55, 56, 57, 69, 70, 71, 72, 73, 74, 75, 76] (by decide +kernel) (by decide +kernel)
set_option maxRecDepth 20000 in
theorem gX4_mark_X4_markOfBearing : GoodIn wsX4_mark (wsV RX4 182 RX4 yX4_markOfBearing wsX4_markOfBearing) := goodIn_app (goodIn_of _ (by decide +kernel)) ggX4_mark_X4_markOfBearing
set_option maxRecDepth 20000 in
theorem ggX4_mark_X4_markOfLight : GoodIn wsX4_mark wsX4_markOfLight := goodIn_r _ [27, 14, 28, 1, 9, 10, 11, 12, 13, 15, 16, 17, 18, 29, 4, 30, 31, 8, 32, 3, 5, 6, 7, 51, 52, 53, 54, 55, 56, 57, 69, 70, 71, 72, 73, 74, 75, 76, 58, 59, 60, 61, 62, 63, 64, 65, 66, 67, 68] (by decide +kernel) (by decide +kernel)
set_option maxRecDepth 20000 in
theorem gX4_mark_X4_markOfLight : GoodIn wsX4_mark (wsV RX4 185 RX4 yX4_markOfLight wsX4_markOfLight) := goodIn_app (goodIn_of _ (by decide +kernel)) ggX4_mark_X4_markOfLight
set_option maxRecDepth 20000 in
theorem ggX4_mark_X4_markOfOld : GoodIn wsX4_mark wsX4_markOfOld := goodIn_r _ [36, 14, 37, 15, 19, 20, 21, 12, 22, 23, 9, 10, 11, 13, 16, 17, 18, 51, 52, 53, 54, 55, 56, 57, 69, 70, 71, 72, 73, 74, 75, 76] (by decide +kernel) (by decide +kernel)
set_option maxRecDepth 20000 in
theorem gX4_mark_X4_markOfOld : GoodIn wsX4_mark (wsV RX4 188 RX4 yX4_markOfOld wsX4_markOfOld) := goodIn_app (goodIn_of _ (by decide +kernel)) ggX4_mark_X4_markOfOld
set_option maxRecDepth 20000 in
theorem ggX4_mark_X4_markOfClear : GoodIn wsX4_mark wsX4_markOfClear := goodIn_r _ [41, 14, 42, 1, 15, 24, 25, 26, 12, 27, 28, 9, 10, 11, 13, 16, 17, 18, 29, 4, 30, 31, 8, 32, 3, 5, 6, 7, 43, 44, 45, 51, 52, 53, 54, 55, 56, 57, 69, 70, 71, 72, 73, 74, 75, 76, 58, 59, 60, 61, 62, 63, 64, 65, 66, 67, 68] (by decide +kernel) (by decide +kernel)
set_option maxRecDepth 20000 in
theorem gX4_mark_X4_markOfClear : GoodIn wsX4_mark (wsV RX4 191 RX4 yX4_markOfClear wsX4_markOfClear) := goodIn_app (goodIn_of _ (by decide +kernel)) ggX4_mark_X4_markOfClear
set_option maxRecDepth 20000 in
theorem ggX4_mark_X4_markOfNeighbours : GoodIn wsX4_mark wsX4_markOfNeighbours := goodIn_r _ [49, 14, 50, 9, 10, 11, 12, 13, 15, 16, 17, 18, 51, 52, 53, 54, 55, 56, 57, 69, 70, 71, 72, 73, 74, 75, 76] (by decide +kernel) (by decide +kernel)
set_option maxRecDepth 20000 in
theorem gX4_mark_X4_markOfNeighbours : GoodIn wsX4_mark (wsV RX4 194 RX4 yX4_markOfNeighbours wsX4_markOfNeighbours) := goodIn_app (goodIn_of _ (by decide +kernel)) ggX4_mark_X4_markOfNeighbours
theorem dX4_mark_0 : decode cX4_mark 0 = .ok (.aload_n 0, 1) := by decide +kernel
theorem dX4_mark_1 : decode cX4_mark 1 = .ok (.getfield 37, 3) := by decide +kernel
theorem dX4_mark_4 : decode cX4_mark 4 = .ok (.iload_n 2, 1) := by decide +kernel
theorem dX4_mark_5 : decode cX4_mark 5 = .ok (.invokevirtual 69, 3) := by decide +kernel
theorem dX4_mark_8 : decode cX4_mark 8 = .ok (.ifCond .ne 6, 3) := by decide +kernel
theorem dX4_mark_11 : decode cX4_mark 11 = .ok (.ldc 140, 2) := by decide +kernel
theorem dX4_mark_13 : decode cX4_mark 13 = .ok (.ireturn, 1) := by decide +kernel
theorem dX4_mark_14 : decode cX4_mark 14 = .ok (.iload_n 1, 1) := by decide +kernel
theorem dX4_mark_15 : decode cX4_mark 15 = .ok (.tableswitch 73 0 5 #[37, 43, 49, 55, 61, 67], 37) := by decide +kernel
theorem dX4_mark_52 : decode cX4_mark 52 = .ok (.aload_n 0, 1) := by decide +kernel
theorem dX4_mark_53 : decode cX4_mark 53 = .ok (.iload_n 2, 1) := by decide +kernel
theorem dX4_mark_54 : decode cX4_mark 54 = .ok (.invokevirtual 179, 3) := by decide +kernel
theorem dX4_mark_57 : decode cX4_mark 57 = .ok (.ireturn, 1) := by decide +kernel
theorem dX4_mark_58 : decode cX4_mark 58 = .ok (.aload_n 0, 1) := by decide +kernel
theorem dX4_mark_59 : decode cX4_mark 59 = .ok (.iload_n 2, 1) := by decide +kernel
theorem dX4_mark_60 : decode cX4_mark 60 = .ok (.invokevirtual 182, 3) := by decide +kernel
theorem dX4_mark_63 : decode cX4_mark 63 = .ok (.ireturn, 1) := by decide +kernel
theorem dX4_mark_64 : decode cX4_mark 64 = .ok (.aload_n 0, 1) := by decide +kernel
theorem dX4_mark_65 : decode cX4_mark 65 = .ok (.iload_n 2, 1) := by decide +kernel
theorem dX4_mark_66 : decode cX4_mark 66 = .ok (.invokevirtual 185, 3) := by decide +kernel
theorem dX4_mark_69 : decode cX4_mark 69 = .ok (.ireturn, 1) := by decide +kernel
theorem dX4_mark_70 : decode cX4_mark 70 = .ok (.aload_n 0, 1) := by decide +kernel
theorem dX4_mark_71 : decode cX4_mark 71 = .ok (.iload_n 2, 1) := by decide +kernel
theorem dX4_mark_72 : decode cX4_mark 72 = .ok (.invokevirtual 188, 3) := by decide +kernel
theorem dX4_mark_75 : decode cX4_mark 75 = .ok (.ireturn, 1) := by decide +kernel
theorem dX4_mark_76 : decode cX4_mark 76 = .ok (.aload_n 0, 1) := by decide +kernel
theorem dX4_mark_77 : decode cX4_mark 77 = .ok (.iload_n 2, 1) := by decide +kernel
theorem dX4_mark_78 : decode cX4_mark 78 = .ok (.invokevirtual 191, 3) := by decide +kernel
theorem dX4_mark_81 : decode cX4_mark 81 = .ok (.ireturn, 1) := by decide +kernel
theorem dX4_mark_82 : decode cX4_mark 82 = .ok (.aload_n 0, 1) := by decide +kernel
theorem dX4_mark_83 : decode cX4_mark 83 = .ok (.iload_n 2, 1) := by decide +kernel
theorem dX4_mark_84 : decode cX4_mark 84 = .ok (.invokevirtual 194, 3) := by decide +kernel
theorem dX4_mark_87 : decode cX4_mark 87 = .ok (.ireturn, 1) := by decide +kernel
theorem dX4_mark_88 : decode cX4_mark 88 = .ok (.ldc 140, 2) := by decide +kernel
theorem dX4_mark_90 : decode cX4_mark 90 = .ok (.ireturn, 1) := by decide +kernel
set_option maxRecDepth 20000 in
theorem ggX4_keep_X4_isImage : GoodIn wsX4_keep wsX4_isImage := goodIn_r _ [7, 1, 19, 20, 21, 22, 23, 24, 25] (by decide +kernel) (by decide +kernel)
set_option maxRecDepth 20000 in
theorem gX4_keep_X4_isImage : GoodIn wsX4_keep (wsV RX4 144 RX4 yX4_isImage wsX4_isImage) := goodIn_app (goodIn_of _ (by decide +kernel)) ggX4_keep_X4_isImage
set_option maxRecDepth 20000 in
theorem ggX4_keep_X0_copyFrom : GoodIn wsX4_keep wsX0_copyFrom := goodIn_r _ [11, 12, 13, 14, 15, 16, 17, 18, 26, 27, 28, 29, 30, 31, 32, 33] (by decide +kernel) (by decide +kernel)
set_option maxRecDepth 20000 in
theorem gX4_keep_X0_copyFrom_n197 : GoodIn wsX4_keep (wsX0_copyFrom) := ggX4_keep_X0_copyFrom
theorem dX4_keep_0 : decode cX4_keep 0 = .ok (.aload_n 0, 1) := by decide +kernel
theorem dX4_keep_1 : decode cX4_keep 1 = .ok (.iload_n 1, 1) := by decide +kernel
theorem dX4_keep_2 : decode cX4_keep 2 = .ok (.invokevirtual 144, 3) := by decide +kernel
theorem dX4_keep_5 : decode cX4_keep 5 = .ok (.ifCond .ne 5, 3) := by decide +kernel
theorem dX4_keep_8 : decode cX4_keep 8 = .ok (.iconst (-1), 1) := by decide +kernel
theorem dX4_keep_9 : decode cX4_keep 9 = .ok (.ireturn, 1) := by decide +kernel
theorem dX4_keep_10 : decode cX4_keep 10 = .ok (.aload_n 0, 1) := by decide +kernel
theorem dX4_keep_11 : decode cX4_keep 11 = .ok (.getfield 30, 3) := by decide +kernel
theorem dX4_keep_14 : decode cX4_keep 14 = .ok (.iload_n 1, 1) := by decide +kernel
theorem dX4_keep_15 : decode cX4_keep 15 = .ok (.aaload, 1) := by decide +kernel
theorem dX4_keep_16 : decode cX4_keep 16 = .ok (.aload_n 0, 1) := by decide +kernel
theorem dX4_keep_17 : decode cX4_keep 17 = .ok (.getfield 26, 3) := by decide +kernel
theorem dX4_keep_20 : decode cX4_keep 20 = .ok (.invokevirtual 197, 3) := by decide +kernel
theorem dX4_keep_23 : decode cX4_keep 23 = .ok (.aload_n 0, 1) := by decide +kernel
theorem dX4_keep_24 : decode cX4_keep 24 = .ok (.getfield 30, 3) := by decide +kernel
theorem dX4_keep_27 : decode cX4_keep 27 = .ok (.iload_n 1, 1) := by decide +kernel
theorem dX4_keep_28 : decode cX4_keep 28 = .ok (.aaload, 1) := by decide +kernel
theorem dX4_keep_29 : decode cX4_keep 29 = .ok (.iconst 1, 1) := by decide +kernel
theorem dX4_keep_30 : decode cX4_keep 30 = .ok (.putfield 66, 3) := by decide +kernel
theorem dX4_keep_33 : decode cX4_keep 33 = .ok (.aload_n 0, 1) := by decide +kernel
theorem dX4_keep_34 : decode cX4_keep 34 = .ok (.getfield 26, 3) := by decide +kernel
theorem dX4_keep_37 : decode cX4_keep 37 = .ok (.getfield 122, 3) := by decide +kernel
theorem dX4_keep_40 : decode cX4_keep 40 = .ok (.ireturn, 1) := by decide +kernel
set_option maxRecDepth 20000 in
theorem ggX4_back_X4_isImage : GoodIn wsX4_back wsX4_isImage := goodIn_r _ [7, 1, 19, 20, 21, 22, 23, 24, 25] (by decide +kernel) (by decide +kernel)
set_option maxRecDepth 20000 in
theorem gX4_back_X4_isImage : GoodIn wsX4_back (wsV RX4 144 RX4 yX4_isImage wsX4_isImage) := goodIn_app (goodIn_of _ (by decide +kernel)) ggX4_back_X4_isImage
set_option maxRecDepth 20000 in
theorem ggX4_back_X0_copyFrom : GoodIn wsX4_back wsX0_copyFrom := goodIn_r _ [11, 12, 13, 14, 15, 16, 17, 18, 26, 27, 28, 29, 30, 31, 32, 33] (by decide +kernel) (by decide +kernel)
set_option maxRecDepth 20000 in
theorem gX4_back_X0_copyFrom_n197 : GoodIn wsX4_back (wsX0_copyFrom) := ggX4_back_X0_copyFrom
theorem dX4_back_0 : decode cX4_back 0 = .ok (.aload_n 0, 1) := by decide +kernel
theorem dX4_back_1 : decode cX4_back 1 = .ok (.iload_n 1, 1) := by decide +kernel
theorem dX4_back_2 : decode cX4_back 2 = .ok (.invokevirtual 144, 3) := by decide +kernel
theorem dX4_back_5 : decode cX4_back 5 = .ok (.ifCond .ne 5, 3) := by decide +kernel
theorem dX4_back_8 : decode cX4_back 8 = .ok (.iconst (-1), 1) := by decide +kernel
theorem dX4_back_9 : decode cX4_back 9 = .ok (.ireturn, 1) := by decide +kernel
theorem dX4_back_10 : decode cX4_back 10 = .ok (.aload_n 0, 1) := by decide +kernel
theorem dX4_back_11 : decode cX4_back 11 = .ok (.getfield 30, 3) := by decide +kernel
theorem dX4_back_14 : decode cX4_back 14 = .ok (.iload_n 1, 1) := by decide +kernel
theorem dX4_back_15 : decode cX4_back 15 = .ok (.aaload, 1) := by decide +kernel
theorem dX4_back_16 : decode cX4_back 16 = .ok (.getfield 66, 3) := by decide +kernel
theorem dX4_back_19 : decode cX4_back 19 = .ok (.ifCond .ne 6, 3) := by decide +kernel
theorem dX4_back_22 : decode cX4_back 22 = .ok (.bipush (-2), 2) := by decide +kernel
theorem dX4_back_24 : decode cX4_back 24 = .ok (.ireturn, 1) := by decide +kernel
theorem dX4_back_25 : decode cX4_back 25 = .ok (.aload_n 0, 1) := by decide +kernel
theorem dX4_back_26 : decode cX4_back 26 = .ok (.getfield 26, 3) := by decide +kernel
theorem dX4_back_29 : decode cX4_back 29 = .ok (.aload_n 0, 1) := by decide +kernel
theorem dX4_back_30 : decode cX4_back 30 = .ok (.getfield 30, 3) := by decide +kernel
theorem dX4_back_33 : decode cX4_back 33 = .ok (.iload_n 1, 1) := by decide +kernel
theorem dX4_back_34 : decode cX4_back 34 = .ok (.aaload, 1) := by decide +kernel
theorem dX4_back_35 : decode cX4_back 35 = .ok (.invokevirtual 197, 3) := by decide +kernel
theorem dX4_back_38 : decode cX4_back 38 = .ok (.aload_n 0, 1) := by decide +kernel
theorem dX4_back_39 : decode cX4_back 39 = .ok (.getfield 26, 3) := by decide +kernel
theorem dX4_back_42 : decode cX4_back 42 = .ok (.getfield 122, 3) := by decide +kernel
theorem dX4_back_45 : decode cX4_back 45 = .ok (.ireturn, 1) := by decide +kernel
set_option maxRecDepth 20000 in
theorem ggX4_count_X1_lyingIn : GoodIn wsX4_count wsX1_lyingIn := goodIn_r _ [7, 8, 9, 10, 11, 19, 20, 21, 22, 23, 24, 25, 26, 27, 28, 29] (by decide +kernel) (by decide +kernel)
set_option maxRecDepth 20000 in
theorem gX4_count_X1_lyingIn_n207 : GoodIn wsX4_count (wsX1_lyingIn) := ggX4_count_X1_lyingIn
theorem dX4_count_0 : decode cX4_count 0 = .ok (.iload_n 1, 1) := by decide +kernel
theorem dX4_count_1 : decode cX4_count 1 = .ok (.tableswitch 82 0 4 #[35, 43, 51, 66, 74], 35) := by decide +kernel
theorem dX4_count_36 : decode cX4_count 36 = .ok (.aload_n 0, 1) := by decide +kernel
theorem dX4_count_37 : decode cX4_count 37 = .ok (.getfield 37, 3) := by decide +kernel
theorem dX4_count_40 : decode cX4_count 40 = .ok (.getfield 201, 3) := by decide +kernel
theorem dX4_count_43 : decode cX4_count 43 = .ok (.ireturn, 1) := by decide +kernel
theorem dX4_count_44 : decode cX4_count 44 = .ok (.aload_n 0, 1) := by decide +kernel
theorem dX4_count_45 : decode cX4_count 45 = .ok (.getfield 37, 3) := by decide +kernel
theorem dX4_count_48 : decode cX4_count 48 = .ok (.getfield 204, 3) := by decide +kernel
theorem dX4_count_51 : decode cX4_count 51 = .ok (.ireturn, 1) := by decide +kernel
theorem dX4_count_52 : decode cX4_count 52 = .ok (.aload_n 0, 1) := by decide +kernel
theorem dX4_count_53 : decode cX4_count 53 = .ok (.getfield 37, 3) := by decide +kernel
theorem dX4_count_56 : decode cX4_count 56 = .ok (.aload_n 0, 1) := by decide +kernel
theorem dX4_count_57 : decode cX4_count 57 = .ok (.getfield 26, 3) := by decide +kernel
theorem dX4_count_60 : decode cX4_count 60 = .ok (.getfield 77, 3) := by decide +kernel
theorem dX4_count_63 : decode cX4_count 63 = .ok (.invokevirtual 207, 3) := by decide +kernel
theorem dX4_count_66 : decode cX4_count 66 = .ok (.ireturn, 1) := by decide +kernel
theorem dX4_count_67 : decode cX4_count 67 = .ok (.aload_n 0, 1) := by decide +kernel
theorem dX4_count_68 : decode cX4_count 68 = .ok (.getfield 26, 3) := by decide +kernel
theorem dX4_count_71 : decode cX4_count 71 = .ok (.getfield 164, 3) := by decide +kernel
theorem dX4_count_74 : decode cX4_count 74 = .ok (.ireturn, 1) := by decide +kernel
theorem dX4_count_75 : decode cX4_count 75 = .ok (.aload_n 0, 1) := by decide +kernel
theorem dX4_count_76 : decode cX4_count 76 = .ok (.getfield 12, 3) := by decide +kernel
theorem dX4_count_79 : decode cX4_count 79 = .ok (.getfield 44, 3) := by decide +kernel
theorem dX4_count_82 : decode cX4_count 82 = .ok (.ireturn, 1) := by decide +kernel
theorem dX4_count_83 : decode cX4_count 83 = .ok (.iconst (-1), 1) := by decide +kernel
theorem dX4_count_84 : decode cX4_count 84 = .ok (.ireturn, 1) := by decide +kernel
theorem dX4_trace_0 : decode cX4_trace 0 = .ok (.aload_n 0, 1) := by decide +kernel
theorem dX4_trace_1 : decode cX4_trace 1 = .ok (.getfield 210, 3) := by decide +kernel
theorem dX4_trace_4 : decode cX4_trace 4 = .ok (.lreturn, 1) := by decide +kernel
set_option maxRecDepth 20000 in
theorem ggX4_act_X4_moved : GoodIn wsX4_act wsX4_moved := goodIn_r _ [6, 7, 8, 5, 9, 10, 11, 12] (by decide +kernel) (by decide +kernel)
set_option maxRecDepth 20000 in
theorem gX4_act_X4_moved : GoodIn wsX4_act (va_wsS RX4 214 yX4_moved wsX4_moved) := goodIn_app (goodIn_of _ (by decide +kernel)) ggX4_act_X4_moved
set_option maxRecDepth 20000 in
theorem ggX4_act_X1_allows : GoodIn wsX4_act wsX1_allows := goodIn_r _ [16, 17, 18, 19, 20, 21, 22, 14, 23, 8, 5, 9, 24, 25, 26, 27, 28, 29, 30, 31, 32, 33, 34, 35, 36, 37, 38, 39, 40, 41, 42, 43, 44, 60, 61, 62, 63, 64, 65, 66, 67, 68, 69, 70] (by decide +kernel) (by decide +kernel)
set_option maxRecDepth 20000 in
theorem gX4_act_X1_allows_n137 : GoodIn wsX4_act (wsX1_allows) := ggX4_act_X1_allows
set_option maxRecDepth 20000 in
theorem ggX4_act_X1_lyingIn : GoodIn wsX4_act wsX1_lyingIn := goodIn_r _ [23, 18, 8, 5, 9, 60, 61, 62, 63, 64, 65, 66, 67, 68, 69, 70] (by decide +kernel) (by decide +kernel)
set_option maxRecDepth 20000 in
theorem gX4_act_X1_lyingIn_n207 : GoodIn wsX4_act (wsX1_lyingIn) := ggX4_act_X1_lyingIn
theorem dX4_act_0 : decode cX4_act 0 = .ok (.aload_n 0, 1) := by decide +kernel
theorem dX4_act_1 : decode cX4_act 1 = .ok (.getfield 26, 3) := by decide +kernel
theorem dX4_act_4 : decode cX4_act 4 = .ok (.getfield 77, 3) := by decide +kernel
theorem dX4_act_7 : decode cX4_act 7 = .ok (.iload_n 1, 1) := by decide +kernel
theorem dX4_act_8 : decode cX4_act 8 = .ok (.iload_n 2, 1) := by decide +kernel
theorem dX4_act_9 : decode cX4_act 9 = .ok (.invokestatic 214, 3) := by decide +kernel
theorem dX4_act_12 : decode cX4_act 12 = .ok (.istore_n 3, 1) := by decide +kernel
theorem dX4_act_13 : decode cX4_act 13 = .ok (.aload_n 0, 1) := by decide +kernel
theorem dX4_act_14 : decode cX4_act 14 = .ok (.getfield 26, 3) := by decide +kernel
theorem dX4_act_17 : decode cX4_act 17 = .ok (.getfield 131, 3) := by decide +kernel
theorem dX4_act_20 : decode cX4_act 20 = .ok (.aload_n 0, 1) := by decide +kernel
theorem dX4_act_21 : decode cX4_act 21 = .ok (.getfield 37, 3) := by decide +kernel
theorem dX4_act_24 : decode cX4_act 24 = .ok (.getfield 105, 3) := by decide +kernel
theorem dX4_act_27 : decode cX4_act 27 = .ok (.if_icmp .ge 14, 3) := by decide +kernel
theorem dX4_act_30 : decode cX4_act 30 = .ok (.aload_n 0, 1) := by decide +kernel
theorem dX4_act_31 : decode cX4_act 31 = .ok (.getfield 37, 3) := by decide +kernel
theorem dX4_act_34 : decode cX4_act 34 = .ok (.iload_n 3, 1) := by decide +kernel
theorem dX4_act_35 : decode cX4_act 35 = .ok (.invokevirtual 137, 3) := by decide +kernel
theorem dX4_act_38 : decode cX4_act 38 = .ok (.ifCond .ne 6, 3) := by decide +kernel
theorem dX4_act_41 : decode cX4_act 41 = .ok (.bipush (-2), 2) := by decide +kernel
theorem dX4_act_43 : decode cX4_act 43 = .ok (.ireturn, 1) := by decide +kernel
theorem dX4_act_44 : decode cX4_act 44 = .ok (.aload_n 0, 1) := by decide +kernel
theorem dX4_act_45 : decode cX4_act 45 = .ok (.getfield 26, 3) := by decide +kernel
theorem dX4_act_48 : decode cX4_act 48 = .ok (.iload_n 3, 1) := by decide +kernel
theorem dX4_act_49 : decode cX4_act 49 = .ok (.putfield 77, 3) := by decide +kernel
theorem dX4_act_52 : decode cX4_act 52 = .ok (.aload_n 0, 1) := by decide +kernel
theorem dX4_act_53 : decode cX4_act 53 = .ok (.getfield 26, 3) := by decide +kernel
theorem dX4_act_56 : decode cX4_act 56 = .ok (.dup, 1) := by decide +kernel
theorem dX4_act_57 : decode cX4_act 57 = .ok (.getfield 131, 3) := by decide +kernel
theorem dX4_act_60 : decode cX4_act 60 = .ok (.iconst 1, 1) := by decide +kernel
theorem dX4_act_61 : decode cX4_act 61 = .ok (.iadd, 1) := by decide +kernel
theorem dX4_act_62 : decode cX4_act 62 = .ok (.putfield 131, 3) := by decide +kernel
theorem dX4_act_65 : decode cX4_act 65 = .ok (.aload_n 0, 1) := by decide +kernel
theorem dX4_act_66 : decode cX4_act 66 = .ok (.getfield 37, 3) := by decide +kernel
theorem dX4_act_69 : decode cX4_act 69 = .ok (.iload_n 3, 1) := by decide +kernel
theorem dX4_act_70 : decode cX4_act 70 = .ok (.invokevirtual 207, 3) := by decide +kernel
theorem dX4_act_73 : decode cX4_act 73 = .ok (.ireturn, 1) := by decide +kernel
theorem dX4_isImage_0 : decode cX4_isImage 0 = .ok (.iload_n 1, 1) := by decide +kernel
theorem dX4_isImage_1 : decode cX4_isImage 1 = .ok (.ifCond .lt 21, 3) := by decide +kernel
theorem dX4_isImage_4 : decode cX4_isImage 4 = .ok (.iload_n 1, 1) := by decide +kernel
theorem dX4_isImage_5 : decode cX4_isImage 5 = .ok (.iconst 2, 1) := by decide +kernel
theorem dX4_isImage_6 : decode cX4_isImage 6 = .ok (.if_icmp .ge 16, 3) := by decide +kernel
theorem dX4_isImage_9 : decode cX4_isImage 9 = .ok (.iload_n 1, 1) := by decide +kernel
theorem dX4_isImage_10 : decode cX4_isImage 10 = .ok (.aload_n 0, 1) := by decide +kernel
theorem dX4_isImage_11 : decode cX4_isImage 11 = .ok (.getfield 30, 3) := by decide +kernel
theorem dX4_isImage_14 : decode cX4_isImage 14 = .ok (.arraylength, 1) := by decide +kernel
theorem dX4_isImage_15 : decode cX4_isImage 15 = .ok (.if_icmp .ge 7, 3) := by decide +kernel
theorem dX4_isImage_18 : decode cX4_isImage 18 = .ok (.iconst 1, 1) := by decide +kernel
theorem dX4_isImage_19 : decode cX4_isImage 19 = .ok (.goto 4, 3) := by decide +kernel
theorem dX4_isImage_22 : decode cX4_isImage 22 = .ok (.iconst 0, 1) := by decide +kernel
theorem dX4_isImage_23 : decode cX4_isImage 23 = .ok (.ireturn, 1) := by decide +kernel
set_option maxRecDepth 20000 in
theorem ggX4_markOfPanel_X4_placeIn : GoodIn wsX4_markOfPanel wsX4_placeIn := goodIn_r _ [6] (by decide +kernel) (by decide +kernel)
set_option maxRecDepth 20000 in
theorem gX4_markOfPanel_X4_placeIn : GoodIn wsX4_markOfPanel (va_wsS RX4 80 yX4_placeIn wsX4_placeIn) := goodIn_app (goodIn_of _ (by decide +kernel)) ggX4_markOfPanel_X4_placeIn
theorem dX4_markOfPanel_0 : decode cX4_markOfPanel 0 = .ok (.aload_n 0, 1) := by decide +kernel
theorem dX4_markOfPanel_1 : decode cX4_markOfPanel 1 = .ok (.dup, 1) := by decide +kernel
theorem dX4_markOfPanel_2 : decode cX4_markOfPanel 2 = .ok (.getfield 210, 3) := by decide +kernel
theorem dX4_markOfPanel_5 : decode cX4_markOfPanel 5 = .ok (.lconst 1, 1) := by decide +kernel
theorem dX4_markOfPanel_6 : decode cX4_markOfPanel 6 = .ok (.ladd, 1) := by decide +kernel
theorem dX4_markOfPanel_7 : decode cX4_markOfPanel 7 = .ok (.putfield 210, 3) := by decide +kernel
theorem dX4_markOfPanel_10 : decode cX4_markOfPanel 10 = .ok (.aload_n 0, 1) := by decide +kernel
theorem dX4_markOfPanel_11 : decode cX4_markOfPanel 11 = .ok (.getfield 26, 3) := by decide +kernel
theorem dX4_markOfPanel_14 : decode cX4_markOfPanel 14 = .ok (.getfield 77, 3) := by decide +kernel
theorem dX4_markOfPanel_17 : decode cX4_markOfPanel 17 = .ok (.iload_n 1, 1) := by decide +kernel
theorem dX4_markOfPanel_18 : decode cX4_markOfPanel 18 = .ok (.invokestatic 80, 3) := by decide +kernel
theorem dX4_markOfPanel_21 : decode cX4_markOfPanel 21 = .ok (.ireturn, 1) := by decide +kernel
set_option maxRecDepth 20000 in
theorem ggX4_markOfBearing_X4_markOfPanel : GoodIn wsX4_markOfBearing wsX4_markOfPanel := goodIn_r _ [7, 1, 8, 9, 10, 6, 11, 12, 13, 14, 15, 16, 17, 18, 19, 20, 21, 22, 23, 24, 25, 26] (by decide +kernel) (by decide +kernel)
set_option maxRecDepth 20000 in
theorem gX4_markOfBearing_X4_markOfPanel : GoodIn wsX4_markOfBearing (wsV RX4 179 RX4 yX4_markOfPanel wsX4_markOfPanel) := goodIn_app (goodIn_of _ (by decide +kernel)) ggX4_markOfBearing_X4_markOfPanel
theorem dX4_markOfBearing_0 : decode cX4_markOfBearing 0 = .ok (.aload_n 0, 1) := by decide +kernel
theorem dX4_markOfBearing_1 : decode cX4_markOfBearing 1 = .ok (.dup, 1) := by decide +kernel
theorem dX4_markOfBearing_2 : decode cX4_markOfBearing 2 = .ok (.getfield 210, 3) := by decide +kernel
theorem dX4_markOfBearing_5 : decode cX4_markOfBearing 5 = .ok (.ldc2_w 218, 3) := by decide +kernel
theorem dX4_markOfBearing_8 : decode cX4_markOfBearing 8 = .ok (.ladd, 1) := by decide +kernel
theorem dX4_markOfBearing_9 : decode cX4_markOfBearing 9 = .ok (.putfield 210, 3) := by decide +kernel
theorem dX4_markOfBearing_12 : decode cX4_markOfBearing 12 = .ok (.aload_n 0, 1) := by decide +kernel
theorem dX4_markOfBearing_13 : decode cX4_markOfBearing 13 = .ok (.iload_n 1, 1) := by decide +kernel
theorem dX4_markOfBearing_14 : decode cX4_markOfBearing 14 = .ok (.invokevirtual 179, 3) := by decide +kernel
theorem dX4_markOfBearing_17 : decode cX4_markOfBearing 17 = .ok (.iconst 2, 1) := by decide +kernel
theorem dX4_markOfBearing_18 : decode cX4_markOfBearing 18 = .ok (.imul, 1) := by decide +kernel
theorem dX4_markOfBearing_19 : decode cX4_markOfBearing 19 = .ok (.ireturn, 1) := by decide +kernel
set_option maxRecDepth 20000 in
theorem ggX4_markOfLight_X4_markOfPanel : GoodIn wsX4_markOfLight wsX4_markOfPanel := goodIn_r _ [8, 1, 9, 10, 11, 7, 12, 23, 24, 25, 26, 27, 28, 29, 30, 31, 32, 33, 34, 35, 36, 37] (by decide +kernel) (by decide +kernel)
set_option maxRecDepth 20000 in
theorem gX4_markOfLight_X4_markOfPanel : GoodIn wsX4_markOfLight (wsV RX4 179 RX4 yX4_markOfPanel wsX4_markOfPanel) := goodIn_app (goodIn_of _ (by decide +kernel)) ggX4_markOfLight_X4_markOfPanel
set_option maxRecDepth 20000 in
theorem ggX4_markOfLight_X1_sortOf : GoodIn wsX4_markOfLight wsX1_sortOf := goodIn_r _ [16, 17, 18, 19, 20, 14, 21, 22, 38, 39, 40, 41, 42, 43, 44, 45, 46, 47, 48] (by decide +kernel) (by decide +kernel)
set_option maxRecDepth 20000 in
theorem gX4_markOfLight_X1_sortOf_n73 : GoodIn wsX4_markOfLight (wsX1_sortOf) := ggX4_markOfLight_X1_sortOf
theorem dX4_markOfLight_0 : decode cX4_markOfLight 0 = .ok (.aload_n 0, 1) := by decide +kernel
theorem dX4_markOfLight_1 : decode cX4_markOfLight 1 = .ok (.dup, 1) := by decide +kernel
theorem dX4_markOfLight_2 : decode cX4_markOfLight 2 = .ok (.getfield 210, 3) := by decide +kernel
theorem dX4_markOfLight_5 : decode cX4_markOfLight 5 = .ok (.ldc2_w 220, 3) := by decide +kernel
theorem dX4_markOfLight_8 : decode cX4_markOfLight 8 = .ok (.ladd, 1) := by decide +kernel
theorem dX4_markOfLight_9 : decode cX4_markOfLight 9 = .ok (.putfield 210, 3) := by decide +kernel
theorem dX4_markOfLight_12 : decode cX4_markOfLight 12 = .ok (.aload_n 0, 1) := by decide +kernel
theorem dX4_markOfLight_13 : decode cX4_markOfLight 13 = .ok (.iload_n 1, 1) := by decide +kernel
theorem dX4_markOfLight_14 : decode cX4_markOfLight 14 = .ok (.invokevirtual 179, 3) := by decide +kernel
theorem dX4_markOfLight_17 : decode cX4_markOfLight 17 = .ok (.aload_n 0, 1) := by decide +kernel
theorem dX4_markOfLight_18 : decode cX4_markOfLight 18 = .ok (.getfield 37, 3) := by decide +kernel
theorem dX4_markOfLight_21 : decode cX4_markOfLight 21 = .ok (.iload_n 1, 1) := by decide +kernel
theorem dX4_markOfLight_22 : decode cX4_markOfLight 22 = .ok (.invokevirtual 73, 3) := by decide +kernel
theorem dX4_markOfLight_25 : decode cX4_markOfLight 25 = .ok (.iadd, 1) := by decide +kernel
theorem dX4_markOfLight_26 : decode cX4_markOfLight 26 = .ok (.ireturn, 1) := by decide +kernel
set_option maxRecDepth 20000 in
theorem ggX4_markOfOld_X4_markOfBearing : GoodIn wsX4_markOfOld wsX4_markOfBearing := goodIn_r _ [8, 1, 9, 10, 11, 12, 7, 13, 3, 14, 15, 16, 17, 18, 19, 20, 21, 22, 23, 24, 25, 26, 27, 28, 29, 30, 31] (by decide +kernel) (by decide +kernel)
set_option maxRecDepth 20000 in
theorem gX4_markOfOld_X4_markOfBearing : GoodIn wsX4_markOfOld (wsV RX4 182 RX4 yX4_markOfBearing wsX4_markOfBearing) := goodIn_app (goodIn_of _ (by decide +kernel)) ggX4_markOfOld_X4_markOfBearing
theorem dX4_markOfOld_0 : decode cX4_markOfOld 0 = .ok (.aload_n 0, 1) := by decide +kernel
theorem dX4_markOfOld_1 : decode cX4_markOfOld 1 = .ok (.dup, 1) := by decide +kernel
theorem dX4_markOfOld_2 : decode cX4_markOfOld 2 = .ok (.getfield 210, 3) := by decide +kernel
theorem dX4_markOfOld_5 : decode cX4_markOfOld 5 = .ok (.ldc2_w 222, 3) := by decide +kernel
theorem dX4_markOfOld_8 : decode cX4_markOfOld 8 = .ok (.ladd, 1) := by decide +kernel
theorem dX4_markOfOld_9 : decode cX4_markOfOld 9 = .ok (.putfield 210, 3) := by decide +kernel
theorem dX4_markOfOld_12 : decode cX4_markOfOld 12 = .ok (.aload_n 0, 1) := by decide +kernel
theorem dX4_markOfOld_13 : decode cX4_markOfOld 13 = .ok (.iload_n 1, 1) := by decide +kernel
theorem dX4_markOfOld_14 : decode cX4_markOfOld 14 = .ok (.invokevirtual 182, 3) := by decide +kernel
theorem dX4_markOfOld_17 : decode cX4_markOfOld 17 = .ok (.aload_n 0, 1) := by decide +kernel
theorem dX4_markOfOld_18 : decode cX4_markOfOld 18 = .ok (.getfield 26, 3) := by decide +kernel
theorem dX4_markOfOld_21 : decode cX4_markOfOld 21 = .ok (.getfield 122, 3) := by decide +kernel
theorem dX4_markOfOld_24 : decode cX4_markOfOld 24 = .ok (.iadd, 1) := by decide +kernel
theorem dX4_markOfOld_25 : decode cX4_markOfOld 25 = .ok (.ireturn, 1) := by decide +kernel
set_option maxRecDepth 20000 in
theorem ggX4_markOfClear_X4_markOfLight : GoodIn wsX4_markOfClear wsX4_markOfLight := goodIn_r _ [9, 1, 10, 3, 11, 12, 13, 8, 14, 4, 15, 16, 17, 18, 19, 20, 21, 22, 23, 24, 25, 26, 27, 31, 32, 33, 34, 35, 36, 37, 38, 39, 40, 41, 42, 43, 44, 45, 46, 47, 48, 49, 50, 51, 52, 53, 54, 55, 56] (by decide +kernel) (by decide +kernel)
set_option maxRecDepth 20000 in
theorem gX4_markOfClear_X4_markOfLight : GoodIn wsX4_markOfClear (wsV RX4 185 RX4 yX4_markOfLight wsX4_markOfLight) := goodIn_app (goodIn_of _ (by decide +kernel)) ggX4_markOfClear_X4_markOfLight
set_option maxRecDepth 20000 in
theorem ggX4_markOfClear_X1_lyingIn : GoodIn wsX4_markOfClear wsX1_lyingIn := goodIn_r _ [30, 27, 16, 8, 17, 46, 47, 48, 49, 50, 51, 52, 53, 54, 55, 56] (by decide +kernel) (by decide +kernel)
set_option maxRecDepth 20000 in
theorem gX4_markOfClear_X1_lyingIn_n207 : GoodIn wsX4_markOfClear (wsX1_lyingIn) := ggX4_markOfClear_X1_lyingIn
theorem dX4_markOfClear_0 : decode cX4_markOfClear 0 = .ok (.aload_n 0, 1) := by decide +kernel
theorem dX4_markOfClear_1 : decode cX4_markOfClear 1 = .ok (.dup, 1) := by decide +kernel
theorem dX4_markOfClear_2 : decode cX4_markOfClear 2 = .ok (.getfield 210, 3) := by decide +kernel
theorem dX4_markOfClear_5 : decode cX4_markOfClear 5 = .ok (.ldc2_w 224, 3) := by decide +kernel
theorem dX4_markOfClear_8 : decode cX4_markOfClear 8 = .ok (.ladd, 1) := by decide +kernel
theorem dX4_markOfClear_9 : decode cX4_markOfClear 9 = .ok (.putfield 210, 3) := by decide +kernel
theorem dX4_markOfClear_12 : decode cX4_markOfClear 12 = .ok (.aload_n 0, 1) := by decide +kernel
theorem dX4_markOfClear_13 : decode cX4_markOfClear 13 = .ok (.iload_n 1, 1) := by decide +kernel
theorem dX4_markOfClear_14 : decode cX4_markOfClear 14 = .ok (.invokevirtual 185, 3) := by decide +kernel
theorem dX4_markOfClear_17 : decode cX4_markOfClear 17 = .ok (.aload_n 0, 1) := by decide +kernel
theorem dX4_markOfClear_18 : decode cX4_markOfClear 18 = .ok (.getfield 37, 3) := by decide +kernel
theorem dX4_markOfClear_21 : decode cX4_markOfClear 21 = .ok (.aload_n 0, 1) := by decide +kernel
theorem dX4_markOfClear_22 : decode cX4_markOfClear 22 = .ok (.getfield 26, 3) := by decide +kernel
theorem dX4_markOfClear_25 : decode cX4_markOfClear 25 = .ok (.getfield 77, 3) := by decide +kernel
theorem dX4_markOfClear_28 : decode cX4_markOfClear 28 = .ok (.invokevirtual 207, 3) := by decide +kernel
theorem dX4_markOfClear_31 : decode cX4_markOfClear 31 = .ok (.iadd, 1) := by decide +kernel
theorem dX4_markOfClear_32 : decode cX4_markOfClear 32 = .ok (.ireturn, 1) := by decide +kernel
set_option maxRecDepth 20000 in
theorem ggX4_markOfNeighbours_X4_markOfPanel : GoodIn wsX4_markOfNeighbours wsX4_markOfPanel := goodIn_r _ [7, 1, 8, 9, 10, 6, 11, 12, 13, 14, 15, 16, 17, 18, 19, 20, 21, 22, 23, 24, 25, 26] (by decide +kernel) (by decide +kernel)
set_option maxRecDepth 20000 in
theorem gX4_markOfNeighbours_X4_markOfPanel : GoodIn wsX4_markOfNeighbours (wsV RX4 179 RX4 yX4_markOfPanel wsX4_markOfPanel) := goodIn_app (goodIn_of _ (by decide +kernel)) ggX4_markOfNeighbours_X4_markOfPanel
theorem dX4_markOfNeighbours_0 : decode cX4_markOfNeighbours 0 = .ok (.aload_n 0, 1) := by decide +kernel
theorem dX4_markOfNeighbours_1 : decode cX4_markOfNeighbours 1 = .ok (.dup, 1) := by decide +kernel
theorem dX4_markOfNeighbours_2 : decode cX4_markOfNeighbours 2 = .ok (.getfield 210, 3) := by decide +kernel
theorem dX4_markOfNeighbours_5 : decode cX4_markOfNeighbours 5 = .ok (.ldc2_w 226, 3) := by decide +kernel
theorem dX4_markOfNeighbours_8 : decode cX4_markOfNeighbours 8 = .ok (.ladd, 1) := by decide +kernel
theorem dX4_markOfNeighbours_9 : decode cX4_markOfNeighbours 9 = .ok (.putfield 210, 3) := by decide +kernel
theorem dX4_markOfNeighbours_12 : decode cX4_markOfNeighbours 12 = .ok (.aload_n 0, 1) := by decide +kernel
theorem dX4_markOfNeighbours_13 : decode cX4_markOfNeighbours 13 = .ok (.iload_n 1, 1) := by decide +kernel
theorem dX4_markOfNeighbours_14 : decode cX4_markOfNeighbours 14 = .ok (.invokevirtual 179, 3) := by decide +kernel
theorem dX4_markOfNeighbours_17 : decode cX4_markOfNeighbours 17 = .ok (.iload_n 1, 1) := by decide +kernel
theorem dX4_markOfNeighbours_18 : decode cX4_markOfNeighbours 18 = .ok (.isub, 1) := by decide +kernel
theorem dX4_markOfNeighbours_19 : decode cX4_markOfNeighbours 19 = .ok (.ireturn, 1) := by decide +kernel
theorem dX4_isSlot_0 : decode cX4_isSlot 0 = .ok (.iload_n 0, 1) := by decide +kernel
theorem dX4_isSlot_1 : decode cX4_isSlot 1 = .ok (.ifCond .lt 13, 3) := by decide +kernel
theorem dX4_isSlot_4 : decode cX4_isSlot 4 = .ok (.iload_n 0, 1) := by decide +kernel
theorem dX4_isSlot_5 : decode cX4_isSlot 5 = .ok (.bipush 8, 2) := by decide +kernel
theorem dX4_isSlot_7 : decode cX4_isSlot 7 = .ok (.if_icmp .ge 7, 3) := by decide +kernel
theorem dX4_isSlot_10 : decode cX4_isSlot 10 = .ok (.iconst 1, 1) := by decide +kernel
theorem dX4_isSlot_11 : decode cX4_isSlot 11 = .ok (.goto 4, 3) := by decide +kernel
theorem dX4_isSlot_14 : decode cX4_isSlot 14 = .ok (.iconst 0, 1) := by decide +kernel
theorem dX4_isSlot_15 : decode cX4_isSlot 15 = .ok (.ireturn, 1) := by decide +kernel
theorem dX4_asNumber_0 : decode cX4_asNumber 0 = .ok (.iload_n 0, 1) := by decide +kernel
theorem dX4_asNumber_1 : decode cX4_asNumber 1 = .ok (.ifCond .eq 7, 3) := by decide +kernel
theorem dX4_asNumber_4 : decode cX4_asNumber 4 = .ok (.iconst 1, 1) := by decide +kernel
theorem dX4_asNumber_5 : decode cX4_asNumber 5 = .ok (.goto 4, 3) := by decide +kernel
theorem dX4_asNumber_8 : decode cX4_asNumber 8 = .ok (.iconst 0, 1) := by decide +kernel
theorem dX4_asNumber_9 : decode cX4_asNumber 9 = .ok (.ireturn, 1) := by decide +kernel
theorem dX4_placeIn_0 : decode cX4_placeIn 0 = .ok (.iload_n 1, 1) := by decide +kernel
theorem dX4_placeIn_1 : decode cX4_placeIn 1 = .ok (.tableswitch 52 0 2 #[27, 36, 44], 27) := by decide +kernel
theorem dX4_placeIn_28 : decode cX4_placeIn 28 = .ok (.iload_n 0, 1) := by decide +kernel
theorem dX4_placeIn_29 : decode cX4_placeIn 29 = .ok (.sipush 729, 3) := by decide +kernel
theorem dX4_placeIn_32 : decode cX4_placeIn 32 = .ok (.idiv, 1) := by decide +kernel
theorem dX4_placeIn_33 : decode cX4_placeIn 33 = .ok (.bipush 9, 2) := by decide +kernel
theorem dX4_placeIn_35 : decode cX4_placeIn 35 = .ok (.irem, 1) := by decide +kernel
theorem dX4_placeIn_36 : decode cX4_placeIn 36 = .ok (.ireturn, 1) := by decide +kernel
theorem dX4_placeIn_37 : decode cX4_placeIn 37 = .ok (.iload_n 0, 1) := by decide +kernel
theorem dX4_placeIn_38 : decode cX4_placeIn 38 = .ok (.bipush 81, 2) := by decide +kernel
theorem dX4_placeIn_40 : decode cX4_placeIn 40 = .ok (.idiv, 1) := by decide +kernel
theorem dX4_placeIn_41 : decode cX4_placeIn 41 = .ok (.bipush 9, 2) := by decide +kernel
theorem dX4_placeIn_43 : decode cX4_placeIn 43 = .ok (.irem, 1) := by decide +kernel
theorem dX4_placeIn_44 : decode cX4_placeIn 44 = .ok (.ireturn, 1) := by decide +kernel
theorem dX4_placeIn_45 : decode cX4_placeIn 45 = .ok (.iload_n 0, 1) := by decide +kernel
theorem dX4_placeIn_46 : decode cX4_placeIn 46 = .ok (.bipush 9, 2) := by decide +kernel
theorem dX4_placeIn_48 : decode cX4_placeIn 48 = .ok (.idiv, 1) := by decide +kernel
theorem dX4_placeIn_49 : decode cX4_placeIn 49 = .ok (.bipush 9, 2) := by decide +kernel
theorem dX4_placeIn_51 : decode cX4_placeIn 51 = .ok (.irem, 1) := by decide +kernel
theorem dX4_placeIn_52 : decode cX4_placeIn 52 = .ok (.ireturn, 1) := by decide +kernel
theorem dX4_placeIn_53 : decode cX4_placeIn 53 = .ok (.iload_n 0, 1) := by decide +kernel
theorem dX4_placeIn_54 : decode cX4_placeIn 54 = .ok (.bipush 9, 2) := by decide +kernel
theorem dX4_placeIn_56 : decode cX4_placeIn 56 = .ok (.irem, 1) := by decide +kernel
theorem dX4_placeIn_57 : decode cX4_placeIn 57 = .ok (.ireturn, 1) := by decide +kernel
theorem dX4_unitOf_0 : decode cX4_unitOf 0 = .ok (.iload_n 0, 1) := by decide +kernel
theorem dX4_unitOf_1 : decode cX4_unitOf 1 = .ok (.tableswitch 37 0 2 #[27, 31, 34], 27) := by decide +kernel
theorem dX4_unitOf_28 : decode cX4_unitOf 28 = .ok (.sipush 729, 3) := by decide +kernel
theorem dX4_unitOf_31 : decode cX4_unitOf 31 = .ok (.ireturn, 1) := by decide +kernel
theorem dX4_unitOf_32 : decode cX4_unitOf 32 = .ok (.bipush 81, 2) := by decide +kernel
theorem dX4_unitOf_34 : decode cX4_unitOf 34 = .ok (.ireturn, 1) := by decide +kernel
theorem dX4_unitOf_35 : decode cX4_unitOf 35 = .ok (.bipush 9, 2) := by decide +kernel
theorem dX4_unitOf_37 : decode cX4_unitOf 37 = .ok (.ireturn, 1) := by decide +kernel
theorem dX4_unitOf_38 : decode cX4_unitOf 38 = .ok (.iconst 1, 1) := by decide +kernel
theorem dX4_unitOf_39 : decode cX4_unitOf 39 = .ok (.ireturn, 1) := by decide +kernel
set_option maxRecDepth 20000 in
theorem ggX4_moved_X4_placeIn : GoodIn wsX4_moved wsX4_placeIn := goodIn_r _ [4] (by decide +kernel) (by decide +kernel)
set_option maxRecDepth 20000 in
theorem gX4_moved_X4_placeIn : GoodIn wsX4_moved (va_wsS RX4 80 yX4_placeIn wsX4_placeIn) := goodIn_app (goodIn_of _ (by decide +kernel)) ggX4_moved_X4_placeIn
set_option maxRecDepth 20000 in
theorem ggX4_moved_X4_unitOf : GoodIn wsX4_moved wsX4_unitOf := goodIn_r _ [7] (by decide +kernel) (by decide +kernel)
set_option maxRecDepth 20000 in
theorem gX4_moved_X4_unitOf : GoodIn wsX4_moved (va_wsS RX4 228 yX4_unitOf wsX4_unitOf) := goodIn_app (goodIn_of _ (by decide +kernel)) ggX4_moved_X4_unitOf
theorem dX4_moved_0 : decode cX4_moved 0 = .ok (.iload_n 0, 1) := by decide +kernel
theorem dX4_moved_1 : decode cX4_moved 1 = .ok (.iload_n 2, 1) := by decide +kernel
theorem dX4_moved_2 : decode cX4_moved 2 = .ok (.iload_n 0, 1) := by decide +kernel
theorem dX4_moved_3 : decode cX4_moved 3 = .ok (.iload_n 1, 1) := by decide +kernel
theorem dX4_moved_4 : decode cX4_moved 4 = .ok (.invokestatic 80, 3) := by decide +kernel
theorem dX4_moved_7 : decode cX4_moved 7 = .ok (.isub, 1) := by decide +kernel
theorem dX4_moved_8 : decode cX4_moved 8 = .ok (.iload_n 1, 1) := by decide +kernel
theorem dX4_moved_9 : decode cX4_moved 9 = .ok (.invokestatic 228, 3) := by decide +kernel
theorem dX4_moved_12 : decode cX4_moved 12 = .ok (.imul, 1) := by decide +kernel
theorem dX4_moved_13 : decode cX4_moved 13 = .ok (.iadd, 1) := by decide +kernel
theorem dX4_moved_14 : decode cX4_moved 14 = .ok (.ireturn, 1) := by decide +kernel
end
section
set_option maxRecDepth 20000 in
theorem ggX5_init_X5_begin : GoodIn wsX5_init wsX5_begin := goodIn_r _ [21, 7, 22, 23, 24, 25, 26, 27, 28, 29, 30, 31, 32, 33, 34, 35, 36, 37, 38, 39, 40] (by decide +kernel) (by decide +kernel)
set_option maxRecDepth 20000 in
theorem gX5_init_X5_begin : GoodIn wsX5_init (wsV RX5 42 RX5 yX5_begin wsX5_begin) := goodIn_app (goodIn_of _ (by decide +kernel)) ggX5_init_X5_begin
theorem dX5_init_0 : decode cX5_init 0 = .ok (.aload_n 0, 1) := by decide +kernel
theorem dX5_init_1 : decode cX5_init 1 = .ok (.invokespecial 1, 3) := by decide +kernel
theorem dX5_init_4 : decode cX5_init 4 = .ok (.aload_n 0, 1) := by decide +kernel
theorem dX5_init_5 : decode cX5_init 5 = .ok (.sipush 200, 3) := by decide +kernel
theorem dX5_init_8 : decode cX5_init 8 = .ok (.newarray .byte, 2) := by decide +kernel
theorem dX5_init_10 : decode cX5_init 10 = .ok (.putfield 7, 3) := by decide +kernel
theorem dX5_init_13 : decode cX5_init 13 = .ok (.aload_n 0, 1) := by decide +kernel
theorem dX5_init_14 : decode cX5_init 14 = .ok (.bipush 16, 2) := by decide +kernel
theorem dX5_init_16 : decode cX5_init 16 = .ok (.newarray .int, 2) := by decide +kernel
theorem dX5_init_18 : decode cX5_init 18 = .ok (.putfield 13, 3) := by decide +kernel
theorem dX5_init_21 : decode cX5_init 21 = .ok (.aload_n 0, 1) := by decide +kernel
theorem dX5_init_22 : decode cX5_init 22 = .ok (.bipush 8, 2) := by decide +kernel
theorem dX5_init_24 : decode cX5_init 24 = .ok (.newarray .int, 2) := by decide +kernel
theorem dX5_init_26 : decode cX5_init 26 = .ok (.putfield 17, 3) := by decide +kernel
theorem dX5_init_29 : decode cX5_init 29 = .ok (.aload_n 0, 1) := by decide +kernel
theorem dX5_init_30 : decode cX5_init 30 = .ok (.bipush 8, 2) := by decide +kernel
theorem dX5_init_32 : decode cX5_init 32 = .ok (.newarray .int, 2) := by decide +kernel
theorem dX5_init_34 : decode cX5_init 34 = .ok (.putfield 20, 3) := by decide +kernel
theorem dX5_init_37 : decode cX5_init 37 = .ok (.aload_n 0, 1) := by decide +kernel
theorem dX5_init_38 : decode cX5_init 38 = .ok (.iconst 4, 1) := by decide +kernel
theorem dX5_init_39 : decode cX5_init 39 = .ok (.newarray .int, 2) := by decide +kernel
theorem dX5_init_41 : decode cX5_init 41 = .ok (.putfield 23, 3) := by decide +kernel
theorem dX5_init_44 : decode cX5_init 44 = .ok (.aload_n 0, 1) := by decide +kernel
theorem dX5_init_45 : decode cX5_init 45 = .ok (.bipush 63, 2) := by decide +kernel
theorem dX5_init_47 : decode cX5_init 47 = .ok (.newarray .int, 2) := by decide +kernel
theorem dX5_init_49 : decode cX5_init 49 = .ok (.putfield 26, 3) := by decide +kernel
theorem dX5_init_52 : decode cX5_init 52 = .ok (.aload_n 0, 1) := by decide +kernel
theorem dX5_init_53 : decode cX5_init 53 = .ok (.iconst 2, 1) := by decide +kernel
theorem dX5_init_54 : decode cX5_init 54 = .ok (.newarray .boolean, 2) := by decide +kernel
theorem dX5_init_56 : decode cX5_init 56 = .ok (.putfield 29, 3) := by decide +kernel
theorem dX5_init_59 : decode cX5_init 59 = .ok (.aload_n 0, 1) := by decide +kernel
theorem dX5_init_60 : decode cX5_init 60 = .ok (.sipush 6561, 3) := by decide +kernel
theorem dX5_init_63 : decode cX5_init 63 = .ok (.newarray .int, 2) := by decide +kernel
theorem dX5_init_65 : decode cX5_init 65 = .ok (.putfield 33, 3) := by decide +kernel
theorem dX5_init_68 : decode cX5_init 68 = .ok (.aload_n 0, 1) := by decide +kernel
theorem dX5_init_69 : decode cX5_init 69 = .ok (.sipush 6561, 3) := by decide +kernel
theorem dX5_init_72 : decode cX5_init 72 = .ok (.newarray .int, 2) := by decide +kernel
theorem dX5_init_74 : decode cX5_init 74 = .ok (.putfield 36, 3) := by decide +kernel
theorem dX5_init_77 : decode cX5_init 77 = .ok (.aload_n 0, 1) := by decide +kernel
theorem dX5_init_78 : decode cX5_init 78 = .ok (.sipush 6561, 3) := by decide +kernel
theorem dX5_init_81 : decode cX5_init 81 = .ok (.newarray .boolean, 2) := by decide +kernel
theorem dX5_init_83 : decode cX5_init 83 = .ok (.putfield 39, 3) := by decide +kernel
theorem dX5_init_86 : decode cX5_init 86 = .ok (.aload_n 0, 1) := by decide +kernel
theorem dX5_init_87 : decode cX5_init 87 = .ok (.iconst 0, 1) := by decide +kernel
theorem dX5_init_88 : decode cX5_init 88 = .ok (.invokevirtual 42, 3) := by decide +kernel
theorem dX5_init_91 : decode cX5_init 91 = .ok (.return_, 1) := by decide +kernel
theorem dX5_in_0 : decode cX5_in 0 = .ok (.iload_n 0, 1) := by decide +kernel
theorem dX5_in_1 : decode cX5_in 1 = .ok (.iload_n 1, 1) := by decide +kernel
theorem dX5_in_2 : decode cX5_in 2 = .ok (.if_icmp .lt 12, 3) := by decide +kernel
theorem dX5_in_5 : decode cX5_in 5 = .ok (.iload_n 0, 1) := by decide +kernel
theorem dX5_in_6 : decode cX5_in 6 = .ok (.iload_n 2, 1) := by decide +kernel
theorem dX5_in_7 : decode cX5_in 7 = .ok (.if_icmp .gt 7, 3) := by decide +kernel
theorem dX5_in_10 : decode cX5_in 10 = .ok (.iconst 1, 1) := by decide +kernel
theorem dX5_in_11 : decode cX5_in 11 = .ok (.goto 4, 3) := by decide +kernel
theorem dX5_in_14 : decode cX5_in 14 = .ok (.iconst 0, 1) := by decide +kernel
theorem dX5_in_15 : decode cX5_in 15 = .ok (.ireturn, 1) := by decide +kernel
theorem dX5_begin_0 : decode cX5_begin 0 = .ok (.aload_n 0, 1) := by decide +kernel
theorem dX5_begin_1 : decode cX5_begin 1 = .ok (.getfield 13, 3) := by decide +kernel
theorem dX5_begin_4 : decode cX5_begin 4 = .ok (.iload_n 1, 1) := by decide +kernel
theorem dX5_begin_5 : decode cX5_begin 5 = .ok (.iconst 0, 1) := by decide +kernel
theorem dX5_begin_6 : decode cX5_begin 6 = .ok (.iadd, 1) := by decide +kernel
theorem dX5_begin_7 : decode cX5_begin 7 = .ok (.iconst 0, 1) := by decide +kernel
theorem dX5_begin_8 : decode cX5_begin 8 = .ok (.iastore, 1) := by decide +kernel
theorem dX5_begin_9 : decode cX5_begin 9 = .ok (.aload_n 0, 1) := by decide +kernel
theorem dX5_begin_10 : decode cX5_begin 10 = .ok (.getfield 13, 3) := by decide +kernel
theorem dX5_begin_13 : decode cX5_begin 13 = .ok (.iload_n 1, 1) := by decide +kernel
theorem dX5_begin_14 : decode cX5_begin 14 = .ok (.iconst 1, 1) := by decide +kernel
theorem dX5_begin_15 : decode cX5_begin 15 = .ok (.iadd, 1) := by decide +kernel
theorem dX5_begin_16 : decode cX5_begin 16 = .ok (.iconst 0, 1) := by decide +kernel
theorem dX5_begin_17 : decode cX5_begin 17 = .ok (.iastore, 1) := by decide +kernel
theorem dX5_begin_18 : decode cX5_begin 18 = .ok (.aload_n 0, 1) := by decide +kernel
theorem dX5_begin_19 : decode cX5_begin 19 = .ok (.getfield 13, 3) := by decide +kernel
theorem dX5_begin_22 : decode cX5_begin 22 = .ok (.iload_n 1, 1) := by decide +kernel
theorem dX5_begin_23 : decode cX5_begin 23 = .ok (.iconst 2, 1) := by decide +kernel
theorem dX5_begin_24 : decode cX5_begin 24 = .ok (.iadd, 1) := by decide +kernel
theorem dX5_begin_25 : decode cX5_begin 25 = .ok (.iconst 0, 1) := by decide +kernel
theorem dX5_begin_26 : decode cX5_begin 26 = .ok (.iastore, 1) := by decide +kernel
theorem dX5_begin_27 : decode cX5_begin 27 = .ok (.aload_n 0, 1) := by decide +kernel
theorem dX5_begin_28 : decode cX5_begin 28 = .ok (.getfield 13, 3) := by decide +kernel
theorem dX5_begin_31 : decode cX5_begin 31 = .ok (.iload_n 1, 1) := by decide +kernel
theorem dX5_begin_32 : decode cX5_begin 32 = .ok (.iconst 3, 1) := by decide +kernel
theorem dX5_begin_33 : decode cX5_begin 33 = .ok (.iadd, 1) := by decide +kernel
theorem dX5_begin_34 : decode cX5_begin 34 = .ok (.iconst 0, 1) := by decide +kernel
theorem dX5_begin_35 : decode cX5_begin 35 = .ok (.iastore, 1) := by decide +kernel
theorem dX5_begin_36 : decode cX5_begin 36 = .ok (.aload_n 0, 1) := by decide +kernel
theorem dX5_begin_37 : decode cX5_begin 37 = .ok (.getfield 13, 3) := by decide +kernel
theorem dX5_begin_40 : decode cX5_begin 40 = .ok (.iload_n 1, 1) := by decide +kernel
theorem dX5_begin_41 : decode cX5_begin 41 = .ok (.iconst 4, 1) := by decide +kernel
theorem dX5_begin_42 : decode cX5_begin 42 = .ok (.iadd, 1) := by decide +kernel
theorem dX5_begin_43 : decode cX5_begin 43 = .ok (.bipush (-9), 2) := by decide +kernel
theorem dX5_begin_45 : decode cX5_begin 45 = .ok (.iastore, 1) := by decide +kernel
theorem dX5_begin_46 : decode cX5_begin 46 = .ok (.aload_n 0, 1) := by decide +kernel
theorem dX5_begin_47 : decode cX5_begin 47 = .ok (.getfield 13, 3) := by decide +kernel
theorem dX5_begin_50 : decode cX5_begin 50 = .ok (.iload_n 1, 1) := by decide +kernel
theorem dX5_begin_51 : decode cX5_begin 51 = .ok (.iconst 5, 1) := by decide +kernel
theorem dX5_begin_52 : decode cX5_begin 52 = .ok (.iadd, 1) := by decide +kernel
theorem dX5_begin_53 : decode cX5_begin 53 = .ok (.bipush (-9), 2) := by decide +kernel
theorem dX5_begin_55 : decode cX5_begin 55 = .ok (.iastore, 1) := by decide +kernel
theorem dX5_begin_56 : decode cX5_begin 56 = .ok (.aload_n 0, 1) := by decide +kernel
theorem dX5_begin_57 : decode cX5_begin 57 = .ok (.getfield 13, 3) := by decide +kernel
theorem dX5_begin_60 : decode cX5_begin 60 = .ok (.iload_n 1, 1) := by decide +kernel
theorem dX5_begin_61 : decode cX5_begin 61 = .ok (.bipush 6, 2) := by decide +kernel
theorem dX5_begin_63 : decode cX5_begin 63 = .ok (.iadd, 1) := by decide +kernel
theorem dX5_begin_64 : decode cX5_begin 64 = .ok (.iconst 3, 1) := by decide +kernel
theorem dX5_begin_65 : decode cX5_begin 65 = .ok (.iastore, 1) := by decide +kernel
theorem dX5_begin_66 : decode cX5_begin 66 = .ok (.aload_n 0, 1) := by decide +kernel
theorem dX5_begin_67 : decode cX5_begin 67 = .ok (.getfield 13, 3) := by decide +kernel
theorem dX5_begin_70 : decode cX5_begin 70 = .ok (.iload_n 1, 1) := by decide +kernel
theorem dX5_begin_71 : decode cX5_begin 71 = .ok (.bipush 7, 2) := by decide +kernel
theorem dX5_begin_73 : decode cX5_begin 73 = .ok (.iadd, 1) := by decide +kernel
theorem dX5_begin_74 : decode cX5_begin 74 = .ok (.iconst 2, 1) := by decide +kernel
theorem dX5_begin_75 : decode cX5_begin 75 = .ok (.iastore, 1) := by decide +kernel
theorem dX5_begin_76 : decode cX5_begin 76 = .ok (.return_, 1) := by decide +kernel
set_option maxRecDepth 20000 in
theorem ggX5_type_X5_in : GoodIn wsX5_type wsX5_in := goodIn_r _ [7] (by decide +kernel) (by decide +kernel)
set_option maxRecDepth 20000 in
theorem gX5_type_X5_in : GoodIn wsX5_type (va_wsS RX5 46 yX5_in wsX5_in) := goodIn_app (goodIn_of _ (by decide +kernel)) ggX5_type_X5_in
theorem dX5_type_0 : decode cX5_type 0 = .ok (.iload_n 3, 1) := by decide +kernel
theorem dX5_type_1 : decode cX5_type 1 = .ok (.iconst 1, 1) := by decide +kernel
theorem dX5_type_2 : decode cX5_type 2 = .ok (.bipush 8, 2) := by decide +kernel
theorem dX5_type_4 : decode cX5_type 4 = .ok (.invokestatic 46, 3) := by decide +kernel
theorem dX5_type_7 : decode cX5_type 7 = .ok (.ifCond .ne 5, 3) := by decide +kernel
theorem dX5_type_10 : decode cX5_type 10 = .ok (.iconst (-1), 1) := by decide +kernel
theorem dX5_type_11 : decode cX5_type 11 = .ok (.ireturn, 1) := by decide +kernel
theorem dX5_type_12 : decode cX5_type 12 = .ok (.aload_n 0, 1) := by decide +kernel
theorem dX5_type_13 : decode cX5_type 13 = .ok (.getfield 50, 3) := by decide +kernel
theorem dX5_type_16 : decode cX5_type 16 = .ok (.iload_n 3, 1) := by decide +kernel
theorem dX5_type_17 : decode cX5_type 17 = .ok (.iadd, 1) := by decide +kernel
theorem dX5_type_18 : decode cX5_type 18 = .ok (.sipush 200, 3) := by decide +kernel
theorem dX5_type_21 : decode cX5_type 21 = .ok (.if_icmp .le 6, 3) := by decide +kernel
theorem dX5_type_24 : decode cX5_type 24 = .ok (.bipush (-3), 2) := by decide +kernel
theorem dX5_type_26 : decode cX5_type 26 = .ok (.ireturn, 1) := by decide +kernel
theorem dX5_type_27 : decode cX5_type 27 = .ok (.iload_n 3, 1) := by decide +kernel
theorem dX5_type_28 : decode cX5_type 28 = .ok (.iconst 1, 1) := by decide +kernel
theorem dX5_type_29 : decode cX5_type 29 = .ok (.isub, 1) := by decide +kernel
theorem dX5_type_30 : decode cX5_type 30 = .ok (.istore 4, 2) := by decide +kernel
theorem dX5_type_32 : decode cX5_type 32 = .ok (.iload 4, 2) := by decide +kernel
theorem dX5_type_34 : decode cX5_type 34 = .ok (.ifCond .lt 41, 3) := by decide +kernel
theorem dX5_type_37 : decode cX5_type 37 = .ok (.aload_n 0, 1) := by decide +kernel
theorem dX5_type_38 : decode cX5_type 38 = .ok (.getfield 7, 3) := by decide +kernel
theorem dX5_type_41 : decode cX5_type 41 = .ok (.aload_n 0, 1) := by decide +kernel
theorem dX5_type_42 : decode cX5_type 42 = .ok (.getfield 50, 3) := by decide +kernel
theorem dX5_type_45 : decode cX5_type 45 = .ok (.lload_n 1, 1) := by decide +kernel
theorem dX5_type_46 : decode cX5_type 46 = .ok (.bipush 8, 2) := by decide +kernel
theorem dX5_type_48 : decode cX5_type 48 = .ok (.iload 4, 2) := by decide +kernel
theorem dX5_type_50 : decode cX5_type 50 = .ok (.imul, 1) := by decide +kernel
theorem dX5_type_51 : decode cX5_type 51 = .ok (.lshr, 1) := by decide +kernel
theorem dX5_type_52 : decode cX5_type 52 = .ok (.ldc2_w 54, 3) := by decide +kernel
theorem dX5_type_55 : decode cX5_type 55 = .ok (.land, 1) := by decide +kernel
theorem dX5_type_56 : decode cX5_type 56 = .ok (.l2i, 1) := by decide +kernel
theorem dX5_type_57 : decode cX5_type 57 = .ok (.i2b, 1) := by decide +kernel
theorem dX5_type_58 : decode cX5_type 58 = .ok (.bastore, 1) := by decide +kernel
theorem dX5_type_59 : decode cX5_type 59 = .ok (.aload_n 0, 1) := by decide +kernel
theorem dX5_type_60 : decode cX5_type 60 = .ok (.dup, 1) := by decide +kernel
theorem dX5_type_61 : decode cX5_type 61 = .ok (.getfield 50, 3) := by decide +kernel
theorem dX5_type_64 : decode cX5_type 64 = .ok (.iconst 1, 1) := by decide +kernel
theorem dX5_type_65 : decode cX5_type 65 = .ok (.iadd, 1) := by decide +kernel
theorem dX5_type_66 : decode cX5_type 66 = .ok (.putfield 50, 3) := by decide +kernel
theorem dX5_type_69 : decode cX5_type 69 = .ok (.iinc 4 (-1), 3) := by decide +kernel
theorem dX5_type_72 : decode cX5_type 72 = .ok (.goto (-40), 3) := by decide +kernel
theorem dX5_type_75 : decode cX5_type 75 = .ok (.aload_n 0, 1) := by decide +kernel
theorem dX5_type_76 : decode cX5_type 76 = .ok (.getfield 50, 3) := by decide +kernel
theorem dX5_type_79 : decode cX5_type 79 = .ok (.ireturn, 1) := by decide +kernel
theorem dX5_clear_0 : decode cX5_clear 0 = .ok (.aload_n 0, 1) := by decide +kernel
theorem dX5_clear_1 : decode cX5_clear 1 = .ok (.getfield 50, 3) := by decide +kernel
theorem dX5_clear_4 : decode cX5_clear 4 = .ok (.istore_n 1, 1) := by decide +kernel
theorem dX5_clear_5 : decode cX5_clear 5 = .ok (.aload_n 0, 1) := by decide +kernel
theorem dX5_clear_6 : decode cX5_clear 6 = .ok (.iconst 0, 1) := by decide +kernel
theorem dX5_clear_7 : decode cX5_clear 7 = .ok (.putfield 50, 3) := by decide +kernel
theorem dX5_clear_10 : decode cX5_clear 10 = .ok (.iload_n 1, 1) := by decide +kernel
theorem dX5_clear_11 : decode cX5_clear 11 = .ok (.ireturn, 1) := by decide +kernel
theorem dX5_here_0 : decode cX5_here 0 = .ok (.aload_n 0, 1) := by decide +kernel
theorem dX5_here_1 : decode cX5_here 1 = .ok (.getfield 56, 3) := by decide +kernel
theorem dX5_here_4 : decode cX5_here 4 = .ok (.aload_n 0, 1) := by decide +kernel
theorem dX5_here_5 : decode cX5_here 5 = .ok (.getfield 50, 3) := by decide +kernel
theorem dX5_here_8 : decode cX5_here 8 = .ok (.if_icmp .ge 19, 3) := by decide +kernel
theorem dX5_here_11 : decode cX5_here 11 = .ok (.aload_n 0, 1) := by decide +kernel
theorem dX5_here_12 : decode cX5_here 12 = .ok (.getfield 7, 3) := by decide +kernel
theorem dX5_here_15 : decode cX5_here 15 = .ok (.aload_n 0, 1) := by decide +kernel
theorem dX5_here_16 : decode cX5_here 16 = .ok (.getfield 56, 3) := by decide +kernel
theorem dX5_here_19 : decode cX5_here 19 = .ok (.baload, 1) := by decide +kernel
theorem dX5_here_20 : decode cX5_here 20 = .ok (.sipush 255, 3) := by decide +kernel
theorem dX5_here_23 : decode cX5_here 23 = .ok (.iand, 1) := by decide +kernel
theorem dX5_here_24 : decode cX5_here 24 = .ok (.goto 4, 3) := by decide +kernel
theorem dX5_here_27 : decode cX5_here 27 = .ok (.iconst (-1), 1) := by decide +kernel
theorem dX5_here_28 : decode cX5_here 28 = .ok (.ireturn, 1) := by decide +kernel
theorem dX5_meaning_0 : decode cX5_meaning 0 = .ok (.iload_n 0, 1) := by decide +kernel
theorem dX5_meaning_1 : decode cX5_meaning 1 = .ok (.lookupswitch 116 #[(14432, 101), (43051, 97), (90302, 110), (355280, 99), (439745, 104), (453774, 91), (3957544, 93), (4281544, 113), (7742498, 107), (266660330, 95)], 91) := by decide +kernel
theorem dX5_meaning_92 : decode cX5_meaning 92 = .ok (.iconst 0, 1) := by decide +kernel
theorem dX5_meaning_93 : decode cX5_meaning 93 = .ok (.ireturn, 1) := by decide +kernel
theorem dX5_meaning_94 : decode cX5_meaning 94 = .ok (.iconst 1, 1) := by decide +kernel
theorem dX5_meaning_95 : decode cX5_meaning 95 = .ok (.ireturn, 1) := by decide +kernel
theorem dX5_meaning_96 : decode cX5_meaning 96 = .ok (.iconst 3, 1) := by decide +kernel
theorem dX5_meaning_97 : decode cX5_meaning 97 = .ok (.ireturn, 1) := by decide +kernel
theorem dX5_meaning_98 : decode cX5_meaning 98 = .ok (.iconst 4, 1) := by decide +kernel
theorem dX5_meaning_99 : decode cX5_meaning 99 = .ok (.ireturn, 1) := by decide +kernel
theorem dX5_meaning_100 : decode cX5_meaning 100 = .ok (.iconst 5, 1) := by decide +kernel
theorem dX5_meaning_101 : decode cX5_meaning 101 = .ok (.ireturn, 1) := by decide +kernel
theorem dX5_meaning_102 : decode cX5_meaning 102 = .ok (.bipush 6, 2) := by decide +kernel
theorem dX5_meaning_104 : decode cX5_meaning 104 = .ok (.ireturn, 1) := by decide +kernel
theorem dX5_meaning_105 : decode cX5_meaning 105 = .ok (.bipush 7, 2) := by decide +kernel
theorem dX5_meaning_107 : decode cX5_meaning 107 = .ok (.ireturn, 1) := by decide +kernel
theorem dX5_meaning_108 : decode cX5_meaning 108 = .ok (.bipush 8, 2) := by decide +kernel
theorem dX5_meaning_110 : decode cX5_meaning 110 = .ok (.ireturn, 1) := by decide +kernel
theorem dX5_meaning_111 : decode cX5_meaning 111 = .ok (.bipush 9, 2) := by decide +kernel
theorem dX5_meaning_113 : decode cX5_meaning 113 = .ok (.ireturn, 1) := by decide +kernel
theorem dX5_meaning_114 : decode cX5_meaning 114 = .ok (.bipush 10, 2) := by decide +kernel
theorem dX5_meaning_116 : decode cX5_meaning 116 = .ok (.ireturn, 1) := by decide +kernel
theorem dX5_meaning_117 : decode cX5_meaning 117 = .ok (.bipush 14, 2) := by decide +kernel
theorem dX5_meaning_119 : decode cX5_meaning 119 = .ok (.ireturn, 1) := by decide +kernel
set_option maxRecDepth 20000 in
theorem ggX5_next_X5_here : GoodIn wsX5_next wsX5_here := goodIn_r _ [10, 1, 11, 12, 19, 20, 21, 22, 23, 24, 25, 26, 27, 28, 29, 30, 31, 32, 33, 34, 35, 36, 37] (by decide +kernel) (by decide +kernel)
set_option maxRecDepth 20000 in
theorem gX5_next_X5_here : GoodIn wsX5_next (wsV RX5 59 RX5 yX5_here wsX5_here) := goodIn_app (goodIn_of _ (by decide +kernel)) ggX5_next_X5_here
set_option maxRecDepth 20000 in
theorem ggX5_next_X5_in : GoodIn wsX5_next wsX5_in := goodIn_r _ [15] (by decide +kernel) (by decide +kernel)
set_option maxRecDepth 20000 in
theorem gX5_next_X5_in : GoodIn wsX5_next (va_wsS RX5 46 yX5_in wsX5_in) := goodIn_app (goodIn_of _ (by decide +kernel)) ggX5_next_X5_in
set_option maxRecDepth 20000 in
theorem ggX5_next_X5_meaning : GoodIn wsX5_next wsX5_meaning := goodIn_r _ [18] (by decide +kernel) (by decide +kernel)
set_option maxRecDepth 20000 in
theorem gX5_next_X5_meaning : GoodIn wsX5_next (va_wsS RX5 72 yX5_meaning wsX5_meaning) := goodIn_app (goodIn_of _ (by decide +kernel)) ggX5_next_X5_meaning
theorem dX5_next_0 : decode cX5_next 0 = .ok (.aload_n 0, 1) := by decide +kernel
theorem dX5_next_1 : decode cX5_next 1 = .ok (.invokevirtual 59, 3) := by decide +kernel
theorem dX5_next_4 : decode cX5_next 4 = .ok (.bipush 32, 2) := by decide +kernel
theorem dX5_next_6 : decode cX5_next 6 = .ok (.if_icmp .ne 16, 3) := by decide +kernel
theorem dX5_next_9 : decode cX5_next 9 = .ok (.aload_n 0, 1) := by decide +kernel
theorem dX5_next_10 : decode cX5_next 10 = .ok (.dup, 1) := by decide +kernel
theorem dX5_next_11 : decode cX5_next 11 = .ok (.getfield 56, 3) := by decide +kernel
theorem dX5_next_14 : decode cX5_next 14 = .ok (.iconst 1, 1) := by decide +kernel
theorem dX5_next_15 : decode cX5_next 15 = .ok (.iadd, 1) := by decide +kernel
theorem dX5_next_16 : decode cX5_next 16 = .ok (.putfield 56, 3) := by decide +kernel
theorem dX5_next_19 : decode cX5_next 19 = .ok (.goto (-19), 3) := by decide +kernel
theorem dX5_next_22 : decode cX5_next 22 = .ok (.aload_n 0, 1) := by decide +kernel
theorem dX5_next_23 : decode cX5_next 23 = .ok (.aload_n 0, 1) := by decide +kernel
theorem dX5_next_24 : decode cX5_next 24 = .ok (.getfield 56, 3) := by decide +kernel
theorem dX5_next_27 : decode cX5_next 27 = .ok (.putfield 63, 3) := by decide +kernel
theorem dX5_next_30 : decode cX5_next 30 = .ok (.aload_n 0, 1) := by decide +kernel
theorem dX5_next_31 : decode cX5_next 31 = .ok (.iconst 0, 1) := by decide +kernel
theorem dX5_next_32 : decode cX5_next 32 = .ok (.putfield 66, 3) := by decide +kernel
theorem dX5_next_35 : decode cX5_next 35 = .ok (.aload_n 0, 1) := by decide +kernel
theorem dX5_next_36 : decode cX5_next 36 = .ok (.invokevirtual 59, 3) := by decide +kernel
theorem dX5_next_39 : decode cX5_next 39 = .ok (.istore_n 1, 1) := by decide +kernel
theorem dX5_next_40 : decode cX5_next 40 = .ok (.iload_n 1, 1) := by decide +kernel
theorem dX5_next_41 : decode cX5_next 41 = .ok (.ifCond .ge 12, 3) := by decide +kernel
theorem dX5_next_44 : decode cX5_next 44 = .ok (.aload_n 0, 1) := by decide +kernel
theorem dX5_next_45 : decode cX5_next 45 = .ok (.bipush 11, 2) := by decide +kernel
theorem dX5_next_47 : decode cX5_next 47 = .ok (.putfield 69, 3) := by decide +kernel
theorem dX5_next_50 : decode cX5_next 50 = .ok (.goto 289, 3) := by decide +kernel
theorem dX5_next_53 : decode cX5_next 53 = .ok (.iload_n 1, 1) := by decide +kernel
theorem dX5_next_54 : decode cX5_next 54 = .ok (.bipush 97, 2) := by decide +kernel
theorem dX5_next_56 : decode cX5_next 56 = .ok (.bipush 122, 2) := by decide +kernel
theorem dX5_next_58 : decode cX5_next 58 = .ok (.invokestatic 46, 3) := by decide +kernel
theorem dX5_next_61 : decode cX5_next 61 = .ok (.ifCond .eq 136, 3) := by decide +kernel
theorem dX5_next_64 : decode cX5_next 64 = .ok (.iconst 0, 1) := by decide +kernel
theorem dX5_next_65 : decode cX5_next 65 = .ok (.istore_n 2, 1) := by decide +kernel
theorem dX5_next_66 : decode cX5_next 66 = .ok (.iconst 0, 1) := by decide +kernel
theorem dX5_next_67 : decode cX5_next 67 = .ok (.istore_n 3, 1) := by decide +kernel
theorem dX5_next_68 : decode cX5_next 68 = .ok (.aload_n 0, 1) := by decide +kernel
theorem dX5_next_69 : decode cX5_next 69 = .ok (.invokevirtual 59, 3) := by decide +kernel
theorem dX5_next_72 : decode cX5_next 72 = .ok (.bipush 97, 2) := by decide +kernel
theorem dX5_next_74 : decode cX5_next 74 = .ok (.bipush 122, 2) := by decide +kernel
theorem dX5_next_76 : decode cX5_next 76 = .ok (.invokestatic 46, 3) := by decide +kernel
theorem dX5_next_79 : decode cX5_next 79 = .ok (.ifCond .eq 82, 3) := by decide +kernel
theorem dX5_next_82 : decode cX5_next 82 = .ok (.aload_n 0, 1) := by decide +kernel
theorem dX5_next_83 : decode cX5_next 83 = .ok (.getfield 56, 3) := by decide +kernel
theorem dX5_next_86 : decode cX5_next 86 = .ok (.aload_n 0, 1) := by decide +kernel
theorem dX5_next_87 : decode cX5_next 87 = .ok (.getfield 63, 3) := by decide +kernel
theorem dX5_next_90 : decode cX5_next 90 = .ok (.isub, 1) := by decide +kernel
theorem dX5_next_91 : decode cX5_next 91 = .ok (.istore 4, 2) := by decide +kernel
theorem dX5_next_93 : decode cX5_next 93 = .ok (.iload 4, 2) := by decide +kernel
theorem dX5_next_95 : decode cX5_next 95 = .ok (.bipush 6, 2) := by decide +kernel
theorem dX5_next_97 : decode cX5_next 97 = .ok (.if_icmp .ge 18, 3) := by decide +kernel
theorem dX5_next_100 : decode cX5_next 100 = .ok (.bipush 27, 2) := by decide +kernel
theorem dX5_next_102 : decode cX5_next 102 = .ok (.iload_n 2, 1) := by decide +kernel
theorem dX5_next_103 : decode cX5_next 103 = .ok (.imul, 1) := by decide +kernel
theorem dX5_next_104 : decode cX5_next 104 = .ok (.aload_n 0, 1) := by decide +kernel
theorem dX5_next_105 : decode cX5_next 105 = .ok (.invokevirtual 59, 3) := by decide +kernel
theorem dX5_next_108 : decode cX5_next 108 = .ok (.iadd, 1) := by decide +kernel
theorem dX5_next_109 : decode cX5_next 109 = .ok (.bipush 96, 2) := by decide +kernel
theorem dX5_next_111 : decode cX5_next 111 = .ok (.isub, 1) := by decide +kernel
theorem dX5_next_112 : decode cX5_next 112 = .ok (.goto 4, 3) := by decide +kernel
theorem dX5_next_115 : decode cX5_next 115 = .ok (.iload_n 2, 1) := by decide +kernel
theorem dX5_next_116 : decode cX5_next 116 = .ok (.istore_n 2, 1) := by decide +kernel
theorem dX5_next_117 : decode cX5_next 117 = .ok (.iload 4, 2) := by decide +kernel
theorem dX5_next_119 : decode cX5_next 119 = .ok (.bipush 6, 2) := by decide +kernel
theorem dX5_next_121 : decode cX5_next 121 = .ok (.if_icmp .ne 13, 3) := by decide +kernel
theorem dX5_next_124 : decode cX5_next 124 = .ok (.aload_n 0, 1) := by decide +kernel
theorem dX5_next_125 : decode cX5_next 125 = .ok (.invokevirtual 59, 3) := by decide +kernel
theorem dX5_next_128 : decode cX5_next 128 = .ok (.bipush 96, 2) := by decide +kernel
theorem dX5_next_130 : decode cX5_next 130 = .ok (.isub, 1) := by decide +kernel
theorem dX5_next_131 : decode cX5_next 131 = .ok (.goto 16, 3) := by decide +kernel
theorem dX5_next_134 : decode cX5_next 134 = .ok (.iload 4, 2) := by decide +kernel
theorem dX5_next_136 : decode cX5_next 136 = .ok (.bipush 6, 2) := by decide +kernel
theorem dX5_next_138 : decode cX5_next 138 = .ok (.if_icmp .le 8, 3) := by decide +kernel
theorem dX5_next_141 : decode cX5_next 141 = .ok (.bipush 99, 2) := by decide +kernel
theorem dX5_next_143 : decode cX5_next 143 = .ok (.goto 4, 3) := by decide +kernel
theorem dX5_next_146 : decode cX5_next 146 = .ok (.iload_n 3, 1) := by decide +kernel
theorem dX5_next_147 : decode cX5_next 147 = .ok (.istore_n 3, 1) := by decide +kernel
theorem dX5_next_148 : decode cX5_next 148 = .ok (.aload_n 0, 1) := by decide +kernel
theorem dX5_next_149 : decode cX5_next 149 = .ok (.dup, 1) := by decide +kernel
theorem dX5_next_150 : decode cX5_next 150 = .ok (.getfield 56, 3) := by decide +kernel
theorem dX5_next_153 : decode cX5_next 153 = .ok (.iconst 1, 1) := by decide +kernel
theorem dX5_next_154 : decode cX5_next 154 = .ok (.iadd, 1) := by decide +kernel
theorem dX5_next_155 : decode cX5_next 155 = .ok (.putfield 56, 3) := by decide +kernel
theorem dX5_next_158 : decode cX5_next 158 = .ok (.goto (-90), 3) := by decide +kernel
theorem dX5_next_161 : decode cX5_next 161 = .ok (.aload_n 0, 1) := by decide +kernel
theorem dX5_next_162 : decode cX5_next 162 = .ok (.iload_n 3, 1) := by decide +kernel
theorem dX5_next_163 : decode cX5_next 163 = .ok (.ifCond .ne 10, 3) := by decide +kernel
theorem dX5_next_166 : decode cX5_next 166 = .ok (.iload_n 2, 1) := by decide +kernel
theorem dX5_next_167 : decode cX5_next 167 = .ok (.invokestatic 72, 3) := by decide +kernel
theorem dX5_next_170 : decode cX5_next 170 = .ok (.goto 21, 3) := by decide +kernel
theorem dX5_next_173 : decode cX5_next 173 = .ok (.iload_n 2, 1) := by decide +kernel
theorem dX5_next_174 : decode cX5_next 174 = .ok (.ldc 76, 2) := by decide +kernel
theorem dX5_next_176 : decode cX5_next 176 = .ok (.if_icmp .ne 13, 3) := by decide +kernel
theorem dX5_next_179 : decode cX5_next 179 = .ok (.iload_n 3, 1) := by decide +kernel
theorem dX5_next_180 : decode cX5_next 180 = .ok (.bipush 14, 2) := by decide +kernel
theorem dX5_next_182 : decode cX5_next 182 = .ok (.if_icmp .ne 7, 3) := by decide +kernel
theorem dX5_next_185 : decode cX5_next 185 = .ok (.iconst 2, 1) := by decide +kernel
theorem dX5_next_186 : decode cX5_next 186 = .ok (.goto 5, 3) := by decide +kernel
theorem dX5_next_189 : decode cX5_next 189 = .ok (.bipush 14, 2) := by decide +kernel
theorem dX5_next_191 : decode cX5_next 191 = .ok (.putfield 69, 3) := by decide +kernel
theorem dX5_next_194 : decode cX5_next 194 = .ok (.goto 145, 3) := by decide +kernel
theorem dX5_next_197 : decode cX5_next 197 = .ok (.iload_n 1, 1) := by decide +kernel
theorem dX5_next_198 : decode cX5_next 198 = .ok (.bipush 48, 2) := by decide +kernel
theorem dX5_next_200 : decode cX5_next 200 = .ok (.bipush 57, 2) := by decide +kernel
theorem dX5_next_202 : decode cX5_next 202 = .ok (.invokestatic 46, 3) := by decide +kernel
theorem dX5_next_205 : decode cX5_next 205 = .ok (.ifCond .eq 107, 3) := by decide +kernel
theorem dX5_next_208 : decode cX5_next 208 = .ok (.aload_n 0, 1) := by decide +kernel
theorem dX5_next_209 : decode cX5_next 209 = .ok (.invokevirtual 59, 3) := by decide +kernel
theorem dX5_next_212 : decode cX5_next 212 = .ok (.bipush 48, 2) := by decide +kernel
theorem dX5_next_214 : decode cX5_next 214 = .ok (.bipush 57, 2) := by decide +kernel
theorem dX5_next_216 : decode cX5_next 216 = .ok (.invokestatic 46, 3) := by decide +kernel
theorem dX5_next_219 : decode cX5_next 219 = .ok (.ifCond .eq 51, 3) := by decide +kernel
theorem dX5_next_222 : decode cX5_next 222 = .ok (.aload_n 0, 1) := by decide +kernel
theorem dX5_next_223 : decode cX5_next 223 = .ok (.aload_n 0, 1) := by decide +kernel
theorem dX5_next_224 : decode cX5_next 224 = .ok (.getfield 66, 3) := by decide +kernel
theorem dX5_next_227 : decode cX5_next 227 = .ok (.bipush 99, 2) := by decide +kernel
theorem dX5_next_229 : decode cX5_next 229 = .ok (.if_icmp .le 10, 3) := by decide +kernel
theorem dX5_next_232 : decode cX5_next 232 = .ok (.aload_n 0, 1) := by decide +kernel
theorem dX5_next_233 : decode cX5_next 233 = .ok (.getfield 66, 3) := by decide +kernel
theorem dX5_next_236 : decode cX5_next 236 = .ok (.goto 18, 3) := by decide +kernel
theorem dX5_next_239 : decode cX5_next 239 = .ok (.bipush 10, 2) := by decide +kernel
theorem dX5_next_241 : decode cX5_next 241 = .ok (.aload_n 0, 1) := by decide +kernel
theorem dX5_next_242 : decode cX5_next 242 = .ok (.getfield 66, 3) := by decide +kernel
theorem dX5_next_245 : decode cX5_next 245 = .ok (.imul, 1) := by decide +kernel
theorem dX5_next_246 : decode cX5_next 246 = .ok (.aload_n 0, 1) := by decide +kernel
theorem dX5_next_247 : decode cX5_next 247 = .ok (.invokevirtual 59, 3) := by decide +kernel
theorem dX5_next_250 : decode cX5_next 250 = .ok (.iadd, 1) := by decide +kernel
theorem dX5_next_251 : decode cX5_next 251 = .ok (.bipush 48, 2) := by decide +kernel
theorem dX5_next_253 : decode cX5_next 253 = .ok (.isub, 1) := by decide +kernel
theorem dX5_next_254 : decode cX5_next 254 = .ok (.putfield 66, 3) := by decide +kernel
theorem dX5_next_257 : decode cX5_next 257 = .ok (.aload_n 0, 1) := by decide +kernel
theorem dX5_next_258 : decode cX5_next 258 = .ok (.dup, 1) := by decide +kernel
theorem dX5_next_259 : decode cX5_next 259 = .ok (.getfield 56, 3) := by decide +kernel
theorem dX5_next_262 : decode cX5_next 262 = .ok (.iconst 1, 1) := by decide +kernel
theorem dX5_next_263 : decode cX5_next 263 = .ok (.iadd, 1) := by decide +kernel
theorem dX5_next_264 : decode cX5_next 264 = .ok (.putfield 56, 3) := by decide +kernel
theorem dX5_next_267 : decode cX5_next 267 = .ok (.goto (-59), 3) := by decide +kernel
theorem dX5_next_270 : decode cX5_next 270 = .ok (.aload_n 0, 1) := by decide +kernel
theorem dX5_next_271 : decode cX5_next 271 = .ok (.aload_n 0, 1) := by decide +kernel
theorem dX5_next_272 : decode cX5_next 272 = .ok (.getfield 66, 3) := by decide +kernel
theorem dX5_next_275 : decode cX5_next 275 = .ok (.bipush 99, 2) := by decide +kernel
theorem dX5_next_277 : decode cX5_next 277 = .ok (.if_icmp .gt 22, 3) := by decide +kernel
theorem dX5_next_280 : decode cX5_next 280 = .ok (.iload_n 1, 1) := by decide +kernel
theorem dX5_next_281 : decode cX5_next 281 = .ok (.bipush 48, 2) := by decide +kernel
theorem dX5_next_283 : decode cX5_next 283 = .ok (.if_icmp .ne 21, 3) := by decide +kernel
theorem dX5_next_286 : decode cX5_next 286 = .ok (.aload_n 0, 1) := by decide +kernel
theorem dX5_next_287 : decode cX5_next 287 = .ok (.getfield 56, 3) := by decide +kernel
theorem dX5_next_290 : decode cX5_next 290 = .ok (.aload_n 0, 1) := by decide +kernel
theorem dX5_next_291 : decode cX5_next 291 = .ok (.getfield 63, 3) := by decide +kernel
theorem dX5_next_294 : decode cX5_next 294 = .ok (.isub, 1) := by decide +kernel
theorem dX5_next_295 : decode cX5_next 295 = .ok (.iconst 1, 1) := by decide +kernel
theorem dX5_next_296 : decode cX5_next 296 = .ok (.if_icmp .le 8, 3) := by decide +kernel
theorem dX5_next_299 : decode cX5_next 299 = .ok (.bipush 14, 2) := by decide +kernel
theorem dX5_next_301 : decode cX5_next 301 = .ok (.goto 5, 3) := by decide +kernel
theorem dX5_next_304 : decode cX5_next 304 = .ok (.bipush 12, 2) := by decide +kernel
theorem dX5_next_306 : decode cX5_next 306 = .ok (.putfield 69, 3) := by decide +kernel
theorem dX5_next_309 : decode cX5_next 309 = .ok (.goto 30, 3) := by decide +kernel
theorem dX5_next_312 : decode cX5_next 312 = .ok (.aload_n 0, 1) := by decide +kernel
theorem dX5_next_313 : decode cX5_next 313 = .ok (.dup, 1) := by decide +kernel
theorem dX5_next_314 : decode cX5_next 314 = .ok (.getfield 56, 3) := by decide +kernel
theorem dX5_next_317 : decode cX5_next 317 = .ok (.iconst 1, 1) := by decide +kernel
theorem dX5_next_318 : decode cX5_next 318 = .ok (.iadd, 1) := by decide +kernel
theorem dX5_next_319 : decode cX5_next 319 = .ok (.putfield 56, 3) := by decide +kernel
theorem dX5_next_322 : decode cX5_next 322 = .ok (.aload_n 0, 1) := by decide +kernel
theorem dX5_next_323 : decode cX5_next 323 = .ok (.iload_n 1, 1) := by decide +kernel
theorem dX5_next_324 : decode cX5_next 324 = .ok (.bipush 59, 2) := by decide +kernel
theorem dX5_next_326 : decode cX5_next 326 = .ok (.if_icmp .ne 8, 3) := by decide +kernel
theorem dX5_next_329 : decode cX5_next 329 = .ok (.bipush 13, 2) := by decide +kernel
theorem dX5_next_331 : decode cX5_next 331 = .ok (.goto 5, 3) := by decide +kernel
theorem dX5_next_334 : decode cX5_next 334 = .ok (.bipush 14, 2) := by decide +kernel
theorem dX5_next_336 : decode cX5_next 336 = .ok (.putfield 69, 3) := by decide +kernel
theorem dX5_next_339 : decode cX5_next 339 = .ok (.return_, 1) := by decide +kernel
set_option maxRecDepth 20000 in
theorem ggX5_due_X5_next : GoodIn wsX5_due wsX5_next := goodIn_r _ [8, 9, 3, 1, 10, 11, 12, 13, 14, 7, 15, 16, 17, 18, 19, 20, 21, 22, 23, 24, 25, 26, 27, 28, 29, 30, 31, 32, 33, 34, 35, 36, 37, 38, 39, 40, 41, 42] (by decide +kernel) (by decide +kernel)
set_option maxRecDepth 20000 in
theorem gX5_due_X5_next : GoodIn wsX5_due (wsV RX5 80 RX5 yX5_next wsX5_next) := goodIn_app (goodIn_of _ (by decide +kernel)) ggX5_due_X5_next
theorem dX5_due_0 : decode cX5_due 0 = .ok (.aload_n 0, 1) := by decide +kernel
theorem dX5_due_1 : decode cX5_due 1 = .ok (.getfield 66, 3) := by decide +kernel
theorem dX5_due_4 : decode cX5_due 4 = .ok (.istore_n 2, 1) := by decide +kernel
theorem dX5_due_5 : decode cX5_due 5 = .ok (.aload_n 0, 1) := by decide +kernel
theorem dX5_due_6 : decode cX5_due 6 = .ok (.getfield 77, 3) := by decide +kernel
theorem dX5_due_9 : decode cX5_due 9 = .ok (.bipush (-9), 2) := by decide +kernel
theorem dX5_due_11 : decode cX5_due 11 = .ok (.if_icmp .ne 22, 3) := by decide +kernel
theorem dX5_due_14 : decode cX5_due 14 = .ok (.iload_n 1, 1) := by decide +kernel
theorem dX5_due_15 : decode cX5_due 15 = .ok (.ifCond .eq 10, 3) := by decide +kernel
theorem dX5_due_18 : decode cX5_due 18 = .ok (.aload_n 0, 1) := by decide +kernel
theorem dX5_due_19 : decode cX5_due 19 = .ok (.invokevirtual 80, 3) := by decide +kernel
theorem dX5_due_22 : decode cX5_due 22 = .ok (.goto 11, 3) := by decide +kernel
theorem dX5_due_25 : decode cX5_due 25 = .ok (.aload_n 0, 1) := by decide +kernel
theorem dX5_due_26 : decode cX5_due 26 = .ok (.aload_n 0, 1) := by decide +kernel
theorem dX5_due_27 : decode cX5_due 27 = .ok (.getfield 63, 3) := by decide +kernel
theorem dX5_due_30 : decode cX5_due 30 = .ok (.putfield 77, 3) := by decide +kernel
theorem dX5_due_33 : decode cX5_due 33 = .ok (.iload_n 2, 1) := by decide +kernel
theorem dX5_due_34 : decode cX5_due 34 = .ok (.ireturn, 1) := by decide +kernel
set_option maxRecDepth 20000 in
theorem ggX5_number_X5_in : GoodIn wsX5_number wsX5_in := goodIn_r _ [6] (by decide +kernel) (by decide +kernel)
set_option maxRecDepth 20000 in
theorem gX5_number_X5_in : GoodIn wsX5_number (va_wsS RX5 46 yX5_in wsX5_in) := goodIn_app (goodIn_of _ (by decide +kernel)) ggX5_number_X5_in
set_option maxRecDepth 20000 in
theorem ggX5_number_X5_due : GoodIn wsX5_number wsX5_due := goodIn_r _ [10, 2, 11, 12, 13, 14, 15, 5, 16, 17, 1, 18, 19, 20, 21, 22, 23, 24, 3, 4, 6, 25, 26, 27, 28, 29, 30, 31, 32, 33, 34, 35, 36, 37, 38, 39, 40, 41, 42, 43, 44, 45, 46] (by decide +kernel) (by decide +kernel)
set_option maxRecDepth 20000 in
theorem gX5_number_X5_due : GoodIn wsX5_number (wsV RX5 83 RX5 yX5_due wsX5_due) := goodIn_app (goodIn_of _ (by decide +kernel)) ggX5_number_X5_due
theorem dX5_number_0 : decode cX5_number 0 = .ok (.aload_n 0, 1) := by decide +kernel
theorem dX5_number_1 : decode cX5_number 1 = .ok (.aload_n 0, 1) := by decide +kernel
theorem dX5_number_2 : decode cX5_number 2 = .ok (.getfield 69, 3) := by decide +kernel
theorem dX5_number_5 : decode cX5_number 5 = .ok (.bipush 12, 2) := by decide +kernel
theorem dX5_number_7 : decode cX5_number 7 = .ok (.if_icmp .ne 19, 3) := by decide +kernel
theorem dX5_number_10 : decode cX5_number 10 = .ok (.aload_n 0, 1) := by decide +kernel
theorem dX5_number_11 : decode cX5_number 11 = .ok (.getfield 66, 3) := by decide +kernel
theorem dX5_number_14 : decode cX5_number 14 = .ok (.iload_n 1, 1) := by decide +kernel
theorem dX5_number_15 : decode cX5_number 15 = .ok (.iload_n 2, 1) := by decide +kernel
theorem dX5_number_16 : decode cX5_number 16 = .ok (.invokestatic 46, 3) := by decide +kernel
theorem dX5_number_19 : decode cX5_number 19 = .ok (.ifCond .eq 7, 3) := by decide +kernel
theorem dX5_number_22 : decode cX5_number 22 = .ok (.iconst 1, 1) := by decide +kernel
theorem dX5_number_23 : decode cX5_number 23 = .ok (.goto 4, 3) := by decide +kernel
theorem dX5_number_26 : decode cX5_number 26 = .ok (.iconst 0, 1) := by decide +kernel
theorem dX5_number_27 : decode cX5_number 27 = .ok (.invokevirtual 83, 3) := by decide +kernel
theorem dX5_number_30 : decode cX5_number 30 = .ok (.ireturn, 1) := by decide +kernel
theorem dX5_stands_0 : decode cX5_stands 0 = .ok (.iconst 0, 1) := by decide +kernel
theorem dX5_stands_1 : decode cX5_stands 1 = .ok (.istore_n 2, 1) := by decide +kernel
theorem dX5_stands_2 : decode cX5_stands 2 = .ok (.iconst 0, 1) := by decide +kernel
theorem dX5_stands_3 : decode cX5_stands 3 = .ok (.istore_n 3, 1) := by decide +kernel
theorem dX5_stands_4 : decode cX5_stands 4 = .ok (.iload_n 3, 1) := by decide +kernel
theorem dX5_stands_5 : decode cX5_stands 5 = .ok (.aload_n 0, 1) := by decide +kernel
theorem dX5_stands_6 : decode cX5_stands 6 = .ok (.getfield 13, 3) := by decide +kernel
theorem dX5_stands_9 : decode cX5_stands 9 = .ok (.bipush 8, 2) := by decide +kernel
theorem dX5_stands_11 : decode cX5_stands 11 = .ok (.iaload, 1) := by decide +kernel
theorem dX5_stands_12 : decode cX5_stands 12 = .ok (.if_icmp .ge 37, 3) := by decide +kernel
theorem dX5_stands_15 : decode cX5_stands 15 = .ok (.iload_n 2, 1) := by decide +kernel
theorem dX5_stands_16 : decode cX5_stands 16 = .ok (.ifCond .ne 21, 3) := by decide +kernel
theorem dX5_stands_19 : decode cX5_stands 19 = .ok (.iload_n 1, 1) := by decide +kernel
theorem dX5_stands_20 : decode cX5_stands 20 = .ok (.bipush 8, 2) := by decide +kernel
theorem dX5_stands_22 : decode cX5_stands 22 = .ok (.if_icmp .ge 19, 3) := by decide +kernel
theorem dX5_stands_25 : decode cX5_stands 25 = .ok (.aload_n 0, 1) := by decide +kernel
theorem dX5_stands_26 : decode cX5_stands 26 = .ok (.getfield 20, 3) := by decide +kernel
theorem dX5_stands_29 : decode cX5_stands 29 = .ok (.iconst 4, 1) := by decide +kernel
theorem dX5_stands_30 : decode cX5_stands 30 = .ok (.iload_n 3, 1) := by decide +kernel
theorem dX5_stands_31 : decode cX5_stands 31 = .ok (.iadd, 1) := by decide +kernel
theorem dX5_stands_32 : decode cX5_stands 32 = .ok (.iaload, 1) := by decide +kernel
theorem dX5_stands_33 : decode cX5_stands 33 = .ok (.iload_n 1, 1) := by decide +kernel
theorem dX5_stands_34 : decode cX5_stands 34 = .ok (.if_icmp .ne 7, 3) := by decide +kernel
theorem dX5_stands_37 : decode cX5_stands 37 = .ok (.iconst 1, 1) := by decide +kernel
theorem dX5_stands_38 : decode cX5_stands 38 = .ok (.goto 4, 3) := by decide +kernel
theorem dX5_stands_41 : decode cX5_stands 41 = .ok (.iconst 0, 1) := by decide +kernel
theorem dX5_stands_42 : decode cX5_stands 42 = .ok (.istore_n 2, 1) := by decide +kernel
theorem dX5_stands_43 : decode cX5_stands 43 = .ok (.iinc 3 1, 3) := by decide +kernel
theorem dX5_stands_46 : decode cX5_stands 46 = .ok (.goto (-42), 3) := by decide +kernel
theorem dX5_stands_49 : decode cX5_stands 49 = .ok (.iload_n 2, 1) := by decide +kernel
theorem dX5_stands_50 : decode cX5_stands 50 = .ok (.ireturn, 1) := by decide +kernel
set_option maxRecDepth 20000 in
theorem ggX5_round_X5_number : GoodIn wsX5_round wsX5_number := goodIn_r _ [6, 7, 8, 9, 10, 5, 11, 12, 13, 14, 15, 1, 16, 17, 18, 19, 20, 21, 22, 23, 24, 25, 26, 27, 28, 29, 30, 31, 32, 33, 34, 35, 36, 37, 38, 39, 40, 41, 42, 43, 44, 45, 46, 47, 48, 49, 50] (by decide +kernel) (by decide +kernel)
set_option maxRecDepth 20000 in
theorem gX5_round_X5_number : GoodIn wsX5_round (wsV RX5 87 RX5 yX5_number wsX5_number) := goodIn_app (goodIn_of _ (by decide +kernel)) ggX5_round_X5_number
theorem dX5_round_0 : decode cX5_round 0 = .ok (.aload_n 0, 1) := by decide +kernel
theorem dX5_round_1 : decode cX5_round 1 = .ok (.iconst 0, 1) := by decide +kernel
theorem dX5_round_2 : decode cX5_round 2 = .ok (.bipush 7, 2) := by decide +kernel
theorem dX5_round_4 : decode cX5_round 4 = .ok (.invokevirtual 87, 3) := by decide +kernel
theorem dX5_round_7 : decode cX5_round 7 = .ok (.istore_n 1, 1) := by decide +kernel
theorem dX5_round_8 : decode cX5_round 8 = .ok (.aload_n 0, 1) := by decide +kernel
theorem dX5_round_9 : decode cX5_round 9 = .ok (.iconst 1, 1) := by decide +kernel
theorem dX5_round_10 : decode cX5_round 10 = .ok (.bipush 8, 2) := by decide +kernel
theorem dX5_round_12 : decode cX5_round 12 = .ok (.invokevirtual 87, 3) := by decide +kernel
theorem dX5_round_15 : decode cX5_round 15 = .ok (.istore_n 2, 1) := by decide +kernel
theorem dX5_round_16 : decode cX5_round 16 = .ok (.iconst 0, 1) := by decide +kernel
theorem dX5_round_17 : decode cX5_round 17 = .ok (.istore_n 3, 1) := by decide +kernel
theorem dX5_round_18 : decode cX5_round 18 = .ok (.iconst 0, 1) := by decide +kernel
theorem dX5_round_19 : decode cX5_round 19 = .ok (.istore 4, 2) := by decide +kernel
theorem dX5_round_21 : decode cX5_round 21 = .ok (.iload 4, 2) := by decide +kernel
theorem dX5_round_23 : decode cX5_round 23 = .ok (.iload_n 2, 1) := by decide +kernel
theorem dX5_round_24 : decode cX5_round 24 = .ok (.if_icmp .ge 30, 3) := by decide +kernel
theorem dX5_round_27 : decode cX5_round 27 = .ok (.aload_n 0, 1) := by decide +kernel
theorem dX5_round_28 : decode cX5_round 28 = .ok (.getfield 77, 3) := by decide +kernel
theorem dX5_round_31 : decode cX5_round 31 = .ok (.bipush (-9), 2) := by decide +kernel
theorem dX5_round_33 : decode cX5_round 33 = .ok (.if_icmp .ne 21, 3) := by decide +kernel
theorem dX5_round_36 : decode cX5_round 36 = .ok (.iload_n 3, 1) := by decide +kernel
theorem dX5_round_37 : decode cX5_round 37 = .ok (.iconst 1, 1) := by decide +kernel
theorem dX5_round_38 : decode cX5_round 38 = .ok (.iload_n 1, 1) := by decide +kernel
theorem dX5_round_39 : decode cX5_round 39 = .ok (.iload 4, 2) := by decide +kernel
theorem dX5_round_41 : decode cX5_round 41 = .ok (.iadd, 1) := by decide +kernel
theorem dX5_round_42 : decode cX5_round 42 = .ok (.bipush 8, 2) := by decide +kernel
theorem dX5_round_44 : decode cX5_round 44 = .ok (.irem, 1) := by decide +kernel
theorem dX5_round_45 : decode cX5_round 45 = .ok (.ishl, 1) := by decide +kernel
theorem dX5_round_46 : decode cX5_round 46 = .ok (.ior, 1) := by decide +kernel
theorem dX5_round_47 : decode cX5_round 47 = .ok (.istore_n 3, 1) := by decide +kernel
theorem dX5_round_48 : decode cX5_round 48 = .ok (.iinc 4 1, 3) := by decide +kernel
theorem dX5_round_51 : decode cX5_round 51 = .ok (.goto (-30), 3) := by decide +kernel
theorem dX5_round_54 : decode cX5_round 54 = .ok (.iload_n 3, 1) := by decide +kernel
theorem dX5_round_55 : decode cX5_round 55 = .ok (.ireturn, 1) := by decide +kernel
theorem dX5_mayItem_0 : decode cX5_mayItem 0 = .ok (.iload_n 1, 1) := by decide +kernel
theorem dX5_mayItem_1 : decode cX5_mayItem 1 = .ok (.iconst 4, 1) := by decide +kernel
theorem dX5_mayItem_2 : decode cX5_mayItem 2 = .ok (.if_icmp .ge 22, 3) := by decide +kernel
theorem dX5_mayItem_5 : decode cX5_mayItem 5 = .ok (.aload_n 0, 1) := by decide +kernel
theorem dX5_mayItem_6 : decode cX5_mayItem 6 = .ok (.getfield 13, 3) := by decide +kernel
theorem dX5_mayItem_9 : decode cX5_mayItem 9 = .ok (.bipush 8, 2) := by decide +kernel
theorem dX5_mayItem_11 : decode cX5_mayItem 11 = .ok (.iaload, 1) := by decide +kernel
theorem dX5_mayItem_12 : decode cX5_mayItem 12 = .ok (.iconst 4, 1) := by decide +kernel
theorem dX5_mayItem_13 : decode cX5_mayItem 13 = .ok (.if_icmp .ge 7, 3) := by decide +kernel
theorem dX5_mayItem_16 : decode cX5_mayItem 16 = .ok (.iconst 1, 1) := by decide +kernel
theorem dX5_mayItem_17 : decode cX5_mayItem 17 = .ok (.goto 59, 3) := by decide +kernel
theorem dX5_mayItem_20 : decode cX5_mayItem 20 = .ok (.iconst 0, 1) := by decide +kernel
theorem dX5_mayItem_21 : decode cX5_mayItem 21 = .ok (.goto 55, 3) := by decide +kernel
theorem dX5_mayItem_24 : decode cX5_mayItem 24 = .ok (.iload_n 1, 1) := by decide +kernel
theorem dX5_mayItem_25 : decode cX5_mayItem 25 = .ok (.iconst 4, 1) := by decide +kernel
theorem dX5_mayItem_26 : decode cX5_mayItem 26 = .ok (.if_icmp .ne 22, 3) := by decide +kernel
theorem dX5_mayItem_29 : decode cX5_mayItem 29 = .ok (.aload_n 0, 1) := by decide +kernel
theorem dX5_mayItem_30 : decode cX5_mayItem 30 = .ok (.getfield 13, 3) := by decide +kernel
theorem dX5_mayItem_33 : decode cX5_mayItem 33 = .ok (.bipush 9, 2) := by decide +kernel
theorem dX5_mayItem_35 : decode cX5_mayItem 35 = .ok (.iaload, 1) := by decide +kernel
theorem dX5_mayItem_36 : decode cX5_mayItem 36 = .ok (.iconst 2, 1) := by decide +kernel
theorem dX5_mayItem_37 : decode cX5_mayItem 37 = .ok (.if_icmp .ge 7, 3) := by decide +kernel
theorem dX5_mayItem_40 : decode cX5_mayItem 40 = .ok (.iconst 1, 1) := by decide +kernel
theorem dX5_mayItem_41 : decode cX5_mayItem 41 = .ok (.goto 35, 3) := by decide +kernel
theorem dX5_mayItem_44 : decode cX5_mayItem 44 = .ok (.iconst 0, 1) := by decide +kernel
theorem dX5_mayItem_45 : decode cX5_mayItem 45 = .ok (.goto 31, 3) := by decide +kernel
theorem dX5_mayItem_48 : decode cX5_mayItem 48 = .ok (.iload_n 1, 1) := by decide +kernel
theorem dX5_mayItem_49 : decode cX5_mayItem 49 = .ok (.bipush 7, 2) := by decide +kernel
theorem dX5_mayItem_51 : decode cX5_mayItem 51 = .ok (.if_icmp .lt 20, 3) := by decide +kernel
theorem dX5_mayItem_54 : decode cX5_mayItem 54 = .ok (.iload_n 1, 1) := by decide +kernel
theorem dX5_mayItem_55 : decode cX5_mayItem 55 = .ok (.bipush 10, 2) := by decide +kernel
theorem dX5_mayItem_57 : decode cX5_mayItem 57 = .ok (.if_icmp .gt 18, 3) := by decide +kernel
theorem dX5_mayItem_60 : decode cX5_mayItem 60 = .ok (.aload_n 0, 1) := by decide +kernel
theorem dX5_mayItem_61 : decode cX5_mayItem 61 = .ok (.getfield 91, 3) := by decide +kernel
theorem dX5_mayItem_64 : decode cX5_mayItem 64 = .ok (.iload_n 1, 1) := by decide +kernel
theorem dX5_mayItem_65 : decode cX5_mayItem 65 = .ok (.ishr, 1) := by decide +kernel
theorem dX5_mayItem_66 : decode cX5_mayItem 66 = .ok (.iconst 1, 1) := by decide +kernel
theorem dX5_mayItem_67 : decode cX5_mayItem 67 = .ok (.iand, 1) := by decide +kernel
theorem dX5_mayItem_68 : decode cX5_mayItem 68 = .ok (.ifCond .ne 7, 3) := by decide +kernel
theorem dX5_mayItem_71 : decode cX5_mayItem 71 = .ok (.iconst 1, 1) := by decide +kernel
theorem dX5_mayItem_72 : decode cX5_mayItem 72 = .ok (.goto 4, 3) := by decide +kernel
theorem dX5_mayItem_75 : decode cX5_mayItem 75 = .ok (.iconst 0, 1) := by decide +kernel
theorem dX5_mayItem_76 : decode cX5_mayItem 76 = .ok (.ireturn, 1) := by decide +kernel
set_option maxRecDepth 20000 in
theorem ggX5_readItem_X5_mayItem : GoodIn wsX5_readItem wsX5_mayItem := goodIn_r _ [13, 4, 3, 49, 50, 51, 52, 53, 54, 55, 56, 57, 58, 59, 60, 61, 62, 63, 64, 65, 66, 67] (by decide +kernel) (by decide +kernel)
set_option maxRecDepth 20000 in
theorem gX5_readItem_X5_mayItem : GoodIn wsX5_readItem (wsV RX5 94 RX5 yX5_mayItem wsX5_mayItem) := goodIn_app (goodIn_of _ (by decide +kernel)) ggX5_readItem_X5_mayItem
set_option maxRecDepth 20000 in
theorem ggX5_readItem_X5_due : GoodIn wsX5_readItem wsX5_due := goodIn_r _ [17, 6, 2, 18, 19, 20, 21, 12, 22, 23, 1, 24, 25, 26, 27, 28, 29, 30, 31, 32, 33, 34, 35, 36, 49, 50, 51, 52, 53, 54, 55, 56, 57, 58, 59, 60, 61, 62, 63, 64, 65, 66, 67] (by decide +kernel) (by decide +kernel)
set_option maxRecDepth 20000 in
theorem gX5_readItem_X5_due : GoodIn wsX5_readItem (wsV RX5 83 RX5 yX5_due wsX5_due) := goodIn_app (goodIn_of _ (by decide +kernel)) ggX5_readItem_X5_due
set_option maxRecDepth 20000 in
theorem ggX5_readItem_X5_in : GoodIn wsX5_readItem wsX5_in := goodIn_r _ [33] (by decide +kernel) (by decide +kernel)
set_option maxRecDepth 20000 in
theorem gX5_readItem_X5_in : GoodIn wsX5_readItem (va_wsS RX5 46 yX5_in wsX5_in) := goodIn_app (goodIn_of _ (by decide +kernel)) ggX5_readItem_X5_in
set_option maxRecDepth 20000 in
theorem ggX5_readItem_X5_stands : GoodIn wsX5_readItem wsX5_stands := goodIn_r _ [40, 4, 7, 49, 50, 51, 52, 53, 54, 55, 56, 57, 58, 59, 60, 61, 62, 63, 64, 65, 66, 67] (by decide +kernel) (by decide +kernel)
set_option maxRecDepth 20000 in
theorem gX5_readItem_X5_stands : GoodIn wsX5_readItem (wsV RX5 98 RX5 yX5_stands wsX5_stands) := goodIn_app (goodIn_of _ (by decide +kernel)) ggX5_readItem_X5_stands
set_option maxRecDepth 20000 in
theorem ggX5_readItem_X5_round : GoodIn wsX5_readItem wsX5_round := goodIn_r _ [44, 2, 45, 46, 47, 12, 48, 1, 6, 31, 32, 33, 14, 15, 16, 17, 18, 19, 20, 21, 22, 23, 24, 25, 26, 27, 28, 29, 30, 34, 35, 36, 49, 50, 51, 52, 53, 54, 55, 56, 57, 58, 59, 60, 61, 62, 63, 64, 65, 66, 67] (by decide +kernel) (by decide +kernel)
set_option maxRecDepth 20000 in
theorem gX5_readItem_X5_round : GoodIn wsX5_readItem (wsV RX5 101 RX5 yX5_round wsX5_round) := goodIn_app (goodIn_of _ (by decide +kernel)) ggX5_readItem_X5_round
set_option maxRecDepth 20000 in
theorem ggX5_readItem_X5_number : GoodIn wsX5_readItem wsX5_number := goodIn_r _ [48, 1, 6, 31, 32, 12, 33, 14, 15, 16, 17, 2, 18, 19, 20, 21, 22, 23, 24, 25, 26, 27, 28, 29, 30, 34, 35, 36, 49, 50, 51, 52, 53, 54, 55, 56, 57, 58, 59, 60, 61, 62, 63, 64, 65, 66, 67] (by decide +kernel) (by decide +kernel)
set_option maxRecDepth 20000 in
theorem gX5_readItem_X5_number : GoodIn wsX5_readItem (wsV RX5 87 RX5 yX5_number wsX5_number) := goodIn_app (goodIn_of _ (by decide +kernel)) ggX5_readItem_X5_number
theorem dX5_readItem_0 : decode cX5_readItem 0 = .ok (.aload_n 0, 1) := by decide +kernel
theorem dX5_readItem_1 : decode cX5_readItem 1 = .ok (.getfield 69, 3) := by decide +kernel
theorem dX5_readItem_4 : decode cX5_readItem 4 = .ok (.istore_n 1, 1) := by decide +kernel
theorem dX5_readItem_5 : decode cX5_readItem 5 = .ok (.aload_n 0, 1) := by decide +kernel
theorem dX5_readItem_6 : decode cX5_readItem 6 = .ok (.aload_n 0, 1) := by decide +kernel
theorem dX5_readItem_7 : decode cX5_readItem 7 = .ok (.iload_n 1, 1) := by decide +kernel
theorem dX5_readItem_8 : decode cX5_readItem 8 = .ok (.invokevirtual 94, 3) := by decide +kernel
theorem dX5_readItem_11 : decode cX5_readItem 11 = .ok (.invokevirtual 83, 3) := by decide +kernel
theorem dX5_readItem_14 : decode cX5_readItem 14 = .ok (.pop, 1) := by decide +kernel
theorem dX5_readItem_15 : decode cX5_readItem 15 = .ok (.aload_n 0, 1) := by decide +kernel
theorem dX5_readItem_16 : decode cX5_readItem 16 = .ok (.getfield 77, 3) := by decide +kernel
theorem dX5_readItem_19 : decode cX5_readItem 19 = .ok (.bipush (-9), 2) := by decide +kernel
theorem dX5_readItem_21 : decode cX5_readItem 21 = .ok (.if_icmp .eq 4, 3) := by decide +kernel
theorem dX5_readItem_24 : decode cX5_readItem 24 = .ok (.return_, 1) := by decide +kernel
theorem dX5_readItem_25 : decode cX5_readItem 25 = .ok (.aload_n 0, 1) := by decide +kernel
theorem dX5_readItem_26 : decode cX5_readItem 26 = .ok (.dup, 1) := by decide +kernel
theorem dX5_readItem_27 : decode cX5_readItem 27 = .ok (.getfield 91, 3) := by decide +kernel
theorem dX5_readItem_30 : decode cX5_readItem 30 = .ok (.iconst 1, 1) := by decide +kernel
theorem dX5_readItem_31 : decode cX5_readItem 31 = .ok (.iload_n 1, 1) := by decide +kernel
theorem dX5_readItem_32 : decode cX5_readItem 32 = .ok (.ishl, 1) := by decide +kernel
theorem dX5_readItem_33 : decode cX5_readItem 33 = .ok (.ior, 1) := by decide +kernel
theorem dX5_readItem_34 : decode cX5_readItem 34 = .ok (.putfield 91, 3) := by decide +kernel
theorem dX5_readItem_37 : decode cX5_readItem 37 = .ok (.iload_n 1, 1) := by decide +kernel
theorem dX5_readItem_38 : decode cX5_readItem 38 = .ok (.iconst 4, 1) := by decide +kernel
theorem dX5_readItem_39 : decode cX5_readItem 39 = .ok (.if_icmp .ge 84, 3) := by decide +kernel
theorem dX5_readItem_42 : decode cX5_readItem 42 = .ok (.iconst 4, 1) := by decide +kernel
theorem dX5_readItem_43 : decode cX5_readItem 43 = .ok (.aload_n 0, 1) := by decide +kernel
theorem dX5_readItem_44 : decode cX5_readItem 44 = .ok (.getfield 13, 3) := by decide +kernel
theorem dX5_readItem_47 : decode cX5_readItem 47 = .ok (.bipush 8, 2) := by decide +kernel
theorem dX5_readItem_49 : decode cX5_readItem 49 = .ok (.iaload, 1) := by decide +kernel
theorem dX5_readItem_50 : decode cX5_readItem 50 = .ok (.iadd, 1) := by decide +kernel
theorem dX5_readItem_51 : decode cX5_readItem 51 = .ok (.istore_n 2, 1) := by decide +kernel
theorem dX5_readItem_52 : decode cX5_readItem 52 = .ok (.aload_n 0, 1) := by decide +kernel
theorem dX5_readItem_53 : decode cX5_readItem 53 = .ok (.getfield 17, 3) := by decide +kernel
theorem dX5_readItem_56 : decode cX5_readItem 56 = .ok (.iload_n 2, 1) := by decide +kernel
theorem dX5_readItem_57 : decode cX5_readItem 57 = .ok (.iload_n 1, 1) := by decide +kernel
theorem dX5_readItem_58 : decode cX5_readItem 58 = .ok (.iastore, 1) := by decide +kernel
theorem dX5_readItem_59 : decode cX5_readItem 59 = .ok (.aload_n 0, 1) := by decide +kernel
theorem dX5_readItem_60 : decode cX5_readItem 60 = .ok (.getfield 69, 3) := by decide +kernel
theorem dX5_readItem_63 : decode cX5_readItem 63 = .ok (.bipush 12, 2) := by decide +kernel
theorem dX5_readItem_65 : decode cX5_readItem 65 = .ok (.if_icmp .ne 31, 3) := by decide +kernel
theorem dX5_readItem_68 : decode cX5_readItem 68 = .ok (.aload_n 0, 1) := by decide +kernel
theorem dX5_readItem_69 : decode cX5_readItem 69 = .ok (.getfield 66, 3) := by decide +kernel
theorem dX5_readItem_72 : decode cX5_readItem 72 = .ok (.iconst 0, 1) := by decide +kernel
theorem dX5_readItem_73 : decode cX5_readItem 73 = .ok (.bipush 8, 2) := by decide +kernel
theorem dX5_readItem_75 : decode cX5_readItem 75 = .ok (.invokestatic 46, 3) := by decide +kernel
theorem dX5_readItem_78 : decode cX5_readItem 78 = .ok (.ifCond .eq 18, 3) := by decide +kernel
theorem dX5_readItem_81 : decode cX5_readItem 81 = .ok (.aload_n 0, 1) := by decide +kernel
theorem dX5_readItem_82 : decode cX5_readItem 82 = .ok (.aload_n 0, 1) := by decide +kernel
theorem dX5_readItem_83 : decode cX5_readItem 83 = .ok (.getfield 66, 3) := by decide +kernel
theorem dX5_readItem_86 : decode cX5_readItem 86 = .ok (.invokevirtual 98, 3) := by decide +kernel
theorem dX5_readItem_89 : decode cX5_readItem 89 = .ok (.ifCond .ne 7, 3) := by decide +kernel
theorem dX5_readItem_92 : decode cX5_readItem 92 = .ok (.iconst 1, 1) := by decide +kernel
theorem dX5_readItem_93 : decode cX5_readItem 93 = .ok (.goto 4, 3) := by decide +kernel
theorem dX5_readItem_96 : decode cX5_readItem 96 = .ok (.iconst 0, 1) := by decide +kernel
theorem dX5_readItem_97 : decode cX5_readItem 97 = .ok (.istore_n 3, 1) := by decide +kernel
theorem dX5_readItem_98 : decode cX5_readItem 98 = .ok (.aload_n 0, 1) := by decide +kernel
theorem dX5_readItem_99 : decode cX5_readItem 99 = .ok (.getfield 20, 3) := by decide +kernel
theorem dX5_readItem_102 : decode cX5_readItem 102 = .ok (.iload_n 2, 1) := by decide +kernel
theorem dX5_readItem_103 : decode cX5_readItem 103 = .ok (.aload_n 0, 1) := by decide +kernel
theorem dX5_readItem_104 : decode cX5_readItem 104 = .ok (.iload_n 3, 1) := by decide +kernel
theorem dX5_readItem_105 : decode cX5_readItem 105 = .ok (.invokevirtual 83, 3) := by decide +kernel
theorem dX5_readItem_108 : decode cX5_readItem 108 = .ok (.iastore, 1) := by decide +kernel
theorem dX5_readItem_109 : decode cX5_readItem 109 = .ok (.aload_n 0, 1) := by decide +kernel
theorem dX5_readItem_110 : decode cX5_readItem 110 = .ok (.getfield 13, 3) := by decide +kernel
theorem dX5_readItem_113 : decode cX5_readItem 113 = .ok (.bipush 8, 2) := by decide +kernel
theorem dX5_readItem_115 : decode cX5_readItem 115 = .ok (.dup2, 1) := by decide +kernel
theorem dX5_readItem_116 : decode cX5_readItem 116 = .ok (.iaload, 1) := by decide +kernel
theorem dX5_readItem_117 : decode cX5_readItem 117 = .ok (.iconst 1, 1) := by decide +kernel
theorem dX5_readItem_118 : decode cX5_readItem 118 = .ok (.iadd, 1) := by decide +kernel
theorem dX5_readItem_119 : decode cX5_readItem 119 = .ok (.iastore, 1) := by decide +kernel
theorem dX5_readItem_120 : decode cX5_readItem 120 = .ok (.goto 119, 3) := by decide +kernel
theorem dX5_readItem_123 : decode cX5_readItem 123 = .ok (.iload_n 1, 1) := by decide +kernel
theorem dX5_readItem_124 : decode cX5_readItem 124 = .ok (.iconst 4, 1) := by decide +kernel
theorem dX5_readItem_125 : decode cX5_readItem 125 = .ok (.if_icmp .ne 35, 3) := by decide +kernel
theorem dX5_readItem_128 : decode cX5_readItem 128 = .ok (.aload_n 0, 1) := by decide +kernel
theorem dX5_readItem_129 : decode cX5_readItem 129 = .ok (.getfield 23, 3) := by decide +kernel
theorem dX5_readItem_132 : decode cX5_readItem 132 = .ok (.iconst 2, 1) := by decide +kernel
theorem dX5_readItem_133 : decode cX5_readItem 133 = .ok (.aload_n 0, 1) := by decide +kernel
theorem dX5_readItem_134 : decode cX5_readItem 134 = .ok (.getfield 13, 3) := by decide +kernel
theorem dX5_readItem_137 : decode cX5_readItem 137 = .ok (.bipush 9, 2) := by decide +kernel
theorem dX5_readItem_139 : decode cX5_readItem 139 = .ok (.iaload, 1) := by decide +kernel
theorem dX5_readItem_140 : decode cX5_readItem 140 = .ok (.iadd, 1) := by decide +kernel
theorem dX5_readItem_141 : decode cX5_readItem 141 = .ok (.aload_n 0, 1) := by decide +kernel
theorem dX5_readItem_142 : decode cX5_readItem 142 = .ok (.invokevirtual 101, 3) := by decide +kernel
theorem dX5_readItem_145 : decode cX5_readItem 145 = .ok (.iastore, 1) := by decide +kernel
theorem dX5_readItem_146 : decode cX5_readItem 146 = .ok (.aload_n 0, 1) := by decide +kernel
theorem dX5_readItem_147 : decode cX5_readItem 147 = .ok (.getfield 13, 3) := by decide +kernel
theorem dX5_readItem_150 : decode cX5_readItem 150 = .ok (.bipush 9, 2) := by decide +kernel
theorem dX5_readItem_152 : decode cX5_readItem 152 = .ok (.dup2, 1) := by decide +kernel
theorem dX5_readItem_153 : decode cX5_readItem 153 = .ok (.iaload, 1) := by decide +kernel
theorem dX5_readItem_154 : decode cX5_readItem 154 = .ok (.iconst 1, 1) := by decide +kernel
theorem dX5_readItem_155 : decode cX5_readItem 155 = .ok (.iadd, 1) := by decide +kernel
theorem dX5_readItem_156 : decode cX5_readItem 156 = .ok (.iastore, 1) := by decide +kernel
theorem dX5_readItem_157 : decode cX5_readItem 157 = .ok (.goto 82, 3) := by decide +kernel
theorem dX5_readItem_160 : decode cX5_readItem 160 = .ok (.iload_n 1, 1) := by decide +kernel
theorem dX5_readItem_161 : decode cX5_readItem 161 = .ok (.bipush 7, 2) := by decide +kernel
theorem dX5_readItem_163 : decode cX5_readItem 163 = .ok (.if_icmp .ge 24, 3) := by decide +kernel
theorem dX5_readItem_166 : decode cX5_readItem 166 = .ok (.aload_n 0, 1) := by decide +kernel
theorem dX5_readItem_167 : decode cX5_readItem 167 = .ok (.getfield 13, 3) := by decide +kernel
theorem dX5_readItem_170 : decode cX5_readItem 170 = .ok (.bipush 10, 2) := by decide +kernel
theorem dX5_readItem_172 : decode cX5_readItem 172 = .ok (.iload_n 1, 1) := by decide +kernel
theorem dX5_readItem_173 : decode cX5_readItem 173 = .ok (.iadd, 1) := by decide +kernel
theorem dX5_readItem_174 : decode cX5_readItem 174 = .ok (.iconst 5, 1) := by decide +kernel
theorem dX5_readItem_175 : decode cX5_readItem 175 = .ok (.isub, 1) := by decide +kernel
theorem dX5_readItem_176 : decode cX5_readItem 176 = .ok (.dup2, 1) := by decide +kernel
theorem dX5_readItem_177 : decode cX5_readItem 177 = .ok (.iaload, 1) := by decide +kernel
theorem dX5_readItem_178 : decode cX5_readItem 178 = .ok (.aload_n 0, 1) := by decide +kernel
theorem dX5_readItem_179 : decode cX5_readItem 179 = .ok (.invokevirtual 101, 3) := by decide +kernel
theorem dX5_readItem_182 : decode cX5_readItem 182 = .ok (.ior, 1) := by decide +kernel
theorem dX5_readItem_183 : decode cX5_readItem 183 = .ok (.iastore, 1) := by decide +kernel
theorem dX5_readItem_184 : decode cX5_readItem 184 = .ok (.goto 55, 3) := by decide +kernel
theorem dX5_readItem_187 : decode cX5_readItem 187 = .ok (.iload_n 1, 1) := by decide +kernel
theorem dX5_readItem_188 : decode cX5_readItem 188 = .ok (.bipush 10, 2) := by decide +kernel
theorem dX5_readItem_190 : decode cX5_readItem 190 = .ok (.if_icmp .ne 7, 3) := by decide +kernel
theorem dX5_readItem_193 : decode cX5_readItem 193 = .ok (.iconst 1, 1) := by decide +kernel
theorem dX5_readItem_194 : decode cX5_readItem 194 = .ok (.goto 4, 3) := by decide +kernel
theorem dX5_readItem_197 : decode cX5_readItem 197 = .ok (.iconst 0, 1) := by decide +kernel
theorem dX5_readItem_198 : decode cX5_readItem 198 = .ok (.istore_n 2, 1) := by decide +kernel
theorem dX5_readItem_199 : decode cX5_readItem 199 = .ok (.aload_n 0, 1) := by decide +kernel
theorem dX5_readItem_200 : decode cX5_readItem 200 = .ok (.getfield 13, 3) := by decide +kernel
theorem dX5_readItem_203 : decode cX5_readItem 203 = .ok (.bipush 12, 2) := by decide +kernel
theorem dX5_readItem_205 : decode cX5_readItem 205 = .ok (.iload_n 1, 1) := by decide +kernel
theorem dX5_readItem_206 : decode cX5_readItem 206 = .ok (.iadd, 1) := by decide +kernel
theorem dX5_readItem_207 : decode cX5_readItem 207 = .ok (.bipush 7, 2) := by decide +kernel
theorem dX5_readItem_209 : decode cX5_readItem 209 = .ok (.isub, 1) := by decide +kernel
theorem dX5_readItem_210 : decode cX5_readItem 210 = .ok (.aload_n 0, 1) := by decide +kernel
theorem dX5_readItem_211 : decode cX5_readItem 211 = .ok (.iload_n 2, 1) := by decide +kernel
theorem dX5_readItem_212 : decode cX5_readItem 212 = .ok (.iload_n 1, 1) := by decide +kernel
theorem dX5_readItem_213 : decode cX5_readItem 213 = .ok (.bipush 9, 2) := by decide +kernel
theorem dX5_readItem_215 : decode cX5_readItem 215 = .ok (.if_icmp .ge 8, 3) := by decide +kernel
theorem dX5_readItem_218 : decode cX5_readItem 218 = .ok (.bipush 7, 2) := by decide +kernel
theorem dX5_readItem_220 : decode cX5_readItem 220 = .ok (.goto 15, 3) := by decide +kernel
theorem dX5_readItem_223 : decode cX5_readItem 223 = .ok (.iload_n 1, 1) := by decide +kernel
theorem dX5_readItem_224 : decode cX5_readItem 224 = .ok (.bipush 9, 2) := by decide +kernel
theorem dX5_readItem_226 : decode cX5_readItem 226 = .ok (.if_icmp .ne 7, 3) := by decide +kernel
theorem dX5_readItem_229 : decode cX5_readItem 229 = .ok (.iconst 4, 1) := by decide +kernel
theorem dX5_readItem_230 : decode cX5_readItem 230 = .ok (.goto 5, 3) := by decide +kernel
theorem dX5_readItem_233 : decode cX5_readItem 233 = .ok (.bipush 9, 2) := by decide +kernel
theorem dX5_readItem_235 : decode cX5_readItem 235 = .ok (.invokevirtual 87, 3) := by decide +kernel
theorem dX5_readItem_238 : decode cX5_readItem 238 = .ok (.iastore, 1) := by decide +kernel
theorem dX5_readItem_239 : decode cX5_readItem 239 = .ok (.aload_n 0, 1) := by decide +kernel
theorem dX5_readItem_240 : decode cX5_readItem 240 = .ok (.aload_n 0, 1) := by decide +kernel
theorem dX5_readItem_241 : decode cX5_readItem 241 = .ok (.getfield 69, 3) := by decide +kernel
theorem dX5_readItem_244 : decode cX5_readItem 244 = .ok (.bipush 13, 2) := by decide +kernel
theorem dX5_readItem_246 : decode cX5_readItem 246 = .ok (.if_icmp .ne 7, 3) := by decide +kernel
theorem dX5_readItem_249 : decode cX5_readItem 249 = .ok (.iconst 1, 1) := by decide +kernel
theorem dX5_readItem_250 : decode cX5_readItem 250 = .ok (.goto 4, 3) := by decide +kernel
theorem dX5_readItem_253 : decode cX5_readItem 253 = .ok (.iconst 0, 1) := by decide +kernel
theorem dX5_readItem_254 : decode cX5_readItem 254 = .ok (.invokevirtual 83, 3) := by decide +kernel
theorem dX5_readItem_257 : decode cX5_readItem 257 = .ok (.pop, 1) := by decide +kernel
theorem dX5_readItem_258 : decode cX5_readItem 258 = .ok (.return_, 1) := by decide +kernel
set_option maxRecDepth 20000 in
theorem ggX5_house_X5_begin : GoodIn wsX5_house wsX5_begin := goodIn_r _ [16, 5, 59, 60, 61, 62, 63, 64, 65, 66, 67, 68, 69, 70, 71, 72, 73, 74, 75, 76, 77] (by decide +kernel) (by decide +kernel)
set_option maxRecDepth 20000 in
theorem gX5_house_X5_begin : GoodIn wsX5_house (wsV RX5 42 RX5 yX5_begin wsX5_begin) := goodIn_app (goodIn_of _ (by decide +kernel)) ggX5_house_X5_begin
set_option maxRecDepth 20000 in
theorem ggX5_house_X5_next : GoodIn wsX5_house wsX5_next := goodIn_r _ [20, 1, 21, 22, 4, 23, 24, 25, 26, 15, 27, 11, 28, 29, 30, 31, 32, 33, 34, 59, 60, 61, 62, 63, 64, 65, 66, 67, 68, 69, 70, 71, 72, 73, 74, 75, 76, 77] (by decide +kernel) (by decide +kernel)
set_option maxRecDepth 20000 in
theorem gX5_house_X5_next : GoodIn wsX5_house (wsV RX5 80 RX5 yX5_next wsX5_next) := goodIn_app (goodIn_of _ (by decide +kernel)) ggX5_house_X5_next
set_option maxRecDepth 20000 in
theorem ggX5_house_X5_readItem : GoodIn wsX5_house wsX5_readItem := goodIn_r _ [38, 4, 2, 3, 5, 6, 22, 7, 8, 39, 40, 41, 15, 42, 43, 44, 45, 46, 21, 17, 18, 19, 20, 1, 23, 24, 25, 26, 27, 11, 28, 29, 30, 31, 32, 33, 34, 47, 48, 49, 50, 51, 52, 53, 54, 55, 56, 57, 58, 59, 60, 61, 62, 63, 64, 65, 66, 67, 68, 69, 70, 71, 72, 73, 74, 75, 76, 77] (by decide +kernel) (by decide +kernel)
set_option maxRecDepth 20000 in
theorem gX5_house_X5_readItem : GoodIn wsX5_house (wsV RX5 104 RX5 yX5_readItem wsX5_readItem) := goodIn_app (goodIn_of _ (by decide +kernel)) ggX5_house_X5_readItem
theorem dX5_house_0 : decode cX5_house 0 = .ok (.aload_n 0, 1) := by decide +kernel
theorem dX5_house_1 : decode cX5_house 1 = .ok (.iconst 0, 1) := by decide +kernel
theorem dX5_house_2 : decode cX5_house 2 = .ok (.putfield 56, 3) := by decide +kernel
theorem dX5_house_5 : decode cX5_house 5 = .ok (.aload_n 0, 1) := by decide +kernel
theorem dX5_house_6 : decode cX5_house 6 = .ok (.bipush (-9), 2) := by decide +kernel
theorem dX5_house_8 : decode cX5_house 8 = .ok (.putfield 77, 3) := by decide +kernel
theorem dX5_house_11 : decode cX5_house 11 = .ok (.aload_n 0, 1) := by decide +kernel
theorem dX5_house_12 : decode cX5_house 12 = .ok (.iconst 0, 1) := by decide +kernel
theorem dX5_house_13 : decode cX5_house 13 = .ok (.putfield 91, 3) := by decide +kernel
theorem dX5_house_16 : decode cX5_house 16 = .ok (.aload_n 0, 1) := by decide +kernel
theorem dX5_house_17 : decode cX5_house 17 = .ok (.bipush 8, 2) := by decide +kernel
theorem dX5_house_19 : decode cX5_house 19 = .ok (.invokevirtual 42, 3) := by decide +kernel
theorem dX5_house_22 : decode cX5_house 22 = .ok (.iconst 0, 1) := by decide +kernel
theorem dX5_house_23 : decode cX5_house 23 = .ok (.istore_n 1, 1) := by decide +kernel
theorem dX5_house_24 : decode cX5_house 24 = .ok (.aload_n 0, 1) := by decide +kernel
theorem dX5_house_25 : decode cX5_house 25 = .ok (.invokevirtual 80, 3) := by decide +kernel
theorem dX5_house_28 : decode cX5_house 28 = .ok (.aload_n 0, 1) := by decide +kernel
theorem dX5_house_29 : decode cX5_house 29 = .ok (.getfield 77, 3) := by decide +kernel
theorem dX5_house_32 : decode cX5_house 32 = .ok (.bipush (-9), 2) := by decide +kernel
theorem dX5_house_34 : decode cX5_house 34 = .ok (.if_icmp .ne 22, 3) := by decide +kernel
theorem dX5_house_37 : decode cX5_house 37 = .ok (.aload_n 0, 1) := by decide +kernel
theorem dX5_house_38 : decode cX5_house 38 = .ok (.getfield 69, 3) := by decide +kernel
theorem dX5_house_41 : decode cX5_house 41 = .ok (.bipush 11, 2) := by decide +kernel
theorem dX5_house_43 : decode cX5_house 43 = .ok (.if_icmp .eq 13, 3) := by decide +kernel
theorem dX5_house_46 : decode cX5_house 46 = .ok (.aload_n 0, 1) := by decide +kernel
theorem dX5_house_47 : decode cX5_house 47 = .ok (.invokevirtual 104, 3) := by decide +kernel
theorem dX5_house_50 : decode cX5_house 50 = .ok (.iinc 1 1, 3) := by decide +kernel
theorem dX5_house_53 : decode cX5_house 53 = .ok (.goto (-25), 3) := by decide +kernel
theorem dX5_house_56 : decode cX5_house 56 = .ok (.aload_n 0, 1) := by decide +kernel
theorem dX5_house_57 : decode cX5_house 57 = .ok (.getfield 77, 3) := by decide +kernel
theorem dX5_house_60 : decode cX5_house 60 = .ok (.bipush (-9), 2) := by decide +kernel
theorem dX5_house_62 : decode cX5_house 62 = .ok (.if_icmp .eq 11, 3) := by decide +kernel
theorem dX5_house_65 : decode cX5_house 65 = .ok (.bipush (-10), 2) := by decide +kernel
theorem dX5_house_67 : decode cX5_house 67 = .ok (.aload_n 0, 1) := by decide +kernel
theorem dX5_house_68 : decode cX5_house 68 = .ok (.getfield 77, 3) := by decide +kernel
theorem dX5_house_71 : decode cX5_house 71 = .ok (.isub, 1) := by decide +kernel
theorem dX5_house_72 : decode cX5_house 72 = .ok (.ireturn, 1) := by decide +kernel
theorem dX5_house_73 : decode cX5_house 73 = .ok (.iconst 0, 1) := by decide +kernel
theorem dX5_house_74 : decode cX5_house 74 = .ok (.istore_n 2, 1) := by decide +kernel
theorem dX5_house_75 : decode cX5_house 75 = .ok (.iload_n 2, 1) := by decide +kernel
theorem dX5_house_76 : decode cX5_house 76 = .ok (.bipush 8, 2) := by decide +kernel
theorem dX5_house_78 : decode cX5_house 78 = .ok (.if_icmp .ge 24, 3) := by decide +kernel
theorem dX5_house_81 : decode cX5_house 81 = .ok (.aload_n 0, 1) := by decide +kernel
theorem dX5_house_82 : decode cX5_house 82 = .ok (.getfield 13, 3) := by decide +kernel
theorem dX5_house_85 : decode cX5_house 85 = .ok (.iload_n 2, 1) := by decide +kernel
theorem dX5_house_86 : decode cX5_house 86 = .ok (.aload_n 0, 1) := by decide +kernel
theorem dX5_house_87 : decode cX5_house 87 = .ok (.getfield 13, 3) := by decide +kernel
theorem dX5_house_90 : decode cX5_house 90 = .ok (.bipush 8, 2) := by decide +kernel
theorem dX5_house_92 : decode cX5_house 92 = .ok (.iload_n 2, 1) := by decide +kernel
theorem dX5_house_93 : decode cX5_house 93 = .ok (.iadd, 1) := by decide +kernel
theorem dX5_house_94 : decode cX5_house 94 = .ok (.iaload, 1) := by decide +kernel
theorem dX5_house_95 : decode cX5_house 95 = .ok (.iastore, 1) := by decide +kernel
theorem dX5_house_96 : decode cX5_house 96 = .ok (.iinc 2 1, 3) := by decide +kernel
theorem dX5_house_99 : decode cX5_house 99 = .ok (.goto (-24), 3) := by decide +kernel
theorem dX5_house_102 : decode cX5_house 102 = .ok (.iconst 0, 1) := by decide +kernel
theorem dX5_house_103 : decode cX5_house 103 = .ok (.istore_n 2, 1) := by decide +kernel
theorem dX5_house_104 : decode cX5_house 104 = .ok (.iload_n 2, 1) := by decide +kernel
theorem dX5_house_105 : decode cX5_house 105 = .ok (.iconst 4, 1) := by decide +kernel
theorem dX5_house_106 : decode cX5_house 106 = .ok (.if_icmp .ge 37, 3) := by decide +kernel
theorem dX5_house_109 : decode cX5_house 109 = .ok (.aload_n 0, 1) := by decide +kernel
theorem dX5_house_110 : decode cX5_house 110 = .ok (.getfield 17, 3) := by decide +kernel
theorem dX5_house_113 : decode cX5_house 113 = .ok (.iload_n 2, 1) := by decide +kernel
theorem dX5_house_114 : decode cX5_house 114 = .ok (.aload_n 0, 1) := by decide +kernel
theorem dX5_house_115 : decode cX5_house 115 = .ok (.getfield 17, 3) := by decide +kernel
theorem dX5_house_118 : decode cX5_house 118 = .ok (.iconst 4, 1) := by decide +kernel
theorem dX5_house_119 : decode cX5_house 119 = .ok (.iload_n 2, 1) := by decide +kernel
theorem dX5_house_120 : decode cX5_house 120 = .ok (.iadd, 1) := by decide +kernel
theorem dX5_house_121 : decode cX5_house 121 = .ok (.iaload, 1) := by decide +kernel
theorem dX5_house_122 : decode cX5_house 122 = .ok (.iastore, 1) := by decide +kernel
theorem dX5_house_123 : decode cX5_house 123 = .ok (.aload_n 0, 1) := by decide +kernel
theorem dX5_house_124 : decode cX5_house 124 = .ok (.getfield 20, 3) := by decide +kernel
theorem dX5_house_127 : decode cX5_house 127 = .ok (.iload_n 2, 1) := by decide +kernel
theorem dX5_house_128 : decode cX5_house 128 = .ok (.aload_n 0, 1) := by decide +kernel
theorem dX5_house_129 : decode cX5_house 129 = .ok (.getfield 20, 3) := by decide +kernel
theorem dX5_house_132 : decode cX5_house 132 = .ok (.iconst 4, 1) := by decide +kernel
theorem dX5_house_133 : decode cX5_house 133 = .ok (.iload_n 2, 1) := by decide +kernel
theorem dX5_house_134 : decode cX5_house 134 = .ok (.iadd, 1) := by decide +kernel
theorem dX5_house_135 : decode cX5_house 135 = .ok (.iaload, 1) := by decide +kernel
theorem dX5_house_136 : decode cX5_house 136 = .ok (.iastore, 1) := by decide +kernel
theorem dX5_house_137 : decode cX5_house 137 = .ok (.iinc 2 1, 3) := by decide +kernel
theorem dX5_house_140 : decode cX5_house 140 = .ok (.goto (-36), 3) := by decide +kernel
theorem dX5_house_143 : decode cX5_house 143 = .ok (.iconst 0, 1) := by decide +kernel
theorem dX5_house_144 : decode cX5_house 144 = .ok (.istore_n 2, 1) := by decide +kernel
theorem dX5_house_145 : decode cX5_house 145 = .ok (.iload_n 2, 1) := by decide +kernel
theorem dX5_house_146 : decode cX5_house 146 = .ok (.iconst 2, 1) := by decide +kernel
theorem dX5_house_147 : decode cX5_house 147 = .ok (.if_icmp .ge 23, 3) := by decide +kernel
theorem dX5_house_150 : decode cX5_house 150 = .ok (.aload_n 0, 1) := by decide +kernel
theorem dX5_house_151 : decode cX5_house 151 = .ok (.getfield 23, 3) := by decide +kernel
theorem dX5_house_154 : decode cX5_house 154 = .ok (.iload_n 2, 1) := by decide +kernel
theorem dX5_house_155 : decode cX5_house 155 = .ok (.aload_n 0, 1) := by decide +kernel
theorem dX5_house_156 : decode cX5_house 156 = .ok (.getfield 23, 3) := by decide +kernel
theorem dX5_house_159 : decode cX5_house 159 = .ok (.iconst 2, 1) := by decide +kernel
theorem dX5_house_160 : decode cX5_house 160 = .ok (.iload_n 2, 1) := by decide +kernel
theorem dX5_house_161 : decode cX5_house 161 = .ok (.iadd, 1) := by decide +kernel
theorem dX5_house_162 : decode cX5_house 162 = .ok (.iaload, 1) := by decide +kernel
theorem dX5_house_163 : decode cX5_house 163 = .ok (.iastore, 1) := by decide +kernel
theorem dX5_house_164 : decode cX5_house 164 = .ok (.iinc 2 1, 3) := by decide +kernel
theorem dX5_house_167 : decode cX5_house 167 = .ok (.goto (-22), 3) := by decide +kernel
theorem dX5_house_170 : decode cX5_house 170 = .ok (.iconst 0, 1) := by decide +kernel
theorem dX5_house_171 : decode cX5_house 171 = .ok (.istore_n 2, 1) := by decide +kernel
theorem dX5_house_172 : decode cX5_house 172 = .ok (.iconst 0, 1) := by decide +kernel
theorem dX5_house_173 : decode cX5_house 173 = .ok (.istore_n 3, 1) := by decide +kernel
theorem dX5_house_174 : decode cX5_house 174 = .ok (.iload_n 3, 1) := by decide +kernel
theorem dX5_house_175 : decode cX5_house 175 = .ok (.aload_n 0, 1) := by decide +kernel
theorem dX5_house_176 : decode cX5_house 176 = .ok (.getfield 13, 3) := by decide +kernel
theorem dX5_house_179 : decode cX5_house 179 = .ok (.iconst 0, 1) := by decide +kernel
theorem dX5_house_180 : decode cX5_house 180 = .ok (.iaload, 1) := by decide +kernel
theorem dX5_house_181 : decode cX5_house 181 = .ok (.if_icmp .ge 21, 3) := by decide +kernel
theorem dX5_house_184 : decode cX5_house 184 = .ok (.bipush 9, 2) := by decide +kernel
theorem dX5_house_186 : decode cX5_house 186 = .ok (.iload_n 2, 1) := by decide +kernel
theorem dX5_house_187 : decode cX5_house 187 = .ok (.imul, 1) := by decide +kernel
theorem dX5_house_188 : decode cX5_house 188 = .ok (.aload_n 0, 1) := by decide +kernel
theorem dX5_house_189 : decode cX5_house 189 = .ok (.getfield 20, 3) := by decide +kernel
theorem dX5_house_192 : decode cX5_house 192 = .ok (.iload_n 3, 1) := by decide +kernel
theorem dX5_house_193 : decode cX5_house 193 = .ok (.iaload, 1) := by decide +kernel
theorem dX5_house_194 : decode cX5_house 194 = .ok (.iadd, 1) := by decide +kernel
theorem dX5_house_195 : decode cX5_house 195 = .ok (.istore_n 2, 1) := by decide +kernel
theorem dX5_house_196 : decode cX5_house 196 = .ok (.iinc 3 1, 3) := by decide +kernel
theorem dX5_house_199 : decode cX5_house 199 = .ok (.goto (-25), 3) := by decide +kernel
theorem dX5_house_202 : decode cX5_house 202 = .ok (.aload_n 0, 1) := by decide +kernel
theorem dX5_house_203 : decode cX5_house 203 = .ok (.getfield 26, 3) := by decide +kernel
theorem dX5_house_206 : decode cX5_house 206 = .ok (.iconst 0, 1) := by decide +kernel
theorem dX5_house_207 : decode cX5_house 207 = .ok (.iload_n 2, 1) := by decide +kernel
theorem dX5_house_208 : decode cX5_house 208 = .ok (.iastore, 1) := by decide +kernel
theorem dX5_house_209 : decode cX5_house 209 = .ok (.aload_n 0, 1) := by decide +kernel
theorem dX5_house_210 : decode cX5_house 210 = .ok (.getfield 26, 3) := by decide +kernel
theorem dX5_house_213 : decode cX5_house 213 = .ok (.iconst 1, 1) := by decide +kernel
theorem dX5_house_214 : decode cX5_house 214 = .ok (.iconst 0, 1) := by decide +kernel
theorem dX5_house_215 : decode cX5_house 215 = .ok (.iastore, 1) := by decide +kernel
theorem dX5_house_216 : decode cX5_house 216 = .ok (.aload_n 0, 1) := by decide +kernel
theorem dX5_house_217 : decode cX5_house 217 = .ok (.getfield 26, 3) := by decide +kernel
theorem dX5_house_220 : decode cX5_house 220 = .ok (.iconst 2, 1) := by decide +kernel
theorem dX5_house_221 : decode cX5_house 221 = .ok (.iconst 0, 1) := by decide +kernel
theorem dX5_house_222 : decode cX5_house 222 = .ok (.iastore, 1) := by decide +kernel
theorem dX5_house_223 : decode cX5_house 223 = .ok (.aload_n 0, 1) := by decide +kernel
theorem dX5_house_224 : decode cX5_house 224 = .ok (.getfield 26, 3) := by decide +kernel
theorem dX5_house_227 : decode cX5_house 227 = .ok (.iconst 3, 1) := by decide +kernel
theorem dX5_house_228 : decode cX5_house 228 = .ok (.iconst 0, 1) := by decide +kernel
theorem dX5_house_229 : decode cX5_house 229 = .ok (.iastore, 1) := by decide +kernel
theorem dX5_house_230 : decode cX5_house 230 = .ok (.aload_n 0, 1) := by decide +kernel
theorem dX5_house_231 : decode cX5_house 231 = .ok (.getfield 26, 3) := by decide +kernel
theorem dX5_house_234 : decode cX5_house 234 = .ok (.iconst 4, 1) := by decide +kernel
theorem dX5_house_235 : decode cX5_house 235 = .ok (.iconst 0, 1) := by decide +kernel
theorem dX5_house_236 : decode cX5_house 236 = .ok (.iastore, 1) := by decide +kernel
theorem dX5_house_237 : decode cX5_house 237 = .ok (.aload_n 0, 1) := by decide +kernel
theorem dX5_house_238 : decode cX5_house 238 = .ok (.getfield 29, 3) := by decide +kernel
theorem dX5_house_241 : decode cX5_house 241 = .ok (.iconst 0, 1) := by decide +kernel
theorem dX5_house_242 : decode cX5_house 242 = .ok (.iconst 0, 1) := by decide +kernel
theorem dX5_house_243 : decode cX5_house 243 = .ok (.bastore, 1) := by decide +kernel
theorem dX5_house_244 : decode cX5_house 244 = .ok (.aload_n 0, 1) := by decide +kernel
theorem dX5_house_245 : decode cX5_house 245 = .ok (.getfield 29, 3) := by decide +kernel
theorem dX5_house_248 : decode cX5_house 248 = .ok (.iconst 1, 1) := by decide +kernel
theorem dX5_house_249 : decode cX5_house 249 = .ok (.iconst 0, 1) := by decide +kernel
theorem dX5_house_250 : decode cX5_house 250 = .ok (.bastore, 1) := by decide +kernel
theorem dX5_house_251 : decode cX5_house 251 = .ok (.aload_n 0, 1) := by decide +kernel
theorem dX5_house_252 : decode cX5_house 252 = .ok (.iconst 0, 1) := by decide +kernel
theorem dX5_house_253 : decode cX5_house 253 = .ok (.putfield 50, 3) := by decide +kernel
theorem dX5_house_256 : decode cX5_house 256 = .ok (.iload_n 1, 1) := by decide +kernel
theorem dX5_house_257 : decode cX5_house 257 = .ok (.ireturn, 1) := by decide +kernel
set_option maxRecDepth 20000 in
theorem ggX5_isPanel_X5_in : GoodIn wsX5_isPanel wsX5_in := goodIn_r _ [5] (by decide +kernel) (by decide +kernel)
set_option maxRecDepth 20000 in
theorem gX5_isPanel_X5_in : GoodIn wsX5_isPanel (va_wsS RX5 46 yX5_in wsX5_in) := goodIn_app (goodIn_of _ (by decide +kernel)) ggX5_isPanel_X5_in
theorem dX5_isPanel_0 : decode cX5_isPanel 0 = .ok (.iload_n 1, 1) := by decide +kernel
theorem dX5_isPanel_1 : decode cX5_isPanel 1 = .ok (.iconst 0, 1) := by decide +kernel
theorem dX5_isPanel_2 : decode cX5_isPanel 2 = .ok (.aload_n 0, 1) := by decide +kernel
theorem dX5_isPanel_3 : decode cX5_isPanel 3 = .ok (.getfield 13, 3) := by decide +kernel
theorem dX5_isPanel_6 : decode cX5_isPanel 6 = .ok (.iconst 0, 1) := by decide +kernel
theorem dX5_isPanel_7 : decode cX5_isPanel 7 = .ok (.iaload, 1) := by decide +kernel
theorem dX5_isPanel_8 : decode cX5_isPanel 8 = .ok (.iconst 1, 1) := by decide +kernel
theorem dX5_isPanel_9 : decode cX5_isPanel 9 = .ok (.isub, 1) := by decide +kernel
theorem dX5_isPanel_10 : decode cX5_isPanel 10 = .ok (.invokestatic 46, 3) := by decide +kernel
theorem dX5_isPanel_13 : decode cX5_isPanel 13 = .ok (.ireturn, 1) := by decide +kernel
theorem dX5_power_0 : decode cX5_power 0 = .ok (.iconst 1, 1) := by decide +kernel
theorem dX5_power_1 : decode cX5_power 1 = .ok (.istore_n 1, 1) := by decide +kernel
theorem dX5_power_2 : decode cX5_power 2 = .ok (.iconst 0, 1) := by decide +kernel
theorem dX5_power_3 : decode cX5_power 3 = .ok (.istore_n 2, 1) := by decide +kernel
theorem dX5_power_4 : decode cX5_power 4 = .ok (.iload_n 2, 1) := by decide +kernel
theorem dX5_power_5 : decode cX5_power 5 = .ok (.iload_n 0, 1) := by decide +kernel
theorem dX5_power_6 : decode cX5_power 6 = .ok (.if_icmp .ge 14, 3) := by decide +kernel
theorem dX5_power_9 : decode cX5_power 9 = .ok (.iload_n 1, 1) := by decide +kernel
theorem dX5_power_10 : decode cX5_power 10 = .ok (.bipush 9, 2) := by decide +kernel
theorem dX5_power_12 : decode cX5_power 12 = .ok (.imul, 1) := by decide +kernel
theorem dX5_power_13 : decode cX5_power 13 = .ok (.istore_n 1, 1) := by decide +kernel
theorem dX5_power_14 : decode cX5_power 14 = .ok (.iinc 2 1, 3) := by decide +kernel
theorem dX5_power_17 : decode cX5_power 17 = .ok (.goto (-13), 3) := by decide +kernel
theorem dX5_power_20 : decode cX5_power 20 = .ok (.iload_n 1, 1) := by decide +kernel
theorem dX5_power_21 : decode cX5_power 21 = .ok (.ireturn, 1) := by decide +kernel
set_option maxRecDepth 20000 in
theorem ggX5_houses_X5_power : GoodIn wsX5_houses wsX5_power := goodIn_r _ [5] (by decide +kernel) (by decide +kernel)
set_option maxRecDepth 20000 in
theorem gX5_houses_X5_power : GoodIn wsX5_houses (va_wsS RX5 107 yX5_power wsX5_power) := goodIn_app (goodIn_of _ (by decide +kernel)) ggX5_houses_X5_power
theorem dX5_houses_0 : decode cX5_houses 0 = .ok (.aload_n 0, 1) := by decide +kernel
theorem dX5_houses_1 : decode cX5_houses 1 = .ok (.getfield 13, 3) := by decide +kernel
theorem dX5_houses_4 : decode cX5_houses 4 = .ok (.iconst 0, 1) := by decide +kernel
theorem dX5_houses_5 : decode cX5_houses 5 = .ok (.iaload, 1) := by decide +kernel
theorem dX5_houses_6 : decode cX5_houses 6 = .ok (.invokestatic 107, 3) := by decide +kernel
theorem dX5_houses_9 : decode cX5_houses 9 = .ok (.ireturn, 1) := by decide +kernel
set_option maxRecDepth 20000 in
theorem ggX5_slotIn_X5_power : GoodIn wsX5_slotIn wsX5_power := goodIn_r _ [5] (by decide +kernel) (by decide +kernel)
set_option maxRecDepth 20000 in
theorem gX5_slotIn_X5_power : GoodIn wsX5_slotIn (va_wsS RX5 107 yX5_power wsX5_power) := goodIn_app (goodIn_of _ (by decide +kernel)) ggX5_slotIn_X5_power
theorem dX5_slotIn_0 : decode cX5_slotIn 0 = .ok (.iload_n 1, 1) := by decide +kernel
theorem dX5_slotIn_1 : decode cX5_slotIn 1 = .ok (.aload_n 0, 1) := by decide +kernel
theorem dX5_slotIn_2 : decode cX5_slotIn 2 = .ok (.getfield 13, 3) := by decide +kernel
theorem dX5_slotIn_5 : decode cX5_slotIn 5 = .ok (.iconst 0, 1) := by decide +kernel
theorem dX5_slotIn_6 : decode cX5_slotIn 6 = .ok (.iaload, 1) := by decide +kernel
theorem dX5_slotIn_7 : decode cX5_slotIn 7 = .ok (.iconst 1, 1) := by decide +kernel
theorem dX5_slotIn_8 : decode cX5_slotIn 8 = .ok (.isub, 1) := by decide +kernel
theorem dX5_slotIn_9 : decode cX5_slotIn 9 = .ok (.iload_n 2, 1) := by decide +kernel
theorem dX5_slotIn_10 : decode cX5_slotIn 10 = .ok (.isub, 1) := by decide +kernel
theorem dX5_slotIn_11 : decode cX5_slotIn 11 = .ok (.invokestatic 107, 3) := by decide +kernel
theorem dX5_slotIn_14 : decode cX5_slotIn 14 = .ok (.idiv, 1) := by decide +kernel
theorem dX5_slotIn_15 : decode cX5_slotIn 15 = .ok (.bipush 9, 2) := by decide +kernel
theorem dX5_slotIn_17 : decode cX5_slotIn 17 = .ok (.irem, 1) := by decide +kernel
theorem dX5_slotIn_18 : decode cX5_slotIn 18 = .ok (.ireturn, 1) := by decide +kernel
set_option maxRecDepth 20000 in
theorem ggX5_with_X5_slotIn : GoodIn wsX5_with wsX5_slotIn := goodIn_r _ [6, 1, 7, 8, 5, 9, 10, 11, 12, 13, 14, 15, 16, 17, 18, 19, 20, 21, 22, 23, 24, 25, 26, 27, 28] (by decide +kernel) (by decide +kernel)
set_option maxRecDepth 20000 in
theorem gX5_with_X5_slotIn : GoodIn wsX5_with (wsV RX5 110 RX5 yX5_slotIn wsX5_slotIn) := goodIn_app (goodIn_of _ (by decide +kernel)) ggX5_with_X5_slotIn
set_option maxRecDepth 20000 in
theorem ggX5_with_X5_power : GoodIn wsX5_with wsX5_power := goodIn_r _ [9] (by decide +kernel) (by decide +kernel)
set_option maxRecDepth 20000 in
theorem gX5_with_X5_power : GoodIn wsX5_with (va_wsS RX5 107 yX5_power wsX5_power) := goodIn_app (goodIn_of _ (by decide +kernel)) ggX5_with_X5_power
theorem dX5_with_0 : decode cX5_with 0 = .ok (.iload_n 1, 1) := by decide +kernel
theorem dX5_with_1 : decode cX5_with 1 = .ok (.iload_n 3, 1) := by decide +kernel
theorem dX5_with_2 : decode cX5_with 2 = .ok (.aload_n 0, 1) := by decide +kernel
theorem dX5_with_3 : decode cX5_with 3 = .ok (.iload_n 1, 1) := by decide +kernel
theorem dX5_with_4 : decode cX5_with 4 = .ok (.iload_n 2, 1) := by decide +kernel
theorem dX5_with_5 : decode cX5_with 5 = .ok (.invokevirtual 110, 3) := by decide +kernel
theorem dX5_with_8 : decode cX5_with 8 = .ok (.isub, 1) := by decide +kernel
theorem dX5_with_9 : decode cX5_with 9 = .ok (.aload_n 0, 1) := by decide +kernel
theorem dX5_with_10 : decode cX5_with 10 = .ok (.getfield 13, 3) := by decide +kernel
theorem dX5_with_13 : decode cX5_with 13 = .ok (.iconst 0, 1) := by decide +kernel
theorem dX5_with_14 : decode cX5_with 14 = .ok (.iaload, 1) := by decide +kernel
theorem dX5_with_15 : decode cX5_with 15 = .ok (.iconst 1, 1) := by decide +kernel
theorem dX5_with_16 : decode cX5_with 16 = .ok (.isub, 1) := by decide +kernel
theorem dX5_with_17 : decode cX5_with 17 = .ok (.iload_n 2, 1) := by decide +kernel
theorem dX5_with_18 : decode cX5_with 18 = .ok (.isub, 1) := by decide +kernel
theorem dX5_with_19 : decode cX5_with 19 = .ok (.invokestatic 107, 3) := by decide +kernel
theorem dX5_with_22 : decode cX5_with 22 = .ok (.imul, 1) := by decide +kernel
theorem dX5_with_23 : decode cX5_with 23 = .ok (.iadd, 1) := by decide +kernel
theorem dX5_with_24 : decode cX5_with 24 = .ok (.ireturn, 1) := by decide +kernel
set_option maxRecDepth 20000 in
theorem ggX5_panelAt_X5_slotIn : GoodIn wsX5_panelAt wsX5_slotIn := goodIn_r _ [6, 1, 7, 8, 5, 9, 10, 11, 12, 13, 14, 15, 16, 17, 18, 19, 20, 21, 22, 23, 24, 25, 26, 27, 28] (by decide +kernel) (by decide +kernel)
set_option maxRecDepth 20000 in
theorem gX5_panelAt_X5_slotIn : GoodIn wsX5_panelAt (wsV RX5 110 RX5 yX5_slotIn wsX5_slotIn) := goodIn_app (goodIn_of _ (by decide +kernel)) ggX5_panelAt_X5_slotIn
theorem dX5_panelAt_0 : decode cX5_panelAt 0 = .ok (.iconst 0, 1) := by decide +kernel
theorem dX5_panelAt_1 : decode cX5_panelAt 1 = .ok (.istore_n 3, 1) := by decide +kernel
theorem dX5_panelAt_2 : decode cX5_panelAt 2 = .ok (.iload_n 3, 1) := by decide +kernel
theorem dX5_panelAt_3 : decode cX5_panelAt 3 = .ok (.aload_n 0, 1) := by decide +kernel
theorem dX5_panelAt_4 : decode cX5_panelAt 4 = .ok (.getfield 13, 3) := by decide +kernel
theorem dX5_panelAt_7 : decode cX5_panelAt 7 = .ok (.iconst 0, 1) := by decide +kernel
theorem dX5_panelAt_8 : decode cX5_panelAt 8 = .ok (.iaload, 1) := by decide +kernel
theorem dX5_panelAt_9 : decode cX5_panelAt 9 = .ok (.if_icmp .ge 21, 3) := by decide +kernel
theorem dX5_panelAt_12 : decode cX5_panelAt 12 = .ok (.aload_n 0, 1) := by decide +kernel
theorem dX5_panelAt_13 : decode cX5_panelAt 13 = .ok (.iload_n 1, 1) := by decide +kernel
theorem dX5_panelAt_14 : decode cX5_panelAt 14 = .ok (.iload_n 3, 1) := by decide +kernel
theorem dX5_panelAt_15 : decode cX5_panelAt 15 = .ok (.invokevirtual 110, 3) := by decide +kernel
theorem dX5_panelAt_18 : decode cX5_panelAt 18 = .ok (.iload_n 2, 1) := by decide +kernel
theorem dX5_panelAt_19 : decode cX5_panelAt 19 = .ok (.if_icmp .ne 5, 3) := by decide +kernel
theorem dX5_panelAt_22 : decode cX5_panelAt 22 = .ok (.iload_n 3, 1) := by decide +kernel
theorem dX5_panelAt_23 : decode cX5_panelAt 23 = .ok (.ireturn, 1) := by decide +kernel
theorem dX5_panelAt_24 : decode cX5_panelAt 24 = .ok (.iinc 3 1, 3) := by decide +kernel
theorem dX5_panelAt_27 : decode cX5_panelAt 27 = .ok (.goto (-25), 3) := by decide +kernel
theorem dX5_panelAt_30 : decode cX5_panelAt 30 = .ok (.bipush (-9), 2) := by decide +kernel
theorem dX5_panelAt_32 : decode cX5_panelAt 32 = .ok (.ireturn, 1) := by decide +kernel
set_option maxRecDepth 20000 in
theorem ggX5_lying_X5_slotIn : GoodIn wsX5_lying wsX5_slotIn := goodIn_r _ [6, 1, 7, 8, 5, 9, 10, 11, 12, 13, 14, 15, 16, 17, 18, 19, 20, 21, 22, 23, 24, 25, 26, 27, 28] (by decide +kernel) (by decide +kernel)
set_option maxRecDepth 20000 in
theorem gX5_lying_X5_slotIn : GoodIn wsX5_lying (wsV RX5 110 RX5 yX5_slotIn wsX5_slotIn) := goodIn_app (goodIn_of _ (by decide +kernel)) ggX5_lying_X5_slotIn
theorem dX5_lying_0 : decode cX5_lying 0 = .ok (.iconst 0, 1) := by decide +kernel
theorem dX5_lying_1 : decode cX5_lying 1 = .ok (.istore_n 2, 1) := by decide +kernel
theorem dX5_lying_2 : decode cX5_lying 2 = .ok (.iconst 0, 1) := by decide +kernel
theorem dX5_lying_3 : decode cX5_lying 3 = .ok (.istore_n 3, 1) := by decide +kernel
theorem dX5_lying_4 : decode cX5_lying 4 = .ok (.iload_n 3, 1) := by decide +kernel
theorem dX5_lying_5 : decode cX5_lying 5 = .ok (.aload_n 0, 1) := by decide +kernel
theorem dX5_lying_6 : decode cX5_lying 6 = .ok (.getfield 13, 3) := by decide +kernel
theorem dX5_lying_9 : decode cX5_lying 9 = .ok (.iconst 0, 1) := by decide +kernel
theorem dX5_lying_10 : decode cX5_lying 10 = .ok (.iaload, 1) := by decide +kernel
theorem dX5_lying_11 : decode cX5_lying 11 = .ok (.if_icmp .ge 28, 3) := by decide +kernel
theorem dX5_lying_14 : decode cX5_lying 14 = .ok (.iload_n 2, 1) := by decide +kernel
theorem dX5_lying_15 : decode cX5_lying 15 = .ok (.aload_n 0, 1) := by decide +kernel
theorem dX5_lying_16 : decode cX5_lying 16 = .ok (.iload_n 1, 1) := by decide +kernel
theorem dX5_lying_17 : decode cX5_lying 17 = .ok (.iload_n 3, 1) := by decide +kernel
theorem dX5_lying_18 : decode cX5_lying 18 = .ok (.invokevirtual 110, 3) := by decide +kernel
theorem dX5_lying_21 : decode cX5_lying 21 = .ok (.bipush 8, 2) := by decide +kernel
theorem dX5_lying_23 : decode cX5_lying 23 = .ok (.if_icmp .ne 7, 3) := by decide +kernel
theorem dX5_lying_26 : decode cX5_lying 26 = .ok (.iconst 1, 1) := by decide +kernel
theorem dX5_lying_27 : decode cX5_lying 27 = .ok (.goto 4, 3) := by decide +kernel
theorem dX5_lying_30 : decode cX5_lying 30 = .ok (.iconst 0, 1) := by decide +kernel
theorem dX5_lying_31 : decode cX5_lying 31 = .ok (.iadd, 1) := by decide +kernel
theorem dX5_lying_32 : decode cX5_lying 32 = .ok (.istore_n 2, 1) := by decide +kernel
theorem dX5_lying_33 : decode cX5_lying 33 = .ok (.iinc 3 1, 3) := by decide +kernel
theorem dX5_lying_36 : decode cX5_lying 36 = .ok (.goto (-32), 3) := by decide +kernel
theorem dX5_lying_39 : decode cX5_lying 39 = .ok (.iload_n 2, 1) := by decide +kernel
theorem dX5_lying_40 : decode cX5_lying 40 = .ok (.ireturn, 1) := by decide +kernel
set_option maxRecDepth 20000 in
theorem ggX5_isBorne_X5_slotIn : GoodIn wsX5_isBorne wsX5_slotIn := goodIn_r _ [8, 1, 9, 10, 7, 11, 12, 13, 14, 15, 16, 17, 18, 19, 20, 21, 22, 23, 24, 25, 26, 27, 28, 29, 30] (by decide +kernel) (by decide +kernel)
set_option maxRecDepth 20000 in
theorem gX5_isBorne_X5_slotIn : GoodIn wsX5_isBorne (wsV RX5 110 RX5 yX5_slotIn wsX5_slotIn) := goodIn_app (goodIn_of _ (by decide +kernel)) ggX5_isBorne_X5_slotIn
theorem dX5_isBorne_0 : decode cX5_isBorne 0 = .ok (.iconst 0, 1) := by decide +kernel
theorem dX5_isBorne_1 : decode cX5_isBorne 1 = .ok (.istore_n 3, 1) := by decide +kernel
theorem dX5_isBorne_2 : decode cX5_isBorne 2 = .ok (.iconst 0, 1) := by decide +kernel
theorem dX5_isBorne_3 : decode cX5_isBorne 3 = .ok (.istore 4, 2) := by decide +kernel
theorem dX5_isBorne_5 : decode cX5_isBorne 5 = .ok (.iload 4, 2) := by decide +kernel
theorem dX5_isBorne_7 : decode cX5_isBorne 7 = .ok (.aload_n 0, 1) := by decide +kernel
theorem dX5_isBorne_8 : decode cX5_isBorne 8 = .ok (.getfield 13, 3) := by decide +kernel
theorem dX5_isBorne_11 : decode cX5_isBorne 11 = .ok (.iconst 0, 1) := by decide +kernel
theorem dX5_isBorne_12 : decode cX5_isBorne 12 = .ok (.iaload, 1) := by decide +kernel
theorem dX5_isBorne_13 : decode cX5_isBorne 13 = .ok (.if_icmp .ge 60, 3) := by decide +kernel
theorem dX5_isBorne_16 : decode cX5_isBorne 16 = .ok (.aload_n 0, 1) := by decide +kernel
theorem dX5_isBorne_17 : decode cX5_isBorne 17 = .ok (.iload_n 1, 1) := by decide +kernel
theorem dX5_isBorne_18 : decode cX5_isBorne 18 = .ok (.iload 4, 2) := by decide +kernel
theorem dX5_isBorne_20 : decode cX5_isBorne 20 = .ok (.invokevirtual 110, 3) := by decide +kernel
theorem dX5_isBorne_23 : decode cX5_isBorne 23 = .ok (.istore 5, 2) := by decide +kernel
theorem dX5_isBorne_25 : decode cX5_isBorne 25 = .ok (.iload_n 3, 1) := by decide +kernel
theorem dX5_isBorne_26 : decode cX5_isBorne 26 = .ok (.ifCond .ne 35, 3) := by decide +kernel
theorem dX5_isBorne_29 : decode cX5_isBorne 29 = .ok (.aload_n 0, 1) := by decide +kernel
theorem dX5_isBorne_30 : decode cX5_isBorne 30 = .ok (.getfield 17, 3) := by decide +kernel
theorem dX5_isBorne_33 : decode cX5_isBorne 33 = .ok (.iload 4, 2) := by decide +kernel
theorem dX5_isBorne_35 : decode cX5_isBorne 35 = .ok (.iaload, 1) := by decide +kernel
theorem dX5_isBorne_36 : decode cX5_isBorne 36 = .ok (.ifCond .ne 29, 3) := by decide +kernel
theorem dX5_isBorne_39 : decode cX5_isBorne 39 = .ok (.iload 5, 2) := by decide +kernel
theorem dX5_isBorne_41 : decode cX5_isBorne 41 = .ok (.bipush 8, 2) := by decide +kernel
theorem dX5_isBorne_43 : decode cX5_isBorne 43 = .ok (.if_icmp .ge 22, 3) := by decide +kernel
theorem dX5_isBorne_46 : decode cX5_isBorne 46 = .ok (.aload_n 0, 1) := by decide +kernel
theorem dX5_isBorne_47 : decode cX5_isBorne 47 = .ok (.getfield 23, 3) := by decide +kernel
theorem dX5_isBorne_50 : decode cX5_isBorne 50 = .ok (.iload_n 2, 1) := by decide +kernel
theorem dX5_isBorne_51 : decode cX5_isBorne 51 = .ok (.iaload, 1) := by decide +kernel
theorem dX5_isBorne_52 : decode cX5_isBorne 52 = .ok (.iload 5, 2) := by decide +kernel
theorem dX5_isBorne_54 : decode cX5_isBorne 54 = .ok (.ishr, 1) := by decide +kernel
theorem dX5_isBorne_55 : decode cX5_isBorne 55 = .ok (.iconst 1, 1) := by decide +kernel
theorem dX5_isBorne_56 : decode cX5_isBorne 56 = .ok (.iand, 1) := by decide +kernel
theorem dX5_isBorne_57 : decode cX5_isBorne 57 = .ok (.iconst 1, 1) := by decide +kernel
theorem dX5_isBorne_58 : decode cX5_isBorne 58 = .ok (.if_icmp .ne 7, 3) := by decide +kernel
theorem dX5_isBorne_61 : decode cX5_isBorne 61 = .ok (.iconst 1, 1) := by decide +kernel
theorem dX5_isBorne_62 : decode cX5_isBorne 62 = .ok (.goto 4, 3) := by decide +kernel
theorem dX5_isBorne_65 : decode cX5_isBorne 65 = .ok (.iconst 0, 1) := by decide +kernel
theorem dX5_isBorne_66 : decode cX5_isBorne 66 = .ok (.istore_n 3, 1) := by decide +kernel
theorem dX5_isBorne_67 : decode cX5_isBorne 67 = .ok (.iinc 4 1, 3) := by decide +kernel
theorem dX5_isBorne_70 : decode cX5_isBorne 70 = .ok (.goto (-65), 3) := by decide +kernel
theorem dX5_isBorne_73 : decode cX5_isBorne 73 = .ok (.iload_n 3, 1) := by decide +kernel
theorem dX5_isBorne_74 : decode cX5_isBorne 74 = .ok (.ireturn, 1) := by decide +kernel
set_option maxRecDepth 20000 in
theorem ggX5_isLawful_X5_lying : GoodIn wsX5_isLawful wsX5_lying := goodIn_r _ [6, 1, 7, 8, 9, 5, 10, 11, 12, 13, 20, 21, 22, 23, 24, 25, 26, 27, 28, 29, 30, 31, 32, 33, 34, 35, 36, 37, 38] (by decide +kernel) (by decide +kernel)
set_option maxRecDepth 20000 in
theorem gX5_isLawful_X5_lying : GoodIn wsX5_isLawful (wsV RX5 113 RX5 yX5_lying wsX5_lying) := goodIn_app (goodIn_of _ (by decide +kernel)) ggX5_isLawful_X5_lying
set_option maxRecDepth 20000 in
theorem ggX5_isLawful_X5_slotIn : GoodIn wsX5_isLawful wsX5_slotIn := goodIn_r _ [10, 1, 11, 12, 5, 13, 20, 21, 22, 23, 24, 25, 26, 27, 28, 29, 30, 31, 32, 33, 34, 35, 36, 37, 38] (by decide +kernel) (by decide +kernel)
set_option maxRecDepth 20000 in
theorem gX5_isLawful_X5_slotIn : GoodIn wsX5_isLawful (wsV RX5 110 RX5 yX5_slotIn wsX5_slotIn) := goodIn_app (goodIn_of _ (by decide +kernel)) ggX5_isLawful_X5_slotIn
set_option maxRecDepth 20000 in
theorem ggX5_isLawful_X5_isBorne : GoodIn wsX5_isLawful wsX5_isBorne := goodIn_r _ [17, 1, 18, 19, 7, 8, 9, 5, 10, 11, 12, 13, 20, 21, 22, 23, 24, 25, 26, 27, 28, 29, 30, 31, 32, 33, 34, 35, 36, 37, 38] (by decide +kernel) (by decide +kernel)
set_option maxRecDepth 20000 in
theorem gX5_isLawful_X5_isBorne : GoodIn wsX5_isLawful (wsV RX5 116 RX5 yX5_isBorne wsX5_isBorne) := goodIn_app (goodIn_of _ (by decide +kernel)) ggX5_isLawful_X5_isBorne
theorem dX5_isLawful_0 : decode cX5_isLawful 0 = .ok (.aload_n 0, 1) := by decide +kernel
theorem dX5_isLawful_1 : decode cX5_isLawful 1 = .ok (.iload_n 1, 1) := by decide +kernel
theorem dX5_isLawful_2 : decode cX5_isLawful 2 = .ok (.invokevirtual 113, 3) := by decide +kernel
theorem dX5_isLawful_5 : decode cX5_isLawful 5 = .ok (.aload_n 0, 1) := by decide +kernel
theorem dX5_isLawful_6 : decode cX5_isLawful 6 = .ok (.getfield 13, 3) := by decide +kernel
theorem dX5_isLawful_9 : decode cX5_isLawful 9 = .ok (.bipush 6, 2) := by decide +kernel
theorem dX5_isLawful_11 : decode cX5_isLawful 11 = .ok (.iaload, 1) := by decide +kernel
theorem dX5_isLawful_12 : decode cX5_isLawful 12 = .ok (.if_icmp .gt 7, 3) := by decide +kernel
theorem dX5_isLawful_15 : decode cX5_isLawful 15 = .ok (.iconst 1, 1) := by decide +kernel
theorem dX5_isLawful_16 : decode cX5_isLawful 16 = .ok (.goto 4, 3) := by decide +kernel
theorem dX5_isLawful_19 : decode cX5_isLawful 19 = .ok (.iconst 0, 1) := by decide +kernel
theorem dX5_isLawful_20 : decode cX5_isLawful 20 = .ok (.istore_n 2, 1) := by decide +kernel
theorem dX5_isLawful_21 : decode cX5_isLawful 21 = .ok (.iconst 0, 1) := by decide +kernel
theorem dX5_isLawful_22 : decode cX5_isLawful 22 = .ok (.istore_n 3, 1) := by decide +kernel
theorem dX5_isLawful_23 : decode cX5_isLawful 23 = .ok (.iconst 0, 1) := by decide +kernel
theorem dX5_isLawful_24 : decode cX5_isLawful 24 = .ok (.istore 4, 2) := by decide +kernel
theorem dX5_isLawful_26 : decode cX5_isLawful 26 = .ok (.iload 4, 2) := by decide +kernel
theorem dX5_isLawful_28 : decode cX5_isLawful 28 = .ok (.aload_n 0, 1) := by decide +kernel
theorem dX5_isLawful_29 : decode cX5_isLawful 29 = .ok (.getfield 13, 3) := by decide +kernel
theorem dX5_isLawful_32 : decode cX5_isLawful 32 = .ok (.iconst 0, 1) := by decide +kernel
theorem dX5_isLawful_33 : decode cX5_isLawful 33 = .ok (.iaload, 1) := by decide +kernel
theorem dX5_isLawful_34 : decode cX5_isLawful 34 = .ok (.if_icmp .ge 62, 3) := by decide +kernel
theorem dX5_isLawful_37 : decode cX5_isLawful 37 = .ok (.iload_n 2, 1) := by decide +kernel
theorem dX5_isLawful_38 : decode cX5_isLawful 38 = .ok (.ifCond .eq 58, 3) := by decide +kernel
theorem dX5_isLawful_41 : decode cX5_isLawful 41 = .ok (.aload_n 0, 1) := by decide +kernel
theorem dX5_isLawful_42 : decode cX5_isLawful 42 = .ok (.iload_n 1, 1) := by decide +kernel
theorem dX5_isLawful_43 : decode cX5_isLawful 43 = .ok (.iload 4, 2) := by decide +kernel
theorem dX5_isLawful_45 : decode cX5_isLawful 45 = .ok (.invokevirtual 110, 3) := by decide +kernel
theorem dX5_isLawful_48 : decode cX5_isLawful 48 = .ok (.istore 5, 2) := by decide +kernel
theorem dX5_isLawful_50 : decode cX5_isLawful 50 = .ok (.iload 5, 2) := by decide +kernel
theorem dX5_isLawful_52 : decode cX5_isLawful 52 = .ok (.bipush 8, 2) := by decide +kernel
theorem dX5_isLawful_54 : decode cX5_isLawful 54 = .ok (.if_icmp .eq 12, 3) := by decide +kernel
theorem dX5_isLawful_57 : decode cX5_isLawful 57 = .ok (.iload_n 3, 1) := by decide +kernel
theorem dX5_isLawful_58 : decode cX5_isLawful 58 = .ok (.iload 5, 2) := by decide +kernel
theorem dX5_isLawful_60 : decode cX5_isLawful 60 = .ok (.ishr, 1) := by decide +kernel
theorem dX5_isLawful_61 : decode cX5_isLawful 61 = .ok (.iconst 1, 1) := by decide +kernel
theorem dX5_isLawful_62 : decode cX5_isLawful 62 = .ok (.iand, 1) := by decide +kernel
theorem dX5_isLawful_63 : decode cX5_isLawful 63 = .ok (.ifCond .ne 7, 3) := by decide +kernel
theorem dX5_isLawful_66 : decode cX5_isLawful 66 = .ok (.iconst 1, 1) := by decide +kernel
theorem dX5_isLawful_67 : decode cX5_isLawful 67 = .ok (.goto 4, 3) := by decide +kernel
theorem dX5_isLawful_70 : decode cX5_isLawful 70 = .ok (.iconst 0, 1) := by decide +kernel
theorem dX5_isLawful_71 : decode cX5_isLawful 71 = .ok (.istore_n 2, 1) := by decide +kernel
theorem dX5_isLawful_72 : decode cX5_isLawful 72 = .ok (.iload_n 3, 1) := by decide +kernel
theorem dX5_isLawful_73 : decode cX5_isLawful 73 = .ok (.iload 5, 2) := by decide +kernel
theorem dX5_isLawful_75 : decode cX5_isLawful 75 = .ok (.bipush 8, 2) := by decide +kernel
theorem dX5_isLawful_77 : decode cX5_isLawful 77 = .ok (.if_icmp .ne 7, 3) := by decide +kernel
theorem dX5_isLawful_80 : decode cX5_isLawful 80 = .ok (.iconst 0, 1) := by decide +kernel
theorem dX5_isLawful_81 : decode cX5_isLawful 81 = .ok (.goto 7, 3) := by decide +kernel
theorem dX5_isLawful_84 : decode cX5_isLawful 84 = .ok (.iconst 1, 1) := by decide +kernel
theorem dX5_isLawful_85 : decode cX5_isLawful 85 = .ok (.iload 5, 2) := by decide +kernel
theorem dX5_isLawful_87 : decode cX5_isLawful 87 = .ok (.ishl, 1) := by decide +kernel
theorem dX5_isLawful_88 : decode cX5_isLawful 88 = .ok (.ior, 1) := by decide +kernel
theorem dX5_isLawful_89 : decode cX5_isLawful 89 = .ok (.istore_n 3, 1) := by decide +kernel
theorem dX5_isLawful_90 : decode cX5_isLawful 90 = .ok (.iinc 4 1, 3) := by decide +kernel
theorem dX5_isLawful_93 : decode cX5_isLawful 93 = .ok (.goto (-67), 3) := by decide +kernel
theorem dX5_isLawful_96 : decode cX5_isLawful 96 = .ok (.iconst 0, 1) := by decide +kernel
theorem dX5_isLawful_97 : decode cX5_isLawful 97 = .ok (.istore 4, 2) := by decide +kernel
theorem dX5_isLawful_99 : decode cX5_isLawful 99 = .ok (.iload 4, 2) := by decide +kernel
theorem dX5_isLawful_101 : decode cX5_isLawful 101 = .ok (.aload_n 0, 1) := by decide +kernel
theorem dX5_isLawful_102 : decode cX5_isLawful 102 = .ok (.getfield 13, 3) := by decide +kernel
theorem dX5_isLawful_105 : decode cX5_isLawful 105 = .ok (.iconst 1, 1) := by decide +kernel
theorem dX5_isLawful_106 : decode cX5_isLawful 106 = .ok (.iaload, 1) := by decide +kernel
theorem dX5_isLawful_107 : decode cX5_isLawful 107 = .ok (.if_icmp .ge 21, 3) := by decide +kernel
theorem dX5_isLawful_110 : decode cX5_isLawful 110 = .ok (.iload_n 2, 1) := by decide +kernel
theorem dX5_isLawful_111 : decode cX5_isLawful 111 = .ok (.ifCond .eq 17, 3) := by decide +kernel
theorem dX5_isLawful_114 : decode cX5_isLawful 114 = .ok (.aload_n 0, 1) := by decide +kernel
theorem dX5_isLawful_115 : decode cX5_isLawful 115 = .ok (.iload_n 1, 1) := by decide +kernel
theorem dX5_isLawful_116 : decode cX5_isLawful 116 = .ok (.iload 4, 2) := by decide +kernel
theorem dX5_isLawful_118 : decode cX5_isLawful 118 = .ok (.invokevirtual 116, 3) := by decide +kernel
theorem dX5_isLawful_121 : decode cX5_isLawful 121 = .ok (.istore_n 2, 1) := by decide +kernel
theorem dX5_isLawful_122 : decode cX5_isLawful 122 = .ok (.iinc 4 1, 3) := by decide +kernel
theorem dX5_isLawful_125 : decode cX5_isLawful 125 = .ok (.goto (-26), 3) := by decide +kernel
theorem dX5_isLawful_128 : decode cX5_isLawful 128 = .ok (.iload_n 2, 1) := by decide +kernel
theorem dX5_isLawful_129 : decode cX5_isLawful 129 = .ok (.ireturn, 1) := by decide +kernel
set_option maxRecDepth 20000 in
theorem ggX5_sortAt_X5_panelAt : GoodIn wsX5_sortAt wsX5_panelAt := goodIn_r _ [6, 7, 8, 9, 10, 5, 11, 12, 13, 14, 15, 16, 17, 18, 19, 20, 21, 22, 23, 24, 25, 26, 27, 28, 29, 30, 31, 32, 33] (by decide +kernel) (by decide +kernel)
set_option maxRecDepth 20000 in
theorem gX5_sortAt_X5_panelAt : GoodIn wsX5_sortAt (wsV RX5 120 RX5 yX5_panelAt wsX5_panelAt) := goodIn_app (goodIn_of _ (by decide +kernel)) ggX5_sortAt_X5_panelAt
theorem dX5_sortAt_0 : decode cX5_sortAt 0 = .ok (.aload_n 0, 1) := by decide +kernel
theorem dX5_sortAt_1 : decode cX5_sortAt 1 = .ok (.iload_n 1, 1) := by decide +kernel
theorem dX5_sortAt_2 : decode cX5_sortAt 2 = .ok (.iload_n 2, 1) := by decide +kernel
theorem dX5_sortAt_3 : decode cX5_sortAt 3 = .ok (.invokevirtual 120, 3) := by decide +kernel
theorem dX5_sortAt_6 : decode cX5_sortAt 6 = .ok (.istore_n 3, 1) := by decide +kernel
theorem dX5_sortAt_7 : decode cX5_sortAt 7 = .ok (.iload_n 3, 1) := by decide +kernel
theorem dX5_sortAt_8 : decode cX5_sortAt 8 = .ok (.bipush (-9), 2) := by decide +kernel
theorem dX5_sortAt_10 : decode cX5_sortAt 10 = .ok (.if_icmp .ne 8, 3) := by decide +kernel
theorem dX5_sortAt_13 : decode cX5_sortAt 13 = .ok (.bipush (-9), 2) := by decide +kernel
theorem dX5_sortAt_15 : decode cX5_sortAt 15 = .ok (.goto 9, 3) := by decide +kernel
theorem dX5_sortAt_18 : decode cX5_sortAt 18 = .ok (.aload_n 0, 1) := by decide +kernel
theorem dX5_sortAt_19 : decode cX5_sortAt 19 = .ok (.getfield 17, 3) := by decide +kernel
theorem dX5_sortAt_22 : decode cX5_sortAt 22 = .ok (.iload_n 3, 1) := by decide +kernel
theorem dX5_sortAt_23 : decode cX5_sortAt 23 = .ok (.iaload, 1) := by decide +kernel
theorem dX5_sortAt_24 : decode cX5_sortAt 24 = .ok (.ireturn, 1) := by decide +kernel
set_option maxRecDepth 20000 in
theorem ggX5_leaksIn_X5_sortAt : GoodIn wsX5_leaksIn wsX5_sortAt := goodIn_r _ [6, 7, 8, 9, 10, 5, 11, 1, 12, 13, 14, 15, 16, 17, 18, 22, 23, 24, 25, 26, 27, 28, 29, 30, 31, 32, 33, 34, 35, 36, 37, 38, 39, 40] (by decide +kernel) (by decide +kernel)
set_option maxRecDepth 20000 in
theorem gX5_leaksIn_X5_sortAt : GoodIn wsX5_leaksIn (wsV RX5 123 RX5 yX5_sortAt wsX5_sortAt) := goodIn_app (goodIn_of _ (by decide +kernel)) ggX5_leaksIn_X5_sortAt
set_option maxRecDepth 20000 in
theorem ggX5_leaksIn_X5_in : GoodIn wsX5_leaksIn wsX5_in := goodIn_r _ [21] (by decide +kernel) (by decide +kernel)
set_option maxRecDepth 20000 in
theorem gX5_leaksIn_X5_in : GoodIn wsX5_leaksIn (va_wsS RX5 46 yX5_in wsX5_in) := goodIn_app (goodIn_of _ (by decide +kernel)) ggX5_leaksIn_X5_in
theorem dX5_leaksIn_0 : decode cX5_leaksIn 0 = .ok (.iconst 0, 1) := by decide +kernel
theorem dX5_leaksIn_1 : decode cX5_leaksIn 1 = .ok (.istore_n 2, 1) := by decide +kernel
theorem dX5_leaksIn_2 : decode cX5_leaksIn 2 = .ok (.iconst 0, 1) := by decide +kernel
theorem dX5_leaksIn_3 : decode cX5_leaksIn 3 = .ok (.istore_n 3, 1) := by decide +kernel
theorem dX5_leaksIn_4 : decode cX5_leaksIn 4 = .ok (.iload_n 3, 1) := by decide +kernel
theorem dX5_leaksIn_5 : decode cX5_leaksIn 5 = .ok (.bipush 8, 2) := by decide +kernel
theorem dX5_leaksIn_7 : decode cX5_leaksIn 7 = .ok (.if_icmp .ge 45, 3) := by decide +kernel
theorem dX5_leaksIn_10 : decode cX5_leaksIn 10 = .ok (.iload_n 2, 1) := by decide +kernel
theorem dX5_leaksIn_11 : decode cX5_leaksIn 11 = .ok (.aload_n 0, 1) := by decide +kernel
theorem dX5_leaksIn_12 : decode cX5_leaksIn 12 = .ok (.getfield 13, 3) := by decide +kernel
theorem dX5_leaksIn_15 : decode cX5_leaksIn 15 = .ok (.iconst 2, 1) := by decide +kernel
theorem dX5_leaksIn_16 : decode cX5_leaksIn 16 = .ok (.iaload, 1) := by decide +kernel
theorem dX5_leaksIn_17 : decode cX5_leaksIn 17 = .ok (.iload_n 3, 1) := by decide +kernel
theorem dX5_leaksIn_18 : decode cX5_leaksIn 18 = .ok (.ishr, 1) := by decide +kernel
theorem dX5_leaksIn_19 : decode cX5_leaksIn 19 = .ok (.iconst 1, 1) := by decide +kernel
theorem dX5_leaksIn_20 : decode cX5_leaksIn 20 = .ok (.iand, 1) := by decide +kernel
theorem dX5_leaksIn_21 : decode cX5_leaksIn 21 = .ok (.iconst 1, 1) := by decide +kernel
theorem dX5_leaksIn_22 : decode cX5_leaksIn 22 = .ok (.if_icmp .ne 21, 3) := by decide +kernel
theorem dX5_leaksIn_25 : decode cX5_leaksIn 25 = .ok (.aload_n 0, 1) := by decide +kernel
theorem dX5_leaksIn_26 : decode cX5_leaksIn 26 = .ok (.iload_n 1, 1) := by decide +kernel
theorem dX5_leaksIn_27 : decode cX5_leaksIn 27 = .ok (.iload_n 3, 1) := by decide +kernel
theorem dX5_leaksIn_28 : decode cX5_leaksIn 28 = .ok (.invokevirtual 123, 3) := by decide +kernel
theorem dX5_leaksIn_31 : decode cX5_leaksIn 31 = .ok (.iconst 0, 1) := by decide +kernel
theorem dX5_leaksIn_32 : decode cX5_leaksIn 32 = .ok (.iconst 1, 1) := by decide +kernel
theorem dX5_leaksIn_33 : decode cX5_leaksIn 33 = .ok (.invokestatic 46, 3) := by decide +kernel
theorem dX5_leaksIn_36 : decode cX5_leaksIn 36 = .ok (.ifCond .ne 7, 3) := by decide +kernel
theorem dX5_leaksIn_39 : decode cX5_leaksIn 39 = .ok (.iconst 1, 1) := by decide +kernel
theorem dX5_leaksIn_40 : decode cX5_leaksIn 40 = .ok (.goto 4, 3) := by decide +kernel
theorem dX5_leaksIn_43 : decode cX5_leaksIn 43 = .ok (.iconst 0, 1) := by decide +kernel
theorem dX5_leaksIn_44 : decode cX5_leaksIn 44 = .ok (.iadd, 1) := by decide +kernel
theorem dX5_leaksIn_45 : decode cX5_leaksIn 45 = .ok (.istore_n 2, 1) := by decide +kernel
theorem dX5_leaksIn_46 : decode cX5_leaksIn 46 = .ok (.iinc 3 1, 3) := by decide +kernel
theorem dX5_leaksIn_49 : decode cX5_leaksIn 49 = .ok (.goto (-45), 3) := by decide +kernel
theorem dX5_leaksIn_52 : decode cX5_leaksIn 52 = .ok (.iload_n 2, 1) := by decide +kernel
theorem dX5_leaksIn_53 : decode cX5_leaksIn 53 = .ok (.ireturn, 1) := by decide +kernel
set_option maxRecDepth 20000 in
theorem ggX5_isOpen_X5_sortAt : GoodIn wsX5_isOpen wsX5_sortAt := goodIn_r _ [5, 6, 7, 8, 9, 4, 10, 11, 12, 13, 14, 15, 16, 17, 18, 19, 20, 21, 22, 23, 24, 25, 26, 27, 28, 29, 30, 31, 32, 33, 34, 35, 36, 37] (by decide +kernel) (by decide +kernel)
set_option maxRecDepth 20000 in
theorem gX5_isOpen_X5_sortAt : GoodIn wsX5_isOpen (wsV RX5 123 RX5 yX5_sortAt wsX5_sortAt) := goodIn_app (goodIn_of _ (by decide +kernel)) ggX5_isOpen_X5_sortAt
theorem dX5_isOpen_0 : decode cX5_isOpen 0 = .ok (.aload_n 0, 1) := by decide +kernel
theorem dX5_isOpen_1 : decode cX5_isOpen 1 = .ok (.iload_n 1, 1) := by decide +kernel
theorem dX5_isOpen_2 : decode cX5_isOpen 2 = .ok (.iload_n 2, 1) := by decide +kernel
theorem dX5_isOpen_3 : decode cX5_isOpen 3 = .ok (.invokevirtual 123, 3) := by decide +kernel
theorem dX5_isOpen_6 : decode cX5_isOpen 6 = .ok (.istore_n 3, 1) := by decide +kernel
theorem dX5_isOpen_7 : decode cX5_isOpen 7 = .ok (.iload_n 3, 1) := by decide +kernel
theorem dX5_isOpen_8 : decode cX5_isOpen 8 = .ok (.bipush (-9), 2) := by decide +kernel
theorem dX5_isOpen_10 : decode cX5_isOpen 10 = .ok (.if_icmp .eq 8, 3) := by decide +kernel
theorem dX5_isOpen_13 : decode cX5_isOpen 13 = .ok (.iload_n 3, 1) := by decide +kernel
theorem dX5_isOpen_14 : decode cX5_isOpen 14 = .ok (.iconst 1, 1) := by decide +kernel
theorem dX5_isOpen_15 : decode cX5_isOpen 15 = .ok (.if_icmp .ne 7, 3) := by decide +kernel
theorem dX5_isOpen_18 : decode cX5_isOpen 18 = .ok (.iconst 1, 1) := by decide +kernel
theorem dX5_isOpen_19 : decode cX5_isOpen 19 = .ok (.goto 4, 3) := by decide +kernel
theorem dX5_isOpen_22 : decode cX5_isOpen 22 = .ok (.iconst 0, 1) := by decide +kernel
theorem dX5_isOpen_23 : decode cX5_isOpen 23 = .ok (.ireturn, 1) := by decide +kernel
set_option maxRecDepth 20000 in
theorem ggX5_isLit_X5_isOpen : GoodIn wsX5_isLit wsX5_isOpen := goodIn_r _ [6, 7, 8, 9, 5, 10, 11, 12, 13, 14, 15, 1, 16, 17, 18, 19, 20, 21, 22, 23, 24, 25, 26, 27, 28, 29, 30, 31, 32, 33, 34, 35, 36, 37, 38, 39, 40, 41] (by decide +kernel) (by decide +kernel)
set_option maxRecDepth 20000 in
theorem gX5_isLit_X5_isOpen : GoodIn wsX5_isLit (wsV RX5 126 RX5 yX5_isOpen wsX5_isOpen) := goodIn_app (goodIn_of _ (by decide +kernel)) ggX5_isLit_X5_isOpen
theorem dX5_isLit_0 : decode cX5_isLit 0 = .ok (.aload_n 0, 1) := by decide +kernel
theorem dX5_isLit_1 : decode cX5_isLit 1 = .ok (.getfield 13, 3) := by decide +kernel
theorem dX5_isLit_4 : decode cX5_isLit 4 = .ok (.iconst 3, 1) := by decide +kernel
theorem dX5_isLit_5 : decode cX5_isLit 5 = .ok (.iaload, 1) := by decide +kernel
theorem dX5_isLit_6 : decode cX5_isLit 6 = .ok (.iload_n 2, 1) := by decide +kernel
theorem dX5_isLit_7 : decode cX5_isLit 7 = .ok (.ishr, 1) := by decide +kernel
theorem dX5_isLit_8 : decode cX5_isLit 8 = .ok (.iconst 1, 1) := by decide +kernel
theorem dX5_isLit_9 : decode cX5_isLit 9 = .ok (.iand, 1) := by decide +kernel
theorem dX5_isLit_10 : decode cX5_isLit 10 = .ok (.iconst 1, 1) := by decide +kernel
theorem dX5_isLit_11 : decode cX5_isLit 11 = .ok (.if_icmp .ne 16, 3) := by decide +kernel
theorem dX5_isLit_14 : decode cX5_isLit 14 = .ok (.aload_n 0, 1) := by decide +kernel
theorem dX5_isLit_15 : decode cX5_isLit 15 = .ok (.iload_n 1, 1) := by decide +kernel
theorem dX5_isLit_16 : decode cX5_isLit 16 = .ok (.iload_n 2, 1) := by decide +kernel
theorem dX5_isLit_17 : decode cX5_isLit 17 = .ok (.invokevirtual 126, 3) := by decide +kernel
theorem dX5_isLit_20 : decode cX5_isLit 20 = .ok (.ifCond .eq 7, 3) := by decide +kernel
theorem dX5_isLit_23 : decode cX5_isLit 23 = .ok (.iconst 1, 1) := by decide +kernel
theorem dX5_isLit_24 : decode cX5_isLit 24 = .ok (.goto 4, 3) := by decide +kernel
theorem dX5_isLit_27 : decode cX5_isLit 27 = .ok (.iconst 0, 1) := by decide +kernel
theorem dX5_isLit_28 : decode cX5_isLit 28 = .ok (.ireturn, 1) := by decide +kernel
set_option maxRecDepth 20000 in
theorem ggX5_worthOf_X5_leaksIn : GoodIn wsX5_worthOf wsX5_leaksIn := goodIn_r _ [6, 1, 7, 8, 9, 5, 10, 11, 12, 13, 14, 15, 16, 17, 18, 19, 20, 21, 22, 23, 24, 25, 34, 35, 36, 37, 38, 39, 40, 41, 42, 43, 44, 45, 46, 47, 48, 49, 50, 51, 52] (by decide +kernel) (by decide +kernel)
set_option maxRecDepth 20000 in
theorem gX5_worthOf_X5_leaksIn : GoodIn wsX5_worthOf (wsV RX5 129 RX5 yX5_leaksIn wsX5_leaksIn) := goodIn_app (goodIn_of _ (by decide +kernel)) ggX5_worthOf_X5_leaksIn
set_option maxRecDepth 20000 in
theorem ggX5_worthOf_X5_isLit : GoodIn wsX5_worthOf wsX5_isLit := goodIn_r _ [29, 1, 30, 31, 32, 5, 33, 7, 8, 9, 10, 11, 12, 13, 14, 15, 16, 17, 18, 19, 20, 21, 22, 34, 35, 36, 37, 38, 39, 40, 41, 42, 43, 44, 45, 46, 47, 48, 49, 50, 51, 52] (by decide +kernel) (by decide +kernel)
set_option maxRecDepth 20000 in
theorem gX5_worthOf_X5_isLit : GoodIn wsX5_worthOf (wsV RX5 132 RX5 yX5_isLit wsX5_isLit) := goodIn_app (goodIn_of _ (by decide +kernel)) ggX5_worthOf_X5_isLit
set_option maxRecDepth 20000 in
theorem ggX5_worthOf_X5_isOpen : GoodIn wsX5_worthOf wsX5_isOpen := goodIn_r _ [33, 7, 8, 9, 5, 10, 11, 12, 13, 14, 15, 1, 16, 17, 18, 19, 20, 21, 22, 34, 35, 36, 37, 38, 39, 40, 41, 42, 43, 44, 45, 46, 47, 48, 49, 50, 51, 52] (by decide +kernel) (by decide +kernel)
set_option maxRecDepth 20000 in
theorem gX5_worthOf_X5_isOpen : GoodIn wsX5_worthOf (wsV RX5 126 RX5 yX5_isOpen wsX5_isOpen) := goodIn_app (goodIn_of _ (by decide +kernel)) ggX5_worthOf_X5_isOpen
set_option maxRecDepth 20000 in
theorem ggX5_worthOf_X5_sortAt : GoodIn wsX5_worthOf wsX5_sortAt := goodIn_r _ [10, 11, 12, 13, 14, 5, 15, 1, 16, 17, 18, 19, 20, 21, 22, 34, 35, 36, 37, 38, 39, 40, 41, 42, 43, 44, 45, 46, 47, 48, 49, 50, 51, 52] (by decide +kernel) (by decide +kernel)
set_option maxRecDepth 20000 in
theorem gX5_worthOf_X5_sortAt : GoodIn wsX5_worthOf (wsV RX5 123 RX5 yX5_sortAt wsX5_sortAt) := goodIn_app (goodIn_of _ (by decide +kernel)) ggX5_worthOf_X5_sortAt
theorem dX5_worthOf_0 : decode cX5_worthOf 0 = .ok (.bipush (-2), 2) := by decide +kernel
theorem dX5_worthOf_2 : decode cX5_worthOf 2 = .ok (.aload_n 0, 1) := by decide +kernel
theorem dX5_worthOf_3 : decode cX5_worthOf 3 = .ok (.iload_n 1, 1) := by decide +kernel
theorem dX5_worthOf_4 : decode cX5_worthOf 4 = .ok (.invokevirtual 129, 3) := by decide +kernel
theorem dX5_worthOf_7 : decode cX5_worthOf 7 = .ok (.imul, 1) := by decide +kernel
theorem dX5_worthOf_8 : decode cX5_worthOf 8 = .ok (.istore_n 2, 1) := by decide +kernel
theorem dX5_worthOf_9 : decode cX5_worthOf 9 = .ok (.iconst 0, 1) := by decide +kernel
theorem dX5_worthOf_10 : decode cX5_worthOf 10 = .ok (.istore_n 3, 1) := by decide +kernel
theorem dX5_worthOf_11 : decode cX5_worthOf 11 = .ok (.iload_n 3, 1) := by decide +kernel
theorem dX5_worthOf_12 : decode cX5_worthOf 12 = .ok (.bipush 8, 2) := by decide +kernel
theorem dX5_worthOf_14 : decode cX5_worthOf 14 = .ok (.if_icmp .ge 26, 3) := by decide +kernel
theorem dX5_worthOf_17 : decode cX5_worthOf 17 = .ok (.iload_n 2, 1) := by decide +kernel
theorem dX5_worthOf_18 : decode cX5_worthOf 18 = .ok (.aload_n 0, 1) := by decide +kernel
theorem dX5_worthOf_19 : decode cX5_worthOf 19 = .ok (.iload_n 1, 1) := by decide +kernel
theorem dX5_worthOf_20 : decode cX5_worthOf 20 = .ok (.iload_n 3, 1) := by decide +kernel
theorem dX5_worthOf_21 : decode cX5_worthOf 21 = .ok (.invokevirtual 132, 3) := by decide +kernel
theorem dX5_worthOf_24 : decode cX5_worthOf 24 = .ok (.ifCond .eq 7, 3) := by decide +kernel
theorem dX5_worthOf_27 : decode cX5_worthOf 27 = .ok (.iconst 3, 1) := by decide +kernel
theorem dX5_worthOf_28 : decode cX5_worthOf 28 = .ok (.goto 4, 3) := by decide +kernel
theorem dX5_worthOf_31 : decode cX5_worthOf 31 = .ok (.iconst 0, 1) := by decide +kernel
theorem dX5_worthOf_32 : decode cX5_worthOf 32 = .ok (.iadd, 1) := by decide +kernel
theorem dX5_worthOf_33 : decode cX5_worthOf 33 = .ok (.istore_n 2, 1) := by decide +kernel
theorem dX5_worthOf_34 : decode cX5_worthOf 34 = .ok (.iinc 3 1, 3) := by decide +kernel
theorem dX5_worthOf_37 : decode cX5_worthOf 37 = .ok (.goto (-26), 3) := by decide +kernel
theorem dX5_worthOf_40 : decode cX5_worthOf 40 = .ok (.iload_n 2, 1) := by decide +kernel
theorem dX5_worthOf_41 : decode cX5_worthOf 41 = .ok (.aload_n 0, 1) := by decide +kernel
theorem dX5_worthOf_42 : decode cX5_worthOf 42 = .ok (.getfield 13, 3) := by decide +kernel
theorem dX5_worthOf_45 : decode cX5_worthOf 45 = .ok (.iconst 4, 1) := by decide +kernel
theorem dX5_worthOf_46 : decode cX5_worthOf 46 = .ok (.iaload, 1) := by decide +kernel
theorem dX5_worthOf_47 : decode cX5_worthOf 47 = .ok (.bipush (-9), 2) := by decide +kernel
theorem dX5_worthOf_49 : decode cX5_worthOf 49 = .ok (.if_icmp .eq 21, 3) := by decide +kernel
theorem dX5_worthOf_52 : decode cX5_worthOf 52 = .ok (.aload_n 0, 1) := by decide +kernel
theorem dX5_worthOf_53 : decode cX5_worthOf 53 = .ok (.iload_n 1, 1) := by decide +kernel
theorem dX5_worthOf_54 : decode cX5_worthOf 54 = .ok (.aload_n 0, 1) := by decide +kernel
theorem dX5_worthOf_55 : decode cX5_worthOf 55 = .ok (.getfield 13, 3) := by decide +kernel
theorem dX5_worthOf_58 : decode cX5_worthOf 58 = .ok (.iconst 4, 1) := by decide +kernel
theorem dX5_worthOf_59 : decode cX5_worthOf 59 = .ok (.iaload, 1) := by decide +kernel
theorem dX5_worthOf_60 : decode cX5_worthOf 60 = .ok (.invokevirtual 126, 3) := by decide +kernel
theorem dX5_worthOf_63 : decode cX5_worthOf 63 = .ok (.ifCond .eq 7, 3) := by decide +kernel
theorem dX5_worthOf_66 : decode cX5_worthOf 66 = .ok (.iconst 5, 1) := by decide +kernel
theorem dX5_worthOf_67 : decode cX5_worthOf 67 = .ok (.goto 4, 3) := by decide +kernel
theorem dX5_worthOf_70 : decode cX5_worthOf 70 = .ok (.iconst 0, 1) := by decide +kernel
theorem dX5_worthOf_71 : decode cX5_worthOf 71 = .ok (.iadd, 1) := by decide +kernel
theorem dX5_worthOf_72 : decode cX5_worthOf 72 = .ok (.istore_n 2, 1) := by decide +kernel
theorem dX5_worthOf_73 : decode cX5_worthOf 73 = .ok (.aload_n 0, 1) := by decide +kernel
theorem dX5_worthOf_74 : decode cX5_worthOf 74 = .ok (.getfield 13, 3) := by decide +kernel
theorem dX5_worthOf_77 : decode cX5_worthOf 77 = .ok (.iconst 5, 1) := by decide +kernel
theorem dX5_worthOf_78 : decode cX5_worthOf 78 = .ok (.iaload, 1) := by decide +kernel
theorem dX5_worthOf_79 : decode cX5_worthOf 79 = .ok (.bipush (-9), 2) := by decide +kernel
theorem dX5_worthOf_81 : decode cX5_worthOf 81 = .ok (.if_icmp .ne 8, 3) := by decide +kernel
theorem dX5_worthOf_84 : decode cX5_worthOf 84 = .ok (.bipush (-9), 2) := by decide +kernel
theorem dX5_worthOf_86 : decode cX5_worthOf 86 = .ok (.goto 14, 3) := by decide +kernel
theorem dX5_worthOf_89 : decode cX5_worthOf 89 = .ok (.aload_n 0, 1) := by decide +kernel
theorem dX5_worthOf_90 : decode cX5_worthOf 90 = .ok (.iload_n 1, 1) := by decide +kernel
theorem dX5_worthOf_91 : decode cX5_worthOf 91 = .ok (.aload_n 0, 1) := by decide +kernel
theorem dX5_worthOf_92 : decode cX5_worthOf 92 = .ok (.getfield 13, 3) := by decide +kernel
theorem dX5_worthOf_95 : decode cX5_worthOf 95 = .ok (.iconst 5, 1) := by decide +kernel
theorem dX5_worthOf_96 : decode cX5_worthOf 96 = .ok (.iaload, 1) := by decide +kernel
theorem dX5_worthOf_97 : decode cX5_worthOf 97 = .ok (.invokevirtual 123, 3) := by decide +kernel
theorem dX5_worthOf_100 : decode cX5_worthOf 100 = .ok (.istore_n 3, 1) := by decide +kernel
theorem dX5_worthOf_101 : decode cX5_worthOf 101 = .ok (.iload_n 2, 1) := by decide +kernel
theorem dX5_worthOf_102 : decode cX5_worthOf 102 = .ok (.iload_n 3, 1) := by decide +kernel
theorem dX5_worthOf_103 : decode cX5_worthOf 103 = .ok (.bipush (-9), 2) := by decide +kernel
theorem dX5_worthOf_105 : decode cX5_worthOf 105 = .ok (.if_icmp .ne 7, 3) := by decide +kernel
theorem dX5_worthOf_108 : decode cX5_worthOf 108 = .ok (.iconst 0, 1) := by decide +kernel
theorem dX5_worthOf_109 : decode cX5_worthOf 109 = .ok (.goto 12, 3) := by decide +kernel
theorem dX5_worthOf_112 : decode cX5_worthOf 112 = .ok (.iload_n 3, 1) := by decide +kernel
theorem dX5_worthOf_113 : decode cX5_worthOf 113 = .ok (.ifCond .ne 7, 3) := by decide +kernel
theorem dX5_worthOf_116 : decode cX5_worthOf 116 = .ok (.iconst 4, 1) := by decide +kernel
theorem dX5_worthOf_117 : decode cX5_worthOf 117 = .ok (.goto 4, 3) := by decide +kernel
theorem dX5_worthOf_120 : decode cX5_worthOf 120 = .ok (.iconst 2, 1) := by decide +kernel
theorem dX5_worthOf_121 : decode cX5_worthOf 121 = .ok (.iadd, 1) := by decide +kernel
theorem dX5_worthOf_122 : decode cX5_worthOf 122 = .ok (.ireturn, 1) := by decide +kernel
set_option maxRecDepth 20000 in
theorem ggX5_panel_X5_isPanel : GoodIn wsX5_panel wsX5_isPanel := goodIn_r _ [7, 8, 9, 10, 6, 11, 19, 20, 21, 22, 23, 24, 25, 26, 27, 28, 29, 30, 31, 32, 33, 34, 35, 36, 37] (by decide +kernel) (by decide +kernel)
set_option maxRecDepth 20000 in
theorem gX5_panel_X5_isPanel : GoodIn wsX5_panel (wsV RX5 135 RX5 yX5_isPanel wsX5_isPanel) := goodIn_app (goodIn_of _ (by decide +kernel)) ggX5_panel_X5_isPanel
set_option maxRecDepth 20000 in
theorem ggX5_panel_X5_in : GoodIn wsX5_panel wsX5_in := goodIn_r _ [11] (by decide +kernel) (by decide +kernel)
set_option maxRecDepth 20000 in
theorem gX5_panel_X5_in : GoodIn wsX5_panel (va_wsS RX5 46 yX5_in wsX5_in) := goodIn_app (goodIn_of _ (by decide +kernel)) ggX5_panel_X5_in
set_option maxRecDepth 20000 in
theorem ggX5_panel_X5_slotIn : GoodIn wsX5_panel wsX5_slotIn := goodIn_r _ [15, 8, 16, 17, 6, 18, 19, 20, 21, 22, 23, 24, 25, 26, 27, 28, 29, 30, 31, 32, 33, 34, 35, 36, 37] (by decide +kernel) (by decide +kernel)
set_option maxRecDepth 20000 in
theorem gX5_panel_X5_slotIn : GoodIn wsX5_panel (wsV RX5 110 RX5 yX5_slotIn wsX5_slotIn) := goodIn_app (goodIn_of _ (by decide +kernel)) ggX5_panel_X5_slotIn
theorem dX5_panel_0 : decode cX5_panel 0 = .ok (.aload_n 0, 1) := by decide +kernel
theorem dX5_panel_1 : decode cX5_panel 1 = .ok (.iload_n 1, 1) := by decide +kernel
theorem dX5_panel_2 : decode cX5_panel 2 = .ok (.invokevirtual 135, 3) := by decide +kernel
theorem dX5_panel_5 : decode cX5_panel 5 = .ok (.ifCond .eq 39, 3) := by decide +kernel
theorem dX5_panel_8 : decode cX5_panel 8 = .ok (.iload_n 2, 1) := by decide +kernel
theorem dX5_panel_9 : decode cX5_panel 9 = .ok (.iconst 0, 1) := by decide +kernel
theorem dX5_panel_10 : decode cX5_panel 10 = .ok (.iconst 1, 1) := by decide +kernel
theorem dX5_panel_11 : decode cX5_panel 11 = .ok (.invokestatic 46, 3) := by decide +kernel
theorem dX5_panel_14 : decode cX5_panel 14 = .ok (.ifCond .eq 30, 3) := by decide +kernel
theorem dX5_panel_17 : decode cX5_panel 17 = .ok (.iload_n 2, 1) := by decide +kernel
theorem dX5_panel_18 : decode cX5_panel 18 = .ok (.ifCond .ne 12, 3) := by decide +kernel
theorem dX5_panel_21 : decode cX5_panel 21 = .ok (.aload_n 0, 1) := by decide +kernel
theorem dX5_panel_22 : decode cX5_panel 22 = .ok (.getfield 17, 3) := by decide +kernel
theorem dX5_panel_25 : decode cX5_panel 25 = .ok (.iload_n 1, 1) := by decide +kernel
theorem dX5_panel_26 : decode cX5_panel 26 = .ok (.iaload, 1) := by decide +kernel
theorem dX5_panel_27 : decode cX5_panel 27 = .ok (.goto 18, 3) := by decide +kernel
theorem dX5_panel_30 : decode cX5_panel 30 = .ok (.aload_n 0, 1) := by decide +kernel
theorem dX5_panel_31 : decode cX5_panel 31 = .ok (.aload_n 0, 1) := by decide +kernel
theorem dX5_panel_32 : decode cX5_panel 32 = .ok (.getfield 26, 3) := by decide +kernel
theorem dX5_panel_35 : decode cX5_panel 35 = .ok (.iconst 0, 1) := by decide +kernel
theorem dX5_panel_36 : decode cX5_panel 36 = .ok (.iaload, 1) := by decide +kernel
theorem dX5_panel_37 : decode cX5_panel 37 = .ok (.iload_n 1, 1) := by decide +kernel
theorem dX5_panel_38 : decode cX5_panel 38 = .ok (.invokevirtual 110, 3) := by decide +kernel
theorem dX5_panel_41 : decode cX5_panel 41 = .ok (.goto 4, 3) := by decide +kernel
theorem dX5_panel_44 : decode cX5_panel 44 = .ok (.iconst (-1), 1) := by decide +kernel
theorem dX5_panel_45 : decode cX5_panel 45 = .ok (.ireturn, 1) := by decide +kernel
set_option maxRecDepth 20000 in
theorem ggX5_slot_X5_in : GoodIn wsX5_slot wsX5_in := goodIn_r _ [6] (by decide +kernel) (by decide +kernel)
set_option maxRecDepth 20000 in
theorem gX5_slot_X5_in : GoodIn wsX5_slot (va_wsS RX5 46 yX5_in wsX5_in) := goodIn_app (goodIn_of _ (by decide +kernel)) ggX5_slot_X5_in
set_option maxRecDepth 20000 in
theorem ggX5_slot_X5_panelAt : GoodIn wsX5_slot wsX5_panelAt := goodIn_r _ [10, 2, 11, 12, 13, 5, 14, 15, 16, 17, 18, 19, 20, 21, 22, 23, 24, 25, 26, 27, 28, 29, 30, 31, 32, 33, 34, 35, 36] (by decide +kernel) (by decide +kernel)
set_option maxRecDepth 20000 in
theorem gX5_slot_X5_panelAt : GoodIn wsX5_slot (wsV RX5 120 RX5 yX5_panelAt wsX5_panelAt) := goodIn_app (goodIn_of _ (by decide +kernel)) ggX5_slot_X5_panelAt
theorem dX5_slot_0 : decode cX5_slot 0 = .ok (.iload_n 1, 1) := by decide +kernel
theorem dX5_slot_1 : decode cX5_slot 1 = .ok (.iconst 0, 1) := by decide +kernel
theorem dX5_slot_2 : decode cX5_slot 2 = .ok (.bipush 7, 2) := by decide +kernel
theorem dX5_slot_4 : decode cX5_slot 4 = .ok (.invokestatic 46, 3) := by decide +kernel
theorem dX5_slot_7 : decode cX5_slot 7 = .ok (.ifCond .eq 12, 3) := by decide +kernel
theorem dX5_slot_10 : decode cX5_slot 10 = .ok (.iload_n 2, 1) := by decide +kernel
theorem dX5_slot_11 : decode cX5_slot 11 = .ok (.iconst 0, 1) := by decide +kernel
theorem dX5_slot_12 : decode cX5_slot 12 = .ok (.iconst 2, 1) := by decide +kernel
theorem dX5_slot_13 : decode cX5_slot 13 = .ok (.invokestatic 46, 3) := by decide +kernel
theorem dX5_slot_16 : decode cX5_slot 16 = .ok (.ifCond .ne 5, 3) := by decide +kernel
theorem dX5_slot_19 : decode cX5_slot 19 = .ok (.iconst (-1), 1) := by decide +kernel
theorem dX5_slot_20 : decode cX5_slot 20 = .ok (.ireturn, 1) := by decide +kernel
theorem dX5_slot_21 : decode cX5_slot 21 = .ok (.iload_n 2, 1) := by decide +kernel
theorem dX5_slot_22 : decode cX5_slot 22 = .ok (.ifCond .ne 17, 3) := by decide +kernel
theorem dX5_slot_25 : decode cX5_slot 25 = .ok (.aload_n 0, 1) := by decide +kernel
theorem dX5_slot_26 : decode cX5_slot 26 = .ok (.aload_n 0, 1) := by decide +kernel
theorem dX5_slot_27 : decode cX5_slot 27 = .ok (.getfield 26, 3) := by decide +kernel
theorem dX5_slot_30 : decode cX5_slot 30 = .ok (.iconst 0, 1) := by decide +kernel
theorem dX5_slot_31 : decode cX5_slot 31 = .ok (.iaload, 1) := by decide +kernel
theorem dX5_slot_32 : decode cX5_slot 32 = .ok (.iload_n 1, 1) := by decide +kernel
theorem dX5_slot_33 : decode cX5_slot 33 = .ok (.invokevirtual 120, 3) := by decide +kernel
theorem dX5_slot_36 : decode cX5_slot 36 = .ok (.goto 17, 3) := by decide +kernel
theorem dX5_slot_39 : decode cX5_slot 39 = .ok (.aload_n 0, 1) := by decide +kernel
theorem dX5_slot_40 : decode cX5_slot 40 = .ok (.getfield 13, 3) := by decide +kernel
theorem dX5_slot_43 : decode cX5_slot 43 = .ok (.iconst 2, 1) := by decide +kernel
theorem dX5_slot_44 : decode cX5_slot 44 = .ok (.iload_n 2, 1) := by decide +kernel
theorem dX5_slot_45 : decode cX5_slot 45 = .ok (.iadd, 1) := by decide +kernel
theorem dX5_slot_46 : decode cX5_slot 46 = .ok (.iconst 1, 1) := by decide +kernel
theorem dX5_slot_47 : decode cX5_slot 47 = .ok (.isub, 1) := by decide +kernel
theorem dX5_slot_48 : decode cX5_slot 48 = .ok (.iaload, 1) := by decide +kernel
theorem dX5_slot_49 : decode cX5_slot 49 = .ok (.iload_n 1, 1) := by decide +kernel
theorem dX5_slot_50 : decode cX5_slot 50 = .ok (.ishr, 1) := by decide +kernel
theorem dX5_slot_51 : decode cX5_slot 51 = .ok (.iconst 1, 1) := by decide +kernel
theorem dX5_slot_52 : decode cX5_slot 52 = .ok (.iand, 1) := by decide +kernel
theorem dX5_slot_53 : decode cX5_slot 53 = .ok (.ireturn, 1) := by decide +kernel
set_option maxRecDepth 20000 in
theorem ggX5_told_X5_in : GoodIn wsX5_told wsX5_in := goodIn_r _ [5] (by decide +kernel) (by decide +kernel)
set_option maxRecDepth 20000 in
theorem gX5_told_X5_in : GoodIn wsX5_told (va_wsS RX5 46 yX5_in wsX5_in) := goodIn_app (goodIn_of _ (by decide +kernel)) ggX5_told_X5_in
theorem dX5_told_0 : decode cX5_told 0 = .ok (.iload_n 1, 1) := by decide +kernel
theorem dX5_told_1 : decode cX5_told 1 = .ok (.iconst 0, 1) := by decide +kernel
theorem dX5_told_2 : decode cX5_told 2 = .ok (.iconst 3, 1) := by decide +kernel
theorem dX5_told_3 : decode cX5_told 3 = .ok (.invokestatic 46, 3) := by decide +kernel
theorem dX5_told_6 : decode cX5_told 6 = .ok (.ifCond .eq 14, 3) := by decide +kernel
theorem dX5_told_9 : decode cX5_told 9 = .ok (.aload_n 0, 1) := by decide +kernel
theorem dX5_told_10 : decode cX5_told 10 = .ok (.getfield 13, 3) := by decide +kernel
theorem dX5_told_13 : decode cX5_told 13 = .ok (.iconst 4, 1) := by decide +kernel
theorem dX5_told_14 : decode cX5_told 14 = .ok (.iload_n 1, 1) := by decide +kernel
theorem dX5_told_15 : decode cX5_told 15 = .ok (.iadd, 1) := by decide +kernel
theorem dX5_told_16 : decode cX5_told 16 = .ok (.iaload, 1) := by decide +kernel
theorem dX5_told_17 : decode cX5_told 17 = .ok (.goto 4, 3) := by decide +kernel
theorem dX5_told_20 : decode cX5_told 20 = .ok (.iconst (-1), 1) := by decide +kernel
theorem dX5_told_21 : decode cX5_told 21 = .ok (.ireturn, 1) := by decide +kernel
set_option maxRecDepth 20000 in
theorem ggX5_beam_X5_in : GoodIn wsX5_beam wsX5_in := goodIn_r _ [6] (by decide +kernel) (by decide +kernel)
set_option maxRecDepth 20000 in
theorem gX5_beam_X5_in : GoodIn wsX5_beam (va_wsS RX5 46 yX5_in wsX5_in) := goodIn_app (goodIn_of _ (by decide +kernel)) ggX5_beam_X5_in
set_option maxRecDepth 20000 in
theorem ggX5_beam_X5_isBorne : GoodIn wsX5_beam wsX5_isBorne := goodIn_r _ [10, 1, 11, 12, 13, 14, 15, 5, 16, 17, 18, 19, 20, 21, 22, 23, 24, 25, 26, 27, 28, 29, 30, 31, 32, 33, 34, 35, 36, 37, 38] (by decide +kernel) (by decide +kernel)
end
section
set_option maxRecDepth 20000 in
theorem gX5_beam_X5_isBorne : GoodIn wsX5_beam (wsV RX5 116 RX5 yX5_isBorne wsX5_isBorne) := goodIn_app (goodIn_of _ (by decide +kernel)) ggX5_beam_X5_isBorne
theorem dX5_beam_0 : decode cX5_beam 0 = .ok (.iload_n 1, 1) := by decide +kernel
theorem dX5_beam_1 : decode cX5_beam 1 = .ok (.iconst 0, 1) := by decide +kernel
theorem dX5_beam_2 : decode cX5_beam 2 = .ok (.aload_n 0, 1) := by decide +kernel
theorem dX5_beam_3 : decode cX5_beam 3 = .ok (.getfield 13, 3) := by decide +kernel
theorem dX5_beam_6 : decode cX5_beam 6 = .ok (.iconst 1, 1) := by decide +kernel
theorem dX5_beam_7 : decode cX5_beam 7 = .ok (.iaload, 1) := by decide +kernel
theorem dX5_beam_8 : decode cX5_beam 8 = .ok (.iconst 1, 1) := by decide +kernel
theorem dX5_beam_9 : decode cX5_beam 9 = .ok (.isub, 1) := by decide +kernel
theorem dX5_beam_10 : decode cX5_beam 10 = .ok (.invokestatic 46, 3) := by decide +kernel
theorem dX5_beam_13 : decode cX5_beam 13 = .ok (.ifCond .eq 25, 3) := by decide +kernel
theorem dX5_beam_16 : decode cX5_beam 16 = .ok (.aload_n 0, 1) := by decide +kernel
theorem dX5_beam_17 : decode cX5_beam 17 = .ok (.aload_n 0, 1) := by decide +kernel
theorem dX5_beam_18 : decode cX5_beam 18 = .ok (.getfield 26, 3) := by decide +kernel
theorem dX5_beam_21 : decode cX5_beam 21 = .ok (.iconst 0, 1) := by decide +kernel
theorem dX5_beam_22 : decode cX5_beam 22 = .ok (.iaload, 1) := by decide +kernel
theorem dX5_beam_23 : decode cX5_beam 23 = .ok (.iload_n 1, 1) := by decide +kernel
theorem dX5_beam_24 : decode cX5_beam 24 = .ok (.invokevirtual 116, 3) := by decide +kernel
theorem dX5_beam_27 : decode cX5_beam 27 = .ok (.ifCond .eq 7, 3) := by decide +kernel
theorem dX5_beam_30 : decode cX5_beam 30 = .ok (.iconst 1, 1) := by decide +kernel
theorem dX5_beam_31 : decode cX5_beam 31 = .ok (.goto 8, 3) := by decide +kernel
theorem dX5_beam_34 : decode cX5_beam 34 = .ok (.iconst 0, 1) := by decide +kernel
theorem dX5_beam_35 : decode cX5_beam 35 = .ok (.goto 4, 3) := by decide +kernel
theorem dX5_beam_38 : decode cX5_beam 38 = .ok (.iconst (-1), 1) := by decide +kernel
theorem dX5_beam_39 : decode cX5_beam 39 = .ok (.ireturn, 1) := by decide +kernel
set_option maxRecDepth 20000 in
theorem ggX5_act_X5_isLawful : GoodIn wsX5_act wsX5_isLawful := goodIn_r _ [7, 2, 8, 9, 10, 6, 11, 12, 13, 14, 15, 16, 17, 18, 19, 20, 21, 22, 23, 24, 25, 26, 27, 28, 29, 30, 31, 32, 33, 34, 35, 36, 37, 38, 39, 40, 41, 42, 43] (by decide +kernel) (by decide +kernel)
set_option maxRecDepth 20000 in
theorem gX5_act_X5_isLawful : GoodIn wsX5_act (wsV RX5 138 RX5 yX5_isLawful wsX5_isLawful) := goodIn_app (goodIn_of _ (by decide +kernel)) ggX5_act_X5_isLawful
set_option maxRecDepth 20000 in
theorem ggX5_act_X5_lying : GoodIn wsX5_act wsX5_lying := goodIn_r _ [11, 2, 12, 13, 14, 6, 15, 16, 17, 18, 25, 26, 27, 28, 29, 30, 31, 32, 33, 34, 35, 36, 37, 38, 39, 40, 41, 42, 43] (by decide +kernel) (by decide +kernel)
set_option maxRecDepth 20000 in
theorem gX5_act_X5_lying : GoodIn wsX5_act (wsV RX5 113 RX5 yX5_lying wsX5_lying) := goodIn_app (goodIn_of _ (by decide +kernel)) ggX5_act_X5_lying
theorem dX5_act_0 : decode cX5_act 0 = .ok (.aload_n 0, 1) := by decide +kernel
theorem dX5_act_1 : decode cX5_act 1 = .ok (.getfield 26, 3) := by decide +kernel
theorem dX5_act_4 : decode cX5_act 4 = .ok (.iconst 2, 1) := by decide +kernel
theorem dX5_act_5 : decode cX5_act 5 = .ok (.iaload, 1) := by decide +kernel
theorem dX5_act_6 : decode cX5_act 6 = .ok (.aload_n 0, 1) := by decide +kernel
theorem dX5_act_7 : decode cX5_act 7 = .ok (.getfield 13, 3) := by decide +kernel
theorem dX5_act_10 : decode cX5_act 10 = .ok (.bipush 7, 2) := by decide +kernel
theorem dX5_act_12 : decode cX5_act 12 = .ok (.iaload, 1) := by decide +kernel
theorem dX5_act_13 : decode cX5_act 13 = .ok (.if_icmp .eq 11, 3) := by decide +kernel
theorem dX5_act_16 : decode cX5_act 16 = .ok (.aload_n 0, 1) := by decide +kernel
theorem dX5_act_17 : decode cX5_act 17 = .ok (.iload_n 1, 1) := by decide +kernel
theorem dX5_act_18 : decode cX5_act 18 = .ok (.invokevirtual 138, 3) := by decide +kernel
theorem dX5_act_21 : decode cX5_act 21 = .ok (.ifCond .ne 6, 3) := by decide +kernel
theorem dX5_act_24 : decode cX5_act 24 = .ok (.bipush (-2), 2) := by decide +kernel
theorem dX5_act_26 : decode cX5_act 26 = .ok (.ireturn, 1) := by decide +kernel
theorem dX5_act_27 : decode cX5_act 27 = .ok (.aload_n 0, 1) := by decide +kernel
theorem dX5_act_28 : decode cX5_act 28 = .ok (.getfield 26, 3) := by decide +kernel
theorem dX5_act_31 : decode cX5_act 31 = .ok (.iconst 0, 1) := by decide +kernel
theorem dX5_act_32 : decode cX5_act 32 = .ok (.iload_n 1, 1) := by decide +kernel
theorem dX5_act_33 : decode cX5_act 33 = .ok (.iastore, 1) := by decide +kernel
theorem dX5_act_34 : decode cX5_act 34 = .ok (.aload_n 0, 1) := by decide +kernel
theorem dX5_act_35 : decode cX5_act 35 = .ok (.getfield 26, 3) := by decide +kernel
theorem dX5_act_38 : decode cX5_act 38 = .ok (.iconst 2, 1) := by decide +kernel
theorem dX5_act_39 : decode cX5_act 39 = .ok (.dup2, 1) := by decide +kernel
theorem dX5_act_40 : decode cX5_act 40 = .ok (.iaload, 1) := by decide +kernel
theorem dX5_act_41 : decode cX5_act 41 = .ok (.iconst 1, 1) := by decide +kernel
theorem dX5_act_42 : decode cX5_act 42 = .ok (.iadd, 1) := by decide +kernel
theorem dX5_act_43 : decode cX5_act 43 = .ok (.iastore, 1) := by decide +kernel
theorem dX5_act_44 : decode cX5_act 44 = .ok (.aload_n 0, 1) := by decide +kernel
theorem dX5_act_45 : decode cX5_act 45 = .ok (.iload_n 1, 1) := by decide +kernel
theorem dX5_act_46 : decode cX5_act 46 = .ok (.invokevirtual 113, 3) := by decide +kernel
theorem dX5_act_49 : decode cX5_act 49 = .ok (.ireturn, 1) := by decide +kernel
set_option maxRecDepth 20000 in
theorem ggX5_down_X5_isPanel : GoodIn wsX5_down wsX5_isPanel := goodIn_r _ [6, 7, 8, 9, 5, 10, 40, 41, 42, 43, 44, 45, 46, 47, 48, 49, 50, 51, 52, 53, 54, 55, 56, 57, 58] (by decide +kernel) (by decide +kernel)
set_option maxRecDepth 20000 in
theorem gX5_down_X5_isPanel : GoodIn wsX5_down (wsV RX5 135 RX5 yX5_isPanel wsX5_isPanel) := goodIn_app (goodIn_of _ (by decide +kernel)) ggX5_down_X5_isPanel
set_option maxRecDepth 20000 in
theorem ggX5_down_X5_slotIn : GoodIn wsX5_down wsX5_slotIn := goodIn_r _ [14, 7, 15, 16, 5, 17, 40, 41, 42, 43, 44, 45, 46, 47, 48, 49, 50, 51, 52, 53, 54, 55, 56, 57, 58] (by decide +kernel) (by decide +kernel)
set_option maxRecDepth 20000 in
theorem gX5_down_X5_slotIn : GoodIn wsX5_down (wsV RX5 110 RX5 yX5_slotIn wsX5_slotIn) := goodIn_app (goodIn_of _ (by decide +kernel)) ggX5_down_X5_slotIn
set_option maxRecDepth 20000 in
theorem ggX5_down_X5_with : GoodIn wsX5_down wsX5_with := goodIn_r _ [21, 7, 11, 12, 13, 5, 14, 15, 16, 17, 40, 41, 42, 43, 44, 45, 46, 47, 48, 49, 50, 51, 52, 53, 54, 55, 56, 57, 58] (by decide +kernel) (by decide +kernel)
set_option maxRecDepth 20000 in
theorem gX5_down_X5_with : GoodIn wsX5_down (wsV RX5 141 RX5 yX5_with wsX5_with) := goodIn_app (goodIn_of _ (by decide +kernel)) ggX5_down_X5_with
set_option maxRecDepth 20000 in
theorem ggX5_down_X5_act : GoodIn wsX5_down wsX5_act := goodIn_r _ [25, 1, 7, 26, 27, 28, 5, 29, 30, 31, 32, 33, 11, 12, 13, 14, 15, 16, 17, 34, 35, 36, 37, 38, 39, 40, 41, 42, 43, 44, 45, 46, 47, 48, 49, 50, 51, 52, 53, 54, 55, 56, 57, 58] (by decide +kernel) (by decide +kernel)
set_option maxRecDepth 20000 in
theorem gX5_down_X5_act : GoodIn wsX5_down (wsV RX5 145 RX5 yX5_act wsX5_act) := goodIn_app (goodIn_of _ (by decide +kernel)) ggX5_down_X5_act
theorem dX5_down_0 : decode cX5_down 0 = .ok (.aload_n 0, 1) := by decide +kernel
theorem dX5_down_1 : decode cX5_down 1 = .ok (.iload_n 1, 1) := by decide +kernel
theorem dX5_down_2 : decode cX5_down 2 = .ok (.invokevirtual 135, 3) := by decide +kernel
theorem dX5_down_5 : decode cX5_down 5 = .ok (.ifCond .ne 5, 3) := by decide +kernel
theorem dX5_down_8 : decode cX5_down 8 = .ok (.iconst (-1), 1) := by decide +kernel
theorem dX5_down_9 : decode cX5_down 9 = .ok (.ireturn, 1) := by decide +kernel
theorem dX5_down_10 : decode cX5_down 10 = .ok (.aload_n 0, 1) := by decide +kernel
theorem dX5_down_11 : decode cX5_down 11 = .ok (.aload_n 0, 1) := by decide +kernel
theorem dX5_down_12 : decode cX5_down 12 = .ok (.getfield 26, 3) := by decide +kernel
theorem dX5_down_15 : decode cX5_down 15 = .ok (.iconst 0, 1) := by decide +kernel
theorem dX5_down_16 : decode cX5_down 16 = .ok (.iaload, 1) := by decide +kernel
theorem dX5_down_17 : decode cX5_down 17 = .ok (.iload_n 1, 1) := by decide +kernel
theorem dX5_down_18 : decode cX5_down 18 = .ok (.invokevirtual 110, 3) := by decide +kernel
theorem dX5_down_21 : decode cX5_down 21 = .ok (.bipush 8, 2) := by decide +kernel
theorem dX5_down_23 : decode cX5_down 23 = .ok (.if_icmp .ne 8, 3) := by decide +kernel
theorem dX5_down_26 : decode cX5_down 26 = .ok (.bipush (-2), 2) := by decide +kernel
theorem dX5_down_28 : decode cX5_down 28 = .ok (.goto 20, 3) := by decide +kernel
theorem dX5_down_31 : decode cX5_down 31 = .ok (.aload_n 0, 1) := by decide +kernel
theorem dX5_down_32 : decode cX5_down 32 = .ok (.aload_n 0, 1) := by decide +kernel
theorem dX5_down_33 : decode cX5_down 33 = .ok (.aload_n 0, 1) := by decide +kernel
theorem dX5_down_34 : decode cX5_down 34 = .ok (.getfield 26, 3) := by decide +kernel
theorem dX5_down_37 : decode cX5_down 37 = .ok (.iconst 0, 1) := by decide +kernel
theorem dX5_down_38 : decode cX5_down 38 = .ok (.iaload, 1) := by decide +kernel
theorem dX5_down_39 : decode cX5_down 39 = .ok (.iload_n 1, 1) := by decide +kernel
theorem dX5_down_40 : decode cX5_down 40 = .ok (.bipush 8, 2) := by decide +kernel
theorem dX5_down_42 : decode cX5_down 42 = .ok (.invokevirtual 141, 3) := by decide +kernel
theorem dX5_down_45 : decode cX5_down 45 = .ok (.invokevirtual 145, 3) := by decide +kernel
theorem dX5_down_48 : decode cX5_down 48 = .ok (.ireturn, 1) := by decide +kernel
set_option maxRecDepth 20000 in
theorem ggX5_up_X5_isPanel : GoodIn wsX5_up wsX5_isPanel := goodIn_r _ [6, 7, 8, 9, 5, 10, 44, 45, 46, 47, 48, 49, 50, 51, 52, 53, 54, 55, 56, 57, 58, 59, 60, 61, 62] (by decide +kernel) (by decide +kernel)
set_option maxRecDepth 20000 in
theorem gX5_up_X5_isPanel : GoodIn wsX5_up (wsV RX5 135 RX5 yX5_isPanel wsX5_isPanel) := goodIn_app (goodIn_of _ (by decide +kernel)) ggX5_up_X5_isPanel
set_option maxRecDepth 20000 in
theorem ggX5_up_X5_in : GoodIn wsX5_up wsX5_in := goodIn_r _ [10] (by decide +kernel) (by decide +kernel)
set_option maxRecDepth 20000 in
theorem gX5_up_X5_in : GoodIn wsX5_up (va_wsS RX5 46 yX5_in wsX5_in) := goodIn_app (goodIn_of _ (by decide +kernel)) ggX5_up_X5_in
set_option maxRecDepth 20000 in
theorem ggX5_up_X5_slotIn : GoodIn wsX5_up wsX5_slotIn := goodIn_r _ [14, 7, 15, 16, 5, 17, 44, 45, 46, 47, 48, 49, 50, 51, 52, 53, 54, 55, 56, 57, 58, 59, 60, 61, 62] (by decide +kernel) (by decide +kernel)
set_option maxRecDepth 20000 in
theorem gX5_up_X5_slotIn : GoodIn wsX5_up (wsV RX5 110 RX5 yX5_slotIn wsX5_slotIn) := goodIn_app (goodIn_of _ (by decide +kernel)) ggX5_up_X5_slotIn
set_option maxRecDepth 20000 in
theorem ggX5_up_X5_panelAt : GoodIn wsX5_up wsX5_panelAt := goodIn_r _ [21, 7, 11, 12, 13, 5, 14, 15, 16, 17, 44, 45, 46, 47, 48, 49, 50, 51, 52, 53, 54, 55, 56, 57, 58, 59, 60, 61, 62] (by decide +kernel) (by decide +kernel)
set_option maxRecDepth 20000 in
theorem gX5_up_X5_panelAt : GoodIn wsX5_up (wsV RX5 120 RX5 yX5_panelAt wsX5_panelAt) := goodIn_app (goodIn_of _ (by decide +kernel)) ggX5_up_X5_panelAt
set_option maxRecDepth 20000 in
theorem ggX5_up_X5_with : GoodIn wsX5_up wsX5_with := goodIn_r _ [25, 7, 11, 12, 13, 5, 14, 15, 16, 17, 44, 45, 46, 47, 48, 49, 50, 51, 52, 53, 54, 55, 56, 57, 58, 59, 60, 61, 62] (by decide +kernel) (by decide +kernel)
set_option maxRecDepth 20000 in
theorem gX5_up_X5_with : GoodIn wsX5_up (wsV RX5 141 RX5 yX5_with wsX5_with) := goodIn_app (goodIn_of _ (by decide +kernel)) ggX5_up_X5_with
set_option maxRecDepth 20000 in
theorem ggX5_up_X5_act : GoodIn wsX5_up wsX5_act := goodIn_r _ [29, 1, 7, 30, 31, 32, 5, 33, 34, 35, 36, 37, 11, 12, 13, 14, 15, 16, 17, 38, 39, 40, 41, 42, 43, 44, 45, 46, 47, 48, 49, 50, 51, 52, 53, 54, 55, 56, 57, 58, 59, 60, 61, 62] (by decide +kernel) (by decide +kernel)
set_option maxRecDepth 20000 in
theorem gX5_up_X5_act : GoodIn wsX5_up (wsV RX5 145 RX5 yX5_act wsX5_act) := goodIn_app (goodIn_of _ (by decide +kernel)) ggX5_up_X5_act
theorem dX5_up_0 : decode cX5_up 0 = .ok (.aload_n 0, 1) := by decide +kernel
theorem dX5_up_1 : decode cX5_up 1 = .ok (.iload_n 1, 1) := by decide +kernel
theorem dX5_up_2 : decode cX5_up 2 = .ok (.invokevirtual 135, 3) := by decide +kernel
theorem dX5_up_5 : decode cX5_up 5 = .ok (.ifCond .eq 13, 3) := by decide +kernel
theorem dX5_up_8 : decode cX5_up 8 = .ok (.iload_n 2, 1) := by decide +kernel
theorem dX5_up_9 : decode cX5_up 9 = .ok (.iconst 0, 1) := by decide +kernel
theorem dX5_up_10 : decode cX5_up 10 = .ok (.bipush 7, 2) := by decide +kernel
theorem dX5_up_12 : decode cX5_up 12 = .ok (.invokestatic 46, 3) := by decide +kernel
theorem dX5_up_15 : decode cX5_up 15 = .ok (.ifCond .ne 5, 3) := by decide +kernel
theorem dX5_up_18 : decode cX5_up 18 = .ok (.iconst (-1), 1) := by decide +kernel
theorem dX5_up_19 : decode cX5_up 19 = .ok (.ireturn, 1) := by decide +kernel
theorem dX5_up_20 : decode cX5_up 20 = .ok (.aload_n 0, 1) := by decide +kernel
theorem dX5_up_21 : decode cX5_up 21 = .ok (.aload_n 0, 1) := by decide +kernel
theorem dX5_up_22 : decode cX5_up 22 = .ok (.getfield 26, 3) := by decide +kernel
theorem dX5_up_25 : decode cX5_up 25 = .ok (.iconst 0, 1) := by decide +kernel
theorem dX5_up_26 : decode cX5_up 26 = .ok (.iaload, 1) := by decide +kernel
theorem dX5_up_27 : decode cX5_up 27 = .ok (.iload_n 1, 1) := by decide +kernel
theorem dX5_up_28 : decode cX5_up 28 = .ok (.invokevirtual 110, 3) := by decide +kernel
theorem dX5_up_31 : decode cX5_up 31 = .ok (.bipush 8, 2) := by decide +kernel
theorem dX5_up_33 : decode cX5_up 33 = .ok (.if_icmp .ne 19, 3) := by decide +kernel
theorem dX5_up_36 : decode cX5_up 36 = .ok (.aload_n 0, 1) := by decide +kernel
theorem dX5_up_37 : decode cX5_up 37 = .ok (.aload_n 0, 1) := by decide +kernel
theorem dX5_up_38 : decode cX5_up 38 = .ok (.getfield 26, 3) := by decide +kernel
theorem dX5_up_41 : decode cX5_up 41 = .ok (.iconst 0, 1) := by decide +kernel
theorem dX5_up_42 : decode cX5_up 42 = .ok (.iaload, 1) := by decide +kernel
theorem dX5_up_43 : decode cX5_up 43 = .ok (.iload_n 2, 1) := by decide +kernel
theorem dX5_up_44 : decode cX5_up 44 = .ok (.invokevirtual 120, 3) := by decide +kernel
theorem dX5_up_47 : decode cX5_up 47 = .ok (.bipush (-9), 2) := by decide +kernel
theorem dX5_up_49 : decode cX5_up 49 = .ok (.if_icmp .eq 8, 3) := by decide +kernel
theorem dX5_up_52 : decode cX5_up 52 = .ok (.bipush (-2), 2) := by decide +kernel
theorem dX5_up_54 : decode cX5_up 54 = .ok (.goto 19, 3) := by decide +kernel
theorem dX5_up_57 : decode cX5_up 57 = .ok (.aload_n 0, 1) := by decide +kernel
theorem dX5_up_58 : decode cX5_up 58 = .ok (.aload_n 0, 1) := by decide +kernel
theorem dX5_up_59 : decode cX5_up 59 = .ok (.aload_n 0, 1) := by decide +kernel
theorem dX5_up_60 : decode cX5_up 60 = .ok (.getfield 26, 3) := by decide +kernel
theorem dX5_up_63 : decode cX5_up 63 = .ok (.iconst 0, 1) := by decide +kernel
theorem dX5_up_64 : decode cX5_up 64 = .ok (.iaload, 1) := by decide +kernel
theorem dX5_up_65 : decode cX5_up 65 = .ok (.iload_n 1, 1) := by decide +kernel
theorem dX5_up_66 : decode cX5_up 66 = .ok (.iload_n 2, 1) := by decide +kernel
theorem dX5_up_67 : decode cX5_up 67 = .ok (.invokevirtual 141, 3) := by decide +kernel
theorem dX5_up_70 : decode cX5_up 70 = .ok (.invokevirtual 145, 3) := by decide +kernel
theorem dX5_up_73 : decode cX5_up 73 = .ok (.ireturn, 1) := by decide +kernel
set_option maxRecDepth 20000 in
theorem ggX5_night_X5_leaksIn : GoodIn wsX5_night wsX5_leaksIn := goodIn_r _ [6, 7, 8, 9, 10, 5, 11, 12, 13, 14, 15, 16, 17, 18, 19, 20, 21, 22, 23, 24, 25, 26, 27, 28, 29, 30, 31, 32, 33, 34, 35, 36, 37, 38, 39, 40, 41, 42, 43, 44, 45] (by decide +kernel) (by decide +kernel)
set_option maxRecDepth 20000 in
theorem gX5_night_X5_leaksIn : GoodIn wsX5_night (wsV RX5 129 RX5 yX5_leaksIn wsX5_leaksIn) := goodIn_app (goodIn_of _ (by decide +kernel)) ggX5_night_X5_leaksIn
theorem dX5_night_0 : decode cX5_night 0 = .ok (.aload_n 0, 1) := by decide +kernel
theorem dX5_night_1 : decode cX5_night 1 = .ok (.getfield 26, 3) := by decide +kernel
theorem dX5_night_4 : decode cX5_night 4 = .ok (.iconst 1, 1) := by decide +kernel
theorem dX5_night_5 : decode cX5_night 5 = .ok (.iaload, 1) := by decide +kernel
theorem dX5_night_6 : decode cX5_night 6 = .ok (.sipush 999, 3) := by decide +kernel
theorem dX5_night_9 : decode cX5_night 9 = .ok (.if_icmp .ne 6, 3) := by decide +kernel
theorem dX5_night_12 : decode cX5_night 12 = .ok (.bipush (-2), 2) := by decide +kernel
theorem dX5_night_14 : decode cX5_night 14 = .ok (.ireturn, 1) := by decide +kernel
theorem dX5_night_15 : decode cX5_night 15 = .ok (.aload_n 0, 1) := by decide +kernel
theorem dX5_night_16 : decode cX5_night 16 = .ok (.aload_n 0, 1) := by decide +kernel
theorem dX5_night_17 : decode cX5_night 17 = .ok (.getfield 26, 3) := by decide +kernel
theorem dX5_night_20 : decode cX5_night 20 = .ok (.iconst 0, 1) := by decide +kernel
theorem dX5_night_21 : decode cX5_night 21 = .ok (.iaload, 1) := by decide +kernel
theorem dX5_night_22 : decode cX5_night 22 = .ok (.invokevirtual 129, 3) := by decide +kernel
theorem dX5_night_25 : decode cX5_night 25 = .ok (.istore_n 1, 1) := by decide +kernel
theorem dX5_night_26 : decode cX5_night 26 = .ok (.aload_n 0, 1) := by decide +kernel
theorem dX5_night_27 : decode cX5_night 27 = .ok (.getfield 26, 3) := by decide +kernel
theorem dX5_night_30 : decode cX5_night 30 = .ok (.iconst 3, 1) := by decide +kernel
theorem dX5_night_31 : decode cX5_night 31 = .ok (.dup2, 1) := by decide +kernel
theorem dX5_night_32 : decode cX5_night 32 = .ok (.iaload, 1) := by decide +kernel
theorem dX5_night_33 : decode cX5_night 33 = .ok (.iload_n 1, 1) := by decide +kernel
theorem dX5_night_34 : decode cX5_night 34 = .ok (.iadd, 1) := by decide +kernel
theorem dX5_night_35 : decode cX5_night 35 = .ok (.iastore, 1) := by decide +kernel
theorem dX5_night_36 : decode cX5_night 36 = .ok (.aload_n 0, 1) := by decide +kernel
theorem dX5_night_37 : decode cX5_night 37 = .ok (.getfield 26, 3) := by decide +kernel
theorem dX5_night_40 : decode cX5_night 40 = .ok (.iconst 1, 1) := by decide +kernel
theorem dX5_night_41 : decode cX5_night 41 = .ok (.dup2, 1) := by decide +kernel
theorem dX5_night_42 : decode cX5_night 42 = .ok (.iaload, 1) := by decide +kernel
theorem dX5_night_43 : decode cX5_night 43 = .ok (.iconst 1, 1) := by decide +kernel
theorem dX5_night_44 : decode cX5_night 44 = .ok (.iadd, 1) := by decide +kernel
theorem dX5_night_45 : decode cX5_night 45 = .ok (.iastore, 1) := by decide +kernel
theorem dX5_night_46 : decode cX5_night 46 = .ok (.aload_n 0, 1) := by decide +kernel
theorem dX5_night_47 : decode cX5_night 47 = .ok (.getfield 26, 3) := by decide +kernel
theorem dX5_night_50 : decode cX5_night 50 = .ok (.iconst 2, 1) := by decide +kernel
theorem dX5_night_51 : decode cX5_night 51 = .ok (.iconst 0, 1) := by decide +kernel
theorem dX5_night_52 : decode cX5_night 52 = .ok (.iastore, 1) := by decide +kernel
theorem dX5_night_53 : decode cX5_night 53 = .ok (.iload_n 1, 1) := by decide +kernel
theorem dX5_night_54 : decode cX5_night 54 = .ok (.ireturn, 1) := by decide +kernel
set_option maxRecDepth 20000 in
theorem ggX5_now_X5_worthOf : GoodIn wsX5_now wsX5_worthOf := goodIn_r _ [7, 8, 9, 10, 11, 6, 12, 13, 14, 15, 16, 17, 18, 19, 20, 21, 22, 23, 24, 25, 26, 27, 28, 29, 30, 31, 32, 33, 34, 35, 36, 37, 38, 39, 53, 54, 55, 56, 57, 58, 59, 60, 61, 62, 63, 64, 65, 66, 67, 68, 69, 70, 71] (by decide +kernel) (by decide +kernel)
set_option maxRecDepth 20000 in
theorem gX5_now_X5_worthOf : GoodIn wsX5_now (wsV RX5 148 RX5 yX5_worthOf wsX5_worthOf) := goodIn_app (goodIn_of _ (by decide +kernel)) ggX5_now_X5_worthOf
set_option maxRecDepth 20000 in
theorem ggX5_now_X5_isLawful : GoodIn wsX5_now wsX5_isLawful := goodIn_r _ [43, 8, 44, 45, 46, 6, 47, 22, 23, 24, 25, 26, 27, 28, 48, 49, 50, 51, 17, 52, 53, 54, 55, 56, 57, 58, 59, 60, 61, 62, 63, 64, 65, 66, 67, 68, 69, 70, 71] (by decide +kernel) (by decide +kernel)
set_option maxRecDepth 20000 in
theorem gX5_now_X5_isLawful : GoodIn wsX5_now (wsV RX5 138 RX5 yX5_isLawful wsX5_isLawful) := goodIn_app (goodIn_of _ (by decide +kernel)) ggX5_now_X5_isLawful
set_option maxRecDepth 20000 in
theorem ggX5_now_X5_leaksIn : GoodIn wsX5_now wsX5_leaksIn := goodIn_r _ [12, 8, 13, 14, 15, 6, 16, 17, 18, 19, 20, 21, 22, 23, 24, 25, 26, 27, 28, 29, 30, 31, 53, 54, 55, 56, 57, 58, 59, 60, 61, 62, 63, 64, 65, 66, 67, 68, 69, 70, 71] (by decide +kernel) (by decide +kernel)
set_option maxRecDepth 20000 in
theorem gX5_now_X5_leaksIn : GoodIn wsX5_now (wsV RX5 129 RX5 yX5_leaksIn wsX5_leaksIn) := goodIn_app (goodIn_of _ (by decide +kernel)) ggX5_now_X5_leaksIn
theorem dX5_now_0 : decode cX5_now 0 = .ok (.iload_n 1, 1) := by decide +kernel
theorem dX5_now_1 : decode cX5_now 1 = .ok (.tableswitch 101 0 5 #[39, 46, 53, 60, 71, 90], 39) := by decide +kernel
theorem dX5_now_40 : decode cX5_now 40 = .ok (.aload_n 0, 1) := by decide +kernel
theorem dX5_now_41 : decode cX5_now 41 = .ok (.getfield 26, 3) := by decide +kernel
theorem dX5_now_44 : decode cX5_now 44 = .ok (.iconst 1, 1) := by decide +kernel
theorem dX5_now_45 : decode cX5_now 45 = .ok (.iaload, 1) := by decide +kernel
theorem dX5_now_46 : decode cX5_now 46 = .ok (.ireturn, 1) := by decide +kernel
theorem dX5_now_47 : decode cX5_now 47 = .ok (.aload_n 0, 1) := by decide +kernel
theorem dX5_now_48 : decode cX5_now 48 = .ok (.getfield 26, 3) := by decide +kernel
theorem dX5_now_51 : decode cX5_now 51 = .ok (.iconst 2, 1) := by decide +kernel
theorem dX5_now_52 : decode cX5_now 52 = .ok (.iaload, 1) := by decide +kernel
theorem dX5_now_53 : decode cX5_now 53 = .ok (.ireturn, 1) := by decide +kernel
theorem dX5_now_54 : decode cX5_now 54 = .ok (.aload_n 0, 1) := by decide +kernel
theorem dX5_now_55 : decode cX5_now 55 = .ok (.getfield 26, 3) := by decide +kernel
theorem dX5_now_58 : decode cX5_now 58 = .ok (.iconst 3, 1) := by decide +kernel
theorem dX5_now_59 : decode cX5_now 59 = .ok (.iaload, 1) := by decide +kernel
theorem dX5_now_60 : decode cX5_now 60 = .ok (.ireturn, 1) := by decide +kernel
theorem dX5_now_61 : decode cX5_now 61 = .ok (.aload_n 0, 1) := by decide +kernel
theorem dX5_now_62 : decode cX5_now 62 = .ok (.aload_n 0, 1) := by decide +kernel
theorem dX5_now_63 : decode cX5_now 63 = .ok (.getfield 26, 3) := by decide +kernel
theorem dX5_now_66 : decode cX5_now 66 = .ok (.iconst 0, 1) := by decide +kernel
theorem dX5_now_67 : decode cX5_now 67 = .ok (.iaload, 1) := by decide +kernel
theorem dX5_now_68 : decode cX5_now 68 = .ok (.invokevirtual 148, 3) := by decide +kernel
theorem dX5_now_71 : decode cX5_now 71 = .ok (.ireturn, 1) := by decide +kernel
theorem dX5_now_72 : decode cX5_now 72 = .ok (.aload_n 0, 1) := by decide +kernel
theorem dX5_now_73 : decode cX5_now 73 = .ok (.aload_n 0, 1) := by decide +kernel
theorem dX5_now_74 : decode cX5_now 74 = .ok (.getfield 26, 3) := by decide +kernel
theorem dX5_now_77 : decode cX5_now 77 = .ok (.iconst 0, 1) := by decide +kernel
theorem dX5_now_78 : decode cX5_now 78 = .ok (.iaload, 1) := by decide +kernel
theorem dX5_now_79 : decode cX5_now 79 = .ok (.invokevirtual 138, 3) := by decide +kernel
theorem dX5_now_82 : decode cX5_now 82 = .ok (.ifCond .eq 7, 3) := by decide +kernel
theorem dX5_now_85 : decode cX5_now 85 = .ok (.iconst 1, 1) := by decide +kernel
theorem dX5_now_86 : decode cX5_now 86 = .ok (.goto 4, 3) := by decide +kernel
theorem dX5_now_89 : decode cX5_now 89 = .ok (.iconst 0, 1) := by decide +kernel
theorem dX5_now_90 : decode cX5_now 90 = .ok (.ireturn, 1) := by decide +kernel
theorem dX5_now_91 : decode cX5_now 91 = .ok (.aload_n 0, 1) := by decide +kernel
theorem dX5_now_92 : decode cX5_now 92 = .ok (.aload_n 0, 1) := by decide +kernel
theorem dX5_now_93 : decode cX5_now 93 = .ok (.getfield 26, 3) := by decide +kernel
theorem dX5_now_96 : decode cX5_now 96 = .ok (.iconst 0, 1) := by decide +kernel
theorem dX5_now_97 : decode cX5_now 97 = .ok (.iaload, 1) := by decide +kernel
theorem dX5_now_98 : decode cX5_now 98 = .ok (.invokevirtual 129, 3) := by decide +kernel
theorem dX5_now_101 : decode cX5_now 101 = .ok (.ireturn, 1) := by decide +kernel
theorem dX5_now_102 : decode cX5_now 102 = .ok (.ldc 151, 2) := by decide +kernel
theorem dX5_now_104 : decode cX5_now 104 = .ok (.ireturn, 1) := by decide +kernel
set_option maxRecDepth 20000 in
theorem ggX5_lit_X5_in : GoodIn wsX5_lit wsX5_in := goodIn_r _ [5] (by decide +kernel) (by decide +kernel)
set_option maxRecDepth 20000 in
theorem gX5_lit_X5_in : GoodIn wsX5_lit (va_wsS RX5 46 yX5_in wsX5_in) := goodIn_app (goodIn_of _ (by decide +kernel)) ggX5_lit_X5_in
set_option maxRecDepth 20000 in
theorem ggX5_lit_X5_isLit : GoodIn wsX5_lit wsX5_isLit := goodIn_r _ [9, 10, 11, 12, 13, 4, 14, 15, 16, 17, 18, 19, 20, 21, 22, 23, 24, 25, 26, 27, 28, 29, 30, 31, 32, 33, 34, 35, 36, 37, 38, 39, 40, 41, 42, 43, 44, 45, 46, 47, 48, 49] (by decide +kernel) (by decide +kernel)
set_option maxRecDepth 20000 in
theorem gX5_lit_X5_isLit : GoodIn wsX5_lit (wsV RX5 132 RX5 yX5_isLit wsX5_isLit) := goodIn_app (goodIn_of _ (by decide +kernel)) ggX5_lit_X5_isLit
theorem dX5_lit_0 : decode cX5_lit 0 = .ok (.iload_n 1, 1) := by decide +kernel
theorem dX5_lit_1 : decode cX5_lit 1 = .ok (.iconst 0, 1) := by decide +kernel
theorem dX5_lit_2 : decode cX5_lit 2 = .ok (.bipush 7, 2) := by decide +kernel
theorem dX5_lit_4 : decode cX5_lit 4 = .ok (.invokestatic 46, 3) := by decide +kernel
theorem dX5_lit_7 : decode cX5_lit 7 = .ok (.ifCond .eq 25, 3) := by decide +kernel
theorem dX5_lit_10 : decode cX5_lit 10 = .ok (.aload_n 0, 1) := by decide +kernel
theorem dX5_lit_11 : decode cX5_lit 11 = .ok (.aload_n 0, 1) := by decide +kernel
theorem dX5_lit_12 : decode cX5_lit 12 = .ok (.getfield 26, 3) := by decide +kernel
theorem dX5_lit_15 : decode cX5_lit 15 = .ok (.iconst 0, 1) := by decide +kernel
theorem dX5_lit_16 : decode cX5_lit 16 = .ok (.iaload, 1) := by decide +kernel
theorem dX5_lit_17 : decode cX5_lit 17 = .ok (.iload_n 1, 1) := by decide +kernel
theorem dX5_lit_18 : decode cX5_lit 18 = .ok (.invokevirtual 132, 3) := by decide +kernel
theorem dX5_lit_21 : decode cX5_lit 21 = .ok (.ifCond .eq 7, 3) := by decide +kernel
theorem dX5_lit_24 : decode cX5_lit 24 = .ok (.iconst 1, 1) := by decide +kernel
theorem dX5_lit_25 : decode cX5_lit 25 = .ok (.goto 8, 3) := by decide +kernel
theorem dX5_lit_28 : decode cX5_lit 28 = .ok (.iconst 0, 1) := by decide +kernel
theorem dX5_lit_29 : decode cX5_lit 29 = .ok (.goto 4, 3) := by decide +kernel
theorem dX5_lit_32 : decode cX5_lit 32 = .ok (.iconst (-1), 1) := by decide +kernel
theorem dX5_lit_33 : decode cX5_lit 33 = .ok (.ireturn, 1) := by decide +kernel
theorem dX5_reach_0 : decode cX5_reach 0 = .ok (.aload_n 0, 1) := by decide +kernel
theorem dX5_reach_1 : decode cX5_reach 1 = .ok (.getfield 33, 3) := by decide +kernel
theorem dX5_reach_4 : decode cX5_reach 4 = .ok (.iload_n 1, 1) := by decide +kernel
theorem dX5_reach_5 : decode cX5_reach 5 = .ok (.iaload, 1) := by decide +kernel
theorem dX5_reach_6 : decode cX5_reach 6 = .ok (.sipush 9999, 3) := by decide +kernel
theorem dX5_reach_9 : decode cX5_reach 9 = .ok (.if_icmp .ne 30, 3) := by decide +kernel
theorem dX5_reach_12 : decode cX5_reach 12 = .ok (.aload_n 0, 1) := by decide +kernel
theorem dX5_reach_13 : decode cX5_reach 13 = .ok (.getfield 33, 3) := by decide +kernel
theorem dX5_reach_16 : decode cX5_reach 16 = .ok (.iload_n 1, 1) := by decide +kernel
theorem dX5_reach_17 : decode cX5_reach 17 = .ok (.iload_n 2, 1) := by decide +kernel
theorem dX5_reach_18 : decode cX5_reach 18 = .ok (.iastore, 1) := by decide +kernel
theorem dX5_reach_19 : decode cX5_reach 19 = .ok (.aload_n 0, 1) := by decide +kernel
theorem dX5_reach_20 : decode cX5_reach 20 = .ok (.getfield 36, 3) := by decide +kernel
theorem dX5_reach_23 : decode cX5_reach 23 = .ok (.aload_n 0, 1) := by decide +kernel
theorem dX5_reach_24 : decode cX5_reach 24 = .ok (.getfield 152, 3) := by decide +kernel
theorem dX5_reach_27 : decode cX5_reach 27 = .ok (.iload_n 1, 1) := by decide +kernel
theorem dX5_reach_28 : decode cX5_reach 28 = .ok (.iastore, 1) := by decide +kernel
theorem dX5_reach_29 : decode cX5_reach 29 = .ok (.aload_n 0, 1) := by decide +kernel
theorem dX5_reach_30 : decode cX5_reach 30 = .ok (.dup, 1) := by decide +kernel
theorem dX5_reach_31 : decode cX5_reach 31 = .ok (.getfield 152, 3) := by decide +kernel
theorem dX5_reach_34 : decode cX5_reach 34 = .ok (.iconst 1, 1) := by decide +kernel
theorem dX5_reach_35 : decode cX5_reach 35 = .ok (.iadd, 1) := by decide +kernel
theorem dX5_reach_36 : decode cX5_reach 36 = .ok (.putfield 152, 3) := by decide +kernel
theorem dX5_reach_39 : decode cX5_reach 39 = .ok (.return_, 1) := by decide +kernel
theorem dX5_none_0 : decode cX5_none 0 = .ok (.iconst 0, 1) := by decide +kernel
theorem dX5_none_1 : decode cX5_none 1 = .ok (.istore_n 1, 1) := by decide +kernel
theorem dX5_none_2 : decode cX5_none 2 = .ok (.iload_n 1, 1) := by decide +kernel
theorem dX5_none_3 : decode cX5_none 3 = .ok (.sipush 6561, 3) := by decide +kernel
theorem dX5_none_6 : decode cX5_none 6 = .ok (.if_icmp .ge 18, 3) := by decide +kernel
theorem dX5_none_9 : decode cX5_none 9 = .ok (.aload_n 0, 1) := by decide +kernel
theorem dX5_none_10 : decode cX5_none 10 = .ok (.getfield 33, 3) := by decide +kernel
theorem dX5_none_13 : decode cX5_none 13 = .ok (.iload_n 1, 1) := by decide +kernel
theorem dX5_none_14 : decode cX5_none 14 = .ok (.sipush 9999, 3) := by decide +kernel
theorem dX5_none_17 : decode cX5_none 17 = .ok (.iastore, 1) := by decide +kernel
theorem dX5_none_18 : decode cX5_none 18 = .ok (.iinc 1 1, 3) := by decide +kernel
theorem dX5_none_21 : decode cX5_none 21 = .ok (.goto (-19), 3) := by decide +kernel
theorem dX5_none_24 : decode cX5_none 24 = .ok (.aload_n 0, 1) := by decide +kernel
theorem dX5_none_25 : decode cX5_none 25 = .ok (.iconst 0, 1) := by decide +kernel
theorem dX5_none_26 : decode cX5_none 26 = .ok (.putfield 152, 3) := by decide +kernel
theorem dX5_none_29 : decode cX5_none 29 = .ok (.return_, 1) := by decide +kernel
set_option maxRecDepth 20000 in
theorem ggX5_go_X5_slotIn : GoodIn wsX5_go wsX5_slotIn := goodIn_r _ [9, 3, 10, 11, 8, 12, 39, 40, 41, 42, 43, 44, 45, 46, 47, 48, 49, 50, 51, 52, 53, 54, 55, 56, 57] (by decide +kernel) (by decide +kernel)
set_option maxRecDepth 20000 in
theorem gX5_go_X5_slotIn : GoodIn wsX5_go (wsV RX5 110 RX5 yX5_slotIn wsX5_slotIn) := goodIn_app (goodIn_of _ (by decide +kernel)) ggX5_go_X5_slotIn
set_option maxRecDepth 20000 in
theorem ggX5_go_X5_panelAt : GoodIn wsX5_go wsX5_panelAt := goodIn_r _ [16, 3, 5, 6, 7, 8, 9, 10, 11, 12, 39, 40, 41, 42, 43, 44, 45, 46, 47, 48, 49, 50, 51, 52, 53, 54, 55, 56, 57] (by decide +kernel) (by decide +kernel)
set_option maxRecDepth 20000 in
theorem gX5_go_X5_panelAt : GoodIn wsX5_go (wsV RX5 120 RX5 yX5_panelAt wsX5_panelAt) := goodIn_app (goodIn_of _ (by decide +kernel)) ggX5_go_X5_panelAt
set_option maxRecDepth 20000 in
theorem ggX5_go_X5_with : GoodIn wsX5_go wsX5_with := goodIn_r _ [20, 3, 5, 6, 7, 8, 9, 10, 11, 12, 39, 40, 41, 42, 43, 44, 45, 46, 47, 48, 49, 50, 51, 52, 53, 54, 55, 56, 57] (by decide +kernel) (by decide +kernel)
set_option maxRecDepth 20000 in
theorem gX5_go_X5_with : GoodIn wsX5_go (wsV RX5 141 RX5 yX5_with wsX5_with) := goodIn_app (goodIn_of _ (by decide +kernel)) ggX5_go_X5_with
set_option maxRecDepth 20000 in
theorem ggX5_go_X5_isLawful : GoodIn wsX5_go wsX5_isLawful := goodIn_r _ [24, 3, 25, 26, 27, 8, 28, 5, 6, 7, 9, 10, 11, 12, 29, 30, 31, 32, 33, 34, 39, 40, 41, 42, 43, 44, 45, 46, 47, 48, 49, 50, 51, 52, 53, 54, 55, 56, 57] (by decide +kernel) (by decide +kernel)
set_option maxRecDepth 20000 in
theorem gX5_go_X5_isLawful : GoodIn wsX5_go (wsV RX5 138 RX5 yX5_isLawful wsX5_isLawful) := goodIn_app (goodIn_of _ (by decide +kernel)) ggX5_go_X5_isLawful
set_option maxRecDepth 20000 in
theorem ggX5_go_X5_reach : GoodIn wsX5_go wsX5_reach := goodIn_r _ [38, 4, 2, 1, 39, 40, 41, 42, 43, 44, 45, 46, 47, 48, 49, 50, 51, 52, 53, 54, 55, 56, 57] (by decide +kernel) (by decide +kernel)
set_option maxRecDepth 20000 in
theorem gX5_go_X5_reach : GoodIn wsX5_go (wsV RX5 155 RX5 yX5_reach wsX5_reach) := goodIn_app (goodIn_of _ (by decide +kernel)) ggX5_go_X5_reach
theorem dX5_go_0 : decode cX5_go 0 = .ok (.iconst 0, 1) := by decide +kernel
theorem dX5_go_1 : decode cX5_go 1 = .ok (.istore_n 2, 1) := by decide +kernel
theorem dX5_go_2 : decode cX5_go 2 = .ok (.iload_n 2, 1) := by decide +kernel
theorem dX5_go_3 : decode cX5_go 3 = .ok (.aload_n 0, 1) := by decide +kernel
theorem dX5_go_4 : decode cX5_go 4 = .ok (.getfield 152, 3) := by decide +kernel
theorem dX5_go_7 : decode cX5_go 7 = .ok (.if_icmp .ge 169, 3) := by decide +kernel
theorem dX5_go_10 : decode cX5_go 10 = .ok (.aload_n 0, 1) := by decide +kernel
theorem dX5_go_11 : decode cX5_go 11 = .ok (.getfield 36, 3) := by decide +kernel
theorem dX5_go_14 : decode cX5_go 14 = .ok (.iload_n 2, 1) := by decide +kernel
theorem dX5_go_15 : decode cX5_go 15 = .ok (.iaload, 1) := by decide +kernel
theorem dX5_go_16 : decode cX5_go 16 = .ok (.istore_n 3, 1) := by decide +kernel
theorem dX5_go_17 : decode cX5_go 17 = .ok (.iconst 0, 1) := by decide +kernel
theorem dX5_go_18 : decode cX5_go 18 = .ok (.istore 4, 2) := by decide +kernel
theorem dX5_go_20 : decode cX5_go 20 = .ok (.iload 4, 2) := by decide +kernel
theorem dX5_go_22 : decode cX5_go 22 = .ok (.aload_n 0, 1) := by decide +kernel
theorem dX5_go_23 : decode cX5_go 23 = .ok (.getfield 13, 3) := by decide +kernel
theorem dX5_go_26 : decode cX5_go 26 = .ok (.iconst 0, 1) := by decide +kernel
theorem dX5_go_27 : decode cX5_go 27 = .ok (.iaload, 1) := by decide +kernel
theorem dX5_go_28 : decode cX5_go 28 = .ok (.if_icmp .ge 142, 3) := by decide +kernel
theorem dX5_go_31 : decode cX5_go 31 = .ok (.aload_n 0, 1) := by decide +kernel
theorem dX5_go_32 : decode cX5_go 32 = .ok (.getfield 33, 3) := by decide +kernel
theorem dX5_go_35 : decode cX5_go 35 = .ok (.iload_n 3, 1) := by decide +kernel
theorem dX5_go_36 : decode cX5_go 36 = .ok (.iaload, 1) := by decide +kernel
theorem dX5_go_37 : decode cX5_go 37 = .ok (.iload_n 1, 1) := by decide +kernel
theorem dX5_go_38 : decode cX5_go 38 = .ok (.if_icmp .ge 132, 3) := by decide +kernel
theorem dX5_go_41 : decode cX5_go 41 = .ok (.aload_n 0, 1) := by decide +kernel
theorem dX5_go_42 : decode cX5_go 42 = .ok (.iload_n 3, 1) := by decide +kernel
theorem dX5_go_43 : decode cX5_go 43 = .ok (.iload 4, 2) := by decide +kernel
theorem dX5_go_45 : decode cX5_go 45 = .ok (.invokevirtual 110, 3) := by decide +kernel
theorem dX5_go_48 : decode cX5_go 48 = .ok (.bipush 8, 2) := by decide +kernel
theorem dX5_go_50 : decode cX5_go 50 = .ok (.if_icmp .ne 7, 3) := by decide +kernel
theorem dX5_go_53 : decode cX5_go 53 = .ok (.iconst 1, 1) := by decide +kernel
theorem dX5_go_54 : decode cX5_go 54 = .ok (.goto 4, 3) := by decide +kernel
theorem dX5_go_57 : decode cX5_go 57 = .ok (.iconst 0, 1) := by decide +kernel
theorem dX5_go_58 : decode cX5_go 58 = .ok (.istore 5, 2) := by decide +kernel
theorem dX5_go_60 : decode cX5_go 60 = .ok (.iconst 0, 1) := by decide +kernel
theorem dX5_go_61 : decode cX5_go 61 = .ok (.istore 6, 2) := by decide +kernel
theorem dX5_go_63 : decode cX5_go 63 = .ok (.iload 6, 2) := by decide +kernel
theorem dX5_go_65 : decode cX5_go 65 = .ok (.bipush 8, 2) := by decide +kernel
theorem dX5_go_67 : decode cX5_go 67 = .ok (.if_icmp .gt 97, 3) := by decide +kernel
theorem dX5_go_70 : decode cX5_go 70 = .ok (.iload 5, 2) := by decide +kernel
theorem dX5_go_72 : decode cX5_go 72 = .ok (.ifCond .eq 30, 3) := by decide +kernel
theorem dX5_go_75 : decode cX5_go 75 = .ok (.iload 6, 2) := by decide +kernel
theorem dX5_go_77 : decode cX5_go 77 = .ok (.bipush 8, 2) := by decide +kernel
theorem dX5_go_79 : decode cX5_go 79 = .ok (.if_icmp .ge 19, 3) := by decide +kernel
theorem dX5_go_82 : decode cX5_go 82 = .ok (.aload_n 0, 1) := by decide +kernel
theorem dX5_go_83 : decode cX5_go 83 = .ok (.iload_n 3, 1) := by decide +kernel
theorem dX5_go_84 : decode cX5_go 84 = .ok (.iload 6, 2) := by decide +kernel
theorem dX5_go_86 : decode cX5_go 86 = .ok (.invokevirtual 120, 3) := by decide +kernel
theorem dX5_go_89 : decode cX5_go 89 = .ok (.bipush (-9), 2) := by decide +kernel
theorem dX5_go_91 : decode cX5_go 91 = .ok (.if_icmp .ne 7, 3) := by decide +kernel
theorem dX5_go_94 : decode cX5_go 94 = .ok (.iconst 1, 1) := by decide +kernel
theorem dX5_go_95 : decode cX5_go 95 = .ok (.goto 19, 3) := by decide +kernel
theorem dX5_go_98 : decode cX5_go 98 = .ok (.iconst 0, 1) := by decide +kernel
theorem dX5_go_99 : decode cX5_go 99 = .ok (.goto 15, 3) := by decide +kernel
theorem dX5_go_102 : decode cX5_go 102 = .ok (.iload 6, 2) := by decide +kernel
theorem dX5_go_104 : decode cX5_go 104 = .ok (.bipush 8, 2) := by decide +kernel
theorem dX5_go_106 : decode cX5_go 106 = .ok (.if_icmp .ne 7, 3) := by decide +kernel
theorem dX5_go_109 : decode cX5_go 109 = .ok (.iconst 1, 1) := by decide +kernel
theorem dX5_go_110 : decode cX5_go 110 = .ok (.goto 4, 3) := by decide +kernel
theorem dX5_go_113 : decode cX5_go 113 = .ok (.iconst 0, 1) := by decide +kernel
theorem dX5_go_114 : decode cX5_go 114 = .ok (.istore 7, 2) := by decide +kernel
theorem dX5_go_116 : decode cX5_go 116 = .ok (.iload 7, 2) := by decide +kernel
theorem dX5_go_118 : decode cX5_go 118 = .ok (.ifCond .eq 40, 3) := by decide +kernel
theorem dX5_go_121 : decode cX5_go 121 = .ok (.aload_n 0, 1) := by decide +kernel
theorem dX5_go_122 : decode cX5_go 122 = .ok (.aload_n 0, 1) := by decide +kernel
theorem dX5_go_123 : decode cX5_go 123 = .ok (.iload_n 3, 1) := by decide +kernel
theorem dX5_go_124 : decode cX5_go 124 = .ok (.iload 4, 2) := by decide +kernel
theorem dX5_go_126 : decode cX5_go 126 = .ok (.iload 6, 2) := by decide +kernel
theorem dX5_go_128 : decode cX5_go 128 = .ok (.invokevirtual 141, 3) := by decide +kernel
theorem dX5_go_131 : decode cX5_go 131 = .ok (.invokevirtual 138, 3) := by decide +kernel
theorem dX5_go_134 : decode cX5_go 134 = .ok (.ifCond .eq 24, 3) := by decide +kernel
theorem dX5_go_137 : decode cX5_go 137 = .ok (.aload_n 0, 1) := by decide +kernel
theorem dX5_go_138 : decode cX5_go 138 = .ok (.aload_n 0, 1) := by decide +kernel
theorem dX5_go_139 : decode cX5_go 139 = .ok (.iload_n 3, 1) := by decide +kernel
theorem dX5_go_140 : decode cX5_go 140 = .ok (.iload 4, 2) := by decide +kernel
theorem dX5_go_142 : decode cX5_go 142 = .ok (.iload 6, 2) := by decide +kernel
theorem dX5_go_144 : decode cX5_go 144 = .ok (.invokevirtual 141, 3) := by decide +kernel
theorem dX5_go_147 : decode cX5_go 147 = .ok (.aload_n 0, 1) := by decide +kernel
theorem dX5_go_148 : decode cX5_go 148 = .ok (.getfield 33, 3) := by decide +kernel
theorem dX5_go_151 : decode cX5_go 151 = .ok (.iload_n 3, 1) := by decide +kernel
theorem dX5_go_152 : decode cX5_go 152 = .ok (.iaload, 1) := by decide +kernel
theorem dX5_go_153 : decode cX5_go 153 = .ok (.iconst 1, 1) := by decide +kernel
theorem dX5_go_154 : decode cX5_go 154 = .ok (.iadd, 1) := by decide +kernel
theorem dX5_go_155 : decode cX5_go 155 = .ok (.invokevirtual 155, 3) := by decide +kernel
theorem dX5_go_158 : decode cX5_go 158 = .ok (.iinc 6 1, 3) := by decide +kernel
theorem dX5_go_161 : decode cX5_go 161 = .ok (.goto (-98), 3) := by decide +kernel
theorem dX5_go_164 : decode cX5_go 164 = .ok (.iinc 4 1, 3) := by decide +kernel
theorem dX5_go_167 : decode cX5_go 167 = .ok (.goto (-147), 3) := by decide +kernel
theorem dX5_go_170 : decode cX5_go 170 = .ok (.iinc 2 1, 3) := by decide +kernel
theorem dX5_go_173 : decode cX5_go 173 = .ok (.goto (-171), 3) := by decide +kernel
theorem dX5_go_176 : decode cX5_go 176 = .ok (.return_, 1) := by decide +kernel
set_option maxRecDepth 20000 in
theorem ggX5_goFrom_X5_none : GoodIn wsX5_goFrom wsX5_none := goodIn_r _ [5, 6, 7, 47, 48, 49, 50, 51, 52, 53, 54, 55, 56, 57, 58, 59, 60, 61, 62, 63, 64, 65] (by decide +kernel) (by decide +kernel)
set_option maxRecDepth 20000 in
theorem gX5_goFrom_X5_none : GoodIn wsX5_goFrom (wsV RX5 159 RX5 yX5_none wsX5_none) := goodIn_app (goodIn_of _ (by decide +kernel)) ggX5_goFrom_X5_none
set_option maxRecDepth 20000 in
theorem ggX5_goFrom_X5_reach : GoodIn wsX5_goFrom wsX5_reach := goodIn_r _ [11, 6, 12, 7, 47, 48, 49, 50, 51, 52, 53, 54, 55, 56, 57, 58, 59, 60, 61, 62, 63, 64, 65] (by decide +kernel) (by decide +kernel)
set_option maxRecDepth 20000 in
theorem gX5_goFrom_X5_reach : GoodIn wsX5_goFrom (wsV RX5 155 RX5 yX5_reach wsX5_reach) := goodIn_app (goodIn_of _ (by decide +kernel)) ggX5_goFrom_X5_reach
set_option maxRecDepth 20000 in
theorem ggX5_goFrom_X5_go : GoodIn wsX5_goFrom wsX5_go := goodIn_r _ [16, 7, 12, 17, 6, 18, 19, 20, 4, 21, 22, 23, 24, 25, 26, 27, 28, 29, 30, 31, 32, 33, 34, 35, 36, 37, 38, 39, 40, 41, 42, 43, 44, 45, 46, 8, 9, 10, 11, 47, 48, 49, 50, 51, 52, 53, 54, 55, 56, 57, 58, 59, 60, 61, 62, 63, 64, 65] (by decide +kernel) (by decide +kernel)
set_option maxRecDepth 20000 in
theorem gX5_goFrom_X5_go : GoodIn wsX5_goFrom (wsV RX5 162 RX5 yX5_go wsX5_go) := goodIn_app (goodIn_of _ (by decide +kernel)) ggX5_goFrom_X5_go
theorem dX5_goFrom_0 : decode cX5_goFrom 0 = .ok (.aload_n 0, 1) := by decide +kernel
theorem dX5_goFrom_1 : decode cX5_goFrom 1 = .ok (.invokevirtual 159, 3) := by decide +kernel
theorem dX5_goFrom_4 : decode cX5_goFrom 4 = .ok (.aload_n 0, 1) := by decide +kernel
theorem dX5_goFrom_5 : decode cX5_goFrom 5 = .ok (.iload_n 1, 1) := by decide +kernel
theorem dX5_goFrom_6 : decode cX5_goFrom 6 = .ok (.iconst 0, 1) := by decide +kernel
theorem dX5_goFrom_7 : decode cX5_goFrom 7 = .ok (.invokevirtual 155, 3) := by decide +kernel
theorem dX5_goFrom_10 : decode cX5_goFrom 10 = .ok (.aload_n 0, 1) := by decide +kernel
theorem dX5_goFrom_11 : decode cX5_goFrom 11 = .ok (.sipush 9999, 3) := by decide +kernel
theorem dX5_goFrom_14 : decode cX5_goFrom 14 = .ok (.invokevirtual 162, 3) := by decide +kernel
theorem dX5_goFrom_17 : decode cX5_goFrom 17 = .ok (.return_, 1) := by decide +kernel
set_option maxRecDepth 20000 in
theorem ggX5_refuses_X5_in : GoodIn wsX5_refuses wsX5_in := goodIn_r _ [5] (by decide +kernel) (by decide +kernel)
set_option maxRecDepth 20000 in
theorem gX5_refuses_X5_in : GoodIn wsX5_refuses (va_wsS RX5 46 yX5_in wsX5_in) := goodIn_app (goodIn_of _ (by decide +kernel)) ggX5_refuses_X5_in
theorem dX5_refuses_0 : decode cX5_refuses 0 = .ok (.iload_n 1, 1) := by decide +kernel
theorem dX5_refuses_1 : decode cX5_refuses 1 = .ok (.iconst 0, 1) := by decide +kernel
theorem dX5_refuses_2 : decode cX5_refuses 2 = .ok (.iconst 1, 1) := by decide +kernel
theorem dX5_refuses_3 : decode cX5_refuses 3 = .ok (.invokestatic 46, 3) := by decide +kernel
theorem dX5_refuses_6 : decode cX5_refuses 6 = .ok (.ifCond .ne 7, 3) := by decide +kernel
theorem dX5_refuses_9 : decode cX5_refuses 9 = .ok (.iconst (-1), 1) := by decide +kernel
theorem dX5_refuses_10 : decode cX5_refuses 10 = .ok (.goto 18, 3) := by decide +kernel
theorem dX5_refuses_13 : decode cX5_refuses 13 = .ok (.aload_n 0, 1) := by decide +kernel
theorem dX5_refuses_14 : decode cX5_refuses 14 = .ok (.getfield 29, 3) := by decide +kernel
theorem dX5_refuses_17 : decode cX5_refuses 17 = .ok (.iload_n 1, 1) := by decide +kernel
theorem dX5_refuses_18 : decode cX5_refuses 18 = .ok (.baload, 1) := by decide +kernel
theorem dX5_refuses_19 : decode cX5_refuses 19 = .ok (.ifCond .eq 7, 3) := by decide +kernel
theorem dX5_refuses_22 : decode cX5_refuses 22 = .ok (.iconst 0, 1) := by decide +kernel
theorem dX5_refuses_23 : decode cX5_refuses 23 = .ok (.goto 5, 3) := by decide +kernel
theorem dX5_refuses_26 : decode cX5_refuses 26 = .ok (.bipush (-2), 2) := by decide +kernel
theorem dX5_refuses_28 : decode cX5_refuses 28 = .ok (.ireturn, 1) := by decide +kernel
theorem dX5_houseOf_0 : decode cX5_houseOf 0 = .ok (.aload_n 0, 1) := by decide +kernel
theorem dX5_houseOf_1 : decode cX5_houseOf 1 = .ok (.getfield 26, 3) := by decide +kernel
theorem dX5_houseOf_4 : decode cX5_houseOf 4 = .ok (.bipush 21, 2) := by decide +kernel
theorem dX5_houseOf_6 : decode cX5_houseOf 6 = .ok (.iconst 1, 1) := by decide +kernel
theorem dX5_houseOf_7 : decode cX5_houseOf 7 = .ok (.iload_n 1, 1) := by decide +kernel
theorem dX5_houseOf_8 : decode cX5_houseOf 8 = .ok (.iadd, 1) := by decide +kernel
theorem dX5_houseOf_9 : decode cX5_houseOf 9 = .ok (.imul, 1) := by decide +kernel
theorem dX5_houseOf_10 : decode cX5_houseOf 10 = .ok (.iconst 0, 1) := by decide +kernel
theorem dX5_houseOf_11 : decode cX5_houseOf 11 = .ok (.iadd, 1) := by decide +kernel
theorem dX5_houseOf_12 : decode cX5_houseOf 12 = .ok (.iaload, 1) := by decide +kernel
theorem dX5_houseOf_13 : decode cX5_houseOf 13 = .ok (.ireturn, 1) := by decide +kernel
set_option maxRecDepth 20000 in
theorem ggX5_fewest_X5_refuses : GoodIn wsX5_fewest wsX5_refuses := goodIn_r _ [7, 8, 9, 10, 6, 11, 64, 65, 66, 67, 68, 69, 70, 71, 72, 73, 74, 75, 76, 77, 78, 79, 80, 81, 82] (by decide +kernel) (by decide +kernel)
set_option maxRecDepth 20000 in
theorem gX5_fewest_X5_refuses : GoodIn wsX5_fewest (wsV RX5 165 RX5 yX5_refuses wsX5_refuses) := goodIn_app (goodIn_of _ (by decide +kernel)) ggX5_fewest_X5_refuses
set_option maxRecDepth 20000 in
theorem ggX5_fewest_X5_goFrom : GoodIn wsX5_fewest wsX5_goFrom := goodIn_r _ [15, 16, 17, 18, 6, 19, 2, 20, 21, 22, 23, 24, 25, 26, 27, 28, 29, 30, 31, 32, 33, 34, 35, 36, 37, 38, 39, 40, 41, 42, 43, 44, 45, 46, 47, 48, 49, 50, 51, 52, 53, 54, 55, 56, 57, 58, 59, 64, 65, 66, 67, 68, 69, 70, 71, 72, 73, 74, 75, 76, 77, 78, 79, 80, 81, 82] (by decide +kernel) (by decide +kernel)
set_option maxRecDepth 20000 in
theorem gX5_fewest_X5_goFrom : GoodIn wsX5_fewest (wsV RX5 168 RX5 yX5_goFrom wsX5_goFrom) := goodIn_app (goodIn_of _ (by decide +kernel)) ggX5_fewest_X5_goFrom
set_option maxRecDepth 20000 in
theorem ggX5_fewest_X5_houseOf : GoodIn wsX5_fewest wsX5_houseOf := goodIn_r _ [63, 1, 64, 65, 66, 67, 68, 69, 70, 71, 72, 73, 74, 75, 76, 77, 78, 79, 80, 81, 82] (by decide +kernel) (by decide +kernel)
set_option maxRecDepth 20000 in
theorem gX5_fewest_X5_houseOf : GoodIn wsX5_fewest (wsV RX5 171 RX5 yX5_houseOf wsX5_houseOf) := goodIn_app (goodIn_of _ (by decide +kernel)) ggX5_fewest_X5_houseOf
theorem dX5_fewest_0 : decode cX5_fewest 0 = .ok (.aload_n 0, 1) := by decide +kernel
theorem dX5_fewest_1 : decode cX5_fewest 1 = .ok (.iload_n 1, 1) := by decide +kernel
theorem dX5_fewest_2 : decode cX5_fewest 2 = .ok (.invokevirtual 165, 3) := by decide +kernel
theorem dX5_fewest_5 : decode cX5_fewest 5 = .ok (.ifCond .eq 9, 3) := by decide +kernel
theorem dX5_fewest_8 : decode cX5_fewest 8 = .ok (.aload_n 0, 1) := by decide +kernel
theorem dX5_fewest_9 : decode cX5_fewest 9 = .ok (.iload_n 1, 1) := by decide +kernel
theorem dX5_fewest_10 : decode cX5_fewest 10 = .ok (.invokevirtual 165, 3) := by decide +kernel
theorem dX5_fewest_13 : decode cX5_fewest 13 = .ok (.ireturn, 1) := by decide +kernel
theorem dX5_fewest_14 : decode cX5_fewest 14 = .ok (.aload_n 0, 1) := by decide +kernel
theorem dX5_fewest_15 : decode cX5_fewest 15 = .ok (.aload_n 0, 1) := by decide +kernel
theorem dX5_fewest_16 : decode cX5_fewest 16 = .ok (.getfield 26, 3) := by decide +kernel
theorem dX5_fewest_19 : decode cX5_fewest 19 = .ok (.iconst 0, 1) := by decide +kernel
theorem dX5_fewest_20 : decode cX5_fewest 20 = .ok (.iaload, 1) := by decide +kernel
theorem dX5_fewest_21 : decode cX5_fewest 21 = .ok (.invokevirtual 168, 3) := by decide +kernel
theorem dX5_fewest_24 : decode cX5_fewest 24 = .ok (.aload_n 0, 1) := by decide +kernel
theorem dX5_fewest_25 : decode cX5_fewest 25 = .ok (.getfield 33, 3) := by decide +kernel
theorem dX5_fewest_28 : decode cX5_fewest 28 = .ok (.aload_n 0, 1) := by decide +kernel
theorem dX5_fewest_29 : decode cX5_fewest 29 = .ok (.iload_n 1, 1) := by decide +kernel
theorem dX5_fewest_30 : decode cX5_fewest 30 = .ok (.invokevirtual 171, 3) := by decide +kernel
theorem dX5_fewest_33 : decode cX5_fewest 33 = .ok (.iaload, 1) := by decide +kernel
theorem dX5_fewest_34 : decode cX5_fewest 34 = .ok (.istore_n 2, 1) := by decide +kernel
theorem dX5_fewest_35 : decode cX5_fewest 35 = .ok (.iload_n 2, 1) := by decide +kernel
theorem dX5_fewest_36 : decode cX5_fewest 36 = .ok (.sipush 9999, 3) := by decide +kernel
theorem dX5_fewest_39 : decode cX5_fewest 39 = .ok (.if_icmp .ne 8, 3) := by decide +kernel
theorem dX5_fewest_42 : decode cX5_fewest 42 = .ok (.bipush (-9), 2) := by decide +kernel
theorem dX5_fewest_44 : decode cX5_fewest 44 = .ok (.goto 4, 3) := by decide +kernel
theorem dX5_fewest_47 : decode cX5_fewest 47 = .ok (.iload_n 2, 1) := by decide +kernel
theorem dX5_fewest_48 : decode cX5_fewest 48 = .ok (.ireturn, 1) := by decide +kernel
set_option maxRecDepth 20000 in
theorem ggX5_first_X5_refuses : GoodIn wsX5_first wsX5_refuses := goodIn_r _ [8, 9, 10, 11, 7, 12, 64, 65, 66, 67, 68, 69, 70, 71, 72, 73, 74, 75, 76, 77, 78, 79, 80, 81, 82] (by decide +kernel) (by decide +kernel)
set_option maxRecDepth 20000 in
theorem gX5_first_X5_refuses : GoodIn wsX5_first (wsV RX5 165 RX5 yX5_refuses wsX5_refuses) := goodIn_app (goodIn_of _ (by decide +kernel)) ggX5_first_X5_refuses
set_option maxRecDepth 20000 in
theorem ggX5_first_X5_houseOf : GoodIn wsX5_first wsX5_houseOf := goodIn_r _ [16, 1, 64, 65, 66, 67, 68, 69, 70, 71, 72, 73, 74, 75, 76, 77, 78, 79, 80, 81, 82] (by decide +kernel) (by decide +kernel)
set_option maxRecDepth 20000 in
theorem gX5_first_X5_houseOf : GoodIn wsX5_first (wsV RX5 171 RX5 yX5_houseOf wsX5_houseOf) := goodIn_app (goodIn_of _ (by decide +kernel)) ggX5_first_X5_houseOf
set_option maxRecDepth 20000 in
theorem ggX5_first_X5_isLawful : GoodIn wsX5_first wsX5_isLawful := goodIn_r _ [20, 2, 21, 22, 23, 7, 24, 25, 26, 27, 28, 29, 30, 31, 32, 33, 34, 35, 36, 37, 64, 65, 66, 67, 68, 69, 70, 71, 72, 73, 74, 75, 76, 77, 78, 79, 80, 81, 82] (by decide +kernel) (by decide +kernel)
set_option maxRecDepth 20000 in
theorem gX5_first_X5_isLawful : GoodIn wsX5_first (wsV RX5 138 RX5 yX5_isLawful wsX5_isLawful) := goodIn_app (goodIn_of _ (by decide +kernel)) ggX5_first_X5_isLawful
set_option maxRecDepth 20000 in
theorem ggX5_first_X5_goFrom : GoodIn wsX5_first wsX5_goFrom := goodIn_r _ [41, 42, 43, 44, 7, 45, 3, 46, 47, 48, 49, 50, 51, 52, 53, 54, 55, 2, 25, 26, 27, 28, 29, 30, 31, 56, 57, 58, 59, 60, 61, 62, 63, 17, 18, 19, 20, 21, 22, 23, 24, 32, 33, 34, 35, 36, 37, 64, 65, 66, 67, 68, 69, 70, 71, 72, 73, 74, 75, 76, 77, 78, 79, 80, 81, 82] (by decide +kernel) (by decide +kernel)
set_option maxRecDepth 20000 in
theorem gX5_first_X5_goFrom : GoodIn wsX5_first (wsV RX5 168 RX5 yX5_goFrom wsX5_goFrom) := goodIn_app (goodIn_of _ (by decide +kernel)) ggX5_first_X5_goFrom
set_option maxRecDepth 20000 in
theorem ggX5_first_X5_slotIn : GoodIn wsX5_first wsX5_slotIn := goodIn_r _ [28, 2, 29, 30, 7, 31, 64, 65, 66, 67, 68, 69, 70, 71, 72, 73, 74, 75, 76, 77, 78, 79, 80, 81, 82] (by decide +kernel) (by decide +kernel)
set_option maxRecDepth 20000 in
theorem gX5_first_X5_slotIn : GoodIn wsX5_first (wsV RX5 110 RX5 yX5_slotIn wsX5_slotIn) := goodIn_app (goodIn_of _ (by decide +kernel)) ggX5_first_X5_slotIn
set_option maxRecDepth 20000 in
theorem ggX5_first_X5_panelAt : GoodIn wsX5_first wsX5_panelAt := goodIn_r _ [59, 2, 25, 26, 27, 7, 28, 29, 30, 31, 64, 65, 66, 67, 68, 69, 70, 71, 72, 73, 74, 75, 76, 77, 78, 79, 80, 81, 82] (by decide +kernel) (by decide +kernel)
set_option maxRecDepth 20000 in
theorem gX5_first_X5_panelAt : GoodIn wsX5_first (wsV RX5 120 RX5 yX5_panelAt wsX5_panelAt) := goodIn_app (goodIn_of _ (by decide +kernel)) ggX5_first_X5_panelAt
set_option maxRecDepth 20000 in
theorem ggX5_first_X5_with : GoodIn wsX5_first wsX5_with := goodIn_r _ [63, 2, 25, 26, 27, 7, 28, 29, 30, 31, 64, 65, 66, 67, 68, 69, 70, 71, 72, 73, 74, 75, 76, 77, 78, 79, 80, 81, 82] (by decide +kernel) (by decide +kernel)
set_option maxRecDepth 20000 in
theorem gX5_first_X5_with : GoodIn wsX5_first (wsV RX5 141 RX5 yX5_with wsX5_with) := goodIn_app (goodIn_of _ (by decide +kernel)) ggX5_first_X5_with
theorem dX5_first_0 : decode cX5_first 0 = .ok (.aload_n 0, 1) := by decide +kernel
theorem dX5_first_1 : decode cX5_first 1 = .ok (.iload_n 1, 1) := by decide +kernel
theorem dX5_first_2 : decode cX5_first 2 = .ok (.invokevirtual 165, 3) := by decide +kernel
theorem dX5_first_5 : decode cX5_first 5 = .ok (.ifCond .eq 9, 3) := by decide +kernel
theorem dX5_first_8 : decode cX5_first 8 = .ok (.aload_n 0, 1) := by decide +kernel
theorem dX5_first_9 : decode cX5_first 9 = .ok (.iload_n 1, 1) := by decide +kernel
theorem dX5_first_10 : decode cX5_first 10 = .ok (.invokevirtual 165, 3) := by decide +kernel
theorem dX5_first_13 : decode cX5_first 13 = .ok (.ireturn, 1) := by decide +kernel
theorem dX5_first_14 : decode cX5_first 14 = .ok (.aload_n 0, 1) := by decide +kernel
theorem dX5_first_15 : decode cX5_first 15 = .ok (.getfield 26, 3) := by decide +kernel
theorem dX5_first_18 : decode cX5_first 18 = .ok (.iconst 0, 1) := by decide +kernel
theorem dX5_first_19 : decode cX5_first 19 = .ok (.iaload, 1) := by decide +kernel
theorem dX5_first_20 : decode cX5_first 20 = .ok (.istore_n 2, 1) := by decide +kernel
theorem dX5_first_21 : decode cX5_first 21 = .ok (.aload_n 0, 1) := by decide +kernel
theorem dX5_first_22 : decode cX5_first 22 = .ok (.iload_n 1, 1) := by decide +kernel
theorem dX5_first_23 : decode cX5_first 23 = .ok (.invokevirtual 171, 3) := by decide +kernel
theorem dX5_first_26 : decode cX5_first 26 = .ok (.istore_n 3, 1) := by decide +kernel
theorem dX5_first_27 : decode cX5_first 27 = .ok (.iload_n 2, 1) := by decide +kernel
theorem dX5_first_28 : decode cX5_first 28 = .ok (.iload_n 3, 1) := by decide +kernel
theorem dX5_first_29 : decode cX5_first 29 = .ok (.if_icmp .eq 11, 3) := by decide +kernel
theorem dX5_first_32 : decode cX5_first 32 = .ok (.aload_n 0, 1) := by decide +kernel
theorem dX5_first_33 : decode cX5_first 33 = .ok (.iload_n 3, 1) := by decide +kernel
theorem dX5_first_34 : decode cX5_first 34 = .ok (.invokevirtual 138, 3) := by decide +kernel
theorem dX5_first_37 : decode cX5_first 37 = .ok (.ifCond .ne 6, 3) := by decide +kernel
theorem dX5_first_40 : decode cX5_first 40 = .ok (.bipush (-9), 2) := by decide +kernel
theorem dX5_first_42 : decode cX5_first 42 = .ok (.ireturn, 1) := by decide +kernel
theorem dX5_first_43 : decode cX5_first 43 = .ok (.aload_n 0, 1) := by decide +kernel
theorem dX5_first_44 : decode cX5_first 44 = .ok (.iload_n 3, 1) := by decide +kernel
theorem dX5_first_45 : decode cX5_first 45 = .ok (.invokevirtual 168, 3) := by decide +kernel
theorem dX5_first_48 : decode cX5_first 48 = .ok (.bipush (-9), 2) := by decide +kernel
theorem dX5_first_50 : decode cX5_first 50 = .ok (.istore 4, 2) := by decide +kernel
theorem dX5_first_52 : decode cX5_first 52 = .ok (.sipush 9999, 3) := by decide +kernel
theorem dX5_first_55 : decode cX5_first 55 = .ok (.istore 5, 2) := by decide +kernel
theorem dX5_first_57 : decode cX5_first 57 = .ok (.iconst 0, 1) := by decide +kernel
theorem dX5_first_58 : decode cX5_first 58 = .ok (.istore 6, 2) := by decide +kernel
theorem dX5_first_60 : decode cX5_first 60 = .ok (.iload 6, 2) := by decide +kernel
theorem dX5_first_62 : decode cX5_first 62 = .ok (.aload_n 0, 1) := by decide +kernel
theorem dX5_first_63 : decode cX5_first 63 = .ok (.getfield 13, 3) := by decide +kernel
theorem dX5_first_66 : decode cX5_first 66 = .ok (.iconst 0, 1) := by decide +kernel
theorem dX5_first_67 : decode cX5_first 67 = .ok (.iaload, 1) := by decide +kernel
theorem dX5_first_68 : decode cX5_first 68 = .ok (.if_icmp .ge 146, 3) := by decide +kernel
theorem dX5_first_71 : decode cX5_first 71 = .ok (.aload_n 0, 1) := by decide +kernel
theorem dX5_first_72 : decode cX5_first 72 = .ok (.iload_n 2, 1) := by decide +kernel
theorem dX5_first_73 : decode cX5_first 73 = .ok (.iload 6, 2) := by decide +kernel
theorem dX5_first_75 : decode cX5_first 75 = .ok (.invokevirtual 110, 3) := by decide +kernel
theorem dX5_first_78 : decode cX5_first 78 = .ok (.bipush 8, 2) := by decide +kernel
theorem dX5_first_80 : decode cX5_first 80 = .ok (.if_icmp .ne 7, 3) := by decide +kernel
theorem dX5_first_83 : decode cX5_first 83 = .ok (.iconst 1, 1) := by decide +kernel
theorem dX5_first_84 : decode cX5_first 84 = .ok (.goto 4, 3) := by decide +kernel
theorem dX5_first_87 : decode cX5_first 87 = .ok (.iconst 0, 1) := by decide +kernel
theorem dX5_first_88 : decode cX5_first 88 = .ok (.istore 7, 2) := by decide +kernel
theorem dX5_first_90 : decode cX5_first 90 = .ok (.iconst 0, 1) := by decide +kernel
theorem dX5_first_91 : decode cX5_first 91 = .ok (.istore 8, 2) := by decide +kernel
theorem dX5_first_93 : decode cX5_first 93 = .ok (.iload 8, 2) := by decide +kernel
theorem dX5_first_95 : decode cX5_first 95 = .ok (.bipush 8, 2) := by decide +kernel
theorem dX5_first_97 : decode cX5_first 97 = .ok (.if_icmp .gt 111, 3) := by decide +kernel
theorem dX5_first_100 : decode cX5_first 100 = .ok (.iload 7, 2) := by decide +kernel
theorem dX5_first_102 : decode cX5_first 102 = .ok (.ifCond .eq 30, 3) := by decide +kernel
theorem dX5_first_105 : decode cX5_first 105 = .ok (.iload 8, 2) := by decide +kernel
theorem dX5_first_107 : decode cX5_first 107 = .ok (.bipush 8, 2) := by decide +kernel
theorem dX5_first_109 : decode cX5_first 109 = .ok (.if_icmp .ge 19, 3) := by decide +kernel
theorem dX5_first_112 : decode cX5_first 112 = .ok (.aload_n 0, 1) := by decide +kernel
theorem dX5_first_113 : decode cX5_first 113 = .ok (.iload_n 2, 1) := by decide +kernel
theorem dX5_first_114 : decode cX5_first 114 = .ok (.iload 8, 2) := by decide +kernel
theorem dX5_first_116 : decode cX5_first 116 = .ok (.invokevirtual 120, 3) := by decide +kernel
theorem dX5_first_119 : decode cX5_first 119 = .ok (.bipush (-9), 2) := by decide +kernel
theorem dX5_first_121 : decode cX5_first 121 = .ok (.if_icmp .ne 7, 3) := by decide +kernel
theorem dX5_first_124 : decode cX5_first 124 = .ok (.iconst 1, 1) := by decide +kernel
theorem dX5_first_125 : decode cX5_first 125 = .ok (.goto 19, 3) := by decide +kernel
theorem dX5_first_128 : decode cX5_first 128 = .ok (.iconst 0, 1) := by decide +kernel
theorem dX5_first_129 : decode cX5_first 129 = .ok (.goto 15, 3) := by decide +kernel
theorem dX5_first_132 : decode cX5_first 132 = .ok (.iload 8, 2) := by decide +kernel
theorem dX5_first_134 : decode cX5_first 134 = .ok (.bipush 8, 2) := by decide +kernel
theorem dX5_first_136 : decode cX5_first 136 = .ok (.if_icmp .ne 7, 3) := by decide +kernel
theorem dX5_first_139 : decode cX5_first 139 = .ok (.iconst 1, 1) := by decide +kernel
theorem dX5_first_140 : decode cX5_first 140 = .ok (.goto 4, 3) := by decide +kernel
theorem dX5_first_143 : decode cX5_first 143 = .ok (.iconst 0, 1) := by decide +kernel
theorem dX5_first_144 : decode cX5_first 144 = .ok (.istore 9, 2) := by decide +kernel
theorem dX5_first_146 : decode cX5_first 146 = .ok (.aload_n 0, 1) := by decide +kernel
theorem dX5_first_147 : decode cX5_first 147 = .ok (.iload_n 2, 1) := by decide +kernel
theorem dX5_first_148 : decode cX5_first 148 = .ok (.iload 6, 2) := by decide +kernel
theorem dX5_first_150 : decode cX5_first 150 = .ok (.iload 8, 2) := by decide +kernel
theorem dX5_first_152 : decode cX5_first 152 = .ok (.invokevirtual 141, 3) := by decide +kernel
theorem dX5_first_155 : decode cX5_first 155 = .ok (.istore 10, 2) := by decide +kernel
theorem dX5_first_157 : decode cX5_first 157 = .ok (.iload 9, 2) := by decide +kernel
theorem dX5_first_159 : decode cX5_first 159 = .ok (.ifCond .eq 43, 3) := by decide +kernel
theorem dX5_first_162 : decode cX5_first 162 = .ok (.aload_n 0, 1) := by decide +kernel
theorem dX5_first_163 : decode cX5_first 163 = .ok (.iload 10, 2) := by decide +kernel
theorem dX5_first_165 : decode cX5_first 165 = .ok (.invokevirtual 138, 3) := by decide +kernel
theorem dX5_first_168 : decode cX5_first 168 = .ok (.ifCond .eq 34, 3) := by decide +kernel
theorem dX5_first_171 : decode cX5_first 171 = .ok (.aload_n 0, 1) := by decide +kernel
theorem dX5_first_172 : decode cX5_first 172 = .ok (.getfield 33, 3) := by decide +kernel
theorem dX5_first_175 : decode cX5_first 175 = .ok (.iload 10, 2) := by decide +kernel
theorem dX5_first_177 : decode cX5_first 177 = .ok (.iaload, 1) := by decide +kernel
theorem dX5_first_178 : decode cX5_first 178 = .ok (.iload 5, 2) := by decide +kernel
theorem dX5_first_180 : decode cX5_first 180 = .ok (.if_icmp .ge 22, 3) := by decide +kernel
theorem dX5_first_183 : decode cX5_first 183 = .ok (.bipush 10, 2) := by decide +kernel
theorem dX5_first_185 : decode cX5_first 185 = .ok (.iload 6, 2) := by decide +kernel
theorem dX5_first_187 : decode cX5_first 187 = .ok (.imul, 1) := by decide +kernel
theorem dX5_first_188 : decode cX5_first 188 = .ok (.iload 8, 2) := by decide +kernel
theorem dX5_first_190 : decode cX5_first 190 = .ok (.iadd, 1) := by decide +kernel
theorem dX5_first_191 : decode cX5_first 191 = .ok (.istore 4, 2) := by decide +kernel
theorem dX5_first_193 : decode cX5_first 193 = .ok (.aload_n 0, 1) := by decide +kernel
theorem dX5_first_194 : decode cX5_first 194 = .ok (.getfield 33, 3) := by decide +kernel
theorem dX5_first_197 : decode cX5_first 197 = .ok (.iload 10, 2) := by decide +kernel
theorem dX5_first_199 : decode cX5_first 199 = .ok (.iaload, 1) := by decide +kernel
theorem dX5_first_200 : decode cX5_first 200 = .ok (.istore 5, 2) := by decide +kernel
theorem dX5_first_202 : decode cX5_first 202 = .ok (.iinc 8 1, 3) := by decide +kernel
theorem dX5_first_205 : decode cX5_first 205 = .ok (.goto (-112), 3) := by decide +kernel
theorem dX5_first_208 : decode cX5_first 208 = .ok (.iinc 6 1, 3) := by decide +kernel
theorem dX5_first_211 : decode cX5_first 211 = .ok (.goto (-151), 3) := by decide +kernel
theorem dX5_first_214 : decode cX5_first 214 = .ok (.iload 4, 2) := by decide +kernel
theorem dX5_first_216 : decode cX5_first 216 = .ok (.ireturn, 1) := by decide +kernel
set_option maxRecDepth 20000 in
theorem ggX5_nights_X5_refuses : GoodIn wsX5_nights wsX5_refuses := goodIn_r _ [9, 10, 11, 12, 8, 13, 73, 74, 75, 76, 77, 78, 79, 80, 81, 82, 83, 84, 85, 86, 87, 88, 89, 90, 91] (by decide +kernel) (by decide +kernel)
set_option maxRecDepth 20000 in
theorem gX5_nights_X5_refuses : GoodIn wsX5_nights (wsV RX5 165 RX5 yX5_refuses wsX5_refuses) := goodIn_app (goodIn_of _ (by decide +kernel)) ggX5_nights_X5_refuses
set_option maxRecDepth 20000 in
theorem ggX5_nights_X5_houseOf : GoodIn wsX5_nights wsX5_houseOf := goodIn_r _ [17, 1, 73, 74, 75, 76, 77, 78, 79, 80, 81, 82, 83, 84, 85, 86, 87, 88, 89, 90, 91] (by decide +kernel) (by decide +kernel)
set_option maxRecDepth 20000 in
theorem gX5_nights_X5_houseOf : GoodIn wsX5_nights (wsV RX5 171 RX5 yX5_houseOf wsX5_houseOf) := goodIn_app (goodIn_of _ (by decide +kernel)) ggX5_nights_X5_houseOf
set_option maxRecDepth 20000 in
theorem ggX5_nights_X5_none : GoodIn wsX5_nights wsX5_none := goodIn_r _ [21, 3, 22, 73, 74, 75, 76, 77, 78, 79, 80, 81, 82, 83, 84, 85, 86, 87, 88, 89, 90, 91] (by decide +kernel) (by decide +kernel)
set_option maxRecDepth 20000 in
theorem gX5_nights_X5_none : GoodIn wsX5_nights (wsV RX5 159 RX5 yX5_none wsX5_none) := goodIn_app (goodIn_of _ (by decide +kernel)) ggX5_nights_X5_none
set_option maxRecDepth 20000 in
theorem ggX5_nights_X5_reach : GoodIn wsX5_nights wsX5_reach := goodIn_r _ [26, 3, 27, 22, 73, 74, 75, 76, 77, 78, 79, 80, 81, 82, 83, 84, 85, 86, 87, 88, 89, 90, 91] (by decide +kernel) (by decide +kernel)
set_option maxRecDepth 20000 in
theorem gX5_nights_X5_reach : GoodIn wsX5_nights (wsV RX5 155 RX5 yX5_reach wsX5_reach) := goodIn_app (goodIn_of _ (by decide +kernel)) ggX5_nights_X5_reach
set_option maxRecDepth 20000 in
theorem ggX5_nights_X5_go : GoodIn wsX5_nights wsX5_go := goodIn_r _ [31, 22, 27, 2, 3, 32, 33, 34, 8, 35, 36, 37, 38, 39, 40, 41, 42, 43, 44, 45, 46, 47, 48, 49, 50, 51, 52, 53, 54, 55, 56, 57, 58, 59, 60, 23, 24, 25, 26, 73, 74, 75, 76, 77, 78, 79, 80, 81, 82, 83, 84, 85, 86, 87, 88, 89, 90, 91] (by decide +kernel) (by decide +kernel)
set_option maxRecDepth 20000 in
theorem gX5_nights_X5_go : GoodIn wsX5_nights (wsV RX5 162 RX5 yX5_go wsX5_go) := goodIn_app (goodIn_of _ (by decide +kernel)) ggX5_nights_X5_go
set_option maxRecDepth 20000 in
theorem ggX5_nights_X5_houses : GoodIn wsX5_nights wsX5_houses := goodIn_r _ [64, 2, 36, 37, 8, 38, 73, 74, 75, 76, 77, 78, 79, 80, 81, 82, 83, 84, 85, 86, 87, 88, 89, 90, 91] (by decide +kernel) (by decide +kernel)
set_option maxRecDepth 20000 in
theorem gX5_nights_X5_houses : GoodIn wsX5_nights (wsV RX5 174 RX5 yX5_houses wsX5_houses) := goodIn_app (goodIn_of _ (by decide +kernel)) ggX5_nights_X5_houses
set_option maxRecDepth 20000 in
theorem ggX5_nights_X5_leaksIn : GoodIn wsX5_nights wsX5_leaksIn := goodIn_r _ [68, 2, 69, 70, 71, 8, 72, 59, 39, 40, 41, 42, 32, 33, 34, 35, 36, 37, 38, 11, 12, 13, 73, 74, 75, 76, 77, 78, 79, 80, 81, 82, 83, 84, 85, 86, 87, 88, 89, 90, 91] (by decide +kernel) (by decide +kernel)
set_option maxRecDepth 20000 in
theorem gX5_nights_X5_leaksIn : GoodIn wsX5_nights (wsV RX5 129 RX5 yX5_leaksIn wsX5_leaksIn) := goodIn_app (goodIn_of _ (by decide +kernel)) ggX5_nights_X5_leaksIn
theorem dX5_nights_0 : decode cX5_nights 0 = .ok (.aload_n 0, 1) := by decide +kernel
theorem dX5_nights_1 : decode cX5_nights 1 = .ok (.iload_n 1, 1) := by decide +kernel
theorem dX5_nights_2 : decode cX5_nights 2 = .ok (.invokevirtual 165, 3) := by decide +kernel
theorem dX5_nights_5 : decode cX5_nights 5 = .ok (.ifCond .eq 9, 3) := by decide +kernel
theorem dX5_nights_8 : decode cX5_nights 8 = .ok (.aload_n 0, 1) := by decide +kernel
theorem dX5_nights_9 : decode cX5_nights 9 = .ok (.iload_n 1, 1) := by decide +kernel
theorem dX5_nights_10 : decode cX5_nights 10 = .ok (.invokevirtual 165, 3) := by decide +kernel
theorem dX5_nights_13 : decode cX5_nights 13 = .ok (.ireturn, 1) := by decide +kernel
theorem dX5_nights_14 : decode cX5_nights 14 = .ok (.aload_n 0, 1) := by decide +kernel
theorem dX5_nights_15 : decode cX5_nights 15 = .ok (.iload_n 1, 1) := by decide +kernel
theorem dX5_nights_16 : decode cX5_nights 16 = .ok (.invokevirtual 171, 3) := by decide +kernel
theorem dX5_nights_19 : decode cX5_nights 19 = .ok (.istore_n 2, 1) := by decide +kernel
theorem dX5_nights_20 : decode cX5_nights 20 = .ok (.aload_n 0, 1) := by decide +kernel
theorem dX5_nights_21 : decode cX5_nights 21 = .ok (.invokevirtual 159, 3) := by decide +kernel
theorem dX5_nights_24 : decode cX5_nights 24 = .ok (.aload_n 0, 1) := by decide +kernel
theorem dX5_nights_25 : decode cX5_nights 25 = .ok (.aload_n 0, 1) := by decide +kernel
theorem dX5_nights_26 : decode cX5_nights 26 = .ok (.getfield 26, 3) := by decide +kernel
theorem dX5_nights_29 : decode cX5_nights 29 = .ok (.iconst 0, 1) := by decide +kernel
theorem dX5_nights_30 : decode cX5_nights 30 = .ok (.iaload, 1) := by decide +kernel
theorem dX5_nights_31 : decode cX5_nights 31 = .ok (.iconst 0, 1) := by decide +kernel
theorem dX5_nights_32 : decode cX5_nights 32 = .ok (.invokevirtual 155, 3) := by decide +kernel
theorem dX5_nights_35 : decode cX5_nights 35 = .ok (.aload_n 0, 1) := by decide +kernel
theorem dX5_nights_36 : decode cX5_nights 36 = .ok (.aload_n 0, 1) := by decide +kernel
theorem dX5_nights_37 : decode cX5_nights 37 = .ok (.getfield 13, 3) := by decide +kernel
theorem dX5_nights_40 : decode cX5_nights 40 = .ok (.bipush 7, 2) := by decide +kernel
theorem dX5_nights_42 : decode cX5_nights 42 = .ok (.iaload, 1) := by decide +kernel
theorem dX5_nights_43 : decode cX5_nights 43 = .ok (.aload_n 0, 1) := by decide +kernel
theorem dX5_nights_44 : decode cX5_nights 44 = .ok (.getfield 26, 3) := by decide +kernel
theorem dX5_nights_47 : decode cX5_nights 47 = .ok (.iconst 2, 1) := by decide +kernel
theorem dX5_nights_48 : decode cX5_nights 48 = .ok (.iaload, 1) := by decide +kernel
theorem dX5_nights_49 : decode cX5_nights 49 = .ok (.isub, 1) := by decide +kernel
theorem dX5_nights_50 : decode cX5_nights 50 = .ok (.invokevirtual 162, 3) := by decide +kernel
theorem dX5_nights_53 : decode cX5_nights 53 = .ok (.iconst 0, 1) := by decide +kernel
theorem dX5_nights_54 : decode cX5_nights 54 = .ok (.istore_n 3, 1) := by decide +kernel
theorem dX5_nights_55 : decode cX5_nights 55 = .ok (.iload_n 3, 1) := by decide +kernel
theorem dX5_nights_56 : decode cX5_nights 56 = .ok (.bipush 20, 2) := by decide +kernel
theorem dX5_nights_58 : decode cX5_nights 58 = .ok (.if_icmp .gt 125, 3) := by decide +kernel
theorem dX5_nights_61 : decode cX5_nights 61 = .ok (.aload_n 0, 1) := by decide +kernel
theorem dX5_nights_62 : decode cX5_nights 62 = .ok (.getfield 33, 3) := by decide +kernel
theorem dX5_nights_65 : decode cX5_nights 65 = .ok (.iload_n 2, 1) := by decide +kernel
theorem dX5_nights_66 : decode cX5_nights 66 = .ok (.iaload, 1) := by decide +kernel
theorem dX5_nights_67 : decode cX5_nights 67 = .ok (.sipush 9999, 3) := by decide +kernel
theorem dX5_nights_70 : decode cX5_nights 70 = .ok (.if_icmp .ge 5, 3) := by decide +kernel
theorem dX5_nights_73 : decode cX5_nights 73 = .ok (.iload_n 3, 1) := by decide +kernel
theorem dX5_nights_74 : decode cX5_nights 74 = .ok (.ireturn, 1) := by decide +kernel
theorem dX5_nights_75 : decode cX5_nights 75 = .ok (.iconst 0, 1) := by decide +kernel
theorem dX5_nights_76 : decode cX5_nights 76 = .ok (.istore 4, 2) := by decide +kernel
theorem dX5_nights_78 : decode cX5_nights 78 = .ok (.iload 4, 2) := by decide +kernel
theorem dX5_nights_80 : decode cX5_nights 80 = .ok (.aload_n 0, 1) := by decide +kernel
theorem dX5_nights_81 : decode cX5_nights 81 = .ok (.invokevirtual 174, 3) := by decide +kernel
theorem dX5_nights_84 : decode cX5_nights 84 = .ok (.if_icmp .ge 43, 3) := by decide +kernel
theorem dX5_nights_87 : decode cX5_nights 87 = .ok (.aload_n 0, 1) := by decide +kernel
theorem dX5_nights_88 : decode cX5_nights 88 = .ok (.getfield 39, 3) := by decide +kernel
theorem dX5_nights_91 : decode cX5_nights 91 = .ok (.iload 4, 2) := by decide +kernel
theorem dX5_nights_93 : decode cX5_nights 93 = .ok (.aload_n 0, 1) := by decide +kernel
theorem dX5_nights_94 : decode cX5_nights 94 = .ok (.getfield 33, 3) := by decide +kernel
theorem dX5_nights_97 : decode cX5_nights 97 = .ok (.iload 4, 2) := by decide +kernel
theorem dX5_nights_99 : decode cX5_nights 99 = .ok (.iaload, 1) := by decide +kernel
theorem dX5_nights_100 : decode cX5_nights 100 = .ok (.sipush 9999, 3) := by decide +kernel
theorem dX5_nights_103 : decode cX5_nights 103 = .ok (.if_icmp .ge 16, 3) := by decide +kernel
theorem dX5_nights_106 : decode cX5_nights 106 = .ok (.aload_n 0, 1) := by decide +kernel
theorem dX5_nights_107 : decode cX5_nights 107 = .ok (.iload 4, 2) := by decide +kernel
theorem dX5_nights_109 : decode cX5_nights 109 = .ok (.invokevirtual 129, 3) := by decide +kernel
theorem dX5_nights_112 : decode cX5_nights 112 = .ok (.ifCond .ne 7, 3) := by decide +kernel
theorem dX5_nights_115 : decode cX5_nights 115 = .ok (.iconst 1, 1) := by decide +kernel
theorem dX5_nights_116 : decode cX5_nights 116 = .ok (.goto 4, 3) := by decide +kernel
theorem dX5_nights_119 : decode cX5_nights 119 = .ok (.iconst 0, 1) := by decide +kernel
theorem dX5_nights_120 : decode cX5_nights 120 = .ok (.bastore, 1) := by decide +kernel
theorem dX5_nights_121 : decode cX5_nights 121 = .ok (.iinc 4 1, 3) := by decide +kernel
theorem dX5_nights_124 : decode cX5_nights 124 = .ok (.goto (-46), 3) := by decide +kernel
theorem dX5_nights_127 : decode cX5_nights 127 = .ok (.aload_n 0, 1) := by decide +kernel
theorem dX5_nights_128 : decode cX5_nights 128 = .ok (.invokevirtual 159, 3) := by decide +kernel
theorem dX5_nights_131 : decode cX5_nights 131 = .ok (.iconst 0, 1) := by decide +kernel
theorem dX5_nights_132 : decode cX5_nights 132 = .ok (.istore 4, 2) := by decide +kernel
theorem dX5_nights_134 : decode cX5_nights 134 = .ok (.iload 4, 2) := by decide +kernel
theorem dX5_nights_136 : decode cX5_nights 136 = .ok (.aload_n 0, 1) := by decide +kernel
theorem dX5_nights_137 : decode cX5_nights 137 = .ok (.invokevirtual 174, 3) := by decide +kernel
theorem dX5_nights_140 : decode cX5_nights 140 = .ok (.if_icmp .ge 26, 3) := by decide +kernel
theorem dX5_nights_143 : decode cX5_nights 143 = .ok (.aload_n 0, 1) := by decide +kernel
theorem dX5_nights_144 : decode cX5_nights 144 = .ok (.getfield 39, 3) := by decide +kernel
theorem dX5_nights_147 : decode cX5_nights 147 = .ok (.iload 4, 2) := by decide +kernel
theorem dX5_nights_149 : decode cX5_nights 149 = .ok (.baload, 1) := by decide +kernel
theorem dX5_nights_150 : decode cX5_nights 150 = .ok (.ifCond .eq 10, 3) := by decide +kernel
theorem dX5_nights_153 : decode cX5_nights 153 = .ok (.aload_n 0, 1) := by decide +kernel
theorem dX5_nights_154 : decode cX5_nights 154 = .ok (.iload 4, 2) := by decide +kernel
theorem dX5_nights_156 : decode cX5_nights 156 = .ok (.iconst 0, 1) := by decide +kernel
theorem dX5_nights_157 : decode cX5_nights 157 = .ok (.invokevirtual 155, 3) := by decide +kernel
theorem dX5_nights_160 : decode cX5_nights 160 = .ok (.iinc 4 1, 3) := by decide +kernel
theorem dX5_nights_163 : decode cX5_nights 163 = .ok (.goto (-29), 3) := by decide +kernel
theorem dX5_nights_166 : decode cX5_nights 166 = .ok (.aload_n 0, 1) := by decide +kernel
theorem dX5_nights_167 : decode cX5_nights 167 = .ok (.aload_n 0, 1) := by decide +kernel
theorem dX5_nights_168 : decode cX5_nights 168 = .ok (.getfield 13, 3) := by decide +kernel
theorem dX5_nights_171 : decode cX5_nights 171 = .ok (.bipush 7, 2) := by decide +kernel
theorem dX5_nights_173 : decode cX5_nights 173 = .ok (.iaload, 1) := by decide +kernel
theorem dX5_nights_174 : decode cX5_nights 174 = .ok (.invokevirtual 162, 3) := by decide +kernel
theorem dX5_nights_177 : decode cX5_nights 177 = .ok (.iinc 3 1, 3) := by decide +kernel
theorem dX5_nights_180 : decode cX5_nights 180 = .ok (.goto (-125), 3) := by decide +kernel
theorem dX5_nights_183 : decode cX5_nights 183 = .ok (.bipush (-9), 2) := by decide +kernel
theorem dX5_nights_185 : decode cX5_nights 185 = .ok (.ireturn, 1) := by decide +kernel
set_option maxRecDepth 20000 in
theorem ggX5_piano_X5_in : GoodIn wsX5_piano wsX5_in := goodIn_r _ [8] (by decide +kernel) (by decide +kernel)
set_option maxRecDepth 20000 in
theorem gX5_piano_X5_in : GoodIn wsX5_piano (va_wsS RX5 46 yX5_in wsX5_in) := goodIn_app (goodIn_of _ (by decide +kernel)) ggX5_piano_X5_in
set_option maxRecDepth 20000 in
theorem ggX5_piano_X5_goFrom : GoodIn wsX5_piano wsX5_goFrom := goodIn_r _ [12, 13, 14, 15, 7, 16, 4, 2, 17, 18, 19, 20, 3, 21, 22, 23, 24, 25, 26, 27, 28, 29, 30, 31, 32, 33, 34, 35, 36, 37, 38, 39, 40, 41, 42, 43, 44, 45, 46, 47, 48, 49, 50, 51, 52, 53, 54, 55, 56, 57, 58, 59, 60, 61, 62, 63, 64, 65, 66, 67, 68, 69, 70, 71, 72, 73] (by decide +kernel) (by decide +kernel)
set_option maxRecDepth 20000 in
theorem gX5_piano_X5_goFrom : GoodIn wsX5_piano (wsV RX5 168 RX5 yX5_goFrom wsX5_goFrom) := goodIn_app (goodIn_of _ (by decide +kernel)) ggX5_piano_X5_goFrom
set_option maxRecDepth 20000 in
theorem ggX5_piano_X5_panelAt : GoodIn wsX5_piano wsX5_panelAt := goodIn_r _ [36, 25, 26, 27, 28, 7, 29, 30, 31, 32, 55, 56, 57, 58, 59, 60, 61, 62, 63, 64, 65, 66, 67, 68, 69, 70, 71, 72, 73] (by decide +kernel) (by decide +kernel)
set_option maxRecDepth 20000 in
theorem gX5_piano_X5_panelAt : GoodIn wsX5_piano (wsV RX5 120 RX5 yX5_panelAt wsX5_panelAt) := goodIn_app (goodIn_of _ (by decide +kernel)) ggX5_piano_X5_panelAt
theorem dX5_piano_0 : decode cX5_piano 0 = .ok (.iload_n 1, 1) := by decide +kernel
theorem dX5_piano_1 : decode cX5_piano 1 = .ok (.iconst 0, 1) := by decide +kernel
theorem dX5_piano_2 : decode cX5_piano 2 = .ok (.bipush 7, 2) := by decide +kernel
theorem dX5_piano_4 : decode cX5_piano 4 = .ok (.invokestatic 46, 3) := by decide +kernel
theorem dX5_piano_7 : decode cX5_piano 7 = .ok (.ifCond .ne 5, 3) := by decide +kernel
theorem dX5_piano_10 : decode cX5_piano 10 = .ok (.iconst (-1), 1) := by decide +kernel
theorem dX5_piano_11 : decode cX5_piano 11 = .ok (.ireturn, 1) := by decide +kernel
theorem dX5_piano_12 : decode cX5_piano 12 = .ok (.aload_n 0, 1) := by decide +kernel
theorem dX5_piano_13 : decode cX5_piano 13 = .ok (.aload_n 0, 1) := by decide +kernel
theorem dX5_piano_14 : decode cX5_piano 14 = .ok (.getfield 26, 3) := by decide +kernel
theorem dX5_piano_17 : decode cX5_piano 17 = .ok (.iconst 0, 1) := by decide +kernel
theorem dX5_piano_18 : decode cX5_piano 18 = .ok (.iaload, 1) := by decide +kernel
theorem dX5_piano_19 : decode cX5_piano 19 = .ok (.invokevirtual 168, 3) := by decide +kernel
theorem dX5_piano_22 : decode cX5_piano 22 = .ok (.iconst 0, 1) := by decide +kernel
theorem dX5_piano_23 : decode cX5_piano 23 = .ok (.istore_n 2, 1) := by decide +kernel
theorem dX5_piano_24 : decode cX5_piano 24 = .ok (.iload_n 2, 1) := by decide +kernel
theorem dX5_piano_25 : decode cX5_piano 25 = .ok (.aload_n 0, 1) := by decide +kernel
theorem dX5_piano_26 : decode cX5_piano 26 = .ok (.getfield 152, 3) := by decide +kernel
theorem dX5_piano_29 : decode cX5_piano 29 = .ok (.if_icmp .ge 50, 3) := by decide +kernel
theorem dX5_piano_32 : decode cX5_piano 32 = .ok (.aload_n 0, 1) := by decide +kernel
theorem dX5_piano_33 : decode cX5_piano 33 = .ok (.getfield 36, 3) := by decide +kernel
theorem dX5_piano_36 : decode cX5_piano 36 = .ok (.iload_n 2, 1) := by decide +kernel
theorem dX5_piano_37 : decode cX5_piano 37 = .ok (.iaload, 1) := by decide +kernel
theorem dX5_piano_38 : decode cX5_piano 38 = .ok (.istore_n 3, 1) := by decide +kernel
theorem dX5_piano_39 : decode cX5_piano 39 = .ok (.aload_n 0, 1) := by decide +kernel
theorem dX5_piano_40 : decode cX5_piano 40 = .ok (.iload_n 3, 1) := by decide +kernel
theorem dX5_piano_41 : decode cX5_piano 41 = .ok (.iload_n 1, 1) := by decide +kernel
theorem dX5_piano_42 : decode cX5_piano 42 = .ok (.invokevirtual 120, 3) := by decide +kernel
theorem dX5_piano_45 : decode cX5_piano 45 = .ok (.bipush (-9), 2) := by decide +kernel
theorem dX5_piano_47 : decode cX5_piano 47 = .ok (.if_icmp .ne 26, 3) := by decide +kernel
theorem dX5_piano_50 : decode cX5_piano 50 = .ok (.aload_n 0, 1) := by decide +kernel
theorem dX5_piano_51 : decode cX5_piano 51 = .ok (.iload_n 3, 1) := by decide +kernel
theorem dX5_piano_52 : decode cX5_piano 52 = .ok (.iload_n 1, 1) := by decide +kernel
theorem dX5_piano_53 : decode cX5_piano 53 = .ok (.iconst 1, 1) := by decide +kernel
theorem dX5_piano_54 : decode cX5_piano 54 = .ok (.iadd, 1) := by decide +kernel
theorem dX5_piano_55 : decode cX5_piano 55 = .ok (.bipush 8, 2) := by decide +kernel
theorem dX5_piano_57 : decode cX5_piano 57 = .ok (.irem, 1) := by decide +kernel
theorem dX5_piano_58 : decode cX5_piano 58 = .ok (.invokevirtual 120, 3) := by decide +kernel
theorem dX5_piano_61 : decode cX5_piano 61 = .ok (.bipush (-9), 2) := by decide +kernel
theorem dX5_piano_63 : decode cX5_piano 63 = .ok (.if_icmp .ne 10, 3) := by decide +kernel
theorem dX5_piano_66 : decode cX5_piano 66 = .ok (.aload_n 0, 1) := by decide +kernel
theorem dX5_piano_67 : decode cX5_piano 67 = .ok (.getfield 33, 3) := by decide +kernel
theorem dX5_piano_70 : decode cX5_piano 70 = .ok (.iload_n 3, 1) := by decide +kernel
theorem dX5_piano_71 : decode cX5_piano 71 = .ok (.iaload, 1) := by decide +kernel
theorem dX5_piano_72 : decode cX5_piano 72 = .ok (.ireturn, 1) := by decide +kernel
theorem dX5_piano_73 : decode cX5_piano 73 = .ok (.iinc 2 1, 3) := by decide +kernel
theorem dX5_piano_76 : decode cX5_piano 76 = .ok (.goto (-52), 3) := by decide +kernel
theorem dX5_piano_79 : decode cX5_piano 79 = .ok (.bipush (-9), 2) := by decide +kernel
theorem dX5_piano_81 : decode cX5_piano 81 = .ok (.ireturn, 1) := by decide +kernel
set_option maxRecDepth 20000 in
theorem ggX5_best_X5_in : GoodIn wsX5_best wsX5_in := goodIn_r _ [6] (by decide +kernel) (by decide +kernel)
set_option maxRecDepth 20000 in
theorem gX5_best_X5_in : GoodIn wsX5_best (va_wsS RX5 46 yX5_in wsX5_in) := goodIn_app (goodIn_of _ (by decide +kernel)) ggX5_best_X5_in
set_option maxRecDepth 20000 in
theorem ggX5_best_X5_houses : GoodIn wsX5_best wsX5_houses := goodIn_r _ [10, 1, 11, 12, 5, 13, 56, 57, 58, 59, 60, 61, 62, 63, 64, 65, 66, 67, 68, 69, 70, 71, 72, 73, 74] (by decide +kernel) (by decide +kernel)
set_option maxRecDepth 20000 in
theorem gX5_best_X5_houses : GoodIn wsX5_best (wsV RX5 174 RX5 yX5_houses wsX5_houses) := goodIn_app (goodIn_of _ (by decide +kernel)) ggX5_best_X5_houses
set_option maxRecDepth 20000 in
theorem ggX5_best_X5_isLawful : GoodIn wsX5_best wsX5_isLawful := goodIn_r _ [17, 1, 18, 19, 20, 5, 21, 22, 23, 24, 25, 11, 12, 13, 26, 27, 28, 29, 30, 31, 56, 57, 58, 59, 60, 61, 62, 63, 64, 65, 66, 67, 68, 69, 70, 71, 72, 73, 74] (by decide +kernel) (by decide +kernel)
set_option maxRecDepth 20000 in
theorem gX5_best_X5_isLawful : GoodIn wsX5_best (wsV RX5 138 RX5 yX5_isLawful wsX5_isLawful) := goodIn_app (goodIn_of _ (by decide +kernel)) ggX5_best_X5_isLawful
set_option maxRecDepth 20000 in
theorem ggX5_best_X5_worthOf : GoodIn wsX5_best wsX5_worthOf := goodIn_r _ [35, 1, 36, 37, 38, 5, 39, 40, 41, 42, 43, 30, 44, 45, 46, 47, 22, 23, 24, 25, 11, 12, 13, 3, 4, 6, 48, 49, 50, 51, 52, 53, 54, 55, 56, 57, 58, 59, 60, 61, 62, 63, 64, 65, 66, 67, 68, 69, 70, 71, 72, 73, 74] (by decide +kernel) (by decide +kernel)
set_option maxRecDepth 20000 in
theorem gX5_best_X5_worthOf : GoodIn wsX5_best (wsV RX5 148 RX5 yX5_worthOf wsX5_worthOf) := goodIn_app (goodIn_of _ (by decide +kernel)) ggX5_best_X5_worthOf
set_option maxRecDepth 20000 in
theorem ggX5_best_X5_slotIn : GoodIn wsX5_best wsX5_slotIn := goodIn_r _ [25, 1, 11, 12, 5, 13, 56, 57, 58, 59, 60, 61, 62, 63, 64, 65, 66, 67, 68, 69, 70, 71, 72, 73, 74] (by decide +kernel) (by decide +kernel)
set_option maxRecDepth 20000 in
theorem gX5_best_X5_slotIn : GoodIn wsX5_best (wsV RX5 110 RX5 yX5_slotIn wsX5_slotIn) := goodIn_app (goodIn_of _ (by decide +kernel)) ggX5_best_X5_slotIn
theorem dX5_best_0 : decode cX5_best 0 = .ok (.iload_n 1, 1) := by decide +kernel
theorem dX5_best_1 : decode cX5_best 1 = .ok (.iconst (-1), 1) := by decide +kernel
theorem dX5_best_2 : decode cX5_best 2 = .ok (.aload_n 0, 1) := by decide +kernel
theorem dX5_best_3 : decode cX5_best 3 = .ok (.getfield 13, 3) := by decide +kernel
theorem dX5_best_6 : decode cX5_best 6 = .ok (.iconst 0, 1) := by decide +kernel
theorem dX5_best_7 : decode cX5_best 7 = .ok (.iaload, 1) := by decide +kernel
theorem dX5_best_8 : decode cX5_best 8 = .ok (.iconst 1, 1) := by decide +kernel
theorem dX5_best_9 : decode cX5_best 9 = .ok (.isub, 1) := by decide +kernel
theorem dX5_best_10 : decode cX5_best 10 = .ok (.invokestatic 46, 3) := by decide +kernel
theorem dX5_best_13 : decode cX5_best 13 = .ok (.ifCond .ne 6, 3) := by decide +kernel
theorem dX5_best_16 : decode cX5_best 16 = .ok (.ldc 151, 2) := by decide +kernel
theorem dX5_best_18 : decode cX5_best 18 = .ok (.ireturn, 1) := by decide +kernel
theorem dX5_best_19 : decode cX5_best 19 = .ok (.bipush (-9), 2) := by decide +kernel
theorem dX5_best_21 : decode cX5_best 21 = .ok (.istore_n 2, 1) := by decide +kernel
theorem dX5_best_22 : decode cX5_best 22 = .ok (.ldc 151, 2) := by decide +kernel
theorem dX5_best_24 : decode cX5_best 24 = .ok (.istore_n 3, 1) := by decide +kernel
theorem dX5_best_25 : decode cX5_best 25 = .ok (.iconst 0, 1) := by decide +kernel
theorem dX5_best_26 : decode cX5_best 26 = .ok (.istore 4, 2) := by decide +kernel
theorem dX5_best_28 : decode cX5_best 28 = .ok (.iload 4, 2) := by decide +kernel
theorem dX5_best_30 : decode cX5_best 30 = .ok (.aload_n 0, 1) := by decide +kernel
theorem dX5_best_31 : decode cX5_best 31 = .ok (.invokevirtual 174, 3) := by decide +kernel
theorem dX5_best_34 : decode cX5_best 34 = .ok (.if_icmp .ge 38, 3) := by decide +kernel
theorem dX5_best_37 : decode cX5_best 37 = .ok (.aload_n 0, 1) := by decide +kernel
theorem dX5_best_38 : decode cX5_best 38 = .ok (.iload 4, 2) := by decide +kernel
theorem dX5_best_40 : decode cX5_best 40 = .ok (.invokevirtual 138, 3) := by decide +kernel
theorem dX5_best_43 : decode cX5_best 43 = .ok (.ifCond .eq 23, 3) := by decide +kernel
theorem dX5_best_46 : decode cX5_best 46 = .ok (.aload_n 0, 1) := by decide +kernel
theorem dX5_best_47 : decode cX5_best 47 = .ok (.iload 4, 2) := by decide +kernel
theorem dX5_best_49 : decode cX5_best 49 = .ok (.invokevirtual 148, 3) := by decide +kernel
theorem dX5_best_52 : decode cX5_best 52 = .ok (.iload_n 3, 1) := by decide +kernel
theorem dX5_best_53 : decode cX5_best 53 = .ok (.if_icmp .le 13, 3) := by decide +kernel
theorem dX5_best_56 : decode cX5_best 56 = .ok (.iload 4, 2) := by decide +kernel
theorem dX5_best_58 : decode cX5_best 58 = .ok (.istore_n 2, 1) := by decide +kernel
theorem dX5_best_59 : decode cX5_best 59 = .ok (.aload_n 0, 1) := by decide +kernel
theorem dX5_best_60 : decode cX5_best 60 = .ok (.iload 4, 2) := by decide +kernel
theorem dX5_best_62 : decode cX5_best 62 = .ok (.invokevirtual 148, 3) := by decide +kernel
theorem dX5_best_65 : decode cX5_best 65 = .ok (.istore_n 3, 1) := by decide +kernel
theorem dX5_best_66 : decode cX5_best 66 = .ok (.iinc 4 1, 3) := by decide +kernel
theorem dX5_best_69 : decode cX5_best 69 = .ok (.goto (-41), 3) := by decide +kernel
theorem dX5_best_72 : decode cX5_best 72 = .ok (.iload_n 2, 1) := by decide +kernel
theorem dX5_best_73 : decode cX5_best 73 = .ok (.bipush (-9), 2) := by decide +kernel
theorem dX5_best_75 : decode cX5_best 75 = .ok (.if_icmp .eq 8, 3) := by decide +kernel
theorem dX5_best_78 : decode cX5_best 78 = .ok (.iload_n 1, 1) := by decide +kernel
theorem dX5_best_79 : decode cX5_best 79 = .ok (.iconst (-1), 1) := by decide +kernel
theorem dX5_best_80 : decode cX5_best 80 = .ok (.if_icmp .ne 7, 3) := by decide +kernel
theorem dX5_best_83 : decode cX5_best 83 = .ok (.iload_n 3, 1) := by decide +kernel
theorem dX5_best_84 : decode cX5_best 84 = .ok (.goto 9, 3) := by decide +kernel
theorem dX5_best_87 : decode cX5_best 87 = .ok (.aload_n 0, 1) := by decide +kernel
theorem dX5_best_88 : decode cX5_best 88 = .ok (.iload_n 2, 1) := by decide +kernel
theorem dX5_best_89 : decode cX5_best 89 = .ok (.iload_n 1, 1) := by decide +kernel
theorem dX5_best_90 : decode cX5_best 90 = .ok (.invokevirtual 110, 3) := by decide +kernel
theorem dX5_best_93 : decode cX5_best 93 = .ok (.ireturn, 1) := by decide +kernel
set_option maxRecDepth 20000 in
theorem ggX5_clue_X5_in : GoodIn wsX5_clue wsX5_in := goodIn_r _ [5] (by decide +kernel) (by decide +kernel)
set_option maxRecDepth 20000 in
theorem gX5_clue_X5_in : GoodIn wsX5_clue (va_wsS RX5 46 yX5_in wsX5_in) := goodIn_app (goodIn_of _ (by decide +kernel)) ggX5_clue_X5_in
theorem dX5_clue_0 : decode cX5_clue 0 = .ok (.iload_n 1, 1) := by decide +kernel
theorem dX5_clue_1 : decode cX5_clue 1 = .ok (.iconst 0, 1) := by decide +kernel
theorem dX5_clue_2 : decode cX5_clue 2 = .ok (.bipush 7, 2) := by decide +kernel
theorem dX5_clue_4 : decode cX5_clue 4 = .ok (.invokestatic 46, 3) := by decide +kernel
theorem dX5_clue_7 : decode cX5_clue 7 = .ok (.ifCond .eq 12, 3) := by decide +kernel
theorem dX5_clue_10 : decode cX5_clue 10 = .ok (.iload_n 2, 1) := by decide +kernel
theorem dX5_clue_11 : decode cX5_clue 11 = .ok (.iconst 0, 1) := by decide +kernel
theorem dX5_clue_12 : decode cX5_clue 12 = .ok (.iconst 1, 1) := by decide +kernel
theorem dX5_clue_13 : decode cX5_clue 13 = .ok (.invokestatic 46, 3) := by decide +kernel
theorem dX5_clue_16 : decode cX5_clue 16 = .ok (.ifCond .ne 5, 3) := by decide +kernel
theorem dX5_clue_19 : decode cX5_clue 19 = .ok (.iconst (-1), 1) := by decide +kernel
theorem dX5_clue_20 : decode cX5_clue 20 = .ok (.ireturn, 1) := by decide +kernel
theorem dX5_clue_21 : decode cX5_clue 21 = .ok (.aload_n 0, 1) := by decide +kernel
theorem dX5_clue_22 : decode cX5_clue 22 = .ok (.getfield 26, 3) := by decide +kernel
theorem dX5_clue_25 : decode cX5_clue 25 = .ok (.iconst 4, 1) := by decide +kernel
theorem dX5_clue_26 : decode cX5_clue 26 = .ok (.iaload, 1) := by decide +kernel
theorem dX5_clue_27 : decode cX5_clue 27 = .ok (.bipush 8, 2) := by decide +kernel
theorem dX5_clue_29 : decode cX5_clue 29 = .ok (.if_icmp .ne 6, 3) := by decide +kernel
theorem dX5_clue_32 : decode cX5_clue 32 = .ok (.bipush (-3), 2) := by decide +kernel
theorem dX5_clue_34 : decode cX5_clue 34 = .ok (.ireturn, 1) := by decide +kernel
theorem dX5_clue_35 : decode cX5_clue 35 = .ok (.aload_n 0, 1) := by decide +kernel
theorem dX5_clue_36 : decode cX5_clue 36 = .ok (.getfield 26, 3) := by decide +kernel
theorem dX5_clue_39 : decode cX5_clue 39 = .ok (.iconst 5, 1) := by decide +kernel
theorem dX5_clue_40 : decode cX5_clue 40 = .ok (.iconst 2, 1) := by decide +kernel
theorem dX5_clue_41 : decode cX5_clue 41 = .ok (.aload_n 0, 1) := by decide +kernel
theorem dX5_clue_42 : decode cX5_clue 42 = .ok (.getfield 26, 3) := by decide +kernel
theorem dX5_clue_45 : decode cX5_clue 45 = .ok (.iconst 4, 1) := by decide +kernel
theorem dX5_clue_46 : decode cX5_clue 46 = .ok (.iaload, 1) := by decide +kernel
theorem dX5_clue_47 : decode cX5_clue 47 = .ok (.imul, 1) := by decide +kernel
theorem dX5_clue_48 : decode cX5_clue 48 = .ok (.iadd, 1) := by decide +kernel
theorem dX5_clue_49 : decode cX5_clue 49 = .ok (.iload_n 1, 1) := by decide +kernel
theorem dX5_clue_50 : decode cX5_clue 50 = .ok (.iastore, 1) := by decide +kernel
theorem dX5_clue_51 : decode cX5_clue 51 = .ok (.aload_n 0, 1) := by decide +kernel
theorem dX5_clue_52 : decode cX5_clue 52 = .ok (.getfield 26, 3) := by decide +kernel
theorem dX5_clue_55 : decode cX5_clue 55 = .ok (.iconst 5, 1) := by decide +kernel
theorem dX5_clue_56 : decode cX5_clue 56 = .ok (.iconst 2, 1) := by decide +kernel
theorem dX5_clue_57 : decode cX5_clue 57 = .ok (.aload_n 0, 1) := by decide +kernel
theorem dX5_clue_58 : decode cX5_clue 58 = .ok (.getfield 26, 3) := by decide +kernel
theorem dX5_clue_61 : decode cX5_clue 61 = .ok (.iconst 4, 1) := by decide +kernel
theorem dX5_clue_62 : decode cX5_clue 62 = .ok (.iaload, 1) := by decide +kernel
theorem dX5_clue_63 : decode cX5_clue 63 = .ok (.imul, 1) := by decide +kernel
theorem dX5_clue_64 : decode cX5_clue 64 = .ok (.iadd, 1) := by decide +kernel
theorem dX5_clue_65 : decode cX5_clue 65 = .ok (.iconst 1, 1) := by decide +kernel
theorem dX5_clue_66 : decode cX5_clue 66 = .ok (.iadd, 1) := by decide +kernel
theorem dX5_clue_67 : decode cX5_clue 67 = .ok (.iload_n 2, 1) := by decide +kernel
theorem dX5_clue_68 : decode cX5_clue 68 = .ok (.iastore, 1) := by decide +kernel
theorem dX5_clue_69 : decode cX5_clue 69 = .ok (.aload_n 0, 1) := by decide +kernel
theorem dX5_clue_70 : decode cX5_clue 70 = .ok (.getfield 26, 3) := by decide +kernel
theorem dX5_clue_73 : decode cX5_clue 73 = .ok (.iconst 4, 1) := by decide +kernel
theorem dX5_clue_74 : decode cX5_clue 74 = .ok (.dup2, 1) := by decide +kernel
theorem dX5_clue_75 : decode cX5_clue 75 = .ok (.iaload, 1) := by decide +kernel
theorem dX5_clue_76 : decode cX5_clue 76 = .ok (.iconst 1, 1) := by decide +kernel
theorem dX5_clue_77 : decode cX5_clue 77 = .ok (.iadd, 1) := by decide +kernel
theorem dX5_clue_78 : decode cX5_clue 78 = .ok (.iastore, 1) := by decide +kernel
theorem dX5_clue_79 : decode cX5_clue 79 = .ok (.aload_n 0, 1) := by decide +kernel
theorem dX5_clue_80 : decode cX5_clue 80 = .ok (.getfield 26, 3) := by decide +kernel
theorem dX5_clue_83 : decode cX5_clue 83 = .ok (.iconst 4, 1) := by decide +kernel
theorem dX5_clue_84 : decode cX5_clue 84 = .ok (.iaload, 1) := by decide +kernel
theorem dX5_clue_85 : decode cX5_clue 85 = .ok (.ireturn, 1) := by decide +kernel
set_option maxRecDepth 20000 in
theorem ggX5_isFit_X5_isLawful : GoodIn wsX5_isFit wsX5_isLawful := goodIn_r _ [6, 7, 8, 9, 10, 5, 11, 12, 13, 14, 15, 16, 17, 18, 19, 20, 21, 22, 23, 24, 41, 42, 43, 44, 45, 46, 47, 48, 49, 50, 51, 52, 53, 54, 55, 56, 57, 58, 59] (by decide +kernel) (by decide +kernel)
set_option maxRecDepth 20000 in
theorem gX5_isFit_X5_isLawful : GoodIn wsX5_isFit (wsV RX5 138 RX5 yX5_isLawful wsX5_isLawful) := goodIn_app (goodIn_of _ (by decide +kernel)) ggX5_isFit_X5_isLawful
set_option maxRecDepth 20000 in
theorem ggX5_isFit_X5_isLit : GoodIn wsX5_isFit wsX5_isLit := goodIn_r _ [28, 7, 29, 30, 31, 5, 32, 33, 34, 35, 36, 23, 37, 38, 39, 40, 12, 13, 14, 15, 16, 17, 18, 41, 42, 43, 44, 45, 46, 47, 48, 49, 50, 51, 52, 53, 54, 55, 56, 57, 58, 59] (by decide +kernel) (by decide +kernel)
set_option maxRecDepth 20000 in
theorem gX5_isFit_X5_isLit : GoodIn wsX5_isFit (wsV RX5 132 RX5 yX5_isLit wsX5_isLit) := goodIn_app (goodIn_of _ (by decide +kernel)) ggX5_isFit_X5_isLit
theorem dX5_isFit_0 : decode cX5_isFit 0 = .ok (.aload_n 0, 1) := by decide +kernel
theorem dX5_isFit_1 : decode cX5_isFit 1 = .ok (.iload_n 1, 1) := by decide +kernel
theorem dX5_isFit_2 : decode cX5_isFit 2 = .ok (.invokevirtual 138, 3) := by decide +kernel
theorem dX5_isFit_5 : decode cX5_isFit 5 = .ok (.istore_n 2, 1) := by decide +kernel
theorem dX5_isFit_6 : decode cX5_isFit 6 = .ok (.iconst 0, 1) := by decide +kernel
theorem dX5_isFit_7 : decode cX5_isFit 7 = .ok (.istore_n 3, 1) := by decide +kernel
theorem dX5_isFit_8 : decode cX5_isFit 8 = .ok (.iload_n 3, 1) := by decide +kernel
theorem dX5_isFit_9 : decode cX5_isFit 9 = .ok (.aload_n 0, 1) := by decide +kernel
theorem dX5_isFit_10 : decode cX5_isFit 10 = .ok (.getfield 26, 3) := by decide +kernel
theorem dX5_isFit_13 : decode cX5_isFit 13 = .ok (.iconst 4, 1) := by decide +kernel
theorem dX5_isFit_14 : decode cX5_isFit 14 = .ok (.iaload, 1) := by decide +kernel
theorem dX5_isFit_15 : decode cX5_isFit 15 = .ok (.if_icmp .ge 58, 3) := by decide +kernel
theorem dX5_isFit_18 : decode cX5_isFit 18 = .ok (.iload_n 2, 1) := by decide +kernel
theorem dX5_isFit_19 : decode cX5_isFit 19 = .ok (.ifCond .eq 54, 3) := by decide +kernel
theorem dX5_isFit_22 : decode cX5_isFit 22 = .ok (.aload_n 0, 1) := by decide +kernel
theorem dX5_isFit_23 : decode cX5_isFit 23 = .ok (.iload_n 1, 1) := by decide +kernel
theorem dX5_isFit_24 : decode cX5_isFit 24 = .ok (.aload_n 0, 1) := by decide +kernel
theorem dX5_isFit_25 : decode cX5_isFit 25 = .ok (.getfield 26, 3) := by decide +kernel
theorem dX5_isFit_28 : decode cX5_isFit 28 = .ok (.iconst 5, 1) := by decide +kernel
theorem dX5_isFit_29 : decode cX5_isFit 29 = .ok (.iconst 2, 1) := by decide +kernel
theorem dX5_isFit_30 : decode cX5_isFit 30 = .ok (.iload_n 3, 1) := by decide +kernel
theorem dX5_isFit_31 : decode cX5_isFit 31 = .ok (.imul, 1) := by decide +kernel
theorem dX5_isFit_32 : decode cX5_isFit 32 = .ok (.iadd, 1) := by decide +kernel
theorem dX5_isFit_33 : decode cX5_isFit 33 = .ok (.iaload, 1) := by decide +kernel
theorem dX5_isFit_34 : decode cX5_isFit 34 = .ok (.invokevirtual 132, 3) := by decide +kernel
theorem dX5_isFit_37 : decode cX5_isFit 37 = .ok (.aload_n 0, 1) := by decide +kernel
theorem dX5_isFit_38 : decode cX5_isFit 38 = .ok (.getfield 26, 3) := by decide +kernel
theorem dX5_isFit_41 : decode cX5_isFit 41 = .ok (.iconst 5, 1) := by decide +kernel
theorem dX5_isFit_42 : decode cX5_isFit 42 = .ok (.iconst 2, 1) := by decide +kernel
theorem dX5_isFit_43 : decode cX5_isFit 43 = .ok (.iload_n 3, 1) := by decide +kernel
theorem dX5_isFit_44 : decode cX5_isFit 44 = .ok (.imul, 1) := by decide +kernel
theorem dX5_isFit_45 : decode cX5_isFit 45 = .ok (.iadd, 1) := by decide +kernel
theorem dX5_isFit_46 : decode cX5_isFit 46 = .ok (.iconst 1, 1) := by decide +kernel
theorem dX5_isFit_47 : decode cX5_isFit 47 = .ok (.iadd, 1) := by decide +kernel
theorem dX5_isFit_48 : decode cX5_isFit 48 = .ok (.iaload, 1) := by decide +kernel
theorem dX5_isFit_49 : decode cX5_isFit 49 = .ok (.iconst 1, 1) := by decide +kernel
theorem dX5_isFit_50 : decode cX5_isFit 50 = .ok (.if_icmp .ne 7, 3) := by decide +kernel
theorem dX5_isFit_53 : decode cX5_isFit 53 = .ok (.iconst 1, 1) := by decide +kernel
theorem dX5_isFit_54 : decode cX5_isFit 54 = .ok (.goto 4, 3) := by decide +kernel
theorem dX5_isFit_57 : decode cX5_isFit 57 = .ok (.iconst 0, 1) := by decide +kernel
theorem dX5_isFit_58 : decode cX5_isFit 58 = .ok (.if_icmp .ne 7, 3) := by decide +kernel
theorem dX5_isFit_61 : decode cX5_isFit 61 = .ok (.iconst 1, 1) := by decide +kernel
theorem dX5_isFit_62 : decode cX5_isFit 62 = .ok (.goto 4, 3) := by decide +kernel
theorem dX5_isFit_65 : decode cX5_isFit 65 = .ok (.iconst 0, 1) := by decide +kernel
theorem dX5_isFit_66 : decode cX5_isFit 66 = .ok (.istore_n 2, 1) := by decide +kernel
theorem dX5_isFit_67 : decode cX5_isFit 67 = .ok (.iinc 3 1, 3) := by decide +kernel
theorem dX5_isFit_70 : decode cX5_isFit 70 = .ok (.goto (-62), 3) := by decide +kernel
theorem dX5_isFit_73 : decode cX5_isFit 73 = .ok (.iload_n 2, 1) := by decide +kernel
theorem dX5_isFit_74 : decode cX5_isFit 74 = .ok (.ireturn, 1) := by decide +kernel
set_option maxRecDepth 20000 in
theorem ggX5_fit_X5_houses : GoodIn wsX5_fit wsX5_houses := goodIn_r _ [5, 6, 7, 8, 4, 9, 49, 50, 51, 52, 53, 54, 55, 56, 57, 58, 59, 60, 61, 62, 63, 64, 65, 66, 67] (by decide +kernel) (by decide +kernel)
set_option maxRecDepth 20000 in
theorem gX5_fit_X5_houses : GoodIn wsX5_fit (wsV RX5 174 RX5 yX5_houses wsX5_houses) := goodIn_app (goodIn_of _ (by decide +kernel)) ggX5_fit_X5_houses
set_option maxRecDepth 20000 in
theorem ggX5_fit_X5_isFit : GoodIn wsX5_fit wsX5_isFit := goodIn_r _ [13, 14, 15, 16, 17, 4, 18, 6, 19, 20, 21, 22, 23, 24, 25, 26, 7, 8, 9, 27, 28, 29, 30, 31, 32, 33, 34, 35, 36, 37, 38, 39, 40, 41, 42, 43, 44, 45, 46, 47, 48, 49, 50, 51, 52, 53, 54, 55, 56, 57, 58, 59, 60, 61, 62, 63, 64, 65, 66, 67] (by decide +kernel) (by decide +kernel)
set_option maxRecDepth 20000 in
theorem gX5_fit_X5_isFit : GoodIn wsX5_fit (wsV RX5 177 RX5 yX5_isFit wsX5_isFit) := goodIn_app (goodIn_of _ (by decide +kernel)) ggX5_fit_X5_isFit
theorem dX5_fit_0 : decode cX5_fit 0 = .ok (.iconst 0, 1) := by decide +kernel
theorem dX5_fit_1 : decode cX5_fit 1 = .ok (.istore_n 1, 1) := by decide +kernel
theorem dX5_fit_2 : decode cX5_fit 2 = .ok (.iconst 0, 1) := by decide +kernel
theorem dX5_fit_3 : decode cX5_fit 3 = .ok (.istore_n 2, 1) := by decide +kernel
theorem dX5_fit_4 : decode cX5_fit 4 = .ok (.iload_n 2, 1) := by decide +kernel
theorem dX5_fit_5 : decode cX5_fit 5 = .ok (.aload_n 0, 1) := by decide +kernel
theorem dX5_fit_6 : decode cX5_fit 6 = .ok (.invokevirtual 174, 3) := by decide +kernel
theorem dX5_fit_9 : decode cX5_fit 9 = .ok (.if_icmp .ge 25, 3) := by decide +kernel
theorem dX5_fit_12 : decode cX5_fit 12 = .ok (.iload_n 1, 1) := by decide +kernel
theorem dX5_fit_13 : decode cX5_fit 13 = .ok (.aload_n 0, 1) := by decide +kernel
theorem dX5_fit_14 : decode cX5_fit 14 = .ok (.iload_n 2, 1) := by decide +kernel
theorem dX5_fit_15 : decode cX5_fit 15 = .ok (.invokevirtual 177, 3) := by decide +kernel
theorem dX5_fit_18 : decode cX5_fit 18 = .ok (.ifCond .eq 7, 3) := by decide +kernel
theorem dX5_fit_21 : decode cX5_fit 21 = .ok (.iconst 1, 1) := by decide +kernel
theorem dX5_fit_22 : decode cX5_fit 22 = .ok (.goto 4, 3) := by decide +kernel
theorem dX5_fit_25 : decode cX5_fit 25 = .ok (.iconst 0, 1) := by decide +kernel
theorem dX5_fit_26 : decode cX5_fit 26 = .ok (.iadd, 1) := by decide +kernel
theorem dX5_fit_27 : decode cX5_fit 27 = .ok (.istore_n 1, 1) := by decide +kernel
theorem dX5_fit_28 : decode cX5_fit 28 = .ok (.iinc 2 1, 3) := by decide +kernel
theorem dX5_fit_31 : decode cX5_fit 31 = .ok (.goto (-27), 3) := by decide +kernel
theorem dX5_fit_34 : decode cX5_fit 34 = .ok (.iload_n 1, 1) := by decide +kernel
theorem dX5_fit_35 : decode cX5_fit 35 = .ok (.ireturn, 1) := by decide +kernel
set_option maxRecDepth 20000 in
theorem ggX5_sure_X5_isPanel : GoodIn wsX5_sure wsX5_isPanel := goodIn_r _ [5, 6, 7, 8, 4, 9, 56, 57, 58, 59, 60, 61, 62, 63, 64, 65, 66, 67, 68, 69, 70, 71, 72, 73, 74] (by decide +kernel) (by decide +kernel)
set_option maxRecDepth 20000 in
theorem gX5_sure_X5_isPanel : GoodIn wsX5_sure (wsV RX5 135 RX5 yX5_isPanel wsX5_isPanel) := goodIn_app (goodIn_of _ (by decide +kernel)) ggX5_sure_X5_isPanel
set_option maxRecDepth 20000 in
theorem ggX5_sure_X5_houses : GoodIn wsX5_sure wsX5_houses := goodIn_r _ [13, 6, 14, 15, 4, 16, 56, 57, 58, 59, 60, 61, 62, 63, 64, 65, 66, 67, 68, 69, 70, 71, 72, 73, 74] (by decide +kernel) (by decide +kernel)
set_option maxRecDepth 20000 in
theorem gX5_sure_X5_houses : GoodIn wsX5_sure (wsV RX5 174 RX5 yX5_houses wsX5_houses) := goodIn_app (goodIn_of _ (by decide +kernel)) ggX5_sure_X5_houses
set_option maxRecDepth 20000 in
theorem ggX5_sure_X5_isFit : GoodIn wsX5_sure wsX5_isFit := goodIn_r _ [20, 21, 22, 23, 24, 4, 25, 6, 26, 27, 28, 29, 30, 31, 32, 33, 14, 15, 16, 34, 35, 36, 37, 38, 39, 40, 41, 42, 43, 44, 45, 46, 47, 48, 49, 50, 51, 52, 53, 54, 55, 56, 57, 58, 59, 60, 61, 62, 63, 64, 65, 66, 67, 68, 69, 70, 71, 72, 73, 74] (by decide +kernel) (by decide +kernel)
set_option maxRecDepth 20000 in
theorem gX5_sure_X5_isFit : GoodIn wsX5_sure (wsV RX5 177 RX5 yX5_isFit wsX5_isFit) := goodIn_app (goodIn_of _ (by decide +kernel)) ggX5_sure_X5_isFit
set_option maxRecDepth 20000 in
theorem ggX5_sure_X5_slotIn : GoodIn wsX5_sure wsX5_slotIn := goodIn_r _ [33, 6, 14, 15, 4, 16, 56, 57, 58, 59, 60, 61, 62, 63, 64, 65, 66, 67, 68, 69, 70, 71, 72, 73, 74] (by decide +kernel) (by decide +kernel)
set_option maxRecDepth 20000 in
theorem gX5_sure_X5_slotIn : GoodIn wsX5_sure (wsV RX5 110 RX5 yX5_slotIn wsX5_slotIn) := goodIn_app (goodIn_of _ (by decide +kernel)) ggX5_sure_X5_slotIn
theorem dX5_sure_0 : decode cX5_sure 0 = .ok (.aload_n 0, 1) := by decide +kernel
theorem dX5_sure_1 : decode cX5_sure 1 = .ok (.iload_n 1, 1) := by decide +kernel
theorem dX5_sure_2 : decode cX5_sure 2 = .ok (.invokevirtual 135, 3) := by decide +kernel
theorem dX5_sure_5 : decode cX5_sure 5 = .ok (.ifCond .ne 5, 3) := by decide +kernel
theorem dX5_sure_8 : decode cX5_sure 8 = .ok (.iconst (-1), 1) := by decide +kernel
theorem dX5_sure_9 : decode cX5_sure 9 = .ok (.ireturn, 1) := by decide +kernel
theorem dX5_sure_10 : decode cX5_sure 10 = .ok (.iconst 0, 1) := by decide +kernel
theorem dX5_sure_11 : decode cX5_sure 11 = .ok (.istore_n 2, 1) := by decide +kernel
theorem dX5_sure_12 : decode cX5_sure 12 = .ok (.iconst 0, 1) := by decide +kernel
theorem dX5_sure_13 : decode cX5_sure 13 = .ok (.istore_n 3, 1) := by decide +kernel
theorem dX5_sure_14 : decode cX5_sure 14 = .ok (.iload_n 3, 1) := by decide +kernel
theorem dX5_sure_15 : decode cX5_sure 15 = .ok (.aload_n 0, 1) := by decide +kernel
theorem dX5_sure_16 : decode cX5_sure 16 = .ok (.invokevirtual 174, 3) := by decide +kernel
theorem dX5_sure_19 : decode cX5_sure 19 = .ok (.if_icmp .ge 32, 3) := by decide +kernel
theorem dX5_sure_22 : decode cX5_sure 22 = .ok (.iload_n 2, 1) := by decide +kernel
theorem dX5_sure_23 : decode cX5_sure 23 = .ok (.aload_n 0, 1) := by decide +kernel
theorem dX5_sure_24 : decode cX5_sure 24 = .ok (.iload_n 3, 1) := by decide +kernel
theorem dX5_sure_25 : decode cX5_sure 25 = .ok (.invokevirtual 177, 3) := by decide +kernel
theorem dX5_sure_28 : decode cX5_sure 28 = .ok (.ifCond .eq 14, 3) := by decide +kernel
theorem dX5_sure_31 : decode cX5_sure 31 = .ok (.iconst 1, 1) := by decide +kernel
theorem dX5_sure_32 : decode cX5_sure 32 = .ok (.aload_n 0, 1) := by decide +kernel
theorem dX5_sure_33 : decode cX5_sure 33 = .ok (.iload_n 3, 1) := by decide +kernel
theorem dX5_sure_34 : decode cX5_sure 34 = .ok (.iload_n 1, 1) := by decide +kernel
theorem dX5_sure_35 : decode cX5_sure 35 = .ok (.invokevirtual 110, 3) := by decide +kernel
theorem dX5_sure_38 : decode cX5_sure 38 = .ok (.ishl, 1) := by decide +kernel
theorem dX5_sure_39 : decode cX5_sure 39 = .ok (.goto 4, 3) := by decide +kernel
theorem dX5_sure_42 : decode cX5_sure 42 = .ok (.iconst 0, 1) := by decide +kernel
theorem dX5_sure_43 : decode cX5_sure 43 = .ok (.ior, 1) := by decide +kernel
theorem dX5_sure_44 : decode cX5_sure 44 = .ok (.istore_n 2, 1) := by decide +kernel
theorem dX5_sure_45 : decode cX5_sure 45 = .ok (.iinc 3 1, 3) := by decide +kernel
theorem dX5_sure_48 : decode cX5_sure 48 = .ok (.goto (-34), 3) := by decide +kernel
theorem dX5_sure_51 : decode cX5_sure 51 = .ok (.bipush (-9), 2) := by decide +kernel
theorem dX5_sure_53 : decode cX5_sure 53 = .ok (.istore_n 3, 1) := by decide +kernel
theorem dX5_sure_54 : decode cX5_sure 54 = .ok (.iconst 0, 1) := by decide +kernel
theorem dX5_sure_55 : decode cX5_sure 55 = .ok (.istore 4, 2) := by decide +kernel
theorem dX5_sure_57 : decode cX5_sure 57 = .ok (.iload 4, 2) := by decide +kernel
theorem dX5_sure_59 : decode cX5_sure 59 = .ok (.bipush 8, 2) := by decide +kernel
theorem dX5_sure_61 : decode cX5_sure 61 = .ok (.if_icmp .gt 24, 3) := by decide +kernel
theorem dX5_sure_64 : decode cX5_sure 64 = .ok (.iload_n 2, 1) := by decide +kernel
theorem dX5_sure_65 : decode cX5_sure 65 = .ok (.iconst 1, 1) := by decide +kernel
theorem dX5_sure_66 : decode cX5_sure 66 = .ok (.iload 4, 2) := by decide +kernel
theorem dX5_sure_68 : decode cX5_sure 68 = .ok (.ishl, 1) := by decide +kernel
theorem dX5_sure_69 : decode cX5_sure 69 = .ok (.if_icmp .ne 8, 3) := by decide +kernel
theorem dX5_sure_72 : decode cX5_sure 72 = .ok (.iload 4, 2) := by decide +kernel
theorem dX5_sure_74 : decode cX5_sure 74 = .ok (.goto 4, 3) := by decide +kernel
theorem dX5_sure_77 : decode cX5_sure 77 = .ok (.iload_n 3, 1) := by decide +kernel
theorem dX5_sure_78 : decode cX5_sure 78 = .ok (.istore_n 3, 1) := by decide +kernel
theorem dX5_sure_79 : decode cX5_sure 79 = .ok (.iinc 4 1, 3) := by decide +kernel
theorem dX5_sure_82 : decode cX5_sure 82 = .ok (.goto (-25), 3) := by decide +kernel
theorem dX5_sure_85 : decode cX5_sure 85 = .ok (.iload_n 3, 1) := by decide +kernel
theorem dX5_sure_86 : decode cX5_sure 86 = .ok (.ireturn, 1) := by decide +kernel
theorem dX5_forget_0 : decode cX5_forget 0 = .ok (.aload_n 0, 1) := by decide +kernel
theorem dX5_forget_1 : decode cX5_forget 1 = .ok (.getfield 26, 3) := by decide +kernel
theorem dX5_forget_4 : decode cX5_forget 4 = .ok (.iconst 4, 1) := by decide +kernel
theorem dX5_forget_5 : decode cX5_forget 5 = .ok (.iaload, 1) := by decide +kernel
theorem dX5_forget_6 : decode cX5_forget 6 = .ok (.istore_n 1, 1) := by decide +kernel
theorem dX5_forget_7 : decode cX5_forget 7 = .ok (.aload_n 0, 1) := by decide +kernel
theorem dX5_forget_8 : decode cX5_forget 8 = .ok (.getfield 26, 3) := by decide +kernel
theorem dX5_forget_11 : decode cX5_forget 11 = .ok (.iconst 4, 1) := by decide +kernel
theorem dX5_forget_12 : decode cX5_forget 12 = .ok (.iconst 0, 1) := by decide +kernel
theorem dX5_forget_13 : decode cX5_forget 13 = .ok (.iastore, 1) := by decide +kernel
theorem dX5_forget_14 : decode cX5_forget 14 = .ok (.iload_n 1, 1) := by decide +kernel
theorem dX5_forget_15 : decode cX5_forget 15 = .ok (.ireturn, 1) := by decide +kernel
set_option maxRecDepth 20000 in
theorem ggX5_mark_X5_in : GoodIn wsX5_mark wsX5_in := goodIn_r _ [13] (by decide +kernel) (by decide +kernel)
set_option maxRecDepth 20000 in
theorem gX5_mark_X5_in : GoodIn wsX5_mark (va_wsS RX5 46 yX5_in wsX5_in) := goodIn_app (goodIn_of _ (by decide +kernel)) ggX5_mark_X5_in
set_option maxRecDepth 20000 in
theorem ggX5_mark_X5_isPanel : GoodIn wsX5_mark wsX5_isPanel := goodIn_r _ [17, 18, 10, 11, 12, 13, 30, 31, 32, 33, 34, 35, 36, 37, 38, 39, 40, 41, 42, 43, 44, 45, 46, 47, 48] (by decide +kernel) (by decide +kernel)
set_option maxRecDepth 20000 in
theorem gX5_mark_X5_isPanel : GoodIn wsX5_mark (wsV RX5 135 RX5 yX5_isPanel wsX5_isPanel) := goodIn_app (goodIn_of _ (by decide +kernel)) ggX5_mark_X5_isPanel
set_option maxRecDepth 20000 in
theorem ggX5_mark_X5_slotIn : GoodIn wsX5_mark wsX5_slotIn := goodIn_r _ [22, 18, 23, 24, 12, 25, 30, 31, 32, 33, 34, 35, 36, 37, 38, 39, 40, 41, 42, 43, 44, 45, 46, 47, 48] (by decide +kernel) (by decide +kernel)
set_option maxRecDepth 20000 in
theorem gX5_mark_X5_slotIn : GoodIn wsX5_mark (wsV RX5 110 RX5 yX5_slotIn wsX5_slotIn) := goodIn_app (goodIn_of _ (by decide +kernel)) ggX5_mark_X5_slotIn
set_option maxRecDepth 20000 in
theorem ggX5_mark_X5_lying : GoodIn wsX5_mark wsX5_lying := goodIn_r _ [29, 18, 19, 20, 21, 12, 22, 23, 24, 25, 30, 31, 32, 33, 34, 35, 36, 37, 38, 39, 40, 41, 42, 43, 44, 45, 46, 47, 48] (by decide +kernel) (by decide +kernel)
set_option maxRecDepth 20000 in
theorem gX5_mark_X5_lying : GoodIn wsX5_mark (wsV RX5 113 RX5 yX5_lying wsX5_lying) := goodIn_app (goodIn_of _ (by decide +kernel)) ggX5_mark_X5_lying
theorem dX5_mark_0 : decode cX5_mark 0 = .ok (.iload_n 1, 1) := by decide +kernel
theorem dX5_mark_1 : decode cX5_mark 1 = .ok (.iconst 0, 1) := by decide +kernel
theorem dX5_mark_2 : decode cX5_mark 2 = .ok (.iconst 5, 1) := by decide +kernel
theorem dX5_mark_3 : decode cX5_mark 3 = .ok (.invokestatic 46, 3) := by decide +kernel
theorem dX5_mark_6 : decode cX5_mark 6 = .ok (.ifCond .eq 11, 3) := by decide +kernel
theorem dX5_mark_9 : decode cX5_mark 9 = .ok (.aload_n 0, 1) := by decide +kernel
theorem dX5_mark_10 : decode cX5_mark 10 = .ok (.iload_n 2, 1) := by decide +kernel
theorem dX5_mark_11 : decode cX5_mark 11 = .ok (.invokevirtual 135, 3) := by decide +kernel
theorem dX5_mark_14 : decode cX5_mark 14 = .ok (.ifCond .ne 6, 3) := by decide +kernel
theorem dX5_mark_17 : decode cX5_mark 17 = .ok (.ldc 151, 2) := by decide +kernel
theorem dX5_mark_19 : decode cX5_mark 19 = .ok (.ireturn, 1) := by decide +kernel
theorem dX5_mark_20 : decode cX5_mark 20 = .ok (.aload_n 0, 1) := by decide +kernel
theorem dX5_mark_21 : decode cX5_mark 21 = .ok (.aload_n 0, 1) := by decide +kernel
theorem dX5_mark_22 : decode cX5_mark 22 = .ok (.getfield 26, 3) := by decide +kernel
theorem dX5_mark_25 : decode cX5_mark 25 = .ok (.iconst 0, 1) := by decide +kernel
theorem dX5_mark_26 : decode cX5_mark 26 = .ok (.iaload, 1) := by decide +kernel
theorem dX5_mark_27 : decode cX5_mark 27 = .ok (.iload_n 2, 1) := by decide +kernel
theorem dX5_mark_28 : decode cX5_mark 28 = .ok (.invokevirtual 110, 3) := by decide +kernel
theorem dX5_mark_31 : decode cX5_mark 31 = .ok (.istore_n 3, 1) := by decide +kernel
theorem dX5_mark_32 : decode cX5_mark 32 = .ok (.iload_n 1, 1) := by decide +kernel
theorem dX5_mark_33 : decode cX5_mark 33 = .ok (.tableswitch 139 0 4 #[35, 47, 63, 84, 107], 35) := by decide +kernel
theorem dX5_mark_68 : decode cX5_mark 68 = .ok (.aload_n 0, 1) := by decide +kernel
theorem dX5_mark_69 : decode cX5_mark 69 = .ok (.dup, 1) := by decide +kernel
theorem dX5_mark_70 : decode cX5_mark 70 = .ok (.getfield 180, 3) := by decide +kernel
theorem dX5_mark_73 : decode cX5_mark 73 = .ok (.lconst 1, 1) := by decide +kernel
theorem dX5_mark_74 : decode cX5_mark 74 = .ok (.ladd, 1) := by decide +kernel
theorem dX5_mark_75 : decode cX5_mark 75 = .ok (.putfield 180, 3) := by decide +kernel
theorem dX5_mark_78 : decode cX5_mark 78 = .ok (.iload_n 3, 1) := by decide +kernel
theorem dX5_mark_79 : decode cX5_mark 79 = .ok (.ireturn, 1) := by decide +kernel
theorem dX5_mark_80 : decode cX5_mark 80 = .ok (.aload_n 0, 1) := by decide +kernel
theorem dX5_mark_81 : decode cX5_mark 81 = .ok (.dup, 1) := by decide +kernel
theorem dX5_mark_82 : decode cX5_mark 82 = .ok (.getfield 180, 3) := by decide +kernel
theorem dX5_mark_85 : decode cX5_mark 85 = .ok (.ldc2_w 184, 3) := by decide +kernel
theorem dX5_mark_88 : decode cX5_mark 88 = .ok (.ladd, 1) := by decide +kernel
theorem dX5_mark_89 : decode cX5_mark 89 = .ok (.putfield 180, 3) := by decide +kernel
theorem dX5_mark_92 : decode cX5_mark 92 = .ok (.iconst 2, 1) := by decide +kernel
theorem dX5_mark_93 : decode cX5_mark 93 = .ok (.iload_n 3, 1) := by decide +kernel
theorem dX5_mark_94 : decode cX5_mark 94 = .ok (.imul, 1) := by decide +kernel
theorem dX5_mark_95 : decode cX5_mark 95 = .ok (.ireturn, 1) := by decide +kernel
theorem dX5_mark_96 : decode cX5_mark 96 = .ok (.aload_n 0, 1) := by decide +kernel
theorem dX5_mark_97 : decode cX5_mark 97 = .ok (.dup, 1) := by decide +kernel
theorem dX5_mark_98 : decode cX5_mark 98 = .ok (.getfield 180, 3) := by decide +kernel
theorem dX5_mark_101 : decode cX5_mark 101 = .ok (.ldc2_w 186, 3) := by decide +kernel
theorem dX5_mark_104 : decode cX5_mark 104 = .ok (.ladd, 1) := by decide +kernel
theorem dX5_mark_105 : decode cX5_mark 105 = .ok (.putfield 180, 3) := by decide +kernel
theorem dX5_mark_108 : decode cX5_mark 108 = .ok (.iload_n 3, 1) := by decide +kernel
theorem dX5_mark_109 : decode cX5_mark 109 = .ok (.aload_n 0, 1) := by decide +kernel
theorem dX5_mark_110 : decode cX5_mark 110 = .ok (.getfield 17, 3) := by decide +kernel
theorem dX5_mark_113 : decode cX5_mark 113 = .ok (.iload_n 2, 1) := by decide +kernel
theorem dX5_mark_114 : decode cX5_mark 114 = .ok (.iaload, 1) := by decide +kernel
theorem dX5_mark_115 : decode cX5_mark 115 = .ok (.iadd, 1) := by decide +kernel
theorem dX5_mark_116 : decode cX5_mark 116 = .ok (.ireturn, 1) := by decide +kernel
theorem dX5_mark_117 : decode cX5_mark 117 = .ok (.aload_n 0, 1) := by decide +kernel
theorem dX5_mark_118 : decode cX5_mark 118 = .ok (.dup, 1) := by decide +kernel
theorem dX5_mark_119 : decode cX5_mark 119 = .ok (.getfield 180, 3) := by decide +kernel
theorem dX5_mark_122 : decode cX5_mark 122 = .ok (.ldc2_w 188, 3) := by decide +kernel
theorem dX5_mark_125 : decode cX5_mark 125 = .ok (.ladd, 1) := by decide +kernel
theorem dX5_mark_126 : decode cX5_mark 126 = .ok (.putfield 180, 3) := by decide +kernel
theorem dX5_mark_129 : decode cX5_mark 129 = .ok (.iconst 2, 1) := by decide +kernel
theorem dX5_mark_130 : decode cX5_mark 130 = .ok (.iload_n 3, 1) := by decide +kernel
theorem dX5_mark_131 : decode cX5_mark 131 = .ok (.imul, 1) := by decide +kernel
theorem dX5_mark_132 : decode cX5_mark 132 = .ok (.aload_n 0, 1) := by decide +kernel
theorem dX5_mark_133 : decode cX5_mark 133 = .ok (.getfield 26, 3) := by decide +kernel
theorem dX5_mark_136 : decode cX5_mark 136 = .ok (.iconst 1, 1) := by decide +kernel
theorem dX5_mark_137 : decode cX5_mark 137 = .ok (.iaload, 1) := by decide +kernel
theorem dX5_mark_138 : decode cX5_mark 138 = .ok (.iadd, 1) := by decide +kernel
theorem dX5_mark_139 : decode cX5_mark 139 = .ok (.ireturn, 1) := by decide +kernel
theorem dX5_mark_140 : decode cX5_mark 140 = .ok (.aload_n 0, 1) := by decide +kernel
theorem dX5_mark_141 : decode cX5_mark 141 = .ok (.dup, 1) := by decide +kernel
theorem dX5_mark_142 : decode cX5_mark 142 = .ok (.getfield 180, 3) := by decide +kernel
theorem dX5_mark_145 : decode cX5_mark 145 = .ok (.ldc2_w 190, 3) := by decide +kernel
theorem dX5_mark_148 : decode cX5_mark 148 = .ok (.ladd, 1) := by decide +kernel
theorem dX5_mark_149 : decode cX5_mark 149 = .ok (.putfield 180, 3) := by decide +kernel
theorem dX5_mark_152 : decode cX5_mark 152 = .ok (.iload_n 3, 1) := by decide +kernel
theorem dX5_mark_153 : decode cX5_mark 153 = .ok (.aload_n 0, 1) := by decide +kernel
theorem dX5_mark_154 : decode cX5_mark 154 = .ok (.getfield 17, 3) := by decide +kernel
theorem dX5_mark_157 : decode cX5_mark 157 = .ok (.iload_n 2, 1) := by decide +kernel
theorem dX5_mark_158 : decode cX5_mark 158 = .ok (.iaload, 1) := by decide +kernel
theorem dX5_mark_159 : decode cX5_mark 159 = .ok (.iadd, 1) := by decide +kernel
theorem dX5_mark_160 : decode cX5_mark 160 = .ok (.aload_n 0, 1) := by decide +kernel
theorem dX5_mark_161 : decode cX5_mark 161 = .ok (.aload_n 0, 1) := by decide +kernel
theorem dX5_mark_162 : decode cX5_mark 162 = .ok (.getfield 26, 3) := by decide +kernel
theorem dX5_mark_165 : decode cX5_mark 165 = .ok (.iconst 0, 1) := by decide +kernel
theorem dX5_mark_166 : decode cX5_mark 166 = .ok (.iaload, 1) := by decide +kernel
theorem dX5_mark_167 : decode cX5_mark 167 = .ok (.invokevirtual 113, 3) := by decide +kernel
theorem dX5_mark_170 : decode cX5_mark 170 = .ok (.iadd, 1) := by decide +kernel
theorem dX5_mark_171 : decode cX5_mark 171 = .ok (.ireturn, 1) := by decide +kernel
theorem dX5_mark_172 : decode cX5_mark 172 = .ok (.aload_n 0, 1) := by decide +kernel
theorem dX5_mark_173 : decode cX5_mark 173 = .ok (.dup, 1) := by decide +kernel
theorem dX5_mark_174 : decode cX5_mark 174 = .ok (.getfield 180, 3) := by decide +kernel
theorem dX5_mark_177 : decode cX5_mark 177 = .ok (.ldc2_w 192, 3) := by decide +kernel
theorem dX5_mark_180 : decode cX5_mark 180 = .ok (.ladd, 1) := by decide +kernel
theorem dX5_mark_181 : decode cX5_mark 181 = .ok (.putfield 180, 3) := by decide +kernel
theorem dX5_mark_184 : decode cX5_mark 184 = .ok (.iload_n 3, 1) := by decide +kernel
theorem dX5_mark_185 : decode cX5_mark 185 = .ok (.iload_n 2, 1) := by decide +kernel
theorem dX5_mark_186 : decode cX5_mark 186 = .ok (.isub, 1) := by decide +kernel
theorem dX5_mark_187 : decode cX5_mark 187 = .ok (.ireturn, 1) := by decide +kernel
theorem dX5_copy_0 : decode cX5_copy 0 = .ok (.iconst 0, 1) := by decide +kernel
theorem dX5_copy_1 : decode cX5_copy 1 = .ok (.istore_n 3, 1) := by decide +kernel
theorem dX5_copy_2 : decode cX5_copy 2 = .ok (.iload_n 3, 1) := by decide +kernel
theorem dX5_copy_3 : decode cX5_copy 3 = .ok (.bipush 21, 2) := by decide +kernel
theorem dX5_copy_5 : decode cX5_copy 5 = .ok (.if_icmp .ge 25, 3) := by decide +kernel
theorem dX5_copy_8 : decode cX5_copy 8 = .ok (.aload_n 0, 1) := by decide +kernel
theorem dX5_copy_9 : decode cX5_copy 9 = .ok (.getfield 26, 3) := by decide +kernel
theorem dX5_copy_12 : decode cX5_copy 12 = .ok (.iload_n 2, 1) := by decide +kernel
theorem dX5_copy_13 : decode cX5_copy 13 = .ok (.iload_n 3, 1) := by decide +kernel
theorem dX5_copy_14 : decode cX5_copy 14 = .ok (.iadd, 1) := by decide +kernel
theorem dX5_copy_15 : decode cX5_copy 15 = .ok (.aload_n 0, 1) := by decide +kernel
theorem dX5_copy_16 : decode cX5_copy 16 = .ok (.getfield 26, 3) := by decide +kernel
theorem dX5_copy_19 : decode cX5_copy 19 = .ok (.iload_n 1, 1) := by decide +kernel
theorem dX5_copy_20 : decode cX5_copy 20 = .ok (.iload_n 3, 1) := by decide +kernel
theorem dX5_copy_21 : decode cX5_copy 21 = .ok (.iadd, 1) := by decide +kernel
theorem dX5_copy_22 : decode cX5_copy 22 = .ok (.iaload, 1) := by decide +kernel
theorem dX5_copy_23 : decode cX5_copy 23 = .ok (.iastore, 1) := by decide +kernel
theorem dX5_copy_24 : decode cX5_copy 24 = .ok (.iinc 3 1, 3) := by decide +kernel
theorem dX5_copy_27 : decode cX5_copy 27 = .ok (.goto (-25), 3) := by decide +kernel
theorem dX5_copy_30 : decode cX5_copy 30 = .ok (.return_, 1) := by decide +kernel
set_option maxRecDepth 20000 in
theorem ggX5_keep_X5_in : GoodIn wsX5_keep wsX5_in := goodIn_r _ [6] (by decide +kernel) (by decide +kernel)
set_option maxRecDepth 20000 in
theorem gX5_keep_X5_in : GoodIn wsX5_keep (va_wsS RX5 46 yX5_in wsX5_in) := goodIn_app (goodIn_of _ (by decide +kernel)) ggX5_keep_X5_in
set_option maxRecDepth 20000 in
theorem ggX5_keep_X5_copy : GoodIn wsX5_keep wsX5_copy := goodIn_r _ [10, 2, 11, 12, 13, 14, 15, 16, 17, 18, 19, 20, 21, 22, 23, 24, 25, 26, 27, 28, 29] (by decide +kernel) (by decide +kernel)
set_option maxRecDepth 20000 in
theorem gX5_keep_X5_copy : GoodIn wsX5_keep (wsV RX5 194 RX5 yX5_copy wsX5_copy) := goodIn_app (goodIn_of _ (by decide +kernel)) ggX5_keep_X5_copy
theorem dX5_keep_0 : decode cX5_keep 0 = .ok (.iload_n 1, 1) := by decide +kernel
theorem dX5_keep_1 : decode cX5_keep 1 = .ok (.iconst 0, 1) := by decide +kernel
theorem dX5_keep_2 : decode cX5_keep 2 = .ok (.iconst 1, 1) := by decide +kernel
theorem dX5_keep_3 : decode cX5_keep 3 = .ok (.invokestatic 46, 3) := by decide +kernel
theorem dX5_keep_6 : decode cX5_keep 6 = .ok (.ifCond .ne 5, 3) := by decide +kernel
theorem dX5_keep_9 : decode cX5_keep 9 = .ok (.iconst (-1), 1) := by decide +kernel
theorem dX5_keep_10 : decode cX5_keep 10 = .ok (.ireturn, 1) := by decide +kernel
theorem dX5_keep_11 : decode cX5_keep 11 = .ok (.aload_n 0, 1) := by decide +kernel
theorem dX5_keep_12 : decode cX5_keep 12 = .ok (.iconst 0, 1) := by decide +kernel
theorem dX5_keep_13 : decode cX5_keep 13 = .ok (.bipush 21, 2) := by decide +kernel
theorem dX5_keep_15 : decode cX5_keep 15 = .ok (.iconst 1, 1) := by decide +kernel
theorem dX5_keep_16 : decode cX5_keep 16 = .ok (.iload_n 1, 1) := by decide +kernel
theorem dX5_keep_17 : decode cX5_keep 17 = .ok (.iadd, 1) := by decide +kernel
theorem dX5_keep_18 : decode cX5_keep 18 = .ok (.imul, 1) := by decide +kernel
theorem dX5_keep_19 : decode cX5_keep 19 = .ok (.invokevirtual 194, 3) := by decide +kernel
theorem dX5_keep_22 : decode cX5_keep 22 = .ok (.aload_n 0, 1) := by decide +kernel
theorem dX5_keep_23 : decode cX5_keep 23 = .ok (.getfield 29, 3) := by decide +kernel
theorem dX5_keep_26 : decode cX5_keep 26 = .ok (.iload_n 1, 1) := by decide +kernel
theorem dX5_keep_27 : decode cX5_keep 27 = .ok (.iconst 1, 1) := by decide +kernel
theorem dX5_keep_28 : decode cX5_keep 28 = .ok (.bastore, 1) := by decide +kernel
theorem dX5_keep_29 : decode cX5_keep 29 = .ok (.aload_n 0, 1) := by decide +kernel
theorem dX5_keep_30 : decode cX5_keep 30 = .ok (.getfield 26, 3) := by decide +kernel
theorem dX5_keep_33 : decode cX5_keep 33 = .ok (.iconst 1, 1) := by decide +kernel
theorem dX5_keep_34 : decode cX5_keep 34 = .ok (.iaload, 1) := by decide +kernel
theorem dX5_keep_35 : decode cX5_keep 35 = .ok (.ireturn, 1) := by decide +kernel
set_option maxRecDepth 20000 in
theorem ggX5_back_X5_refuses : GoodIn wsX5_back wsX5_refuses := goodIn_r _ [6, 7, 8, 9, 5, 10, 15, 16, 17, 18, 19, 20, 21, 22, 23, 24, 25, 26, 27, 28, 29, 30, 31, 32, 33] (by decide +kernel) (by decide +kernel)
set_option maxRecDepth 20000 in
theorem gX5_back_X5_refuses : GoodIn wsX5_back (wsV RX5 165 RX5 yX5_refuses wsX5_refuses) := goodIn_app (goodIn_of _ (by decide +kernel)) ggX5_back_X5_refuses
set_option maxRecDepth 20000 in
theorem ggX5_back_X5_copy : GoodIn wsX5_back wsX5_copy := goodIn_r _ [14, 1, 15, 16, 17, 18, 19, 20, 21, 22, 23, 24, 25, 26, 27, 28, 29, 30, 31, 32, 33] (by decide +kernel) (by decide +kernel)
set_option maxRecDepth 20000 in
theorem gX5_back_X5_copy : GoodIn wsX5_back (wsV RX5 194 RX5 yX5_copy wsX5_copy) := goodIn_app (goodIn_of _ (by decide +kernel)) ggX5_back_X5_copy
theorem dX5_back_0 : decode cX5_back 0 = .ok (.aload_n 0, 1) := by decide +kernel
theorem dX5_back_1 : decode cX5_back 1 = .ok (.iload_n 1, 1) := by decide +kernel
theorem dX5_back_2 : decode cX5_back 2 = .ok (.invokevirtual 165, 3) := by decide +kernel
theorem dX5_back_5 : decode cX5_back 5 = .ok (.ifCond .eq 9, 3) := by decide +kernel
theorem dX5_back_8 : decode cX5_back 8 = .ok (.aload_n 0, 1) := by decide +kernel
theorem dX5_back_9 : decode cX5_back 9 = .ok (.iload_n 1, 1) := by decide +kernel
theorem dX5_back_10 : decode cX5_back 10 = .ok (.invokevirtual 165, 3) := by decide +kernel
theorem dX5_back_13 : decode cX5_back 13 = .ok (.ireturn, 1) := by decide +kernel
theorem dX5_back_14 : decode cX5_back 14 = .ok (.aload_n 0, 1) := by decide +kernel
theorem dX5_back_15 : decode cX5_back 15 = .ok (.bipush 21, 2) := by decide +kernel
theorem dX5_back_17 : decode cX5_back 17 = .ok (.iconst 1, 1) := by decide +kernel
theorem dX5_back_18 : decode cX5_back 18 = .ok (.iload_n 1, 1) := by decide +kernel
theorem dX5_back_19 : decode cX5_back 19 = .ok (.iadd, 1) := by decide +kernel
theorem dX5_back_20 : decode cX5_back 20 = .ok (.imul, 1) := by decide +kernel
theorem dX5_back_21 : decode cX5_back 21 = .ok (.iconst 0, 1) := by decide +kernel
theorem dX5_back_22 : decode cX5_back 22 = .ok (.invokevirtual 194, 3) := by decide +kernel
theorem dX5_back_25 : decode cX5_back 25 = .ok (.aload_n 0, 1) := by decide +kernel
theorem dX5_back_26 : decode cX5_back 26 = .ok (.getfield 26, 3) := by decide +kernel
theorem dX5_back_29 : decode cX5_back 29 = .ok (.iconst 1, 1) := by decide +kernel
theorem dX5_back_30 : decode cX5_back 30 = .ok (.iaload, 1) := by decide +kernel
theorem dX5_back_31 : decode cX5_back 31 = .ok (.ireturn, 1) := by decide +kernel
set_option maxRecDepth 20000 in
theorem ggX5_count_X5_lying : GoodIn wsX5_count wsX5_lying := goodIn_r _ [8, 1, 9, 10, 11, 7, 12, 13, 14, 15, 16, 17, 18, 19, 20, 21, 22, 23, 24, 25, 26, 27, 28, 29, 30, 31, 32, 33, 34] (by decide +kernel) (by decide +kernel)
set_option maxRecDepth 20000 in
theorem gX5_count_X5_lying : GoodIn wsX5_count (wsV RX5 113 RX5 yX5_lying wsX5_lying) := goodIn_app (goodIn_of _ (by decide +kernel)) ggX5_count_X5_lying
theorem dX5_count_0 : decode cX5_count 0 = .ok (.iload_n 1, 1) := by decide +kernel
theorem dX5_count_1 : decode cX5_count 1 = .ok (.ifCond .ne 12, 3) := by decide +kernel
theorem dX5_count_4 : decode cX5_count 4 = .ok (.aload_n 0, 1) := by decide +kernel
theorem dX5_count_5 : decode cX5_count 5 = .ok (.getfield 13, 3) := by decide +kernel
theorem dX5_count_8 : decode cX5_count 8 = .ok (.iconst 0, 1) := by decide +kernel
theorem dX5_count_9 : decode cX5_count 9 = .ok (.iaload, 1) := by decide +kernel
theorem dX5_count_10 : decode cX5_count 10 = .ok (.goto 62, 3) := by decide +kernel
theorem dX5_count_13 : decode cX5_count 13 = .ok (.iload_n 1, 1) := by decide +kernel
theorem dX5_count_14 : decode cX5_count 14 = .ok (.iconst 1, 1) := by decide +kernel
theorem dX5_count_15 : decode cX5_count 15 = .ok (.if_icmp .ne 12, 3) := by decide +kernel
theorem dX5_count_18 : decode cX5_count 18 = .ok (.aload_n 0, 1) := by decide +kernel
theorem dX5_count_19 : decode cX5_count 19 = .ok (.getfield 13, 3) := by decide +kernel
theorem dX5_count_22 : decode cX5_count 22 = .ok (.iconst 1, 1) := by decide +kernel
theorem dX5_count_23 : decode cX5_count 23 = .ok (.iaload, 1) := by decide +kernel
theorem dX5_count_24 : decode cX5_count 24 = .ok (.goto 48, 3) := by decide +kernel
theorem dX5_count_27 : decode cX5_count 27 = .ok (.iload_n 1, 1) := by decide +kernel
theorem dX5_count_28 : decode cX5_count 28 = .ok (.iconst 2, 1) := by decide +kernel
theorem dX5_count_29 : decode cX5_count 29 = .ok (.if_icmp .ne 16, 3) := by decide +kernel
theorem dX5_count_32 : decode cX5_count 32 = .ok (.aload_n 0, 1) := by decide +kernel
theorem dX5_count_33 : decode cX5_count 33 = .ok (.aload_n 0, 1) := by decide +kernel
theorem dX5_count_34 : decode cX5_count 34 = .ok (.getfield 26, 3) := by decide +kernel
theorem dX5_count_37 : decode cX5_count 37 = .ok (.iconst 0, 1) := by decide +kernel
theorem dX5_count_38 : decode cX5_count 38 = .ok (.iaload, 1) := by decide +kernel
theorem dX5_count_39 : decode cX5_count 39 = .ok (.invokevirtual 113, 3) := by decide +kernel
theorem dX5_count_42 : decode cX5_count 42 = .ok (.goto 30, 3) := by decide +kernel
theorem dX5_count_45 : decode cX5_count 45 = .ok (.iload_n 1, 1) := by decide +kernel
theorem dX5_count_46 : decode cX5_count 46 = .ok (.iconst 3, 1) := by decide +kernel
theorem dX5_count_47 : decode cX5_count 47 = .ok (.if_icmp .ne 12, 3) := by decide +kernel
theorem dX5_count_50 : decode cX5_count 50 = .ok (.aload_n 0, 1) := by decide +kernel
theorem dX5_count_51 : decode cX5_count 51 = .ok (.getfield 26, 3) := by decide +kernel
theorem dX5_count_54 : decode cX5_count 54 = .ok (.iconst 4, 1) := by decide +kernel
theorem dX5_count_55 : decode cX5_count 55 = .ok (.iaload, 1) := by decide +kernel
theorem dX5_count_56 : decode cX5_count 56 = .ok (.goto 16, 3) := by decide +kernel
theorem dX5_count_59 : decode cX5_count 59 = .ok (.iload_n 1, 1) := by decide +kernel
theorem dX5_count_60 : decode cX5_count 60 = .ok (.iconst 4, 1) := by decide +kernel
theorem dX5_count_61 : decode cX5_count 61 = .ok (.if_icmp .ne 10, 3) := by decide +kernel
theorem dX5_count_64 : decode cX5_count 64 = .ok (.aload_n 0, 1) := by decide +kernel
theorem dX5_count_65 : decode cX5_count 65 = .ok (.getfield 50, 3) := by decide +kernel
theorem dX5_count_68 : decode cX5_count 68 = .ok (.goto 4, 3) := by decide +kernel
theorem dX5_count_71 : decode cX5_count 71 = .ok (.iconst (-1), 1) := by decide +kernel
theorem dX5_count_72 : decode cX5_count 72 = .ok (.ireturn, 1) := by decide +kernel
theorem dX5_trace_0 : decode cX5_trace 0 = .ok (.aload_n 0, 1) := by decide +kernel
theorem dX5_trace_1 : decode cX5_trace 1 = .ok (.getfield 180, 3) := by decide +kernel
theorem dX5_trace_4 : decode cX5_trace 4 = .ok (.lreturn, 1) := by decide +kernel
end
section
theorem dJ6_bitCount_0f7a4_0 : decode cJ6_bitCount_0f7a4 0 = .ok (.iload_n 0, 1) := by decide +kernel
theorem dJ6_bitCount_0f7a4_1 : decode cJ6_bitCount_0f7a4 1 = .ok (.iload_n 0, 1) := by decide +kernel
theorem dJ6_bitCount_0f7a4_2 : decode cJ6_bitCount_0f7a4 2 = .ok (.iconst 1, 1) := by decide +kernel
theorem dJ6_bitCount_0f7a4_3 : decode cJ6_bitCount_0f7a4 3 = .ok (.iushr, 1) := by decide +kernel
theorem dJ6_bitCount_0f7a4_4 : decode cJ6_bitCount_0f7a4 4 = .ok (.ldc_w 265, 3) := by decide +kernel
theorem dJ6_bitCount_0f7a4_7 : decode cJ6_bitCount_0f7a4 7 = .ok (.iand, 1) := by decide +kernel
theorem dJ6_bitCount_0f7a4_8 : decode cJ6_bitCount_0f7a4 8 = .ok (.isub, 1) := by decide +kernel
theorem dJ6_bitCount_0f7a4_9 : decode cJ6_bitCount_0f7a4 9 = .ok (.istore_n 0, 1) := by decide +kernel
theorem dJ6_bitCount_0f7a4_10 : decode cJ6_bitCount_0f7a4 10 = .ok (.iload_n 0, 1) := by decide +kernel
theorem dJ6_bitCount_0f7a4_11 : decode cJ6_bitCount_0f7a4 11 = .ok (.ldc_w 266, 3) := by decide +kernel
theorem dJ6_bitCount_0f7a4_14 : decode cJ6_bitCount_0f7a4 14 = .ok (.iand, 1) := by decide +kernel
theorem dJ6_bitCount_0f7a4_15 : decode cJ6_bitCount_0f7a4 15 = .ok (.iload_n 0, 1) := by decide +kernel
theorem dJ6_bitCount_0f7a4_16 : decode cJ6_bitCount_0f7a4 16 = .ok (.iconst 2, 1) := by decide +kernel
theorem dJ6_bitCount_0f7a4_17 : decode cJ6_bitCount_0f7a4 17 = .ok (.iushr, 1) := by decide +kernel
theorem dJ6_bitCount_0f7a4_18 : decode cJ6_bitCount_0f7a4 18 = .ok (.ldc_w 266, 3) := by decide +kernel
theorem dJ6_bitCount_0f7a4_21 : decode cJ6_bitCount_0f7a4 21 = .ok (.iand, 1) := by decide +kernel
theorem dJ6_bitCount_0f7a4_22 : decode cJ6_bitCount_0f7a4 22 = .ok (.iadd, 1) := by decide +kernel
theorem dJ6_bitCount_0f7a4_23 : decode cJ6_bitCount_0f7a4 23 = .ok (.istore_n 0, 1) := by decide +kernel
theorem dJ6_bitCount_0f7a4_24 : decode cJ6_bitCount_0f7a4 24 = .ok (.iload_n 0, 1) := by decide +kernel
theorem dJ6_bitCount_0f7a4_25 : decode cJ6_bitCount_0f7a4 25 = .ok (.iload_n 0, 1) := by decide +kernel
theorem dJ6_bitCount_0f7a4_26 : decode cJ6_bitCount_0f7a4 26 = .ok (.iconst 4, 1) := by decide +kernel
theorem dJ6_bitCount_0f7a4_27 : decode cJ6_bitCount_0f7a4 27 = .ok (.iushr, 1) := by decide +kernel
theorem dJ6_bitCount_0f7a4_28 : decode cJ6_bitCount_0f7a4 28 = .ok (.iadd, 1) := by decide +kernel
theorem dJ6_bitCount_0f7a4_29 : decode cJ6_bitCount_0f7a4 29 = .ok (.ldc_w 267, 3) := by decide +kernel
theorem dJ6_bitCount_0f7a4_32 : decode cJ6_bitCount_0f7a4 32 = .ok (.iand, 1) := by decide +kernel
theorem dJ6_bitCount_0f7a4_33 : decode cJ6_bitCount_0f7a4 33 = .ok (.istore_n 0, 1) := by decide +kernel
theorem dJ6_bitCount_0f7a4_34 : decode cJ6_bitCount_0f7a4 34 = .ok (.iload_n 0, 1) := by decide +kernel
theorem dJ6_bitCount_0f7a4_35 : decode cJ6_bitCount_0f7a4 35 = .ok (.iload_n 0, 1) := by decide +kernel
theorem dJ6_bitCount_0f7a4_36 : decode cJ6_bitCount_0f7a4 36 = .ok (.bipush 8, 2) := by decide +kernel
theorem dJ6_bitCount_0f7a4_38 : decode cJ6_bitCount_0f7a4 38 = .ok (.iushr, 1) := by decide +kernel
theorem dJ6_bitCount_0f7a4_39 : decode cJ6_bitCount_0f7a4 39 = .ok (.iadd, 1) := by decide +kernel
theorem dJ6_bitCount_0f7a4_40 : decode cJ6_bitCount_0f7a4 40 = .ok (.istore_n 0, 1) := by decide +kernel
theorem dJ6_bitCount_0f7a4_41 : decode cJ6_bitCount_0f7a4 41 = .ok (.iload_n 0, 1) := by decide +kernel
theorem dJ6_bitCount_0f7a4_42 : decode cJ6_bitCount_0f7a4 42 = .ok (.iload_n 0, 1) := by decide +kernel
theorem dJ6_bitCount_0f7a4_43 : decode cJ6_bitCount_0f7a4 43 = .ok (.bipush 16, 2) := by decide +kernel
theorem dJ6_bitCount_0f7a4_45 : decode cJ6_bitCount_0f7a4 45 = .ok (.iushr, 1) := by decide +kernel
theorem dJ6_bitCount_0f7a4_46 : decode cJ6_bitCount_0f7a4 46 = .ok (.iadd, 1) := by decide +kernel
theorem dJ6_bitCount_0f7a4_47 : decode cJ6_bitCount_0f7a4 47 = .ok (.istore_n 0, 1) := by decide +kernel
theorem dJ6_bitCount_0f7a4_48 : decode cJ6_bitCount_0f7a4 48 = .ok (.iload_n 0, 1) := by decide +kernel
theorem dJ6_bitCount_0f7a4_49 : decode cJ6_bitCount_0f7a4 49 = .ok (.bipush 63, 2) := by decide +kernel
theorem dJ6_bitCount_0f7a4_51 : decode cJ6_bitCount_0f7a4 51 = .ok (.iand, 1) := by decide +kernel
theorem dJ6_bitCount_0f7a4_52 : decode cJ6_bitCount_0f7a4 52 = .ok (.ireturn, 1) := by decide +kernel
theorem dJ9_min_7cf53_0 : decode cJ9_min_7cf53 0 = .ok (.iload_n 0, 1) := by decide +kernel
theorem dJ9_min_7cf53_1 : decode cJ9_min_7cf53 1 = .ok (.iload_n 1, 1) := by decide +kernel
theorem dJ9_min_7cf53_2 : decode cJ9_min_7cf53 2 = .ok (.if_icmp .gt 7, 3) := by decide +kernel
theorem dJ9_min_7cf53_5 : decode cJ9_min_7cf53 5 = .ok (.iload_n 0, 1) := by decide +kernel
theorem dJ9_min_7cf53_6 : decode cJ9_min_7cf53 6 = .ok (.goto 4, 3) := by decide +kernel
theorem dJ9_min_7cf53_9 : decode cJ9_min_7cf53 9 = .ok (.iload_n 1, 1) := by decide +kernel
theorem dJ9_min_7cf53_10 : decode cJ9_min_7cf53 10 = .ok (.ireturn, 1) := by decide +kernel
set_option maxRecDepth 20000 in
theorem ggJ0_length_8abf5_J0_coder_7d493 : GoodIn wsJ0_length_8abf5 wsJ0_coder_7d493 := goodIn_r _ [6, 7, 8] (by decide +kernel) (by decide +kernel)
set_option maxRecDepth 20000 in
theorem gJ0_length_8abf5_J0_coder_7d493 : GoodIn wsJ0_length_8abf5 (wsV RJ0 335 RJ0 yJ0_coder_7d493 wsJ0_coder_7d493) := goodIn_app (goodIn_of _ (by decide +kernel)) ggJ0_length_8abf5_J0_coder_7d493
theorem dJ0_length_8abf5_0 : decode cJ0_length_8abf5 0 = .ok (.aload_n 0, 1) := by decide +kernel
theorem dJ0_length_8abf5_1 : decode cJ0_length_8abf5 1 = .ok (.getfield 9, 3) := by decide +kernel
theorem dJ0_length_8abf5_4 : decode cJ0_length_8abf5 4 = .ok (.arraylength, 1) := by decide +kernel
theorem dJ0_length_8abf5_5 : decode cJ0_length_8abf5 5 = .ok (.aload_n 0, 1) := by decide +kernel
theorem dJ0_length_8abf5_6 : decode cJ0_length_8abf5 6 = .ok (.invokevirtual 335, 3) := by decide +kernel
theorem dJ0_length_8abf5_9 : decode cJ0_length_8abf5 9 = .ok (.ishr, 1) := by decide +kernel
theorem dJ0_length_8abf5_10 : decode cJ0_length_8abf5 10 = .ok (.ireturn, 1) := by decide +kernel
set_option maxRecDepth 20000 in
theorem ggJ0_charAt_5068e_J0_isLatin1_aae02 : GoodIn wsJ0_charAt_5068e wsJ0_isLatin1_aae02 := goodIn_r _ [6, 7, 8] (by decide +kernel) (by decide +kernel)
set_option maxRecDepth 20000 in
theorem gJ0_charAt_5068e_J0_isLatin1_aae02 : GoodIn wsJ0_charAt_5068e (wsV RJ0 492 RJ0 yJ0_isLatin1_aae02 wsJ0_isLatin1_aae02) := goodIn_app (goodIn_of _ (by decide +kernel)) ggJ0_charAt_5068e_J0_isLatin1_aae02
set_option maxRecDepth 20000 in
theorem ggJ0_charAt_5068e_J1_charAt_3b067 : GoodIn wsJ0_charAt_5068e wsJ1_charAt_3b067 := goodIn_r _ [12, 13, 14, 5, 15, 16, 17, 18, 19, 20] (by decide +kernel) (by decide +kernel)
set_option maxRecDepth 20000 in
theorem gJ0_charAt_5068e_J1_charAt_3b067 : GoodIn wsJ0_charAt_5068e (va_wsS RJ0 495 yJ1_charAt_3b067 wsJ1_charAt_3b067) := goodIn_app (goodIn_of _ (by decide +kernel)) ggJ0_charAt_5068e_J1_charAt_3b067
set_option maxRecDepth 20000 in
theorem ggJ0_charAt_5068e_J2_charAt_3b067 : GoodIn wsJ0_charAt_5068e wsJ2_charAt_3b067 := goodIn_r _ [24, 25, 26, 23, 27, 28, 29, 30, 31, 14, 5, 15, 16, 17, 18, 19, 20, 32, 33, 34, 35, 36, 37] (by decide +kernel) (by decide +kernel)
set_option maxRecDepth 20000 in
theorem gJ0_charAt_5068e_J2_charAt_3b067 : GoodIn wsJ0_charAt_5068e (va_wsS RJ0 498 yJ2_charAt_3b067 wsJ2_charAt_3b067) := goodIn_app (goodIn_of _ (by decide +kernel)) ggJ0_charAt_5068e_J2_charAt_3b067
theorem dJ0_charAt_5068e_0 : decode cJ0_charAt_5068e 0 = .ok (.aload_n 0, 1) := by decide +kernel
theorem dJ0_charAt_5068e_1 : decode cJ0_charAt_5068e 1 = .ok (.invokevirtual 492, 3) := by decide +kernel
theorem dJ0_charAt_5068e_4 : decode cJ0_charAt_5068e 4 = .ok (.ifCond .eq 12, 3) := by decide +kernel
theorem dJ0_charAt_5068e_7 : decode cJ0_charAt_5068e 7 = .ok (.aload_n 0, 1) := by decide +kernel
theorem dJ0_charAt_5068e_8 : decode cJ0_charAt_5068e 8 = .ok (.getfield 9, 3) := by decide +kernel
theorem dJ0_charAt_5068e_11 : decode cJ0_charAt_5068e 11 = .ok (.iload_n 1, 1) := by decide +kernel
theorem dJ0_charAt_5068e_12 : decode cJ0_charAt_5068e 12 = .ok (.invokestatic 495, 3) := by decide +kernel
theorem dJ0_charAt_5068e_15 : decode cJ0_charAt_5068e 15 = .ok (.ireturn, 1) := by decide +kernel
theorem dJ0_charAt_5068e_16 : decode cJ0_charAt_5068e 16 = .ok (.aload_n 0, 1) := by decide +kernel
theorem dJ0_charAt_5068e_17 : decode cJ0_charAt_5068e 17 = .ok (.getfield 9, 3) := by decide +kernel
theorem dJ0_charAt_5068e_20 : decode cJ0_charAt_5068e 20 = .ok (.iload_n 1, 1) := by decide +kernel
theorem dJ0_charAt_5068e_21 : decode cJ0_charAt_5068e 21 = .ok (.invokestatic 498, 3) := by decide +kernel
theorem dJ0_charAt_5068e_24 : decode cJ0_charAt_5068e 24 = .ok (.ireturn, 1) := by decide +kernel
theorem dJ0_coder_7d493_0 : decode cJ0_coder_7d493 0 = .ok (.getstatic 38, 3) := by decide +kernel
theorem dJ0_coder_7d493_3 : decode cJ0_coder_7d493 3 = .ok (.ifCond .eq 10, 3) := by decide +kernel
theorem dJ0_coder_7d493_6 : decode cJ0_coder_7d493 6 = .ok (.aload_n 0, 1) := by decide +kernel
theorem dJ0_coder_7d493_7 : decode cJ0_coder_7d493 7 = .ok (.getfield 15, 3) := by decide +kernel
theorem dJ0_coder_7d493_10 : decode cJ0_coder_7d493 10 = .ok (.goto 4, 3) := by decide +kernel
theorem dJ0_coder_7d493_13 : decode cJ0_coder_7d493 13 = .ok (.iconst 1, 1) := by decide +kernel
theorem dJ0_coder_7d493_14 : decode cJ0_coder_7d493 14 = .ok (.ireturn, 1) := by decide +kernel
theorem dJ0_isLatin1_aae02_0 : decode cJ0_isLatin1_aae02 0 = .ok (.getstatic 38, 3) := by decide +kernel
theorem dJ0_isLatin1_aae02_3 : decode cJ0_isLatin1_aae02 3 = .ok (.ifCond .eq 14, 3) := by decide +kernel
theorem dJ0_isLatin1_aae02_6 : decode cJ0_isLatin1_aae02 6 = .ok (.aload_n 0, 1) := by decide +kernel
theorem dJ0_isLatin1_aae02_7 : decode cJ0_isLatin1_aae02 7 = .ok (.getfield 15, 3) := by decide +kernel
theorem dJ0_isLatin1_aae02_10 : decode cJ0_isLatin1_aae02 10 = .ok (.ifCond .ne 7, 3) := by decide +kernel
theorem dJ0_isLatin1_aae02_13 : decode cJ0_isLatin1_aae02 13 = .ok (.iconst 1, 1) := by decide +kernel
theorem dJ0_isLatin1_aae02_14 : decode cJ0_isLatin1_aae02 14 = .ok (.goto 4, 3) := by decide +kernel
theorem dJ0_isLatin1_aae02_17 : decode cJ0_isLatin1_aae02 17 = .ok (.iconst 0, 1) := by decide +kernel
theorem dJ0_isLatin1_aae02_18 : decode cJ0_isLatin1_aae02 18 = .ok (.ireturn, 1) := by decide +kernel
set_option maxRecDepth 20000 in
theorem ggJ0_checkIndex_df160_J3_checkIndex_8e157 : GoodIn wsJ0_checkIndex_df160 wsJ3_checkIndex_8e157 := goodIn_r _ [5] (by decide +kernel) (by decide +kernel)
set_option maxRecDepth 20000 in
theorem gJ0_checkIndex_df160_J3_checkIndex_8e157 : GoodIn wsJ0_checkIndex_df160 (va_wsS RJ0 1059 yJ3_checkIndex_8e157 wsJ3_checkIndex_8e157) := goodIn_app (goodIn_of _ (by decide +kernel)) ggJ0_checkIndex_df160_J3_checkIndex_8e157
theorem dJ0_checkIndex_df160_0 : decode cJ0_checkIndex_df160 0 = .ok (.iload_n 0, 1) := by decide +kernel
theorem dJ0_checkIndex_df160_1 : decode cJ0_checkIndex_df160 1 = .ok (.iload_n 1, 1) := by decide +kernel
theorem dJ0_checkIndex_df160_2 : decode cJ0_checkIndex_df160 2 = .ok (.getstatic 1053, 3) := by decide +kernel
theorem dJ0_checkIndex_df160_5 : decode cJ0_checkIndex_df160 5 = .ok (.invokestatic 1059, 3) := by decide +kernel
theorem dJ0_checkIndex_df160_8 : decode cJ0_checkIndex_df160 8 = .ok (.pop, 1) := by decide +kernel
theorem dJ0_checkIndex_df160_9 : decode cJ0_checkIndex_df160 9 = .ok (.return_, 1) := by decide +kernel
set_option maxRecDepth 20000 in
theorem ggJ1_charAt_3b067_J0_checkIndex_df160 : GoodIn wsJ1_charAt_3b067 wsJ0_checkIndex_df160 := goodIn_r _ [4, 5, 6, 7, 8, 9] (by decide +kernel) (by decide +kernel)
set_option maxRecDepth 20000 in
theorem gJ1_charAt_3b067_J0_checkIndex_df160 : GoodIn wsJ1_charAt_3b067 (va_wsS RJ1 9 yJ0_checkIndex_df160 wsJ0_checkIndex_df160) := goodIn_app (goodIn_of _ (by decide +kernel)) ggJ1_charAt_3b067_J0_checkIndex_df160
theorem dJ1_charAt_3b067_0 : decode cJ1_charAt_3b067 0 = .ok (.iload_n 1, 1) := by decide +kernel
theorem dJ1_charAt_3b067_1 : decode cJ1_charAt_3b067 1 = .ok (.aload_n 0, 1) := by decide +kernel
theorem dJ1_charAt_3b067_2 : decode cJ1_charAt_3b067 2 = .ok (.arraylength, 1) := by decide +kernel
theorem dJ1_charAt_3b067_3 : decode cJ1_charAt_3b067 3 = .ok (.invokestatic 9, 3) := by decide +kernel
theorem dJ1_charAt_3b067_6 : decode cJ1_charAt_3b067 6 = .ok (.aload_n 0, 1) := by decide +kernel
theorem dJ1_charAt_3b067_7 : decode cJ1_charAt_3b067 7 = .ok (.iload_n 1, 1) := by decide +kernel
theorem dJ1_charAt_3b067_8 : decode cJ1_charAt_3b067 8 = .ok (.baload, 1) := by decide +kernel
theorem dJ1_charAt_3b067_9 : decode cJ1_charAt_3b067 9 = .ok (.sipush 255, 3) := by decide +kernel
theorem dJ1_charAt_3b067_12 : decode cJ1_charAt_3b067 12 = .ok (.iand, 1) := by decide +kernel
theorem dJ1_charAt_3b067_13 : decode cJ1_charAt_3b067 13 = .ok (.i2c, 1) := by decide +kernel
theorem dJ1_charAt_3b067_14 : decode cJ1_charAt_3b067 14 = .ok (.ireturn, 1) := by decide +kernel
set_option maxRecDepth 20000 in
theorem ggJ2_getChar_3b067_J2_length_9d52b : GoodIn wsJ2_getChar_3b067 wsJ2_length_9d52b := goodIn_r _ [7] (by decide +kernel) (by decide +kernel)
set_option maxRecDepth 20000 in
theorem gJ2_getChar_3b067_J2_length_9d52b : GoodIn wsJ2_getChar_3b067 (va_wsS RJ2 48 yJ2_length_9d52b wsJ2_length_9d52b) := goodIn_app (goodIn_of _ (by decide +kernel)) ggJ2_getChar_3b067_J2_length_9d52b
theorem dJ2_getChar_3b067_0 : decode cJ2_getChar_3b067 0 = .ok (.getstatic 44, 3) := by decide +kernel
theorem dJ2_getChar_3b067_3 : decode cJ2_getChar_3b067 3 = .ok (.ifCond .ne 25, 3) := by decide +kernel
theorem dJ2_getChar_3b067_6 : decode cJ2_getChar_3b067 6 = .ok (.iload_n 1, 1) := by decide +kernel
theorem dJ2_getChar_3b067_7 : decode cJ2_getChar_3b067 7 = .ok (.ifCond .lt 11, 3) := by decide +kernel
theorem dJ2_getChar_3b067_10 : decode cJ2_getChar_3b067 10 = .ok (.iload_n 1, 1) := by decide +kernel
theorem dJ2_getChar_3b067_11 : decode cJ2_getChar_3b067 11 = .ok (.aload_n 0, 1) := by decide +kernel
theorem dJ2_getChar_3b067_12 : decode cJ2_getChar_3b067 12 = .ok (.invokestatic 48, 3) := by decide +kernel
theorem dJ2_getChar_3b067_15 : decode cJ2_getChar_3b067 15 = .ok (.if_icmp .lt 13, 3) := by decide +kernel
theorem dJ2_getChar_3b067_18 : decode cJ2_getChar_3b067 18 = .ok (.new 52, 3) := by decide +kernel
theorem dJ2_getChar_3b067_21 : decode cJ2_getChar_3b067 21 = .ok (.dup, 1) := by decide +kernel
theorem dJ2_getChar_3b067_22 : decode cJ2_getChar_3b067 22 = .ok (.ldc 54, 2) := by decide +kernel
theorem dJ2_getChar_3b067_24 : decode cJ2_getChar_3b067 24 = .ok (.invokespecial 56, 3) := by decide +kernel
theorem dJ2_getChar_3b067_27 : decode cJ2_getChar_3b067 27 = .ok (.athrow, 1) := by decide +kernel
theorem dJ2_getChar_3b067_28 : decode cJ2_getChar_3b067 28 = .ok (.iload_n 1, 1) := by decide +kernel
theorem dJ2_getChar_3b067_29 : decode cJ2_getChar_3b067 29 = .ok (.iconst 1, 1) := by decide +kernel
theorem dJ2_getChar_3b067_30 : decode cJ2_getChar_3b067 30 = .ok (.ishl, 1) := by decide +kernel
theorem dJ2_getChar_3b067_31 : decode cJ2_getChar_3b067 31 = .ok (.istore_n 1, 1) := by decide +kernel
theorem dJ2_getChar_3b067_32 : decode cJ2_getChar_3b067 32 = .ok (.aload_n 0, 1) := by decide +kernel
theorem dJ2_getChar_3b067_33 : decode cJ2_getChar_3b067 33 = .ok (.iload_n 1, 1) := by decide +kernel
theorem dJ2_getChar_3b067_34 : decode cJ2_getChar_3b067 34 = .ok (.iinc 1 1, 3) := by decide +kernel
theorem dJ2_getChar_3b067_37 : decode cJ2_getChar_3b067 37 = .ok (.baload, 1) := by decide +kernel
theorem dJ2_getChar_3b067_38 : decode cJ2_getChar_3b067 38 = .ok (.sipush 255, 3) := by decide +kernel
theorem dJ2_getChar_3b067_41 : decode cJ2_getChar_3b067 41 = .ok (.iand, 1) := by decide +kernel
theorem dJ2_getChar_3b067_42 : decode cJ2_getChar_3b067 42 = .ok (.getstatic 59, 3) := by decide +kernel
theorem dJ2_getChar_3b067_45 : decode cJ2_getChar_3b067 45 = .ok (.ishl, 1) := by decide +kernel
theorem dJ2_getChar_3b067_46 : decode cJ2_getChar_3b067 46 = .ok (.aload_n 0, 1) := by decide +kernel
theorem dJ2_getChar_3b067_47 : decode cJ2_getChar_3b067 47 = .ok (.iload_n 1, 1) := by decide +kernel
theorem dJ2_getChar_3b067_48 : decode cJ2_getChar_3b067 48 = .ok (.baload, 1) := by decide +kernel
theorem dJ2_getChar_3b067_49 : decode cJ2_getChar_3b067 49 = .ok (.sipush 255, 3) := by decide +kernel
theorem dJ2_getChar_3b067_52 : decode cJ2_getChar_3b067 52 = .ok (.iand, 1) := by decide +kernel
theorem dJ2_getChar_3b067_53 : decode cJ2_getChar_3b067 53 = .ok (.getstatic 63, 3) := by decide +kernel
theorem dJ2_getChar_3b067_56 : decode cJ2_getChar_3b067 56 = .ok (.ishl, 1) := by decide +kernel
theorem dJ2_getChar_3b067_57 : decode cJ2_getChar_3b067 57 = .ok (.ior, 1) := by decide +kernel
theorem dJ2_getChar_3b067_58 : decode cJ2_getChar_3b067 58 = .ok (.i2c, 1) := by decide +kernel
theorem dJ2_getChar_3b067_59 : decode cJ2_getChar_3b067 59 = .ok (.ireturn, 1) := by decide +kernel
theorem dJ2_length_9d52b_0 : decode cJ2_length_9d52b 0 = .ok (.aload_n 0, 1) := by decide +kernel
theorem dJ2_length_9d52b_1 : decode cJ2_length_9d52b 1 = .ok (.arraylength, 1) := by decide +kernel
theorem dJ2_length_9d52b_2 : decode cJ2_length_9d52b 2 = .ok (.iconst 1, 1) := by decide +kernel
theorem dJ2_length_9d52b_3 : decode cJ2_length_9d52b 3 = .ok (.ishr, 1) := by decide +kernel
theorem dJ2_length_9d52b_4 : decode cJ2_length_9d52b 4 = .ok (.ireturn, 1) := by decide +kernel
set_option maxRecDepth 20000 in
theorem ggJ2_charAt_3b067_J2_checkIndex_2214a : GoodIn wsJ2_charAt_3b067 wsJ2_checkIndex_2214a := goodIn_r _ [4, 5, 6, 3, 7, 8, 9, 10, 11, 12, 13, 14, 15, 16] (by decide +kernel) (by decide +kernel)
set_option maxRecDepth 20000 in
theorem gJ2_charAt_3b067_J2_checkIndex_2214a : GoodIn wsJ2_charAt_3b067 (va_wsS RJ2 67 yJ2_checkIndex_2214a wsJ2_checkIndex_2214a) := goodIn_app (goodIn_of _ (by decide +kernel)) ggJ2_charAt_3b067_J2_checkIndex_2214a
set_option maxRecDepth 20000 in
theorem ggJ2_charAt_3b067_J2_getChar_3b067 : GoodIn wsJ2_charAt_3b067 wsJ2_getChar_3b067 := goodIn_r _ [19, 20, 21, 22, 5, 6, 3, 7] (by decide +kernel) (by decide +kernel)
set_option maxRecDepth 20000 in
theorem gJ2_charAt_3b067_J2_getChar_3b067 : GoodIn wsJ2_charAt_3b067 (va_wsS RJ2 71 yJ2_getChar_3b067 wsJ2_getChar_3b067) := goodIn_app (goodIn_of _ (by decide +kernel)) ggJ2_charAt_3b067_J2_getChar_3b067
theorem dJ2_charAt_3b067_0 : decode cJ2_charAt_3b067 0 = .ok (.iload_n 1, 1) := by decide +kernel
theorem dJ2_charAt_3b067_1 : decode cJ2_charAt_3b067 1 = .ok (.aload_n 0, 1) := by decide +kernel
theorem dJ2_charAt_3b067_2 : decode cJ2_charAt_3b067 2 = .ok (.invokestatic 67, 3) := by decide +kernel
theorem dJ2_charAt_3b067_5 : decode cJ2_charAt_3b067 5 = .ok (.aload_n 0, 1) := by decide +kernel
theorem dJ2_charAt_3b067_6 : decode cJ2_charAt_3b067 6 = .ok (.iload_n 1, 1) := by decide +kernel
theorem dJ2_charAt_3b067_7 : decode cJ2_charAt_3b067 7 = .ok (.invokestatic 71, 3) := by decide +kernel
theorem dJ2_charAt_3b067_10 : decode cJ2_charAt_3b067 10 = .ok (.ireturn, 1) := by decide +kernel
set_option maxRecDepth 20000 in
theorem ggJ2_checkIndex_2214a_J2_length_9d52b : GoodIn wsJ2_checkIndex_2214a wsJ2_length_9d52b := goodIn_r _ [4] (by decide +kernel) (by decide +kernel)
set_option maxRecDepth 20000 in
theorem gJ2_checkIndex_2214a_J2_length_9d52b : GoodIn wsJ2_checkIndex_2214a (va_wsS RJ2 48 yJ2_length_9d52b wsJ2_length_9d52b) := goodIn_app (goodIn_of _ (by decide +kernel)) ggJ2_checkIndex_2214a_J2_length_9d52b
set_option maxRecDepth 20000 in
theorem ggJ2_checkIndex_2214a_J0_checkIndex_df160 : GoodIn wsJ2_checkIndex_2214a wsJ0_checkIndex_df160 := goodIn_r _ [8, 9, 10, 11, 12, 13] (by decide +kernel) (by decide +kernel)
set_option maxRecDepth 20000 in
theorem gJ2_checkIndex_2214a_J0_checkIndex_df160 : GoodIn wsJ2_checkIndex_2214a (va_wsS RJ2 414 yJ0_checkIndex_df160 wsJ0_checkIndex_df160) := goodIn_app (goodIn_of _ (by decide +kernel)) ggJ2_checkIndex_2214a_J0_checkIndex_df160
theorem dJ2_checkIndex_2214a_0 : decode cJ2_checkIndex_2214a 0 = .ok (.iload_n 0, 1) := by decide +kernel
theorem dJ2_checkIndex_2214a_1 : decode cJ2_checkIndex_2214a 1 = .ok (.aload_n 1, 1) := by decide +kernel
theorem dJ2_checkIndex_2214a_2 : decode cJ2_checkIndex_2214a 2 = .ok (.invokestatic 48, 3) := by decide +kernel
theorem dJ2_checkIndex_2214a_5 : decode cJ2_checkIndex_2214a 5 = .ok (.invokestatic 414, 3) := by decide +kernel
theorem dJ2_checkIndex_2214a_8 : decode cJ2_checkIndex_2214a 8 = .ok (.return_, 1) := by decide +kernel
theorem dJ3_checkIndex_8e157_0 : decode cJ3_checkIndex_8e157 0 = .ok (.iload_n 0, 1) := by decide +kernel
theorem dJ3_checkIndex_8e157_1 : decode cJ3_checkIndex_8e157 1 = .ok (.ifCond .lt 8, 3) := by decide +kernel
theorem dJ3_checkIndex_8e157_4 : decode cJ3_checkIndex_8e157 4 = .ok (.iload_n 0, 1) := by decide +kernel
theorem dJ3_checkIndex_8e157_5 : decode cJ3_checkIndex_8e157 5 = .ok (.iload_n 1, 1) := by decide +kernel
theorem dJ3_checkIndex_8e157_6 : decode cJ3_checkIndex_8e157 6 = .ok (.if_icmp .lt 10, 3) := by decide +kernel
theorem dJ3_checkIndex_8e157_9 : decode cJ3_checkIndex_8e157 9 = .ok (.aload_n 2, 1) := by decide +kernel
theorem dJ3_checkIndex_8e157_10 : decode cJ3_checkIndex_8e157 10 = .ok (.iload_n 0, 1) := by decide +kernel
theorem dJ3_checkIndex_8e157_11 : decode cJ3_checkIndex_8e157 11 = .ok (.iload_n 1, 1) := by decide +kernel
theorem dJ3_checkIndex_8e157_12 : decode cJ3_checkIndex_8e157 12 = .ok (.invokestatic 95, 3) := by decide +kernel
theorem dJ3_checkIndex_8e157_15 : decode cJ3_checkIndex_8e157 15 = .ok (.athrow, 1) := by decide +kernel
theorem dJ3_checkIndex_8e157_16 : decode cJ3_checkIndex_8e157 16 = .ok (.iload_n 0, 1) := by decide +kernel
theorem dJ3_checkIndex_8e157_17 : decode cJ3_checkIndex_8e157 17 = .ok (.ireturn, 1) := by decide +kernel
set_option maxRecDepth 20000 in
theorem ggL_law_X4_init : GoodIn wsL_law wsX4_init := goodIn_r _ [9, 10, 11, 12, 13, 14, 15, 16, 17, 18, 19, 20, 21, 22, 23, 24, 25, 26, 27, 28, 29, 30, 31, 32, 33, 34, 35, 36, 37, 38, 39, 40, 41, 42, 43, 44, 45, 46, 47, 48, 49, 50, 51, 52, 53, 54, 55, 56, 57, 58, 59, 60, 61, 62, 63, 759, 760, 761, 762, 763, 764, 765, 766, 733, 734, 735, 736, 737, 738, 739, 767, 768, 769, 770, 771, 772, 773, 774, 775, 776, 777, 778, 779, 780, 781, 782, 783, 784, 785, 786, 787, 788, 789, 790] (by decide +kernel) (by decide +kernel)
set_option maxRecDepth 20000 in
theorem gL_law_X4_init : GoodIn wsL_law (wsX4_init) := ggL_law_X4_init
set_option maxRecDepth 20000 in
theorem ggL_law_X5_init : GoodIn wsL_law wsX5_init := goodIn_r _ [66, 67, 11, 12, 39, 68, 34, 69, 70, 71, 72, 73, 74, 75, 76, 77, 78, 79, 80, 81, 5, 82, 740, 741, 742, 743, 744, 745, 746, 747, 748, 749, 750, 751, 752, 753, 754, 755, 756, 757, 758] (by decide +kernel) (by decide +kernel)
set_option maxRecDepth 20000 in
theorem gL_law_X5_init : GoodIn wsL_law (wsX5_init) := ggL_law_X5_init
set_option maxRecDepth 20000 in
theorem ggL_law_X4_type : GoodIn wsL_law wsX4_type := goodIn_r _ [86, 16, 87, 15, 88, 89, 90, 35, 733, 734, 735, 736, 737, 738, 739, 759, 760, 761, 762, 763, 764, 765, 766] (by decide +kernel) (by decide +kernel)
set_option maxRecDepth 20000 in
theorem gL_law_X4_type : GoodIn wsL_law (wsV RL 15 RX4 yX4_type wsX4_type) := goodIn_app (goodIn_of _ (by decide +kernel)) ggL_law_X4_type
set_option maxRecDepth 20000 in
theorem ggL_law_X5_type : GoodIn wsL_law wsX5_type := goodIn_r _ [94, 95, 68, 96, 97, 98, 5, 99, 740, 741, 742, 743, 744, 745, 746, 747, 748, 749, 750, 751, 752, 753, 754, 755, 756, 757, 758] (by decide +kernel) (by decide +kernel)
set_option maxRecDepth 20000 in
theorem gL_law_X5_type : GoodIn wsL_law (wsV RL 19 RX5 yX5_type wsX5_type) := goodIn_app (goodIn_of _ (by decide +kernel)) ggL_law_X5_type
set_option maxRecDepth 20000 in
theorem ggL_law_X4_clear : GoodIn wsL_law wsX4_clear := goodIn_r _ [103, 16, 733, 734, 735, 736, 737, 738, 739, 759, 760, 761, 762, 763, 764, 765, 766] (by decide +kernel) (by decide +kernel)
set_option maxRecDepth 20000 in
theorem gL_law_X4_clear : GoodIn wsL_law (wsV RL 20 RX4 yX4_clear wsX4_clear) := goodIn_app (goodIn_of _ (by decide +kernel)) ggL_law_X4_clear
set_option maxRecDepth 20000 in
theorem ggL_law_X5_clear : GoodIn wsL_law wsX5_clear := goodIn_r _ [107, 95, 740, 741, 742, 743, 744, 745, 746, 747, 748, 749, 750, 751, 752, 753, 754, 755, 756, 757, 758] (by decide +kernel) (by decide +kernel)
set_option maxRecDepth 20000 in
theorem gL_law_X5_clear : GoodIn wsL_law (wsV RL 24 RX5 yX5_clear wsX5_clear) := goodIn_app (goodIn_of _ (by decide +kernel)) ggL_law_X5_clear
set_option maxRecDepth 20000 in
theorem ggL_law_X4_house : GoodIn wsL_law wsX4_house := goodIn_r _ [111, 16, 30, 29, 20, 24, 25, 112, 15, 113, 114, 115, 116, 117, 118, 119, 52, 28, 53, 54, 55, 56, 57, 58, 59, 60, 61, 62, 63, 120, 121, 122, 123, 90, 124, 125, 126, 127, 35, 128, 129, 130, 131, 132, 133, 134, 135, 136, 137, 138, 139, 140, 141, 142, 143, 144, 145, 146, 147, 148, 149, 150, 151, 152, 153, 154, 155, 156, 157, 158, 159, 160, 161, 162, 163, 164, 165, 166, 167, 168, 169, 170, 171, 172, 173, 174, 175, 176, 177, 178, 179, 180, 181, 182, 183, 184, 185, 186, 187, 188, 189, 190, 191, 192, 193, 194, 195, 196, 197, 198, 199, 200, 201, 202, 203, 204, 205, 206, 207, 208, 209, 210, 211, 212, 213, 214, 2, 215, 216, 217, 218, 219, 220, 221, 222, 223, 224, 225, 226, 227, 228, 229, 230, 50, 231, 232, 233, 49, 234, 235, 236, 23, 237, 238, 239, 240, 241, 242, 243, 244, 245, 733, 734, 735, 736, 737, 738, 739, 759, 760, 761, 762, 763, 764, 765, 766, 767, 768, 769, 770, 771, 780, 781, 782, 783, 784, 785, 786, 787, 788, 789, 790, 772, 773, 774, 775, 776, 777, 778, 779] (by decide +kernel) (by decide +kernel)
set_option maxRecDepth 20000 in
theorem gL_law_X4_house : GoodIn wsL_law (wsV RL 25 RX4 yX4_house wsX4_house) := goodIn_app (goodIn_of _ (by decide +kernel)) ggL_law_X4_house
set_option maxRecDepth 20000 in
theorem ggL_law_X5_house : GoodIn wsL_law wsX5_house := goodIn_r _ [249, 250, 251, 252, 253, 69, 70, 71, 72, 73, 75, 95, 79, 80, 81, 5, 82, 254, 255, 256, 257, 258, 259, 260, 261, 262, 263, 264, 68, 97, 98, 99, 265, 266, 267, 268, 269, 270, 271, 272, 273, 274, 275, 276, 277, 278, 279, 280, 281, 282, 283, 284, 285, 286, 287, 288, 289, 290, 291, 740, 741, 742, 743, 744, 745, 746, 747, 748, 749, 750, 751, 752, 753, 754, 755, 756, 757, 758] (by decide +kernel) (by decide +kernel)
set_option maxRecDepth 20000 in
theorem gL_law_X5_house : GoodIn wsL_law (wsV RL 28 RX5 yX5_house wsX5_house) := goodIn_app (goodIn_of _ (by decide +kernel)) ggL_law_X5_house
set_option maxRecDepth 20000 in
theorem ggL_law_X4_panel : GoodIn wsL_law wsX4_panel := goodIn_r _ [295, 29, 24, 296, 28, 297, 298, 55, 49, 299, 300, 301, 302, 303, 219, 2, 220, 733, 734, 735, 736, 737, 738, 739, 772, 773, 774, 775, 776, 777, 778, 779, 780, 781, 782, 783, 784, 785, 786, 787, 788, 789, 790] (by decide +kernel) (by decide +kernel)
set_option maxRecDepth 20000 in
theorem gL_law_X4_panel : GoodIn wsL_law (wsV RL 29 RX4 yX4_panel wsX4_panel) := goodIn_app (goodIn_of _ (by decide +kernel)) ggL_law_X4_panel
set_option maxRecDepth 20000 in
theorem ggL_law_X5_panel : GoodIn wsL_law wsX5_panel := goodIn_r _ [307, 70, 73, 308, 309, 310, 5, 311, 69, 97, 98, 99, 312, 313, 314, 315, 316, 317, 318, 740, 741, 742, 743, 744, 745, 746, 747, 748, 749, 750, 751, 752, 753, 754, 755, 756, 757, 758] (by decide +kernel) (by decide +kernel)
set_option maxRecDepth 20000 in
theorem gL_law_X5_panel : GoodIn wsL_law (wsV RL 33 RX5 yX5_panel wsX5_panel) := goodIn_app (goodIn_of _ (by decide +kernel)) ggL_law_X5_panel
set_option maxRecDepth 20000 in
theorem ggL_law_X4_slot : GoodIn wsL_law wsX4_slot := goodIn_r _ [322, 29, 24, 323, 214, 2, 215, 216, 28, 217, 218, 55, 219, 220, 733, 734, 735, 736, 737, 738, 739, 772, 773, 774, 775, 776, 777, 778, 779, 780, 781, 782, 783, 784, 785, 786, 787, 788, 789, 790] (by decide +kernel) (by decide +kernel)
set_option maxRecDepth 20000 in
theorem gL_law_X4_slot : GoodIn wsL_law (wsV RL 34 RX4 yX4_slot wsX4_slot) := goodIn_app (goodIn_of _ (by decide +kernel)) ggL_law_X4_slot
set_option maxRecDepth 20000 in
theorem ggL_law_X5_slot : GoodIn wsL_law wsX5_slot := goodIn_r _ [327, 73, 69, 97, 98, 5, 99, 328, 329, 330, 331, 312, 313, 314, 315, 316, 317, 318, 740, 741, 742, 743, 744, 745, 746, 747, 748, 749, 750, 751, 752, 753, 754, 755, 756, 757, 758] (by decide +kernel) (by decide +kernel)
set_option maxRecDepth 20000 in
theorem gL_law_X5_slot : GoodIn wsL_law (wsV RL 37 RX5 yX5_slot wsX5_slot) := goodIn_app (goodIn_of _ (by decide +kernel)) ggL_law_X5_slot
set_option maxRecDepth 20000 in
theorem ggL_law_X4_told : GoodIn wsL_law wsX4_told := goodIn_r _ [335, 29, 733, 734, 735, 736, 737, 738, 739, 780, 781, 782, 783, 784, 785, 786, 787, 788, 789, 790] (by decide +kernel) (by decide +kernel)
set_option maxRecDepth 20000 in
theorem gL_law_X4_told : GoodIn wsL_law (wsV RL 38 RX4 yX4_told wsX4_told) := goodIn_app (goodIn_of _ (by decide +kernel)) ggL_law_X4_told
set_option maxRecDepth 20000 in
theorem ggL_law_X5_told : GoodIn wsL_law wsX5_told := goodIn_r _ [339, 69, 97, 98, 5, 99, 740, 741, 742, 743, 744, 745, 746, 747, 748, 749, 750, 751, 752, 753, 754, 755, 756, 757, 758] (by decide +kernel) (by decide +kernel)
set_option maxRecDepth 20000 in
theorem gL_law_X5_told : GoodIn wsL_law (wsV RL 42 RX5 yX5_told wsX5_told) := goodIn_app (goodIn_of _ (by decide +kernel)) ggL_law_X5_told
set_option maxRecDepth 20000 in
theorem ggL_law_X4_beam : GoodIn wsL_law wsX4_beam := goodIn_r _ [343, 29, 24, 344, 28, 345, 346, 57, 50, 347, 348, 349, 350, 351, 352, 353, 354, 55, 49, 219, 2, 220, 355, 356, 357, 733, 734, 735, 736, 737, 738, 739, 772, 773, 774, 775, 776, 777, 778, 779, 780, 781, 782, 783, 784, 785, 786, 787, 788, 789, 790] (by decide +kernel) (by decide +kernel)
set_option maxRecDepth 20000 in
theorem gL_law_X4_beam : GoodIn wsL_law (wsV RL 43 RX4 yX4_beam wsX4_beam) := goodIn_app (goodIn_of _ (by decide +kernel)) ggL_law_X4_beam
set_option maxRecDepth 20000 in
theorem ggL_law_X5_beam : GoodIn wsL_law wsX5_beam := goodIn_r _ [361, 69, 73, 97, 98, 5, 99, 362, 363, 364, 365, 70, 72, 312, 313, 314, 315, 316, 317, 318, 740, 741, 742, 743, 744, 745, 746, 747, 748, 749, 750, 751, 752, 753, 754, 755, 756, 757, 758] (by decide +kernel) (by decide +kernel)
set_option maxRecDepth 20000 in
theorem gL_law_X5_beam : GoodIn wsL_law (wsV RL 46 RX5 yX5_beam wsX5_beam) := goodIn_app (goodIn_of _ (by decide +kernel)) ggL_law_X5_beam
set_option maxRecDepth 20000 in
theorem ggL_law_X4_down : GoodIn wsL_law wsX4_down := goodIn_r _ [369, 29, 24, 296, 28, 297, 298, 55, 49, 303, 219, 2, 220, 370, 371, 372, 373, 374, 375, 376, 377, 234, 235, 378, 379, 380, 62, 57, 381, 382, 383, 384, 351, 352, 353, 354, 385, 386, 387, 388, 389, 390, 391, 392, 347, 348, 349, 50, 350, 344, 345, 346, 733, 734, 735, 736, 737, 738, 739, 772, 773, 774, 775, 776, 777, 778, 779, 780, 781, 782, 783, 784, 785, 786, 787, 788, 789, 790] (by decide +kernel) (by decide +kernel)
set_option maxRecDepth 20000 in
theorem gL_law_X4_down : GoodIn wsL_law (wsV RL 47 RX4 yX4_down wsX4_down) := goodIn_app (goodIn_of _ (by decide +kernel)) ggL_law_X4_down
set_option maxRecDepth 20000 in
theorem ggL_law_X5_down : GoodIn wsL_law wsX5_down := goodIn_r _ [396, 73, 308, 309, 310, 5, 311, 69, 97, 98, 99, 312, 313, 314, 315, 316, 317, 318, 397, 398, 399, 400, 401, 402, 403, 404, 405, 406, 407, 408, 409, 410, 411, 412, 362, 363, 364, 365, 70, 72, 740, 741, 742, 743, 744, 745, 746, 747, 748, 749, 750, 751, 752, 753, 754, 755, 756, 757, 758] (by decide +kernel) (by decide +kernel)
set_option maxRecDepth 20000 in
theorem gL_law_X5_down : GoodIn wsL_law (wsV RL 50 RX5 yX5_down wsX5_down) := goodIn_app (goodIn_of _ (by decide +kernel)) ggL_law_X5_down
set_option maxRecDepth 20000 in
theorem ggL_law_X4_up : GoodIn wsL_law wsX4_up := goodIn_r _ [416, 29, 24, 296, 28, 297, 298, 55, 49, 323, 214, 2, 215, 303, 219, 220, 216, 217, 218, 370, 371, 372, 373, 374, 375, 376, 377, 234, 235, 378, 379, 380, 62, 57, 381, 382, 383, 384, 351, 352, 353, 354, 385, 386, 387, 388, 389, 390, 391, 392, 347, 348, 349, 50, 350, 344, 345, 346, 733, 734, 735, 736, 737, 738, 739, 772, 773, 774, 775, 776, 777, 778, 779, 780, 781, 782, 783, 784, 785, 786, 787, 788, 789, 790] (by decide +kernel) (by decide +kernel)
set_option maxRecDepth 20000 in
theorem gL_law_X4_up : GoodIn wsL_law (wsV RL 51 RX4 yX4_up wsX4_up) := goodIn_app (goodIn_of _ (by decide +kernel)) ggL_law_X4_up
set_option maxRecDepth 20000 in
theorem ggL_law_X5_up : GoodIn wsL_law wsX5_up := goodIn_r _ [420, 73, 308, 309, 310, 5, 311, 69, 97, 98, 99, 312, 313, 314, 315, 316, 317, 318, 328, 329, 330, 331, 397, 398, 399, 400, 401, 402, 403, 404, 405, 406, 407, 408, 409, 410, 411, 412, 362, 363, 364, 365, 70, 72, 740, 741, 742, 743, 744, 745, 746, 747, 748, 749, 750, 751, 752, 753, 754, 755, 756, 757, 758] (by decide +kernel) (by decide +kernel)
set_option maxRecDepth 20000 in
theorem gL_law_X5_up : GoodIn wsL_law (wsV RL 54 RX5 yX5_up wsX5_up) := goodIn_app (goodIn_of _ (by decide +kernel)) ggL_law_X5_up
set_option maxRecDepth 20000 in
theorem ggL_law_X4_night : GoodIn wsL_law wsX4_night := goodIn_r _ [424, 24, 29, 425, 28, 426, 427, 58, 351, 352, 353, 354, 55, 49, 219, 2, 220, 385, 386, 387, 388, 389, 390, 391, 733, 734, 735, 736, 737, 738, 739, 772, 773, 774, 775, 776, 777, 778, 779, 780, 781, 782, 783, 784, 785, 786, 787, 788, 789, 790] (by decide +kernel) (by decide +kernel)
set_option maxRecDepth 20000 in
theorem gL_law_X4_night : GoodIn wsL_law (wsV RL 55 RX4 yX4_night wsX4_night) := goodIn_app (goodIn_of _ (by decide +kernel)) ggL_law_X4_night
set_option maxRecDepth 20000 in
theorem ggL_law_X5_night : GoodIn wsL_law wsX5_night := goodIn_r _ [431, 73, 432, 433, 434, 5, 435, 69, 436, 437, 438, 439, 70, 328, 329, 330, 331, 312, 313, 314, 315, 316, 317, 318, 97, 98, 99, 740, 741, 742, 743, 744, 745, 746, 747, 748, 749, 750, 751, 752, 753, 754, 755, 756, 757, 758] (by decide +kernel) (by decide +kernel)
set_option maxRecDepth 20000 in
theorem gL_law_X5_night : GoodIn wsL_law (wsV RL 58 RX5 yX5_night wsX5_night) := goodIn_app (goodIn_of _ (by decide +kernel)) ggL_law_X5_night
set_option maxRecDepth 20000 in
theorem ggL_law_X4_now : GoodIn wsL_law wsX4_now := goodIn_r _ [443, 24, 29, 444, 445, 28, 446, 447, 60, 61, 448, 449, 450, 451, 59, 351, 352, 353, 354, 55, 49, 219, 2, 220, 385, 386, 387, 388, 389, 390, 391, 452, 425, 426, 427, 58, 453, 454, 455, 456, 378, 379, 380, 62, 57, 381, 382, 383, 384, 392, 347, 348, 349, 50, 350, 344, 345, 346, 355, 356, 357, 733, 734, 735, 736, 737, 738, 739, 772, 773, 774, 775, 776, 777, 778, 779, 780, 781, 782, 783, 784, 785, 786, 787, 788, 789, 790] (by decide +kernel) (by decide +kernel)
set_option maxRecDepth 20000 in
theorem gL_law_X4_now : GoodIn wsL_law (wsV RL 59 RX4 yX4_now wsX4_now) := goodIn_app (goodIn_of _ (by decide +kernel)) ggL_law_X4_now
set_option maxRecDepth 20000 in
theorem ggL_law_X5_now : GoodIn wsL_law wsX5_now := goodIn_r _ [460, 73, 461, 462, 463, 464, 5, 465, 69, 432, 433, 434, 435, 436, 437, 438, 439, 70, 328, 329, 330, 331, 312, 313, 314, 315, 316, 317, 318, 97, 98, 99, 466, 467, 468, 469, 470, 471, 472, 473, 405, 406, 407, 408, 409, 410, 411, 412, 362, 363, 364, 365, 72, 740, 741, 742, 743, 744, 745, 746, 747, 748, 749, 750, 751, 752, 753, 754, 755, 756, 757, 758] (by decide +kernel) (by decide +kernel)
set_option maxRecDepth 20000 in
theorem gL_law_X5_now : GoodIn wsL_law (wsV RL 62 RX5 yX5_now wsX5_now) := goodIn_app (goodIn_of _ (by decide +kernel)) ggL_law_X5_now
set_option maxRecDepth 20000 in
theorem ggL_law_X4_lit : GoodIn wsL_law wsX4_lit := goodIn_r _ [477, 29, 24, 323, 214, 2, 215, 449, 28, 450, 451, 59, 351, 352, 353, 354, 55, 49, 219, 220, 733, 734, 735, 736, 737, 738, 739, 772, 773, 774, 775, 776, 777, 778, 779, 780, 781, 782, 783, 784, 785, 786, 787, 788, 789, 790] (by decide +kernel) (by decide +kernel)
set_option maxRecDepth 20000 in
theorem gL_law_X4_lit : GoodIn wsL_law (wsV RL 63 RX4 yX4_lit wsX4_lit) := goodIn_app (goodIn_of _ (by decide +kernel)) ggL_law_X4_lit
set_option maxRecDepth 20000 in
theorem ggL_law_X5_lit : GoodIn wsL_law wsX5_lit := goodIn_r _ [481, 73, 97, 98, 5, 99, 466, 467, 468, 469, 69, 470, 471, 472, 473, 436, 437, 438, 439, 70, 328, 329, 330, 331, 312, 313, 314, 315, 316, 317, 318, 740, 741, 742, 743, 744, 745, 746, 747, 748, 749, 750, 751, 752, 753, 754, 755, 756, 757, 758] (by decide +kernel) (by decide +kernel)
set_option maxRecDepth 20000 in
theorem gL_law_X5_lit : GoodIn wsL_law (wsV RL 66 RX5 yX5_lit wsX5_lit) := goodIn_app (goodIn_of _ (by decide +kernel)) ggL_law_X5_lit
set_option maxRecDepth 20000 in
theorem ggL_law_X4_fewest : GoodIn wsL_law wsX4_fewest := goodIn_r _ [485, 25, 20, 29, 24, 486, 487, 488, 2, 489, 490, 19, 491, 492, 493, 494, 495, 496, 497, 40, 234, 235, 378, 28, 379, 380, 62, 55, 57, 381, 382, 383, 384, 219, 220, 351, 352, 353, 354, 49, 385, 386, 387, 388, 389, 390, 391, 392, 347, 348, 349, 50, 350, 344, 345, 346, 498, 499, 500, 501, 42, 502, 503, 504, 505, 41, 506, 507, 508, 509, 510, 511, 512, 513, 514, 375, 376, 303, 377, 515, 516, 517, 518, 519, 520, 521, 522, 733, 734, 735, 736, 737, 738, 739, 772, 773, 774, 775, 776, 777, 778, 779, 767, 768, 769, 770, 771, 780, 781, 782, 783, 784, 785, 786, 787, 788, 789, 790] (by decide +kernel) (by decide +kernel)
set_option maxRecDepth 20000 in
theorem gL_law_X4_fewest : GoodIn wsL_law (wsV RL 67 RX4 yX4_fewest wsX4_fewest) := goodIn_app (goodIn_of _ (by decide +kernel)) ggL_law_X4_fewest
set_option maxRecDepth 20000 in
theorem ggL_law_X5_fewest : GoodIn wsL_law wsX5_fewest := goodIn_r _ [526, 73, 76, 527, 528, 529, 5, 530, 75, 97, 98, 99, 531, 532, 533, 534, 535, 536, 537, 538, 539, 540, 541, 542, 543, 77, 544, 545, 546, 547, 69, 312, 313, 314, 315, 316, 317, 318, 328, 329, 330, 331, 397, 398, 399, 400, 405, 406, 407, 408, 409, 410, 411, 412, 362, 363, 364, 365, 70, 72, 548, 549, 550, 551, 740, 741, 742, 743, 744, 745, 746, 747, 748, 749, 750, 751, 752, 753, 754, 755, 756, 757, 758] (by decide +kernel) (by decide +kernel)
set_option maxRecDepth 20000 in
theorem gL_law_X5_fewest : GoodIn wsL_law (wsV RL 70 RX5 yX5_fewest wsX5_fewest) := goodIn_app (goodIn_of _ (by decide +kernel)) ggL_law_X5_fewest
set_option maxRecDepth 20000 in
theorem ggL_law_X4_first : GoodIn wsL_law wsX4_first := goodIn_r _ [555, 25, 20, 29, 24, 486, 487, 488, 2, 489, 556, 19, 557, 558, 493, 494, 495, 496, 497, 40, 234, 235, 378, 28, 379, 380, 62, 55, 57, 381, 382, 383, 384, 219, 220, 351, 352, 353, 354, 49, 385, 386, 387, 388, 389, 390, 391, 392, 347, 348, 349, 50, 350, 344, 345, 346, 519, 520, 521, 522, 498, 499, 500, 501, 42, 502, 503, 504, 505, 41, 506, 507, 508, 509, 510, 511, 512, 513, 514, 375, 376, 303, 377, 515, 516, 517, 518, 733, 734, 735, 736, 737, 738, 739, 772, 773, 774, 775, 776, 777, 778, 779, 780, 781, 782, 783, 784, 785, 786, 787, 788, 789, 790, 767, 768, 769, 770, 771] (by decide +kernel) (by decide +kernel)
set_option maxRecDepth 20000 in
theorem gL_law_X4_first : GoodIn wsL_law (wsV RL 71 RX4 yX4_first wsX4_first) := goodIn_app (goodIn_of _ (by decide +kernel)) ggL_law_X4_first
set_option maxRecDepth 20000 in
theorem ggL_law_X5_first : GoodIn wsL_law wsX5_first := goodIn_r _ [562, 73, 69, 76, 527, 528, 529, 5, 530, 75, 97, 98, 99, 548, 549, 550, 551, 405, 406, 407, 408, 409, 410, 411, 412, 312, 313, 314, 315, 316, 317, 318, 362, 363, 364, 365, 70, 72, 531, 532, 533, 534, 535, 536, 537, 538, 539, 540, 541, 542, 543, 77, 544, 545, 546, 547, 328, 329, 330, 331, 397, 398, 399, 400, 740, 741, 742, 743, 744, 745, 746, 747, 748, 749, 750, 751, 752, 753, 754, 755, 756, 757, 758] (by decide +kernel) (by decide +kernel)
set_option maxRecDepth 20000 in
theorem gL_law_X5_first : GoodIn wsL_law (wsV RL 74 RX5 yX5_first wsX5_first) := goodIn_app (goodIn_of _ (by decide +kernel)) ggL_law_X5_first
set_option maxRecDepth 20000 in
theorem ggL_law_X4_nights : GoodIn wsL_law wsX4_nights := goodIn_r _ [566, 25, 20, 29, 24, 486, 487, 488, 2, 489, 567, 19, 568, 569, 42, 493, 494, 495, 496, 497, 40, 234, 235, 378, 28, 379, 380, 62, 55, 57, 381, 382, 383, 384, 219, 220, 351, 352, 353, 354, 49, 385, 386, 387, 388, 389, 390, 391, 392, 347, 348, 349, 50, 350, 344, 345, 346, 502, 503, 504, 505, 41, 506, 507, 508, 509, 510, 511, 512, 513, 514, 375, 376, 303, 377, 515, 516, 517, 518, 519, 520, 521, 522, 570, 571, 572, 573, 425, 426, 427, 58, 733, 734, 735, 736, 737, 738, 739, 772, 773, 774, 775, 776, 777, 778, 779, 767, 768, 769, 770, 771, 780, 781, 782, 783, 784, 785, 786, 787, 788, 789, 790] (by decide +kernel) (by decide +kernel)
set_option maxRecDepth 20000 in
theorem gL_law_X4_nights : GoodIn wsL_law (wsV RL 75 RX4 yX4_nights wsX4_nights) := goodIn_app (goodIn_of _ (by decide +kernel)) ggL_law_X4_nights
set_option maxRecDepth 20000 in
theorem ggL_law_X5_nights : GoodIn wsL_law wsX5_nights := goodIn_r _ [577, 73, 69, 76, 78, 527, 528, 529, 5, 530, 75, 97, 98, 99, 548, 549, 550, 551, 535, 536, 537, 538, 539, 540, 541, 542, 543, 77, 544, 545, 546, 547, 312, 313, 314, 315, 316, 317, 318, 328, 329, 330, 331, 397, 398, 399, 400, 405, 406, 407, 408, 409, 410, 411, 412, 362, 363, 364, 365, 70, 72, 578, 579, 580, 581, 432, 433, 434, 435, 436, 437, 438, 439, 740, 741, 742, 743, 744, 745, 746, 747, 748, 749, 750, 751, 752, 753, 754, 755, 756, 757, 758] (by decide +kernel) (by decide +kernel)
set_option maxRecDepth 20000 in
theorem gL_law_X5_nights : GoodIn wsL_law (wsV RL 78 RX5 yX5_nights wsX5_nights) := goodIn_app (goodIn_of _ (by decide +kernel)) ggL_law_X5_nights
set_option maxRecDepth 20000 in
theorem ggL_law_X4_piano : GoodIn wsL_law wsX4_piano := goodIn_r _ [585, 20, 29, 24, 323, 214, 2, 215, 586, 19, 587, 588, 506, 42, 493, 494, 495, 496, 497, 40, 234, 235, 378, 28, 379, 380, 62, 55, 57, 381, 382, 383, 384, 219, 220, 351, 352, 353, 354, 49, 385, 386, 387, 388, 389, 390, 391, 392, 347, 348, 349, 50, 350, 344, 345, 346, 498, 499, 500, 501, 502, 503, 504, 505, 41, 507, 508, 509, 510, 511, 512, 513, 514, 375, 376, 303, 377, 515, 516, 517, 518, 519, 520, 521, 522, 733, 734, 735, 736, 737, 738, 739, 772, 773, 774, 775, 776, 777, 778, 779, 767, 768, 769, 770, 771, 780, 781, 782, 783, 784, 785, 786, 787, 788, 789, 790] (by decide +kernel) (by decide +kernel)
set_option maxRecDepth 20000 in
theorem gL_law_X4_piano : GoodIn wsL_law (wsV RL 79 RX4 yX4_piano wsX4_piano) := goodIn_app (goodIn_of _ (by decide +kernel)) ggL_law_X4_piano
set_option maxRecDepth 20000 in
theorem ggL_law_X5_piano : GoodIn wsL_law wsX5_piano := goodIn_r _ [592, 73, 539, 77, 76, 97, 98, 5, 99, 531, 532, 533, 534, 535, 536, 537, 538, 540, 541, 542, 543, 544, 545, 546, 547, 69, 312, 313, 314, 315, 316, 317, 318, 328, 329, 330, 331, 397, 398, 399, 400, 405, 406, 407, 408, 409, 410, 411, 412, 362, 363, 364, 365, 70, 72, 740, 741, 742, 743, 744, 745, 746, 747, 748, 749, 750, 751, 752, 753, 754, 755, 756, 757, 758] (by decide +kernel) (by decide +kernel)
set_option maxRecDepth 20000 in
theorem gL_law_X5_piano : GoodIn wsL_law (wsV RL 82 RX5 yX5_piano wsX5_piano) := goodIn_app (goodIn_of _ (by decide +kernel)) ggL_law_X5_piano
set_option maxRecDepth 20000 in
theorem ggL_law_X4_best : GoodIn wsL_law wsX4_best := goodIn_r _ [596, 29, 444, 20, 296, 28, 297, 298, 55, 49, 597, 19, 598, 599, 600, 493, 494, 495, 496, 497, 40, 234, 2, 235, 378, 379, 380, 62, 57, 381, 382, 383, 384, 219, 220, 351, 352, 353, 354, 385, 386, 387, 388, 389, 390, 391, 392, 347, 348, 349, 50, 350, 344, 345, 346, 519, 520, 521, 522, 445, 446, 447, 60, 61, 448, 449, 450, 451, 59, 452, 425, 426, 427, 58, 453, 454, 455, 456, 303, 733, 734, 735, 736, 737, 738, 739, 780, 781, 782, 783, 784, 785, 786, 787, 788, 789, 790, 767, 768, 769, 770, 771] (by decide +kernel) (by decide +kernel)
set_option maxRecDepth 20000 in
theorem gL_law_X4_best : GoodIn wsL_law (wsV RL 83 RX4 yX4_best wsX4_best) := goodIn_app (goodIn_of _ (by decide +kernel)) ggL_law_X4_best
set_option maxRecDepth 20000 in
theorem ggL_law_X5_best : GoodIn wsL_law wsX5_best := goodIn_r _ [604, 69, 461, 97, 98, 5, 99, 578, 579, 580, 581, 316, 317, 318, 405, 406, 407, 408, 409, 410, 411, 412, 312, 313, 314, 315, 362, 363, 364, 365, 70, 72, 462, 463, 464, 465, 432, 433, 434, 435, 436, 437, 438, 439, 328, 329, 330, 331, 466, 467, 468, 469, 470, 471, 472, 473, 740, 741, 742, 743, 744, 745, 746, 747, 748, 749, 750, 751, 752, 753, 754, 755, 756, 757, 758] (by decide +kernel) (by decide +kernel)
set_option maxRecDepth 20000 in
theorem gL_law_X5_best : GoodIn wsL_law (wsV RL 86 RX5 yX5_best wsX5_best) := goodIn_app (goodIn_of _ (by decide +kernel)) ggL_law_X5_best
set_option maxRecDepth 20000 in
theorem ggL_law_X4_clue : GoodIn wsL_law wsX4_clue := goodIn_r _ [608, 24, 323, 214, 2, 215, 733, 734, 735, 736, 737, 738, 739, 772, 773, 774, 775, 776, 777, 778, 779] (by decide +kernel) (by decide +kernel)
set_option maxRecDepth 20000 in
theorem gL_law_X4_clue : GoodIn wsL_law (wsV RL 87 RX4 yX4_clue wsX4_clue) := goodIn_app (goodIn_of _ (by decide +kernel)) ggL_law_X4_clue
set_option maxRecDepth 20000 in
theorem ggL_law_X5_clue : GoodIn wsL_law wsX5_clue := goodIn_r _ [612, 73, 97, 98, 5, 99, 740, 741, 742, 743, 744, 745, 746, 747, 748, 749, 750, 751, 752, 753, 754, 755, 756, 757, 758] (by decide +kernel) (by decide +kernel)
set_option maxRecDepth 20000 in
theorem gL_law_X5_clue : GoodIn wsL_law (wsV RL 90 RX5 yX5_clue wsX5_clue) := goodIn_app (goodIn_of _ (by decide +kernel)) ggL_law_X5_clue
set_option maxRecDepth 20000 in
theorem ggL_law_X4_fit : GoodIn wsL_law wsX4_fit := goodIn_r _ [616, 20, 29, 24, 617, 19, 618, 619, 493, 494, 495, 496, 497, 40, 234, 2, 235, 378, 28, 379, 380, 62, 55, 57, 381, 382, 383, 384, 219, 220, 351, 352, 353, 354, 49, 385, 386, 387, 388, 389, 390, 391, 392, 347, 348, 349, 50, 350, 344, 345, 346, 519, 520, 521, 522, 620, 621, 622, 448, 449, 450, 451, 59, 733, 734, 735, 736, 737, 738, 739, 767, 768, 769, 770, 771, 780, 781, 782, 783, 784, 785, 786, 787, 788, 789, 790, 772, 773, 774, 775, 776, 777, 778, 779] (by decide +kernel) (by decide +kernel)
set_option maxRecDepth 20000 in
theorem gL_law_X4_fit : GoodIn wsL_law (wsV RL 91 RX4 yX4_fit wsX4_fit) := goodIn_app (goodIn_of _ (by decide +kernel)) ggL_law_X4_fit
set_option maxRecDepth 20000 in
theorem ggL_law_X5_fit : GoodIn wsL_law wsX5_fit := goodIn_r _ [626, 578, 579, 580, 5, 581, 69, 316, 317, 318, 627, 628, 629, 630, 73, 405, 406, 407, 408, 409, 410, 411, 412, 312, 313, 314, 315, 362, 363, 364, 365, 70, 72, 466, 467, 468, 469, 470, 471, 472, 473, 436, 437, 438, 439, 328, 329, 330, 331, 740, 741, 742, 743, 744, 745, 746, 747, 748, 749, 750, 751, 752, 753, 754, 755, 756, 757, 758] (by decide +kernel) (by decide +kernel)
set_option maxRecDepth 20000 in
theorem gL_law_X5_fit : GoodIn wsL_law (wsV RL 94 RX5 yX5_fit wsX5_fit) := goodIn_app (goodIn_of _ (by decide +kernel)) ggL_law_X5_fit
set_option maxRecDepth 20000 in
theorem ggL_law_X4_sure : GoodIn wsL_law wsX4_sure := goodIn_r _ [634, 29, 20, 24, 296, 28, 297, 298, 55, 49, 635, 19, 636, 637, 493, 494, 495, 496, 497, 40, 234, 2, 235, 378, 379, 380, 62, 57, 381, 382, 383, 384, 219, 220, 351, 352, 353, 354, 385, 386, 387, 388, 389, 390, 391, 392, 347, 348, 349, 50, 350, 344, 345, 346, 519, 520, 521, 522, 620, 621, 622, 448, 449, 450, 451, 59, 733, 734, 735, 736, 737, 738, 739, 780, 781, 782, 783, 784, 785, 786, 787, 788, 789, 790, 767, 768, 769, 770, 771, 772, 773, 774, 775, 776, 777, 778, 779] (by decide +kernel) (by decide +kernel)
set_option maxRecDepth 20000 in
theorem gL_law_X4_sure : GoodIn wsL_law (wsV RL 95 RX4 yX4_sure wsX4_sure) := goodIn_app (goodIn_of _ (by decide +kernel)) ggL_law_X4_sure
set_option maxRecDepth 20000 in
theorem ggL_law_X5_sure : GoodIn wsL_law wsX5_sure := goodIn_r _ [641, 308, 309, 310, 5, 311, 69, 97, 98, 99, 578, 579, 580, 581, 316, 317, 318, 627, 628, 629, 630, 73, 405, 406, 407, 408, 409, 410, 411, 412, 312, 313, 314, 315, 362, 363, 364, 365, 70, 72, 466, 467, 468, 469, 470, 471, 472, 473, 436, 437, 438, 439, 328, 329, 330, 331, 740, 741, 742, 743, 744, 745, 746, 747, 748, 749, 750, 751, 752, 753, 754, 755, 756, 757, 758] (by decide +kernel) (by decide +kernel)
set_option maxRecDepth 20000 in
theorem gL_law_X5_sure : GoodIn wsL_law (wsV RL 98 RX5 yX5_sure wsX5_sure) := goodIn_app (goodIn_of _ (by decide +kernel)) ggL_law_X5_sure
set_option maxRecDepth 20000 in
theorem ggL_law_X4_forget : GoodIn wsL_law wsX4_forget := goodIn_r _ [645, 24, 733, 734, 735, 736, 737, 738, 739, 772, 773, 774, 775, 776, 777, 778, 779] (by decide +kernel) (by decide +kernel)
set_option maxRecDepth 20000 in
theorem gL_law_X4_forget : GoodIn wsL_law (wsV RL 99 RX4 yX4_forget wsX4_forget) := goodIn_app (goodIn_of _ (by decide +kernel)) ggL_law_X4_forget
set_option maxRecDepth 20000 in
theorem ggL_law_X5_forget : GoodIn wsL_law wsX5_forget := goodIn_r _ [649, 73, 740, 741, 742, 743, 744, 745, 746, 747, 748, 749, 750, 751, 752, 753, 754, 755, 756, 757, 758] (by decide +kernel) (by decide +kernel)
set_option maxRecDepth 20000 in
theorem gL_law_X5_forget : GoodIn wsL_law (wsV RL 102 RX5 yX5_forget wsX5_forget) := goodIn_app (goodIn_of _ (by decide +kernel)) ggL_law_X5_forget
set_option maxRecDepth 20000 in
theorem ggL_law_X4_mark : GoodIn wsL_law wsX4_mark := goodIn_r _ [653, 29, 444, 296, 28, 297, 298, 55, 49, 654, 655, 656, 2, 657, 658, 24, 303, 219, 220, 659, 660, 661, 662, 663, 664, 665, 666, 667, 668, 299, 300, 301, 302, 669, 670, 671, 672, 673, 674, 675, 676, 677, 678, 382, 383, 384, 679, 680, 681, 682, 683, 733, 734, 735, 736, 737, 738, 739, 780, 781, 782, 783, 784, 785, 786, 787, 788, 789, 790, 772, 773, 774, 775, 776, 777, 778, 779] (by decide +kernel) (by decide +kernel)
set_option maxRecDepth 20000 in
theorem gL_law_X4_mark : GoodIn wsL_law (wsV RL 103 RX4 yX4_mark wsX4_mark) := goodIn_app (goodIn_of _ (by decide +kernel)) ggL_law_X4_mark
set_option maxRecDepth 20000 in
theorem ggL_law_X5_mark : GoodIn wsL_law wsX5_mark := goodIn_r _ [687, 461, 73, 688, 689, 690, 70, 691, 692, 693, 97, 98, 5, 99, 308, 309, 310, 311, 69, 312, 313, 314, 315, 316, 317, 318, 409, 410, 411, 412, 740, 741, 742, 743, 744, 745, 746, 747, 748, 749, 750, 751, 752, 753, 754, 755, 756, 757, 758] (by decide +kernel) (by decide +kernel)
set_option maxRecDepth 20000 in
theorem gL_law_X5_mark : GoodIn wsL_law (wsV RL 106 RX5 yX5_mark wsX5_mark) := goodIn_app (goodIn_of _ (by decide +kernel)) ggL_law_X5_mark
set_option maxRecDepth 20000 in
theorem ggL_law_X4_keep : GoodIn wsL_law wsX4_keep := goodIn_r _ [697, 25, 24, 486, 487, 488, 2, 489, 698, 23, 699, 700, 239, 240, 241, 242, 243, 244, 245, 733, 734, 735, 736, 737, 738, 739, 772, 773, 774, 775, 776, 777, 778, 779] (by decide +kernel) (by decide +kernel)
set_option maxRecDepth 20000 in
theorem gL_law_X4_keep : GoodIn wsL_law (wsV RL 107 RX4 yX4_keep wsX4_keep) := goodIn_app (goodIn_of _ (by decide +kernel)) ggL_law_X4_keep
set_option maxRecDepth 20000 in
theorem ggL_law_X5_keep : GoodIn wsL_law wsX5_keep := goodIn_r _ [704, 75, 73, 97, 98, 5, 99, 705, 706, 707, 708, 740, 741, 742, 743, 744, 745, 746, 747, 748, 749, 750, 751, 752, 753, 754, 755, 756, 757, 758] (by decide +kernel) (by decide +kernel)
set_option maxRecDepth 20000 in
theorem gL_law_X5_keep : GoodIn wsL_law (wsV RL 110 RX5 yX5_keep wsX5_keep) := goodIn_app (goodIn_of _ (by decide +kernel)) ggL_law_X5_keep
set_option maxRecDepth 20000 in
theorem ggL_law_X4_back : GoodIn wsL_law wsX4_back := goodIn_r _ [712, 25, 24, 486, 487, 488, 2, 489, 698, 23, 699, 700, 239, 240, 241, 242, 243, 244, 245, 733, 734, 735, 736, 737, 738, 739, 772, 773, 774, 775, 776, 777, 778, 779] (by decide +kernel) (by decide +kernel)
set_option maxRecDepth 20000 in
theorem gL_law_X4_back : GoodIn wsL_law (wsV RL 111 RX4 yX4_back wsX4_back) := goodIn_app (goodIn_of _ (by decide +kernel)) ggL_law_X4_back
set_option maxRecDepth 20000 in
theorem ggL_law_X5_back : GoodIn wsL_law wsX5_back := goodIn_r _ [716, 73, 527, 528, 529, 5, 530, 75, 97, 98, 99, 705, 706, 707, 708, 740, 741, 742, 743, 744, 745, 746, 747, 748, 749, 750, 751, 752, 753, 754, 755, 756, 757, 758] (by decide +kernel) (by decide +kernel)
set_option maxRecDepth 20000 in
theorem gL_law_X5_back : GoodIn wsL_law (wsV RL 114 RX5 yX5_back wsX5_back) := goodIn_app (goodIn_of _ (by decide +kernel)) ggL_law_X5_back
set_option maxRecDepth 20000 in
theorem ggL_law_X4_count : GoodIn wsL_law wsX4_count := goodIn_r _ [720, 29, 24, 16, 382, 28, 383, 384, 55, 219, 2, 220, 733, 734, 735, 736, 737, 738, 739, 780, 781, 782, 783, 784, 785, 786, 787, 788, 789, 790, 772, 773, 774, 775, 776, 777, 778, 779, 759, 760, 761, 762, 763, 764, 765, 766] (by decide +kernel) (by decide +kernel)
set_option maxRecDepth 20000 in
theorem gL_law_X4_count : GoodIn wsL_law (wsV RL 115 RX4 yX4_count wsX4_count) := goodIn_app (goodIn_of _ (by decide +kernel)) ggL_law_X4_count
set_option maxRecDepth 20000 in
theorem ggL_law_X5_count : GoodIn wsL_law wsX5_count := goodIn_r _ [724, 69, 73, 95, 409, 410, 411, 5, 412, 312, 313, 314, 315, 316, 317, 318, 740, 741, 742, 743, 744, 745, 746, 747, 748, 749, 750, 751, 752, 753, 754, 755, 756, 757, 758] (by decide +kernel) (by decide +kernel)
set_option maxRecDepth 20000 in
theorem gL_law_X5_count : GoodIn wsL_law (wsV RL 118 RX5 yX5_count wsX5_count) := goodIn_app (goodIn_of _ (by decide +kernel)) ggL_law_X5_count
set_option maxRecDepth 20000 in
theorem ggL_law_X4_trace : GoodIn wsL_law wsX4_trace := goodIn_r _ [728, 658, 733, 734, 735, 736, 737, 738, 739] (by decide +kernel) (by decide +kernel)
set_option maxRecDepth 20000 in
theorem gL_law_X4_trace : GoodIn wsL_law (wsV RL 119 RX4 yX4_trace wsX4_trace) := goodIn_app (goodIn_of _ (by decide +kernel)) ggL_law_X4_trace
set_option maxRecDepth 20000 in
theorem ggL_law_X5_trace : GoodIn wsL_law wsX5_trace := goodIn_r _ [732, 688, 740, 741, 742, 743, 744, 745, 746, 747, 748, 749, 750, 751, 752, 753, 754, 755, 756, 757, 758] (by decide +kernel) (by decide +kernel)
set_option maxRecDepth 20000 in
theorem gL_law_X5_trace : GoodIn wsL_law (wsV RL 123 RX5 yX5_trace wsX5_trace) := goodIn_app (goodIn_of _ (by decide +kernel)) ggL_law_X5_trace
theorem dL_law_0 : decode cL_law 0 = .ok (.new 7, 3) := by decide +kernel
theorem dL_law_3 : decode cL_law 3 = .ok (.dup, 1) := by decide +kernel
theorem dL_law_4 : decode cL_law 4 = .ok (.invokespecial 9, 3) := by decide +kernel
theorem dL_law_7 : decode cL_law 7 = .ok (.astore_n 1, 1) := by decide +kernel
theorem dL_law_8 : decode cL_law 8 = .ok (.new 10, 3) := by decide +kernel
theorem dL_law_11 : decode cL_law 11 = .ok (.dup, 1) := by decide +kernel
theorem dL_law_12 : decode cL_law 12 = .ok (.invokespecial 12, 3) := by decide +kernel
theorem dL_law_15 : decode cL_law 15 = .ok (.astore_n 2, 1) := by decide +kernel
theorem dL_law_16 : decode cL_law 16 = .ok (.iconst 0, 1) := by decide +kernel
theorem dL_law_17 : decode cL_law 17 = .ok (.istore_n 3, 1) := by decide +kernel
theorem dL_law_18 : decode cL_law 18 = .ok (.iload_n 3, 1) := by decide +kernel
theorem dL_law_19 : decode cL_law 19 = .ok (.aload_n 0, 1) := by decide +kernel
theorem dL_law_20 : decode cL_law 20 = .ok (.arraylength, 1) := by decide +kernel
theorem dL_law_21 : decode cL_law 21 = .ok (.iconst 4, 1) := by decide +kernel
theorem dL_law_22 : decode cL_law 22 = .ok (.isub, 1) := by decide +kernel
theorem dL_law_23 : decode cL_law 23 = .ok (.if_icmp .gt 764, 3) := by decide +kernel
theorem dL_law_26 : decode cL_law 26 = .ok (.aload_n 0, 1) := by decide +kernel
theorem dL_law_27 : decode cL_law 27 = .ok (.iload_n 3, 1) := by decide +kernel
theorem dL_law_28 : decode cL_law 28 = .ok (.iaload, 1) := by decide +kernel
theorem dL_law_29 : decode cL_law 29 = .ok (.bipush 31, 2) := by decide +kernel
theorem dL_law_31 : decode cL_law 31 = .ok (.iand, 1) := by decide +kernel
theorem dL_law_32 : decode cL_law 32 = .ok (.tableswitch 749 0 25 #[120, 183, 196, 209, 242, 275, 298, 321, 344, 377, 390, 413, 436, 459, 482, 505, 528, 551, 584, 597, 620, 633, 666, 689, 712, 735], 120) := by decide +kernel
theorem dL_law_152 : decode cL_law 152 = .ok (.aload_n 1, 1) := by decide +kernel
theorem dL_law_153 : decode cL_law 153 = .ok (.aload_n 0, 1) := by decide +kernel
theorem dL_law_154 : decode cL_law 154 = .ok (.iload_n 3, 1) := by decide +kernel
theorem dL_law_155 : decode cL_law 155 = .ok (.iconst 1, 1) := by decide +kernel
theorem dL_law_156 : decode cL_law 156 = .ok (.iadd, 1) := by decide +kernel
theorem dL_law_157 : decode cL_law 157 = .ok (.iaload, 1) := by decide +kernel
theorem dL_law_158 : decode cL_law 158 = .ok (.i2l, 1) := by decide +kernel
theorem dL_law_159 : decode cL_law 159 = .ok (.bipush 32, 2) := by decide +kernel
theorem dL_law_161 : decode cL_law 161 = .ok (.lshl, 1) := by decide +kernel
theorem dL_law_162 : decode cL_law 162 = .ok (.aload_n 0, 1) := by decide +kernel
theorem dL_law_163 : decode cL_law 163 = .ok (.iload_n 3, 1) := by decide +kernel
theorem dL_law_164 : decode cL_law 164 = .ok (.iconst 2, 1) := by decide +kernel
theorem dL_law_165 : decode cL_law 165 = .ok (.iadd, 1) := by decide +kernel
theorem dL_law_166 : decode cL_law 166 = .ok (.iaload, 1) := by decide +kernel
theorem dL_law_167 : decode cL_law 167 = .ok (.i2l, 1) := by decide +kernel
theorem dL_law_168 : decode cL_law 168 = .ok (.ldc2_w 13, 3) := by decide +kernel
theorem dL_law_171 : decode cL_law 171 = .ok (.land, 1) := by decide +kernel
theorem dL_law_172 : decode cL_law 172 = .ok (.lor, 1) := by decide +kernel
theorem dL_law_173 : decode cL_law 173 = .ok (.aload_n 0, 1) := by decide +kernel
theorem dL_law_174 : decode cL_law 174 = .ok (.iload_n 3, 1) := by decide +kernel
theorem dL_law_175 : decode cL_law 175 = .ok (.iconst 3, 1) := by decide +kernel
theorem dL_law_176 : decode cL_law 176 = .ok (.iadd, 1) := by decide +kernel
theorem dL_law_177 : decode cL_law 177 = .ok (.iaload, 1) := by decide +kernel
theorem dL_law_178 : decode cL_law 178 = .ok (.invokevirtual 15, 3) := by decide +kernel
theorem dL_law_181 : decode cL_law 181 = .ok (.aload_n 2, 1) := by decide +kernel
theorem dL_law_182 : decode cL_law 182 = .ok (.aload_n 0, 1) := by decide +kernel
theorem dL_law_183 : decode cL_law 183 = .ok (.iload_n 3, 1) := by decide +kernel
theorem dL_law_184 : decode cL_law 184 = .ok (.iconst 1, 1) := by decide +kernel
theorem dL_law_185 : decode cL_law 185 = .ok (.iadd, 1) := by decide +kernel
theorem dL_law_186 : decode cL_law 186 = .ok (.iaload, 1) := by decide +kernel
theorem dL_law_187 : decode cL_law 187 = .ok (.i2l, 1) := by decide +kernel
theorem dL_law_188 : decode cL_law 188 = .ok (.bipush 32, 2) := by decide +kernel
theorem dL_law_190 : decode cL_law 190 = .ok (.lshl, 1) := by decide +kernel
theorem dL_law_191 : decode cL_law 191 = .ok (.aload_n 0, 1) := by decide +kernel
theorem dL_law_192 : decode cL_law 192 = .ok (.iload_n 3, 1) := by decide +kernel
theorem dL_law_193 : decode cL_law 193 = .ok (.iconst 2, 1) := by decide +kernel
theorem dL_law_194 : decode cL_law 194 = .ok (.iadd, 1) := by decide +kernel
theorem dL_law_195 : decode cL_law 195 = .ok (.iaload, 1) := by decide +kernel
theorem dL_law_196 : decode cL_law 196 = .ok (.i2l, 1) := by decide +kernel
theorem dL_law_197 : decode cL_law 197 = .ok (.ldc2_w 13, 3) := by decide +kernel
theorem dL_law_200 : decode cL_law 200 = .ok (.land, 1) := by decide +kernel
theorem dL_law_201 : decode cL_law 201 = .ok (.lor, 1) := by decide +kernel
theorem dL_law_202 : decode cL_law 202 = .ok (.aload_n 0, 1) := by decide +kernel
theorem dL_law_203 : decode cL_law 203 = .ok (.iload_n 3, 1) := by decide +kernel
theorem dL_law_204 : decode cL_law 204 = .ok (.iconst 3, 1) := by decide +kernel
theorem dL_law_205 : decode cL_law 205 = .ok (.iadd, 1) := by decide +kernel
theorem dL_law_206 : decode cL_law 206 = .ok (.iaload, 1) := by decide +kernel
theorem dL_law_207 : decode cL_law 207 = .ok (.invokevirtual 19, 3) := by decide +kernel
theorem dL_law_210 : decode cL_law 210 = .ok (.if_icmp .eq 571, 3) := by decide +kernel
theorem dL_law_213 : decode cL_law 213 = .ok (.iconst 0, 1) := by decide +kernel
theorem dL_law_214 : decode cL_law 214 = .ok (.ireturn, 1) := by decide +kernel
theorem dL_law_215 : decode cL_law 215 = .ok (.aload_n 1, 1) := by decide +kernel
theorem dL_law_216 : decode cL_law 216 = .ok (.invokevirtual 20, 3) := by decide +kernel
theorem dL_law_219 : decode cL_law 219 = .ok (.aload_n 2, 1) := by decide +kernel
theorem dL_law_220 : decode cL_law 220 = .ok (.invokevirtual 24, 3) := by decide +kernel
theorem dL_law_223 : decode cL_law 223 = .ok (.if_icmp .eq 558, 3) := by decide +kernel
theorem dL_law_226 : decode cL_law 226 = .ok (.iconst 0, 1) := by decide +kernel
theorem dL_law_227 : decode cL_law 227 = .ok (.ireturn, 1) := by decide +kernel
theorem dL_law_228 : decode cL_law 228 = .ok (.aload_n 1, 1) := by decide +kernel
theorem dL_law_229 : decode cL_law 229 = .ok (.invokevirtual 25, 3) := by decide +kernel
theorem dL_law_232 : decode cL_law 232 = .ok (.aload_n 2, 1) := by decide +kernel
theorem dL_law_233 : decode cL_law 233 = .ok (.invokevirtual 28, 3) := by decide +kernel
theorem dL_law_236 : decode cL_law 236 = .ok (.if_icmp .eq 545, 3) := by decide +kernel
theorem dL_law_239 : decode cL_law 239 = .ok (.iconst 0, 1) := by decide +kernel
theorem dL_law_240 : decode cL_law 240 = .ok (.ireturn, 1) := by decide +kernel
theorem dL_law_241 : decode cL_law 241 = .ok (.aload_n 1, 1) := by decide +kernel
theorem dL_law_242 : decode cL_law 242 = .ok (.aload_n 0, 1) := by decide +kernel
theorem dL_law_243 : decode cL_law 243 = .ok (.iload_n 3, 1) := by decide +kernel
theorem dL_law_244 : decode cL_law 244 = .ok (.iconst 1, 1) := by decide +kernel
theorem dL_law_245 : decode cL_law 245 = .ok (.iadd, 1) := by decide +kernel
theorem dL_law_246 : decode cL_law 246 = .ok (.iaload, 1) := by decide +kernel
theorem dL_law_247 : decode cL_law 247 = .ok (.aload_n 0, 1) := by decide +kernel
theorem dL_law_248 : decode cL_law 248 = .ok (.iload_n 3, 1) := by decide +kernel
theorem dL_law_249 : decode cL_law 249 = .ok (.iconst 2, 1) := by decide +kernel
theorem dL_law_250 : decode cL_law 250 = .ok (.iadd, 1) := by decide +kernel
theorem dL_law_251 : decode cL_law 251 = .ok (.iaload, 1) := by decide +kernel
theorem dL_law_252 : decode cL_law 252 = .ok (.invokevirtual 29, 3) := by decide +kernel
theorem dL_law_255 : decode cL_law 255 = .ok (.aload_n 2, 1) := by decide +kernel
theorem dL_law_256 : decode cL_law 256 = .ok (.aload_n 0, 1) := by decide +kernel
theorem dL_law_257 : decode cL_law 257 = .ok (.iload_n 3, 1) := by decide +kernel
theorem dL_law_258 : decode cL_law 258 = .ok (.iconst 1, 1) := by decide +kernel
theorem dL_law_259 : decode cL_law 259 = .ok (.iadd, 1) := by decide +kernel
theorem dL_law_260 : decode cL_law 260 = .ok (.iaload, 1) := by decide +kernel
theorem dL_law_261 : decode cL_law 261 = .ok (.aload_n 0, 1) := by decide +kernel
theorem dL_law_262 : decode cL_law 262 = .ok (.iload_n 3, 1) := by decide +kernel
theorem dL_law_263 : decode cL_law 263 = .ok (.iconst 2, 1) := by decide +kernel
theorem dL_law_264 : decode cL_law 264 = .ok (.iadd, 1) := by decide +kernel
theorem dL_law_265 : decode cL_law 265 = .ok (.iaload, 1) := by decide +kernel
theorem dL_law_266 : decode cL_law 266 = .ok (.invokevirtual 33, 3) := by decide +kernel
theorem dL_law_269 : decode cL_law 269 = .ok (.if_icmp .eq 512, 3) := by decide +kernel
theorem dL_law_272 : decode cL_law 272 = .ok (.iconst 0, 1) := by decide +kernel
theorem dL_law_273 : decode cL_law 273 = .ok (.ireturn, 1) := by decide +kernel
theorem dL_law_274 : decode cL_law 274 = .ok (.aload_n 1, 1) := by decide +kernel
theorem dL_law_275 : decode cL_law 275 = .ok (.aload_n 0, 1) := by decide +kernel
theorem dL_law_276 : decode cL_law 276 = .ok (.iload_n 3, 1) := by decide +kernel
theorem dL_law_277 : decode cL_law 277 = .ok (.iconst 1, 1) := by decide +kernel
theorem dL_law_278 : decode cL_law 278 = .ok (.iadd, 1) := by decide +kernel
theorem dL_law_279 : decode cL_law 279 = .ok (.iaload, 1) := by decide +kernel
theorem dL_law_280 : decode cL_law 280 = .ok (.aload_n 0, 1) := by decide +kernel
theorem dL_law_281 : decode cL_law 281 = .ok (.iload_n 3, 1) := by decide +kernel
theorem dL_law_282 : decode cL_law 282 = .ok (.iconst 2, 1) := by decide +kernel
theorem dL_law_283 : decode cL_law 283 = .ok (.iadd, 1) := by decide +kernel
theorem dL_law_284 : decode cL_law 284 = .ok (.iaload, 1) := by decide +kernel
theorem dL_law_285 : decode cL_law 285 = .ok (.invokevirtual 34, 3) := by decide +kernel
theorem dL_law_288 : decode cL_law 288 = .ok (.aload_n 2, 1) := by decide +kernel
theorem dL_law_289 : decode cL_law 289 = .ok (.aload_n 0, 1) := by decide +kernel
theorem dL_law_290 : decode cL_law 290 = .ok (.iload_n 3, 1) := by decide +kernel
theorem dL_law_291 : decode cL_law 291 = .ok (.iconst 1, 1) := by decide +kernel
theorem dL_law_292 : decode cL_law 292 = .ok (.iadd, 1) := by decide +kernel
theorem dL_law_293 : decode cL_law 293 = .ok (.iaload, 1) := by decide +kernel
theorem dL_law_294 : decode cL_law 294 = .ok (.aload_n 0, 1) := by decide +kernel
theorem dL_law_295 : decode cL_law 295 = .ok (.iload_n 3, 1) := by decide +kernel
theorem dL_law_296 : decode cL_law 296 = .ok (.iconst 2, 1) := by decide +kernel
theorem dL_law_297 : decode cL_law 297 = .ok (.iadd, 1) := by decide +kernel
theorem dL_law_298 : decode cL_law 298 = .ok (.iaload, 1) := by decide +kernel
theorem dL_law_299 : decode cL_law 299 = .ok (.invokevirtual 37, 3) := by decide +kernel
theorem dL_law_302 : decode cL_law 302 = .ok (.if_icmp .eq 479, 3) := by decide +kernel
theorem dL_law_305 : decode cL_law 305 = .ok (.iconst 0, 1) := by decide +kernel
theorem dL_law_306 : decode cL_law 306 = .ok (.ireturn, 1) := by decide +kernel
theorem dL_law_307 : decode cL_law 307 = .ok (.aload_n 1, 1) := by decide +kernel
theorem dL_law_308 : decode cL_law 308 = .ok (.aload_n 0, 1) := by decide +kernel
theorem dL_law_309 : decode cL_law 309 = .ok (.iload_n 3, 1) := by decide +kernel
theorem dL_law_310 : decode cL_law 310 = .ok (.iconst 1, 1) := by decide +kernel
theorem dL_law_311 : decode cL_law 311 = .ok (.iadd, 1) := by decide +kernel
theorem dL_law_312 : decode cL_law 312 = .ok (.iaload, 1) := by decide +kernel
theorem dL_law_313 : decode cL_law 313 = .ok (.invokevirtual 38, 3) := by decide +kernel
theorem dL_law_316 : decode cL_law 316 = .ok (.aload_n 2, 1) := by decide +kernel
theorem dL_law_317 : decode cL_law 317 = .ok (.aload_n 0, 1) := by decide +kernel
theorem dL_law_318 : decode cL_law 318 = .ok (.iload_n 3, 1) := by decide +kernel
theorem dL_law_319 : decode cL_law 319 = .ok (.iconst 1, 1) := by decide +kernel
theorem dL_law_320 : decode cL_law 320 = .ok (.iadd, 1) := by decide +kernel
theorem dL_law_321 : decode cL_law 321 = .ok (.iaload, 1) := by decide +kernel
theorem dL_law_322 : decode cL_law 322 = .ok (.invokevirtual 42, 3) := by decide +kernel
theorem dL_law_325 : decode cL_law 325 = .ok (.if_icmp .eq 456, 3) := by decide +kernel
theorem dL_law_328 : decode cL_law 328 = .ok (.iconst 0, 1) := by decide +kernel
theorem dL_law_329 : decode cL_law 329 = .ok (.ireturn, 1) := by decide +kernel
theorem dL_law_330 : decode cL_law 330 = .ok (.aload_n 1, 1) := by decide +kernel
theorem dL_law_331 : decode cL_law 331 = .ok (.aload_n 0, 1) := by decide +kernel
theorem dL_law_332 : decode cL_law 332 = .ok (.iload_n 3, 1) := by decide +kernel
theorem dL_law_333 : decode cL_law 333 = .ok (.iconst 1, 1) := by decide +kernel
theorem dL_law_334 : decode cL_law 334 = .ok (.iadd, 1) := by decide +kernel
theorem dL_law_335 : decode cL_law 335 = .ok (.iaload, 1) := by decide +kernel
theorem dL_law_336 : decode cL_law 336 = .ok (.invokevirtual 43, 3) := by decide +kernel
theorem dL_law_339 : decode cL_law 339 = .ok (.aload_n 2, 1) := by decide +kernel
theorem dL_law_340 : decode cL_law 340 = .ok (.aload_n 0, 1) := by decide +kernel
theorem dL_law_341 : decode cL_law 341 = .ok (.iload_n 3, 1) := by decide +kernel
theorem dL_law_342 : decode cL_law 342 = .ok (.iconst 1, 1) := by decide +kernel
theorem dL_law_343 : decode cL_law 343 = .ok (.iadd, 1) := by decide +kernel
theorem dL_law_344 : decode cL_law 344 = .ok (.iaload, 1) := by decide +kernel
theorem dL_law_345 : decode cL_law 345 = .ok (.invokevirtual 46, 3) := by decide +kernel
theorem dL_law_348 : decode cL_law 348 = .ok (.if_icmp .eq 433, 3) := by decide +kernel
theorem dL_law_351 : decode cL_law 351 = .ok (.iconst 0, 1) := by decide +kernel
theorem dL_law_352 : decode cL_law 352 = .ok (.ireturn, 1) := by decide +kernel
theorem dL_law_353 : decode cL_law 353 = .ok (.aload_n 1, 1) := by decide +kernel
theorem dL_law_354 : decode cL_law 354 = .ok (.aload_n 0, 1) := by decide +kernel
theorem dL_law_355 : decode cL_law 355 = .ok (.iload_n 3, 1) := by decide +kernel
theorem dL_law_356 : decode cL_law 356 = .ok (.iconst 1, 1) := by decide +kernel
theorem dL_law_357 : decode cL_law 357 = .ok (.iadd, 1) := by decide +kernel
theorem dL_law_358 : decode cL_law 358 = .ok (.iaload, 1) := by decide +kernel
theorem dL_law_359 : decode cL_law 359 = .ok (.invokevirtual 47, 3) := by decide +kernel
theorem dL_law_362 : decode cL_law 362 = .ok (.aload_n 2, 1) := by decide +kernel
theorem dL_law_363 : decode cL_law 363 = .ok (.aload_n 0, 1) := by decide +kernel
theorem dL_law_364 : decode cL_law 364 = .ok (.iload_n 3, 1) := by decide +kernel
theorem dL_law_365 : decode cL_law 365 = .ok (.iconst 1, 1) := by decide +kernel
theorem dL_law_366 : decode cL_law 366 = .ok (.iadd, 1) := by decide +kernel
theorem dL_law_367 : decode cL_law 367 = .ok (.iaload, 1) := by decide +kernel
theorem dL_law_368 : decode cL_law 368 = .ok (.invokevirtual 50, 3) := by decide +kernel
theorem dL_law_371 : decode cL_law 371 = .ok (.if_icmp .eq 410, 3) := by decide +kernel
theorem dL_law_374 : decode cL_law 374 = .ok (.iconst 0, 1) := by decide +kernel
theorem dL_law_375 : decode cL_law 375 = .ok (.ireturn, 1) := by decide +kernel
theorem dL_law_376 : decode cL_law 376 = .ok (.aload_n 1, 1) := by decide +kernel
theorem dL_law_377 : decode cL_law 377 = .ok (.aload_n 0, 1) := by decide +kernel
theorem dL_law_378 : decode cL_law 378 = .ok (.iload_n 3, 1) := by decide +kernel
theorem dL_law_379 : decode cL_law 379 = .ok (.iconst 1, 1) := by decide +kernel
theorem dL_law_380 : decode cL_law 380 = .ok (.iadd, 1) := by decide +kernel
theorem dL_law_381 : decode cL_law 381 = .ok (.iaload, 1) := by decide +kernel
theorem dL_law_382 : decode cL_law 382 = .ok (.aload_n 0, 1) := by decide +kernel
theorem dL_law_383 : decode cL_law 383 = .ok (.iload_n 3, 1) := by decide +kernel
theorem dL_law_384 : decode cL_law 384 = .ok (.iconst 2, 1) := by decide +kernel
theorem dL_law_385 : decode cL_law 385 = .ok (.iadd, 1) := by decide +kernel
theorem dL_law_386 : decode cL_law 386 = .ok (.iaload, 1) := by decide +kernel
theorem dL_law_387 : decode cL_law 387 = .ok (.invokevirtual 51, 3) := by decide +kernel
theorem dL_law_390 : decode cL_law 390 = .ok (.aload_n 2, 1) := by decide +kernel
theorem dL_law_391 : decode cL_law 391 = .ok (.aload_n 0, 1) := by decide +kernel
theorem dL_law_392 : decode cL_law 392 = .ok (.iload_n 3, 1) := by decide +kernel
theorem dL_law_393 : decode cL_law 393 = .ok (.iconst 1, 1) := by decide +kernel
theorem dL_law_394 : decode cL_law 394 = .ok (.iadd, 1) := by decide +kernel
theorem dL_law_395 : decode cL_law 395 = .ok (.iaload, 1) := by decide +kernel
theorem dL_law_396 : decode cL_law 396 = .ok (.aload_n 0, 1) := by decide +kernel
theorem dL_law_397 : decode cL_law 397 = .ok (.iload_n 3, 1) := by decide +kernel
theorem dL_law_398 : decode cL_law 398 = .ok (.iconst 2, 1) := by decide +kernel
theorem dL_law_399 : decode cL_law 399 = .ok (.iadd, 1) := by decide +kernel
theorem dL_law_400 : decode cL_law 400 = .ok (.iaload, 1) := by decide +kernel
theorem dL_law_401 : decode cL_law 401 = .ok (.invokevirtual 54, 3) := by decide +kernel
theorem dL_law_404 : decode cL_law 404 = .ok (.if_icmp .eq 377, 3) := by decide +kernel
theorem dL_law_407 : decode cL_law 407 = .ok (.iconst 0, 1) := by decide +kernel
theorem dL_law_408 : decode cL_law 408 = .ok (.ireturn, 1) := by decide +kernel
theorem dL_law_409 : decode cL_law 409 = .ok (.aload_n 1, 1) := by decide +kernel
theorem dL_law_410 : decode cL_law 410 = .ok (.invokevirtual 55, 3) := by decide +kernel
theorem dL_law_413 : decode cL_law 413 = .ok (.aload_n 2, 1) := by decide +kernel
theorem dL_law_414 : decode cL_law 414 = .ok (.invokevirtual 58, 3) := by decide +kernel
theorem dL_law_417 : decode cL_law 417 = .ok (.if_icmp .eq 364, 3) := by decide +kernel
theorem dL_law_420 : decode cL_law 420 = .ok (.iconst 0, 1) := by decide +kernel
theorem dL_law_421 : decode cL_law 421 = .ok (.ireturn, 1) := by decide +kernel
theorem dL_law_422 : decode cL_law 422 = .ok (.aload_n 1, 1) := by decide +kernel
theorem dL_law_423 : decode cL_law 423 = .ok (.aload_n 0, 1) := by decide +kernel
theorem dL_law_424 : decode cL_law 424 = .ok (.iload_n 3, 1) := by decide +kernel
theorem dL_law_425 : decode cL_law 425 = .ok (.iconst 1, 1) := by decide +kernel
theorem dL_law_426 : decode cL_law 426 = .ok (.iadd, 1) := by decide +kernel
theorem dL_law_427 : decode cL_law 427 = .ok (.iaload, 1) := by decide +kernel
theorem dL_law_428 : decode cL_law 428 = .ok (.invokevirtual 59, 3) := by decide +kernel
theorem dL_law_431 : decode cL_law 431 = .ok (.aload_n 2, 1) := by decide +kernel
theorem dL_law_432 : decode cL_law 432 = .ok (.aload_n 0, 1) := by decide +kernel
theorem dL_law_433 : decode cL_law 433 = .ok (.iload_n 3, 1) := by decide +kernel
theorem dL_law_434 : decode cL_law 434 = .ok (.iconst 1, 1) := by decide +kernel
theorem dL_law_435 : decode cL_law 435 = .ok (.iadd, 1) := by decide +kernel
theorem dL_law_436 : decode cL_law 436 = .ok (.iaload, 1) := by decide +kernel
theorem dL_law_437 : decode cL_law 437 = .ok (.invokevirtual 62, 3) := by decide +kernel
theorem dL_law_440 : decode cL_law 440 = .ok (.if_icmp .eq 341, 3) := by decide +kernel
theorem dL_law_443 : decode cL_law 443 = .ok (.iconst 0, 1) := by decide +kernel
theorem dL_law_444 : decode cL_law 444 = .ok (.ireturn, 1) := by decide +kernel
theorem dL_law_445 : decode cL_law 445 = .ok (.aload_n 1, 1) := by decide +kernel
theorem dL_law_446 : decode cL_law 446 = .ok (.aload_n 0, 1) := by decide +kernel
theorem dL_law_447 : decode cL_law 447 = .ok (.iload_n 3, 1) := by decide +kernel
theorem dL_law_448 : decode cL_law 448 = .ok (.iconst 1, 1) := by decide +kernel
theorem dL_law_449 : decode cL_law 449 = .ok (.iadd, 1) := by decide +kernel
theorem dL_law_450 : decode cL_law 450 = .ok (.iaload, 1) := by decide +kernel
theorem dL_law_451 : decode cL_law 451 = .ok (.invokevirtual 63, 3) := by decide +kernel
theorem dL_law_454 : decode cL_law 454 = .ok (.aload_n 2, 1) := by decide +kernel
theorem dL_law_455 : decode cL_law 455 = .ok (.aload_n 0, 1) := by decide +kernel
theorem dL_law_456 : decode cL_law 456 = .ok (.iload_n 3, 1) := by decide +kernel
theorem dL_law_457 : decode cL_law 457 = .ok (.iconst 1, 1) := by decide +kernel
theorem dL_law_458 : decode cL_law 458 = .ok (.iadd, 1) := by decide +kernel
theorem dL_law_459 : decode cL_law 459 = .ok (.iaload, 1) := by decide +kernel
theorem dL_law_460 : decode cL_law 460 = .ok (.invokevirtual 66, 3) := by decide +kernel
theorem dL_law_463 : decode cL_law 463 = .ok (.if_icmp .eq 318, 3) := by decide +kernel
theorem dL_law_466 : decode cL_law 466 = .ok (.iconst 0, 1) := by decide +kernel
theorem dL_law_467 : decode cL_law 467 = .ok (.ireturn, 1) := by decide +kernel
theorem dL_law_468 : decode cL_law 468 = .ok (.aload_n 1, 1) := by decide +kernel
theorem dL_law_469 : decode cL_law 469 = .ok (.aload_n 0, 1) := by decide +kernel
theorem dL_law_470 : decode cL_law 470 = .ok (.iload_n 3, 1) := by decide +kernel
theorem dL_law_471 : decode cL_law 471 = .ok (.iconst 1, 1) := by decide +kernel
theorem dL_law_472 : decode cL_law 472 = .ok (.iadd, 1) := by decide +kernel
theorem dL_law_473 : decode cL_law 473 = .ok (.iaload, 1) := by decide +kernel
theorem dL_law_474 : decode cL_law 474 = .ok (.invokevirtual 67, 3) := by decide +kernel
theorem dL_law_477 : decode cL_law 477 = .ok (.aload_n 2, 1) := by decide +kernel
theorem dL_law_478 : decode cL_law 478 = .ok (.aload_n 0, 1) := by decide +kernel
theorem dL_law_479 : decode cL_law 479 = .ok (.iload_n 3, 1) := by decide +kernel
theorem dL_law_480 : decode cL_law 480 = .ok (.iconst 1, 1) := by decide +kernel
theorem dL_law_481 : decode cL_law 481 = .ok (.iadd, 1) := by decide +kernel
theorem dL_law_482 : decode cL_law 482 = .ok (.iaload, 1) := by decide +kernel
theorem dL_law_483 : decode cL_law 483 = .ok (.invokevirtual 70, 3) := by decide +kernel
theorem dL_law_486 : decode cL_law 486 = .ok (.if_icmp .eq 295, 3) := by decide +kernel
theorem dL_law_489 : decode cL_law 489 = .ok (.iconst 0, 1) := by decide +kernel
theorem dL_law_490 : decode cL_law 490 = .ok (.ireturn, 1) := by decide +kernel
theorem dL_law_491 : decode cL_law 491 = .ok (.aload_n 1, 1) := by decide +kernel
theorem dL_law_492 : decode cL_law 492 = .ok (.aload_n 0, 1) := by decide +kernel
theorem dL_law_493 : decode cL_law 493 = .ok (.iload_n 3, 1) := by decide +kernel
theorem dL_law_494 : decode cL_law 494 = .ok (.iconst 1, 1) := by decide +kernel
theorem dL_law_495 : decode cL_law 495 = .ok (.iadd, 1) := by decide +kernel
theorem dL_law_496 : decode cL_law 496 = .ok (.iaload, 1) := by decide +kernel
theorem dL_law_497 : decode cL_law 497 = .ok (.invokevirtual 71, 3) := by decide +kernel
theorem dL_law_500 : decode cL_law 500 = .ok (.aload_n 2, 1) := by decide +kernel
theorem dL_law_501 : decode cL_law 501 = .ok (.aload_n 0, 1) := by decide +kernel
theorem dL_law_502 : decode cL_law 502 = .ok (.iload_n 3, 1) := by decide +kernel
theorem dL_law_503 : decode cL_law 503 = .ok (.iconst 1, 1) := by decide +kernel
theorem dL_law_504 : decode cL_law 504 = .ok (.iadd, 1) := by decide +kernel
theorem dL_law_505 : decode cL_law 505 = .ok (.iaload, 1) := by decide +kernel
theorem dL_law_506 : decode cL_law 506 = .ok (.invokevirtual 74, 3) := by decide +kernel
theorem dL_law_509 : decode cL_law 509 = .ok (.if_icmp .eq 272, 3) := by decide +kernel
theorem dL_law_512 : decode cL_law 512 = .ok (.iconst 0, 1) := by decide +kernel
theorem dL_law_513 : decode cL_law 513 = .ok (.ireturn, 1) := by decide +kernel
theorem dL_law_514 : decode cL_law 514 = .ok (.aload_n 1, 1) := by decide +kernel
theorem dL_law_515 : decode cL_law 515 = .ok (.aload_n 0, 1) := by decide +kernel
theorem dL_law_516 : decode cL_law 516 = .ok (.iload_n 3, 1) := by decide +kernel
theorem dL_law_517 : decode cL_law 517 = .ok (.iconst 1, 1) := by decide +kernel
theorem dL_law_518 : decode cL_law 518 = .ok (.iadd, 1) := by decide +kernel
theorem dL_law_519 : decode cL_law 519 = .ok (.iaload, 1) := by decide +kernel
theorem dL_law_520 : decode cL_law 520 = .ok (.invokevirtual 75, 3) := by decide +kernel
theorem dL_law_523 : decode cL_law 523 = .ok (.aload_n 2, 1) := by decide +kernel
theorem dL_law_524 : decode cL_law 524 = .ok (.aload_n 0, 1) := by decide +kernel
theorem dL_law_525 : decode cL_law 525 = .ok (.iload_n 3, 1) := by decide +kernel
theorem dL_law_526 : decode cL_law 526 = .ok (.iconst 1, 1) := by decide +kernel
theorem dL_law_527 : decode cL_law 527 = .ok (.iadd, 1) := by decide +kernel
theorem dL_law_528 : decode cL_law 528 = .ok (.iaload, 1) := by decide +kernel
theorem dL_law_529 : decode cL_law 529 = .ok (.invokevirtual 78, 3) := by decide +kernel
theorem dL_law_532 : decode cL_law 532 = .ok (.if_icmp .eq 249, 3) := by decide +kernel
theorem dL_law_535 : decode cL_law 535 = .ok (.iconst 0, 1) := by decide +kernel
theorem dL_law_536 : decode cL_law 536 = .ok (.ireturn, 1) := by decide +kernel
theorem dL_law_537 : decode cL_law 537 = .ok (.aload_n 1, 1) := by decide +kernel
theorem dL_law_538 : decode cL_law 538 = .ok (.aload_n 0, 1) := by decide +kernel
theorem dL_law_539 : decode cL_law 539 = .ok (.iload_n 3, 1) := by decide +kernel
theorem dL_law_540 : decode cL_law 540 = .ok (.iconst 1, 1) := by decide +kernel
theorem dL_law_541 : decode cL_law 541 = .ok (.iadd, 1) := by decide +kernel
theorem dL_law_542 : decode cL_law 542 = .ok (.iaload, 1) := by decide +kernel
theorem dL_law_543 : decode cL_law 543 = .ok (.invokevirtual 79, 3) := by decide +kernel
theorem dL_law_546 : decode cL_law 546 = .ok (.aload_n 2, 1) := by decide +kernel
theorem dL_law_547 : decode cL_law 547 = .ok (.aload_n 0, 1) := by decide +kernel
theorem dL_law_548 : decode cL_law 548 = .ok (.iload_n 3, 1) := by decide +kernel
theorem dL_law_549 : decode cL_law 549 = .ok (.iconst 1, 1) := by decide +kernel
theorem dL_law_550 : decode cL_law 550 = .ok (.iadd, 1) := by decide +kernel
theorem dL_law_551 : decode cL_law 551 = .ok (.iaload, 1) := by decide +kernel
theorem dL_law_552 : decode cL_law 552 = .ok (.invokevirtual 82, 3) := by decide +kernel
theorem dL_law_555 : decode cL_law 555 = .ok (.if_icmp .eq 226, 3) := by decide +kernel
theorem dL_law_558 : decode cL_law 558 = .ok (.iconst 0, 1) := by decide +kernel
theorem dL_law_559 : decode cL_law 559 = .ok (.ireturn, 1) := by decide +kernel
theorem dL_law_560 : decode cL_law 560 = .ok (.aload_n 1, 1) := by decide +kernel
theorem dL_law_561 : decode cL_law 561 = .ok (.aload_n 0, 1) := by decide +kernel
theorem dL_law_562 : decode cL_law 562 = .ok (.iload_n 3, 1) := by decide +kernel
theorem dL_law_563 : decode cL_law 563 = .ok (.iconst 1, 1) := by decide +kernel
theorem dL_law_564 : decode cL_law 564 = .ok (.iadd, 1) := by decide +kernel
theorem dL_law_565 : decode cL_law 565 = .ok (.iaload, 1) := by decide +kernel
theorem dL_law_566 : decode cL_law 566 = .ok (.invokevirtual 83, 3) := by decide +kernel
theorem dL_law_569 : decode cL_law 569 = .ok (.aload_n 2, 1) := by decide +kernel
theorem dL_law_570 : decode cL_law 570 = .ok (.aload_n 0, 1) := by decide +kernel
theorem dL_law_571 : decode cL_law 571 = .ok (.iload_n 3, 1) := by decide +kernel
theorem dL_law_572 : decode cL_law 572 = .ok (.iconst 1, 1) := by decide +kernel
theorem dL_law_573 : decode cL_law 573 = .ok (.iadd, 1) := by decide +kernel
theorem dL_law_574 : decode cL_law 574 = .ok (.iaload, 1) := by decide +kernel
theorem dL_law_575 : decode cL_law 575 = .ok (.invokevirtual 86, 3) := by decide +kernel
theorem dL_law_578 : decode cL_law 578 = .ok (.if_icmp .eq 203, 3) := by decide +kernel
theorem dL_law_581 : decode cL_law 581 = .ok (.iconst 0, 1) := by decide +kernel
theorem dL_law_582 : decode cL_law 582 = .ok (.ireturn, 1) := by decide +kernel
theorem dL_law_583 : decode cL_law 583 = .ok (.aload_n 1, 1) := by decide +kernel
theorem dL_law_584 : decode cL_law 584 = .ok (.aload_n 0, 1) := by decide +kernel
theorem dL_law_585 : decode cL_law 585 = .ok (.iload_n 3, 1) := by decide +kernel
theorem dL_law_586 : decode cL_law 586 = .ok (.iconst 1, 1) := by decide +kernel
theorem dL_law_587 : decode cL_law 587 = .ok (.iadd, 1) := by decide +kernel
theorem dL_law_588 : decode cL_law 588 = .ok (.iaload, 1) := by decide +kernel
theorem dL_law_589 : decode cL_law 589 = .ok (.aload_n 0, 1) := by decide +kernel
theorem dL_law_590 : decode cL_law 590 = .ok (.iload_n 3, 1) := by decide +kernel
theorem dL_law_591 : decode cL_law 591 = .ok (.iconst 2, 1) := by decide +kernel
theorem dL_law_592 : decode cL_law 592 = .ok (.iadd, 1) := by decide +kernel
theorem dL_law_593 : decode cL_law 593 = .ok (.iaload, 1) := by decide +kernel
theorem dL_law_594 : decode cL_law 594 = .ok (.invokevirtual 87, 3) := by decide +kernel
theorem dL_law_597 : decode cL_law 597 = .ok (.aload_n 2, 1) := by decide +kernel
theorem dL_law_598 : decode cL_law 598 = .ok (.aload_n 0, 1) := by decide +kernel
theorem dL_law_599 : decode cL_law 599 = .ok (.iload_n 3, 1) := by decide +kernel
theorem dL_law_600 : decode cL_law 600 = .ok (.iconst 1, 1) := by decide +kernel
theorem dL_law_601 : decode cL_law 601 = .ok (.iadd, 1) := by decide +kernel
theorem dL_law_602 : decode cL_law 602 = .ok (.iaload, 1) := by decide +kernel
theorem dL_law_603 : decode cL_law 603 = .ok (.aload_n 0, 1) := by decide +kernel
theorem dL_law_604 : decode cL_law 604 = .ok (.iload_n 3, 1) := by decide +kernel
theorem dL_law_605 : decode cL_law 605 = .ok (.iconst 2, 1) := by decide +kernel
theorem dL_law_606 : decode cL_law 606 = .ok (.iadd, 1) := by decide +kernel
theorem dL_law_607 : decode cL_law 607 = .ok (.iaload, 1) := by decide +kernel
theorem dL_law_608 : decode cL_law 608 = .ok (.invokevirtual 90, 3) := by decide +kernel
theorem dL_law_611 : decode cL_law 611 = .ok (.if_icmp .eq 170, 3) := by decide +kernel
theorem dL_law_614 : decode cL_law 614 = .ok (.iconst 0, 1) := by decide +kernel
theorem dL_law_615 : decode cL_law 615 = .ok (.ireturn, 1) := by decide +kernel
theorem dL_law_616 : decode cL_law 616 = .ok (.aload_n 1, 1) := by decide +kernel
theorem dL_law_617 : decode cL_law 617 = .ok (.invokevirtual 91, 3) := by decide +kernel
theorem dL_law_620 : decode cL_law 620 = .ok (.aload_n 2, 1) := by decide +kernel
theorem dL_law_621 : decode cL_law 621 = .ok (.invokevirtual 94, 3) := by decide +kernel
theorem dL_law_624 : decode cL_law 624 = .ok (.if_icmp .eq 157, 3) := by decide +kernel
theorem dL_law_627 : decode cL_law 627 = .ok (.iconst 0, 1) := by decide +kernel
theorem dL_law_628 : decode cL_law 628 = .ok (.ireturn, 1) := by decide +kernel
theorem dL_law_629 : decode cL_law 629 = .ok (.aload_n 1, 1) := by decide +kernel
theorem dL_law_630 : decode cL_law 630 = .ok (.aload_n 0, 1) := by decide +kernel
theorem dL_law_631 : decode cL_law 631 = .ok (.iload_n 3, 1) := by decide +kernel
theorem dL_law_632 : decode cL_law 632 = .ok (.iconst 1, 1) := by decide +kernel
theorem dL_law_633 : decode cL_law 633 = .ok (.iadd, 1) := by decide +kernel
theorem dL_law_634 : decode cL_law 634 = .ok (.iaload, 1) := by decide +kernel
theorem dL_law_635 : decode cL_law 635 = .ok (.invokevirtual 95, 3) := by decide +kernel
theorem dL_law_638 : decode cL_law 638 = .ok (.aload_n 2, 1) := by decide +kernel
theorem dL_law_639 : decode cL_law 639 = .ok (.aload_n 0, 1) := by decide +kernel
theorem dL_law_640 : decode cL_law 640 = .ok (.iload_n 3, 1) := by decide +kernel
theorem dL_law_641 : decode cL_law 641 = .ok (.iconst 1, 1) := by decide +kernel
theorem dL_law_642 : decode cL_law 642 = .ok (.iadd, 1) := by decide +kernel
theorem dL_law_643 : decode cL_law 643 = .ok (.iaload, 1) := by decide +kernel
theorem dL_law_644 : decode cL_law 644 = .ok (.invokevirtual 98, 3) := by decide +kernel
theorem dL_law_647 : decode cL_law 647 = .ok (.if_icmp .eq 134, 3) := by decide +kernel
theorem dL_law_650 : decode cL_law 650 = .ok (.iconst 0, 1) := by decide +kernel
theorem dL_law_651 : decode cL_law 651 = .ok (.ireturn, 1) := by decide +kernel
theorem dL_law_652 : decode cL_law 652 = .ok (.aload_n 1, 1) := by decide +kernel
theorem dL_law_653 : decode cL_law 653 = .ok (.invokevirtual 99, 3) := by decide +kernel
theorem dL_law_656 : decode cL_law 656 = .ok (.aload_n 2, 1) := by decide +kernel
theorem dL_law_657 : decode cL_law 657 = .ok (.invokevirtual 102, 3) := by decide +kernel
theorem dL_law_660 : decode cL_law 660 = .ok (.if_icmp .eq 121, 3) := by decide +kernel
theorem dL_law_663 : decode cL_law 663 = .ok (.iconst 0, 1) := by decide +kernel
theorem dL_law_664 : decode cL_law 664 = .ok (.ireturn, 1) := by decide +kernel
theorem dL_law_665 : decode cL_law 665 = .ok (.aload_n 1, 1) := by decide +kernel
theorem dL_law_666 : decode cL_law 666 = .ok (.aload_n 0, 1) := by decide +kernel
theorem dL_law_667 : decode cL_law 667 = .ok (.iload_n 3, 1) := by decide +kernel
theorem dL_law_668 : decode cL_law 668 = .ok (.iconst 1, 1) := by decide +kernel
theorem dL_law_669 : decode cL_law 669 = .ok (.iadd, 1) := by decide +kernel
theorem dL_law_670 : decode cL_law 670 = .ok (.iaload, 1) := by decide +kernel
theorem dL_law_671 : decode cL_law 671 = .ok (.aload_n 0, 1) := by decide +kernel
theorem dL_law_672 : decode cL_law 672 = .ok (.iload_n 3, 1) := by decide +kernel
theorem dL_law_673 : decode cL_law 673 = .ok (.iconst 2, 1) := by decide +kernel
theorem dL_law_674 : decode cL_law 674 = .ok (.iadd, 1) := by decide +kernel
theorem dL_law_675 : decode cL_law 675 = .ok (.iaload, 1) := by decide +kernel
theorem dL_law_676 : decode cL_law 676 = .ok (.invokevirtual 103, 3) := by decide +kernel
theorem dL_law_679 : decode cL_law 679 = .ok (.aload_n 2, 1) := by decide +kernel
theorem dL_law_680 : decode cL_law 680 = .ok (.aload_n 0, 1) := by decide +kernel
theorem dL_law_681 : decode cL_law 681 = .ok (.iload_n 3, 1) := by decide +kernel
theorem dL_law_682 : decode cL_law 682 = .ok (.iconst 1, 1) := by decide +kernel
theorem dL_law_683 : decode cL_law 683 = .ok (.iadd, 1) := by decide +kernel
theorem dL_law_684 : decode cL_law 684 = .ok (.iaload, 1) := by decide +kernel
theorem dL_law_685 : decode cL_law 685 = .ok (.aload_n 0, 1) := by decide +kernel
theorem dL_law_686 : decode cL_law 686 = .ok (.iload_n 3, 1) := by decide +kernel
theorem dL_law_687 : decode cL_law 687 = .ok (.iconst 2, 1) := by decide +kernel
theorem dL_law_688 : decode cL_law 688 = .ok (.iadd, 1) := by decide +kernel
theorem dL_law_689 : decode cL_law 689 = .ok (.iaload, 1) := by decide +kernel
theorem dL_law_690 : decode cL_law 690 = .ok (.invokevirtual 106, 3) := by decide +kernel
theorem dL_law_693 : decode cL_law 693 = .ok (.if_icmp .eq 88, 3) := by decide +kernel
theorem dL_law_696 : decode cL_law 696 = .ok (.iconst 0, 1) := by decide +kernel
theorem dL_law_697 : decode cL_law 697 = .ok (.ireturn, 1) := by decide +kernel
theorem dL_law_698 : decode cL_law 698 = .ok (.aload_n 1, 1) := by decide +kernel
theorem dL_law_699 : decode cL_law 699 = .ok (.aload_n 0, 1) := by decide +kernel
theorem dL_law_700 : decode cL_law 700 = .ok (.iload_n 3, 1) := by decide +kernel
theorem dL_law_701 : decode cL_law 701 = .ok (.iconst 1, 1) := by decide +kernel
theorem dL_law_702 : decode cL_law 702 = .ok (.iadd, 1) := by decide +kernel
theorem dL_law_703 : decode cL_law 703 = .ok (.iaload, 1) := by decide +kernel
theorem dL_law_704 : decode cL_law 704 = .ok (.invokevirtual 107, 3) := by decide +kernel
theorem dL_law_707 : decode cL_law 707 = .ok (.aload_n 2, 1) := by decide +kernel
theorem dL_law_708 : decode cL_law 708 = .ok (.aload_n 0, 1) := by decide +kernel
theorem dL_law_709 : decode cL_law 709 = .ok (.iload_n 3, 1) := by decide +kernel
theorem dL_law_710 : decode cL_law 710 = .ok (.iconst 1, 1) := by decide +kernel
theorem dL_law_711 : decode cL_law 711 = .ok (.iadd, 1) := by decide +kernel
theorem dL_law_712 : decode cL_law 712 = .ok (.iaload, 1) := by decide +kernel
theorem dL_law_713 : decode cL_law 713 = .ok (.invokevirtual 110, 3) := by decide +kernel
theorem dL_law_716 : decode cL_law 716 = .ok (.if_icmp .eq 65, 3) := by decide +kernel
theorem dL_law_719 : decode cL_law 719 = .ok (.iconst 0, 1) := by decide +kernel
theorem dL_law_720 : decode cL_law 720 = .ok (.ireturn, 1) := by decide +kernel
theorem dL_law_721 : decode cL_law 721 = .ok (.aload_n 1, 1) := by decide +kernel
theorem dL_law_722 : decode cL_law 722 = .ok (.aload_n 0, 1) := by decide +kernel
theorem dL_law_723 : decode cL_law 723 = .ok (.iload_n 3, 1) := by decide +kernel
theorem dL_law_724 : decode cL_law 724 = .ok (.iconst 1, 1) := by decide +kernel
theorem dL_law_725 : decode cL_law 725 = .ok (.iadd, 1) := by decide +kernel
theorem dL_law_726 : decode cL_law 726 = .ok (.iaload, 1) := by decide +kernel
theorem dL_law_727 : decode cL_law 727 = .ok (.invokevirtual 111, 3) := by decide +kernel
theorem dL_law_730 : decode cL_law 730 = .ok (.aload_n 2, 1) := by decide +kernel
theorem dL_law_731 : decode cL_law 731 = .ok (.aload_n 0, 1) := by decide +kernel
theorem dL_law_732 : decode cL_law 732 = .ok (.iload_n 3, 1) := by decide +kernel
theorem dL_law_733 : decode cL_law 733 = .ok (.iconst 1, 1) := by decide +kernel
theorem dL_law_734 : decode cL_law 734 = .ok (.iadd, 1) := by decide +kernel
theorem dL_law_735 : decode cL_law 735 = .ok (.iaload, 1) := by decide +kernel
theorem dL_law_736 : decode cL_law 736 = .ok (.invokevirtual 114, 3) := by decide +kernel
theorem dL_law_739 : decode cL_law 739 = .ok (.if_icmp .eq 42, 3) := by decide +kernel
theorem dL_law_742 : decode cL_law 742 = .ok (.iconst 0, 1) := by decide +kernel
theorem dL_law_743 : decode cL_law 743 = .ok (.ireturn, 1) := by decide +kernel
theorem dL_law_744 : decode cL_law 744 = .ok (.aload_n 1, 1) := by decide +kernel
theorem dL_law_745 : decode cL_law 745 = .ok (.aload_n 0, 1) := by decide +kernel
theorem dL_law_746 : decode cL_law 746 = .ok (.iload_n 3, 1) := by decide +kernel
theorem dL_law_747 : decode cL_law 747 = .ok (.iconst 1, 1) := by decide +kernel
theorem dL_law_748 : decode cL_law 748 = .ok (.iadd, 1) := by decide +kernel
theorem dL_law_749 : decode cL_law 749 = .ok (.iaload, 1) := by decide +kernel
theorem dL_law_750 : decode cL_law 750 = .ok (.invokevirtual 115, 3) := by decide +kernel
theorem dL_law_753 : decode cL_law 753 = .ok (.aload_n 2, 1) := by decide +kernel
theorem dL_law_754 : decode cL_law 754 = .ok (.aload_n 0, 1) := by decide +kernel
theorem dL_law_755 : decode cL_law 755 = .ok (.iload_n 3, 1) := by decide +kernel
theorem dL_law_756 : decode cL_law 756 = .ok (.iconst 1, 1) := by decide +kernel
theorem dL_law_757 : decode cL_law 757 = .ok (.iadd, 1) := by decide +kernel
theorem dL_law_758 : decode cL_law 758 = .ok (.iaload, 1) := by decide +kernel
theorem dL_law_759 : decode cL_law 759 = .ok (.invokevirtual 118, 3) := by decide +kernel
theorem dL_law_762 : decode cL_law 762 = .ok (.if_icmp .eq 19, 3) := by decide +kernel
theorem dL_law_765 : decode cL_law 765 = .ok (.iconst 0, 1) := by decide +kernel
theorem dL_law_766 : decode cL_law 766 = .ok (.ireturn, 1) := by decide +kernel
theorem dL_law_767 : decode cL_law 767 = .ok (.aload_n 1, 1) := by decide +kernel
theorem dL_law_768 : decode cL_law 768 = .ok (.invokevirtual 119, 3) := by decide +kernel
theorem dL_law_771 : decode cL_law 771 = .ok (.aload_n 2, 1) := by decide +kernel
theorem dL_law_772 : decode cL_law 772 = .ok (.invokevirtual 123, 3) := by decide +kernel
theorem dL_law_775 : decode cL_law 775 = .ok (.lcmp, 1) := by decide +kernel
theorem dL_law_776 : decode cL_law 776 = .ok (.ifCond .eq 5, 3) := by decide +kernel
theorem dL_law_779 : decode cL_law 779 = .ok (.iconst 0, 1) := by decide +kernel
theorem dL_law_780 : decode cL_law 780 = .ok (.ireturn, 1) := by decide +kernel
theorem dL_law_781 : decode cL_law 781 = .ok (.iinc 3 4, 3) := by decide +kernel
theorem dL_law_784 : decode cL_law 784 = .ok (.goto (-766), 3) := by decide +kernel
theorem dL_law_787 : decode cL_law 787 = .ok (.iconst 1, 1) := by decide +kernel
theorem dL_law_788 : decode cL_law 788 = .ok (.ireturn, 1) := by decide +kernel
end
section
theorem zz_probe : (1:Nat) + 1 = 2 := rfl
end
