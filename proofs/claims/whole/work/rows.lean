section
-- ===== PART A: goes FIRST, ahead of the names: the tables' words, and 'selects' of the private methods out of them =====
/-- a private method of a class that the tables say can be made, by its rows of tables_1 -/
def lw_okq (q : MethodName × Nat) : Prop := (q.1.cls ≠ "java/lang/invoke/MethodHandle" ∧ q.1.cls ≠ "java/lang/invoke/VarHandle") ∧ Cond.instantiable q.1.cls q.2 ∈ tables_1 ∧ Cond.privateMethod q.1 ∈ tables_1 ∧ Cond.instanceMethod q.1 ∈ tables_1
theorem lw_p0 : lw_okq (⟨"WheelCity$Tape", "takes", "(JI)Z"⟩, 6) := ⟨⟨by decide +kernel, by decide +kernel⟩, List.mem_of_getElem? (i := 30) (by decide +kernel), List.mem_of_getElem? (i := 269) (by decide +kernel), List.mem_of_getElem? (i := 270) (by decide +kernel)⟩
theorem lw_p1 : lw_okq (⟨"WheelCity$Tape", "readInto", "(LWheelCity$Land;)I"⟩, 6) := ⟨⟨by decide +kernel, by decide +kernel⟩, List.mem_of_getElem? (i := 30) (by decide +kernel), List.mem_of_getElem? (i := 277) (by decide +kernel), List.mem_of_getElem? (i := 278) (by decide +kernel)⟩
theorem lw_p2 : lw_okq (⟨"WheelCity$Land", "clear", "()V"⟩, 16) := ⟨⟨by decide +kernel, by decide +kernel⟩, List.mem_of_getElem? (i := 63) (by decide +kernel), List.mem_of_getElem? (i := 281) (by decide +kernel), List.mem_of_getElem? (i := 282) (by decide +kernel)⟩
theorem lw_p3 : lw_okq (⟨"WheelCity$Tape", "step", "()V"⟩, 6) := ⟨⟨by decide +kernel, by decide +kernel⟩, List.mem_of_getElem? (i := 30) (by decide +kernel), List.mem_of_getElem? (i := 285) (by decide +kernel), List.mem_of_getElem? (i := 286) (by decide +kernel)⟩
theorem lw_p4 : lw_okq (⟨"WheelCity$Tape", "numberHere", "()I"⟩, 6) := ⟨⟨by decide +kernel, by decide +kernel⟩, List.mem_of_getElem? (i := 30) (by decide +kernel), List.mem_of_getElem? (i := 292) (by decide +kernel), List.mem_of_getElem? (i := 293) (by decide +kernel)⟩
theorem lw_p5 : lw_okq (⟨"WheelCity$Tape", "readPiece", "(LWheelCity$Land;)Z"⟩, 6) := ⟨⟨by decide +kernel, by decide +kernel⟩, List.mem_of_getElem? (i := 30) (by decide +kernel), List.mem_of_getElem? (i := 296) (by decide +kernel), List.mem_of_getElem? (i := 297) (by decide +kernel)⟩
theorem lw_p6 : lw_okq (⟨"WheelCity$Tape", "isNamed", "(Ljava/lang/String;)Z"⟩, 6) := ⟨⟨by decide +kernel, by decide +kernel⟩, List.mem_of_getElem? (i := 30) (by decide +kernel), List.mem_of_getElem? (i := 301) (by decide +kernel), List.mem_of_getElem? (i := 302) (by decide +kernel)⟩
theorem lw_p7 : lw_okq (⟨"WheelCity$Tape", "readWay", "(LWheelCity$Land;)Z"⟩, 6) := ⟨⟨by decide +kernel, by decide +kernel⟩, List.mem_of_getElem? (i := 30) (by decide +kernel), List.mem_of_getElem? (i := 353) (by decide +kernel), List.mem_of_getElem? (i := 354) (by decide +kernel)⟩
theorem lw_p8 : lw_okq (⟨"WheelCity$Tape", "isFreePlace", "(LWheelCity$Land;)Z"⟩, 6) := ⟨⟨by decide +kernel, by decide +kernel⟩, List.mem_of_getElem? (i := 30) (by decide +kernel), List.mem_of_getElem? (i := 357) (by decide +kernel), List.mem_of_getElem? (i := 358) (by decide +kernel)⟩
theorem lw_p9 : lw_okq (⟨"WheelCity$Tape", "isNumber", "(II)Z"⟩, 6) := ⟨⟨by decide +kernel, by decide +kernel⟩, List.mem_of_getElem? (i := 30) (by decide +kernel), List.mem_of_getElem? (i := 361) (by decide +kernel), List.mem_of_getElem? (i := 362) (by decide +kernel)⟩
theorem lw_p10 : lw_okq (⟨"WheelCity$Land", "canJoin", "(I)Z"⟩, 16) := ⟨⟨by decide +kernel, by decide +kernel⟩, List.mem_of_getElem? (i := 63) (by decide +kernel), List.mem_of_getElem? (i := 365) (by decide +kernel), List.mem_of_getElem? (i := 366) (by decide +kernel)⟩
theorem lw_p11 : lw_okq (⟨"WheelCity$Tape", "readMonths", "()I"⟩, 6) := ⟨⟨by decide +kernel, by decide +kernel⟩, List.mem_of_getElem? (i := 30) (by decide +kernel), List.mem_of_getElem? (i := 369) (by decide +kernel), List.mem_of_getElem? (i := 370) (by decide +kernel)⟩
theorem lw_p12 : lw_okq (⟨"WheelCity$Tape", "isEndOfPiece", "()Z"⟩, 6) := ⟨⟨by decide +kernel, by decide +kernel⟩, List.mem_of_getElem? (i := 30) (by decide +kernel), List.mem_of_getElem? (i := 375) (by decide +kernel), List.mem_of_getElem? (i := 376) (by decide +kernel)⟩
theorem lw_p13 : lw_okq (⟨"WheelCity$Land", "addWay", "(IIIII)I"⟩, 16) := ⟨⟨by decide +kernel, by decide +kernel⟩, List.mem_of_getElem? (i := 63) (by decide +kernel), List.mem_of_getElem? (i := 379) (by decide +kernel), List.mem_of_getElem? (i := 380) (by decide +kernel)⟩
theorem lw_p14 : lw_okq (⟨"WheelCity$Land", "join", "(II)V"⟩, 16) := ⟨⟨by decide +kernel, by decide +kernel⟩, List.mem_of_getElem? (i := 63) (by decide +kernel), List.mem_of_getElem? (i := 383) (by decide +kernel), List.mem_of_getElem? (i := 384) (by decide +kernel)⟩
theorem lw_p15 : lw_okq (⟨"WheelCity$Tape", "kindNamed", "()I"⟩, 6) := ⟨⟨by decide +kernel, by decide +kernel⟩, List.mem_of_getElem? (i := 30) (by decide +kernel), List.mem_of_getElem? (i := 387) (by decide +kernel), List.mem_of_getElem? (i := 388) (by decide +kernel)⟩
def lw_privs_1 : List (MethodName × Nat) := [(⟨"WheelCity$Tape", "takes", "(JI)Z"⟩, 6), (⟨"WheelCity$Tape", "readInto", "(LWheelCity$Land;)I"⟩, 6), (⟨"WheelCity$Land", "clear", "()V"⟩, 16), (⟨"WheelCity$Tape", "step", "()V"⟩, 6), (⟨"WheelCity$Tape", "numberHere", "()I"⟩, 6), (⟨"WheelCity$Tape", "readPiece", "(LWheelCity$Land;)Z"⟩, 6), (⟨"WheelCity$Tape", "isNamed", "(Ljava/lang/String;)Z"⟩, 6), (⟨"WheelCity$Tape", "readWay", "(LWheelCity$Land;)Z"⟩, 6), (⟨"WheelCity$Tape", "isFreePlace", "(LWheelCity$Land;)Z"⟩, 6), (⟨"WheelCity$Tape", "isNumber", "(II)Z"⟩, 6), (⟨"WheelCity$Land", "canJoin", "(I)Z"⟩, 16), (⟨"WheelCity$Tape", "readMonths", "()I"⟩, 6), (⟨"WheelCity$Tape", "isEndOfPiece", "()Z"⟩, 6), (⟨"WheelCity$Land", "addWay", "(IIIII)I"⟩, 16), (⟨"WheelCity$Land", "join", "(II)V"⟩, 16), (⟨"WheelCity$Tape", "kindNamed", "()I"⟩, 6)]
theorem lw_r1 : ∀ q ∈ lw_privs_1, lw_okq q := List.forall_mem_cons.mpr ⟨lw_p0, List.forall_mem_cons.mpr ⟨lw_p1, List.forall_mem_cons.mpr ⟨lw_p2, List.forall_mem_cons.mpr ⟨lw_p3, List.forall_mem_cons.mpr ⟨lw_p4, List.forall_mem_cons.mpr ⟨lw_p5, List.forall_mem_cons.mpr ⟨lw_p6, List.forall_mem_cons.mpr ⟨lw_p7, List.forall_mem_cons.mpr ⟨lw_p8, List.forall_mem_cons.mpr ⟨lw_p9, List.forall_mem_cons.mpr ⟨lw_p10, List.forall_mem_cons.mpr ⟨lw_p11, List.forall_mem_cons.mpr ⟨lw_p12, List.forall_mem_cons.mpr ⟨lw_p13, List.forall_mem_cons.mpr ⟨lw_p14, List.forall_mem_cons.mpr ⟨lw_p15, fun _ h => absurd h List.not_mem_nil⟩⟩⟩⟩⟩⟩⟩⟩⟩⟩⟩⟩⟩⟩⟩⟩
theorem lw_p16 : lw_okq (⟨"WheelCity$Tape", "readPlace", "(LWheelCity$Land;I)Z"⟩, 6) := ⟨⟨by decide +kernel, by decide +kernel⟩, List.mem_of_getElem? (i := 30) (by decide +kernel), List.mem_of_getElem? (i := 397) (by decide +kernel), List.mem_of_getElem? (i := 398) (by decide +kernel)⟩
theorem lw_p17 : lw_okq (⟨"WheelCity$Land", "addPlace", "(III)I"⟩, 16) := ⟨⟨by decide +kernel, by decide +kernel⟩, List.mem_of_getElem? (i := 63) (by decide +kernel), List.mem_of_getElem? (i := 404) (by decide +kernel), List.mem_of_getElem? (i := 405) (by decide +kernel)⟩
theorem lw_p18 : lw_okq (⟨"WheelCity$Land", "copyFrom", "(LWheelCity$Land;)V"⟩, 16) := ⟨⟨by decide +kernel, by decide +kernel⟩, List.mem_of_getElem? (i := 63) (by decide +kernel), List.mem_of_getElem? (i := 409) (by decide +kernel), List.mem_of_getElem? (i := 410) (by decide +kernel)⟩
theorem lw_p19 : lw_okq (⟨"WheelCity$Land", "hasPlace", "(I)Z"⟩, 16) := ⟨⟨by decide +kernel, by decide +kernel⟩, List.mem_of_getElem? (i := 63) (by decide +kernel), List.mem_of_getElem? (i := 436) (by decide +kernel), List.mem_of_getElem? (i := 437) (by decide +kernel)⟩
theorem lw_p20 : lw_okq (⟨"WheelCity$Land", "hasWay", "(I)Z"⟩, 16) := ⟨⟨by decide +kernel, by decide +kernel⟩, List.mem_of_getElem? (i := 63) (by decide +kernel), List.mem_of_getElem? (i := 450) (by decide +kernel), List.mem_of_getElem? (i := 451) (by decide +kernel)⟩
theorem lw_p21 : lw_okq (⟨"WheelCity$World", "settle", "(IIII)V"⟩, 10) := ⟨⟨by decide +kernel, by decide +kernel⟩, List.mem_of_getElem? (i := 57) (by decide +kernel), List.mem_of_getElem? (i := 472) (by decide +kernel), List.mem_of_getElem? (i := 473) (by decide +kernel)⟩
theorem lw_p22 : lw_okq (⟨"WheelCity$Land", "becomeAsTold", "()V"⟩, 16) := ⟨⟨by decide +kernel, by decide +kernel⟩, List.mem_of_getElem? (i := 63) (by decide +kernel), List.mem_of_getElem? (i := 476) (by decide +kernel), List.mem_of_getElem? (i := 477) (by decide +kernel)⟩
theorem lw_p23 : lw_okq (⟨"WheelCity$World", "worth", "()I"⟩, 10) := ⟨⟨by decide +kernel, by decide +kernel⟩, List.mem_of_getElem? (i := 57) (by decide +kernel), List.mem_of_getElem? (i := 487) (by decide +kernel), List.mem_of_getElem? (i := 488) (by decide +kernel)⟩
theorem lw_p24 : lw_okq (⟨"WheelCity$World", "can", "(I)Z"⟩, 10) := ⟨⟨by decide +kernel, by decide +kernel⟩, List.mem_of_getElem? (i := 57) (by decide +kernel), List.mem_of_getElem? (i := 495) (by decide +kernel), List.mem_of_getElem? (i := 496) (by decide +kernel)⟩
theorem lw_p25 : lw_okq (⟨"WheelCity$World", "attempt", "(I)I"⟩, 10) := ⟨⟨by decide +kernel, by decide +kernel⟩, List.mem_of_getElem? (i := 57) (by decide +kernel), List.mem_of_getElem? (i := 499) (by decide +kernel), List.mem_of_getElem? (i := 500) (by decide +kernel)⟩
theorem lw_p26 : lw_okq (⟨"WheelCity$World", "rains", "()Z"⟩, 10) := ⟨⟨by decide +kernel, by decide +kernel⟩, List.mem_of_getElem? (i := 57) (by decide +kernel), List.mem_of_getElem? (i := 503) (by decide +kernel), List.mem_of_getElem? (i := 504) (by decide +kernel)⟩
theorem lw_p27 : lw_okq (⟨"WheelCity$World", "stand", "(Z)I"⟩, 10) := ⟨⟨by decide +kernel, by decide +kernel⟩, List.mem_of_getElem? (i := 57) (by decide +kernel), List.mem_of_getElem? (i := 507) (by decide +kernel), List.mem_of_getElem? (i := 508) (by decide +kernel)⟩
theorem lw_p28 : lw_okq (⟨"WheelCity$World", "taking", "(II)I"⟩, 10) := ⟨⟨by decide +kernel, by decide +kernel⟩, List.mem_of_getElem? (i := 57) (by decide +kernel), List.mem_of_getElem? (i := 512) (by decide +kernel), List.mem_of_getElem? (i := 513) (by decide +kernel)⟩
theorem lw_p29 : lw_okq (⟨"WheelCity$World", "eat", "(II)Z"⟩, 10) := ⟨⟨by decide +kernel, by decide +kernel⟩, List.mem_of_getElem? (i := 57) (by decide +kernel), List.mem_of_getElem? (i := 518) (by decide +kernel), List.mem_of_getElem? (i := 519) (by decide +kernel)⟩
theorem lw_p30 : lw_okq (⟨"WheelCity$World", "go", "(I)I"⟩, 10) := ⟨⟨by decide +kernel, by decide +kernel⟩, List.mem_of_getElem? (i := 57) (by decide +kernel), List.mem_of_getElem? (i := 525) (by decide +kernel), List.mem_of_getElem? (i := 526) (by decide +kernel)⟩
theorem lw_p31 : lw_okq (⟨"WheelCity$Land", "isOpen", "(II)Z"⟩, 16) := ⟨⟨by decide +kernel, by decide +kernel⟩, List.mem_of_getElem? (i := 63) (by decide +kernel), List.mem_of_getElem? (i := 529) (by decide +kernel), List.mem_of_getElem? (i := 530) (by decide +kernel)⟩
def lw_privs_2 : List (MethodName × Nat) := [(⟨"WheelCity$Tape", "readPlace", "(LWheelCity$Land;I)Z"⟩, 6), (⟨"WheelCity$Land", "addPlace", "(III)I"⟩, 16), (⟨"WheelCity$Land", "copyFrom", "(LWheelCity$Land;)V"⟩, 16), (⟨"WheelCity$Land", "hasPlace", "(I)Z"⟩, 16), (⟨"WheelCity$Land", "hasWay", "(I)Z"⟩, 16), (⟨"WheelCity$World", "settle", "(IIII)V"⟩, 10), (⟨"WheelCity$Land", "becomeAsTold", "()V"⟩, 16), (⟨"WheelCity$World", "worth", "()I"⟩, 10), (⟨"WheelCity$World", "can", "(I)Z"⟩, 10), (⟨"WheelCity$World", "attempt", "(I)I"⟩, 10), (⟨"WheelCity$World", "rains", "()Z"⟩, 10), (⟨"WheelCity$World", "stand", "(Z)I"⟩, 10), (⟨"WheelCity$World", "taking", "(II)I"⟩, 10), (⟨"WheelCity$World", "eat", "(II)Z"⟩, 10), (⟨"WheelCity$World", "go", "(I)I"⟩, 10), (⟨"WheelCity$Land", "isOpen", "(II)Z"⟩, 16)]
theorem lw_r2 : ∀ q ∈ lw_privs_2, lw_okq q := List.forall_mem_cons.mpr ⟨lw_p16, List.forall_mem_cons.mpr ⟨lw_p17, List.forall_mem_cons.mpr ⟨lw_p18, List.forall_mem_cons.mpr ⟨lw_p19, List.forall_mem_cons.mpr ⟨lw_p20, List.forall_mem_cons.mpr ⟨lw_p21, List.forall_mem_cons.mpr ⟨lw_p22, List.forall_mem_cons.mpr ⟨lw_p23, List.forall_mem_cons.mpr ⟨lw_p24, List.forall_mem_cons.mpr ⟨lw_p25, List.forall_mem_cons.mpr ⟨lw_p26, List.forall_mem_cons.mpr ⟨lw_p27, List.forall_mem_cons.mpr ⟨lw_p28, List.forall_mem_cons.mpr ⟨lw_p29, List.forall_mem_cons.mpr ⟨lw_p30, List.forall_mem_cons.mpr ⟨lw_p31, fun _ h => absurd h List.not_mem_nil⟩⟩⟩⟩⟩⟩⟩⟩⟩⟩⟩⟩⟩⟩⟩⟩
theorem lw_p32 : lw_okq (⟨"WheelCity$Land", "farEnd", "(II)I"⟩, 16) := ⟨⟨by decide +kernel, by decide +kernel⟩, List.mem_of_getElem? (i := 63) (by decide +kernel), List.mem_of_getElem? (i := 533) (by decide +kernel), List.mem_of_getElem? (i := 534) (by decide +kernel)⟩
theorem lw_p33 : lw_okq (⟨"WheelCity$World", "takeBack", "(II)V"⟩, 10) := ⟨⟨by decide +kernel, by decide +kernel⟩, List.mem_of_getElem? (i := 57) (by decide +kernel), List.mem_of_getElem? (i := 537) (by decide +kernel), List.mem_of_getElem? (i := 538) (by decide +kernel)⟩
theorem lw_p34 : lw_okq (⟨"WheelCity$World", "spitOut", "(II)V"⟩, 10) := ⟨⟨by decide +kernel, by decide +kernel⟩, List.mem_of_getElem? (i := 57) (by decide +kernel), List.mem_of_getElem? (i := 541) (by decide +kernel), List.mem_of_getElem? (i := 542) (by decide +kernel)⟩
theorem lw_p35 : lw_okq (⟨"WheelCity$World", "choices", "()I"⟩, 10) := ⟨⟨by decide +kernel, by decide +kernel⟩, List.mem_of_getElem? (i := 57) (by decide +kernel), List.mem_of_getElem? (i := 554) (by decide +kernel), List.mem_of_getElem? (i := 555) (by decide +kernel)⟩
theorem lw_p36 : lw_okq (⟨"WheelCity$World", "choice", "(I)I"⟩, 10) := ⟨⟨by decide +kernel, by decide +kernel⟩, List.mem_of_getElem? (i := 57) (by decide +kernel), List.mem_of_getElem? (i := 558) (by decide +kernel), List.mem_of_getElem? (i := 559) (by decide +kernel)⟩
theorem lw_p37 : lw_okq (⟨"WheelCity$World", "daysOf", "(I)I"⟩, 10) := ⟨⟨by decide +kernel, by decide +kernel⟩, List.mem_of_getElem? (i := 57) (by decide +kernel), List.mem_of_getElem? (i := 575) (by decide +kernel), List.mem_of_getElem? (i := 576) (by decide +kernel)⟩
theorem lw_p38 : lw_okq (⟨"WheelCity$World", "onMeadow", "()Z"⟩, 10) := ⟨⟨by decide +kernel, by decide +kernel⟩, List.mem_of_getElem? (i := 57) (by decide +kernel), List.mem_of_getElem? (i := 608) (by decide +kernel), List.mem_of_getElem? (i := 609) (by decide +kernel)⟩
theorem lw_p39 : lw_okq (⟨"WheelCity$Land", "daysBetween", "(II)I"⟩, 16) := ⟨⟨by decide +kernel, by decide +kernel⟩, List.mem_of_getElem? (i := 63) (by decide +kernel), List.mem_of_getElem? (i := 621) (by decide +kernel), List.mem_of_getElem? (i := 622) (by decide +kernel)⟩
theorem lw_p40 : lw_okq (⟨"WheelCity$Land", "measure", "(I[I)V"⟩, 16) := ⟨⟨by decide +kernel, by decide +kernel⟩, List.mem_of_getElem? (i := 63) (by decide +kernel), List.mem_of_getElem? (i := 625) (by decide +kernel), List.mem_of_getElem? (i := 626) (by decide +kernel)⟩
theorem lw_p41 : lw_okq (⟨"WheelCity$Land", "daysToMeet", "(II)I"⟩, 16) := ⟨⟨by decide +kernel, by decide +kernel⟩, List.mem_of_getElem? (i := 63) (by decide +kernel), List.mem_of_getElem? (i := 636) (by decide +kernel), List.mem_of_getElem? (i := 637) (by decide +kernel)⟩
theorem lw_p42 : lw_okq (⟨"WheelCity$World", "copyFrom", "(LWheelCity$World;)V"⟩, 10) := ⟨⟨by decide +kernel, by decide +kernel⟩, List.mem_of_getElem? (i := 57) (by decide +kernel), List.mem_of_getElem? (i := 655) (by decide +kernel), List.mem_of_getElem? (i := 656) (by decide +kernel)⟩
theorem lw_p43 : lw_okq (⟨"WheelCity$World", "isNoWorseThan", "(LWheelCity$World;)Z"⟩, 10) := ⟨⟨by decide +kernel, by decide +kernel⟩, List.mem_of_getElem? (i := 57) (by decide +kernel), List.mem_of_getElem? (i := 661) (by decide +kernel), List.mem_of_getElem? (i := 662) (by decide +kernel)⟩
theorem lw_p44 : lw_okq (⟨"WheelCity$World", "ruleAt", "(I)LWheelCity$Rule;"⟩, 10) := ⟨⟨by decide +kernel, by decide +kernel⟩, List.mem_of_getElem? (i := 57) (by decide +kernel), List.mem_of_getElem? (i := 756) (by decide +kernel), List.mem_of_getElem? (i := 757) (by decide +kernel)⟩
theorem lw_p45 : lw_okq (⟨"WheelCity$World", "leastShed", "()I"⟩, 10) := ⟨⟨by decide +kernel, by decide +kernel⟩, List.mem_of_getElem? (i := 57) (by decide +kernel), List.mem_of_getElem? (i := 774) (by decide +kernel), List.mem_of_getElem? (i := 775) (by decide +kernel)⟩
theorem lw_p46 : lw_okq (⟨"WheelCity$Land", "nearestFor", "(II)I"⟩, 16) := ⟨⟨by decide +kernel, by decide +kernel⟩, List.mem_of_getElem? (i := 63) (by decide +kernel), List.mem_of_getElem? (i := 778) (by decide +kernel), List.mem_of_getElem? (i := 779) (by decide +kernel)⟩
theorem lw_p47 : lw_okq (⟨"WheelCity$Land", "wayTowards", "(II)I"⟩, 16) := ⟨⟨by decide +kernel, by decide +kernel⟩, List.mem_of_getElem? (i := 63) (by decide +kernel), List.mem_of_getElem? (i := 783) (by decide +kernel), List.mem_of_getElem? (i := 784) (by decide +kernel)⟩
def lw_privs_3 : List (MethodName × Nat) := [(⟨"WheelCity$Land", "farEnd", "(II)I"⟩, 16), (⟨"WheelCity$World", "takeBack", "(II)V"⟩, 10), (⟨"WheelCity$World", "spitOut", "(II)V"⟩, 10), (⟨"WheelCity$World", "choices", "()I"⟩, 10), (⟨"WheelCity$World", "choice", "(I)I"⟩, 10), (⟨"WheelCity$World", "daysOf", "(I)I"⟩, 10), (⟨"WheelCity$World", "onMeadow", "()Z"⟩, 10), (⟨"WheelCity$Land", "daysBetween", "(II)I"⟩, 16), (⟨"WheelCity$Land", "measure", "(I[I)V"⟩, 16), (⟨"WheelCity$Land", "daysToMeet", "(II)I"⟩, 16), (⟨"WheelCity$World", "copyFrom", "(LWheelCity$World;)V"⟩, 10), (⟨"WheelCity$World", "isNoWorseThan", "(LWheelCity$World;)Z"⟩, 10), (⟨"WheelCity$World", "ruleAt", "(I)LWheelCity$Rule;"⟩, 10), (⟨"WheelCity$World", "leastShed", "()I"⟩, 10), (⟨"WheelCity$Land", "nearestFor", "(II)I"⟩, 16), (⟨"WheelCity$Land", "wayTowards", "(II)I"⟩, 16)]
theorem lw_r3 : ∀ q ∈ lw_privs_3, lw_okq q := List.forall_mem_cons.mpr ⟨lw_p32, List.forall_mem_cons.mpr ⟨lw_p33, List.forall_mem_cons.mpr ⟨lw_p34, List.forall_mem_cons.mpr ⟨lw_p35, List.forall_mem_cons.mpr ⟨lw_p36, List.forall_mem_cons.mpr ⟨lw_p37, List.forall_mem_cons.mpr ⟨lw_p38, List.forall_mem_cons.mpr ⟨lw_p39, List.forall_mem_cons.mpr ⟨lw_p40, List.forall_mem_cons.mpr ⟨lw_p41, List.forall_mem_cons.mpr ⟨lw_p42, List.forall_mem_cons.mpr ⟨lw_p43, List.forall_mem_cons.mpr ⟨lw_p44, List.forall_mem_cons.mpr ⟨lw_p45, List.forall_mem_cons.mpr ⟨lw_p46, List.forall_mem_cons.mpr ⟨lw_p47, fun _ h => absurd h List.not_mem_nil⟩⟩⟩⟩⟩⟩⟩⟩⟩⟩⟩⟩⟩⟩⟩⟩
theorem lw_p48 : lw_okq (⟨"WheelCity", "isRowPart", "(II)Z"⟩, 14) := ⟨⟨by decide +kernel, by decide +kernel⟩, List.mem_of_getElem? (i := 22) (by decide +kernel), List.mem_of_getElem? (i := 812) (by decide +kernel), List.mem_of_getElem? (i := 813) (by decide +kernel)⟩
theorem lw_p49 : lw_okq (⟨"WheelCity", "shelveRule", "(II)I"⟩, 14) := ⟨⟨by decide +kernel, by decide +kernel⟩, List.mem_of_getElem? (i := 22) (by decide +kernel), List.mem_of_getElem? (i := 846) (by decide +kernel), List.mem_of_getElem? (i := 847) (by decide +kernel)⟩
theorem lw_p50 : lw_okq (⟨"WheelCity", "shelveSheet", "(II)I"⟩, 14) := ⟨⟨by decide +kernel, by decide +kernel⟩, List.mem_of_getElem? (i := 22) (by decide +kernel), List.mem_of_getElem? (i := 850) (by decide +kernel), List.mem_of_getElem? (i := 851) (by decide +kernel)⟩
theorem lw_p51 : lw_okq (⟨"WheelCity", "ruleOn", "(I)LWheelCity$Rule;"⟩, 14) := ⟨⟨by decide +kernel, by decide +kernel⟩, List.mem_of_getElem? (i := 22) (by decide +kernel), List.mem_of_getElem? (i := 858) (by decide +kernel), List.mem_of_getElem? (i := 859) (by decide +kernel)⟩
theorem lw_p52 : lw_okq (⟨"WheelCity$Trace", "clear", "()V"⟩, 3) := ⟨⟨by decide +kernel, by decide +kernel⟩, List.mem_of_getElem? (i := 199) (by decide +kernel), List.mem_of_getElem? (i := 880) (by decide +kernel), List.mem_of_getElem? (i := 881) (by decide +kernel)⟩
theorem lw_p53 : lw_okq (⟨"WheelCity$Trace", "begin", "(I)V"⟩, 3) := ⟨⟨by decide +kernel, by decide +kernel⟩, List.mem_of_getElem? (i := 199) (by decide +kernel), List.mem_of_getElem? (i := 890) (by decide +kernel), List.mem_of_getElem? (i := 891) (by decide +kernel)⟩
theorem lw_p54 : lw_okq (⟨"WheelCityModel", "advance", "()V"⟩, 53) := ⟨⟨by decide +kernel, by decide +kernel⟩, List.mem_of_getElem? (i := 985) (by decide +kernel), List.mem_of_getElem? (i := 1163) (by decide +kernel), List.mem_of_getElem? (i := 1164) (by decide +kernel)⟩
theorem lw_p55 : lw_okq (⟨"WheelCityModel", "byteAt", "(I)I"⟩, 53) := ⟨⟨by decide +kernel, by decide +kernel⟩, List.mem_of_getElem? (i := 985) (by decide +kernel), List.mem_of_getElem? (i := 1167) (by decide +kernel), List.mem_of_getElem? (i := 1168) (by decide +kernel)⟩
theorem lw_p56 : lw_okq (⟨"WheelCityModel", "kindHere", "()I"⟩, 53) := ⟨⟨by decide +kernel, by decide +kernel⟩, List.mem_of_getElem? (i := 985) (by decide +kernel), List.mem_of_getElem? (i := 1180) (by decide +kernel), List.mem_of_getElem? (i := 1181) (by decide +kernel)⟩
theorem lw_p57 : lw_okq (⟨"WheelCityModel", "isWord", "(J)Z"⟩, 53) := ⟨⟨by decide +kernel, by decide +kernel⟩, List.mem_of_getElem? (i := 985) (by decide +kernel), List.mem_of_getElem? (i := 1185) (by decide +kernel), List.mem_of_getElem? (i := 1186) (by decide +kernel)⟩
theorem lw_p58 : lw_okq (⟨"WheelCityModel", "wantPlace", "()V"⟩, 53) := ⟨⟨by decide +kernel, by decide +kernel⟩, List.mem_of_getElem? (i := 985) (by decide +kernel), List.mem_of_getElem? (i := 1194) (by decide +kernel), List.mem_of_getElem? (i := 1195) (by decide +kernel)⟩
theorem lw_p59 : lw_okq (⟨"WheelCityModel", "wantNumber", "(II)I"⟩, 53) := ⟨⟨by decide +kernel, by decide +kernel⟩, List.mem_of_getElem? (i := 985) (by decide +kernel), List.mem_of_getElem? (i := 1198) (by decide +kernel), List.mem_of_getElem? (i := 1199) (by decide +kernel)⟩
theorem lw_p60 : lw_okq (⟨"WheelCityModel", "wantEnd", "()V"⟩, 53) := ⟨⟨by decide +kernel, by decide +kernel⟩, List.mem_of_getElem? (i := 985) (by decide +kernel), List.mem_of_getElem? (i := 1205) (by decide +kernel), List.mem_of_getElem? (i := 1206) (by decide +kernel)⟩
theorem lw_p61 : lw_okq (⟨"WheelCityModel", "wantWay", "()V"⟩, 53) := ⟨⟨by decide +kernel, by decide +kernel⟩, List.mem_of_getElem? (i := 985) (by decide +kernel), List.mem_of_getElem? (i := 1210) (by decide +kernel), List.mem_of_getElem? (i := 1211) (by decide +kernel)⟩
theorem lw_p62 : lw_okq (⟨"WheelCityModel", "wantOne", "(I)I"⟩, 53) := ⟨⟨by decide +kernel, by decide +kernel⟩, List.mem_of_getElem? (i := 985) (by decide +kernel), List.mem_of_getElem? (i := 1214) (by decide +kernel), List.mem_of_getElem? (i := 1215) (by decide +kernel)⟩
theorem lw_p63 : lw_okq (⟨"WheelCityModel", "refill", "()V"⟩, 53) := ⟨⟨by decide +kernel, by decide +kernel⟩, List.mem_of_getElem? (i := 985) (by decide +kernel), List.mem_of_getElem? (i := 1220) (by decide +kernel), List.mem_of_getElem? (i := 1221) (by decide +kernel)⟩
def lw_privs_4 : List (MethodName × Nat) := [(⟨"WheelCity", "isRowPart", "(II)Z"⟩, 14), (⟨"WheelCity", "shelveRule", "(II)I"⟩, 14), (⟨"WheelCity", "shelveSheet", "(II)I"⟩, 14), (⟨"WheelCity", "ruleOn", "(I)LWheelCity$Rule;"⟩, 14), (⟨"WheelCity$Trace", "clear", "()V"⟩, 3), (⟨"WheelCity$Trace", "begin", "(I)V"⟩, 3), (⟨"WheelCityModel", "advance", "()V"⟩, 53), (⟨"WheelCityModel", "byteAt", "(I)I"⟩, 53), (⟨"WheelCityModel", "kindHere", "()I"⟩, 53), (⟨"WheelCityModel", "isWord", "(J)Z"⟩, 53), (⟨"WheelCityModel", "wantPlace", "()V"⟩, 53), (⟨"WheelCityModel", "wantNumber", "(II)I"⟩, 53), (⟨"WheelCityModel", "wantEnd", "()V"⟩, 53), (⟨"WheelCityModel", "wantWay", "()V"⟩, 53), (⟨"WheelCityModel", "wantOne", "(I)I"⟩, 53), (⟨"WheelCityModel", "refill", "()V"⟩, 53)]
theorem lw_r4 : ∀ q ∈ lw_privs_4, lw_okq q := List.forall_mem_cons.mpr ⟨lw_p48, List.forall_mem_cons.mpr ⟨lw_p49, List.forall_mem_cons.mpr ⟨lw_p50, List.forall_mem_cons.mpr ⟨lw_p51, List.forall_mem_cons.mpr ⟨lw_p52, List.forall_mem_cons.mpr ⟨lw_p53, List.forall_mem_cons.mpr ⟨lw_p54, List.forall_mem_cons.mpr ⟨lw_p55, List.forall_mem_cons.mpr ⟨lw_p56, List.forall_mem_cons.mpr ⟨lw_p57, List.forall_mem_cons.mpr ⟨lw_p58, List.forall_mem_cons.mpr ⟨lw_p59, List.forall_mem_cons.mpr ⟨lw_p60, List.forall_mem_cons.mpr ⟨lw_p61, List.forall_mem_cons.mpr ⟨lw_p62, List.forall_mem_cons.mpr ⟨lw_p63, fun _ h => absurd h List.not_mem_nil⟩⟩⟩⟩⟩⟩⟩⟩⟩⟩⟩⟩⟩⟩⟩⟩
theorem lw_p64 : lw_okq (⟨"WheelCityModel", "its", "(II)I"⟩, 53) := ⟨⟨by decide +kernel, by decide +kernel⟩, List.mem_of_getElem? (i := 985) (by decide +kernel), List.mem_of_getElem? (i := 1224) (by decide +kernel), List.mem_of_getElem? (i := 1225) (by decide +kernel)⟩
theorem lw_p65 : lw_okq (⟨"WheelCityModel", "wayIts", "(II)I"⟩, 53) := ⟨⟨by decide +kernel, by decide +kernel⟩, List.mem_of_getElem? (i := 985) (by decide +kernel), List.mem_of_getElem? (i := 1228) (by decide +kernel), List.mem_of_getElem? (i := 1229) (by decide +kernel)⟩
theorem lw_p66 : lw_okq (⟨"WheelCityModel", "isPlace", "(I)Z"⟩, 53) := ⟨⟨by decide +kernel, by decide +kernel⟩, List.mem_of_getElem? (i := 985) (by decide +kernel), List.mem_of_getElem? (i := 1240) (by decide +kernel), List.mem_of_getElem? (i := 1241) (by decide +kernel)⟩
theorem lw_p67 : lw_okq (⟨"WheelCityModel", "waysAt", "(I)I"⟩, 53) := ⟨⟨by decide +kernel, by decide +kernel⟩, List.mem_of_getElem? (i := 985) (by decide +kernel), List.mem_of_getElem? (i := 1244) (by decide +kernel), List.mem_of_getElem? (i := 1245) (by decide +kernel)⟩
theorem lw_p68 : lw_okq (⟨"WheelCityModel", "isWay", "(I)Z"⟩, 53) := ⟨⟨by decide +kernel, by decide +kernel⟩, List.mem_of_getElem? (i := 985) (by decide +kernel), List.mem_of_getElem? (i := 1256) (by decide +kernel), List.mem_of_getElem? (i := 1257) (by decide +kernel)⟩
theorem lw_p69 : lw_okq (⟨"WheelCityModel", "worthAt", "(I)I"⟩, 53) := ⟨⟨by decide +kernel, by decide +kernel⟩, List.mem_of_getElem? (i := 985) (by decide +kernel), List.mem_of_getElem? (i := 1279) (by decide +kernel), List.mem_of_getElem? (i := 1280) (by decide +kernel)⟩
theorem lw_p70 : lw_okq (⟨"WheelCityModel", "goes", "(III)I"⟩, 53) := ⟨⟨by decide +kernel, by decide +kernel⟩, List.mem_of_getElem? (i := 985) (by decide +kernel), List.mem_of_getElem? (i := 1287) (by decide +kernel), List.mem_of_getElem? (i := 1288) (by decide +kernel)⟩
theorem lw_p71 : lw_okq (⟨"WheelCityModel", "gets", "(II)V"⟩, 53) := ⟨⟨by decide +kernel, by decide +kernel⟩, List.mem_of_getElem? (i := 985) (by decide +kernel), List.mem_of_getElem? (i := 1291) (by decide +kernel), List.mem_of_getElem? (i := 1292) (by decide +kernel)⟩
theorem lw_p72 : lw_okq (⟨"WheelCityModel", "isWet", "(II)Z"⟩, 53) := ⟨⟨by decide +kernel, by decide +kernel⟩, List.mem_of_getElem? (i := 985) (by decide +kernel), List.mem_of_getElem? (i := 1298) (by decide +kernel), List.mem_of_getElem? (i := 1299) (by decide +kernel)⟩
theorem lw_p73 : lw_okq (⟨"WheelCityModel", "byLeft", "(III)I"⟩, 53) := ⟨⟨by decide +kernel, by decide +kernel⟩, List.mem_of_getElem? (i := 985) (by decide +kernel), List.mem_of_getElem? (i := 1302) (by decide +kernel), List.mem_of_getElem? (i := 1303) (by decide +kernel)⟩
theorem lw_p74 : lw_okq (⟨"WheelCityModel", "byRoom", "(III)I"⟩, 53) := ⟨⟨by decide +kernel, by decide +kernel⟩, List.mem_of_getElem? (i := 985) (by decide +kernel), List.mem_of_getElem? (i := 1306) (by decide +kernel), List.mem_of_getElem? (i := 1307) (by decide +kernel)⟩
theorem lw_p75 : lw_okq (⟨"WheelCityModel", "eats", "(II)I"⟩, 53) := ⟨⟨by decide +kernel, by decide +kernel⟩, List.mem_of_getElem? (i := 985) (by decide +kernel), List.mem_of_getElem? (i := 1310) (by decide +kernel), List.mem_of_getElem? (i := 1311) (by decide +kernel)⟩
theorem lw_p76 : lw_okq (⟨"WheelCityModel", "doesIt", "(I)I"⟩, 53) := ⟨⟨by decide +kernel, by decide +kernel⟩, List.mem_of_getElem? (i := 985) (by decide +kernel), List.mem_of_getElem? (i := 1318) (by decide +kernel), List.mem_of_getElem? (i := 1319) (by decide +kernel)⟩
theorem lw_p77 : lw_okq (⟨"WheelCityModel", "becomes", "(I)V"⟩, 53) := ⟨⟨by decide +kernel, by decide +kernel⟩, List.mem_of_getElem? (i := 985) (by decide +kernel), List.mem_of_getElem? (i := 1322) (by decide +kernel), List.mem_of_getElem? (i := 1323) (by decide +kernel)⟩
theorem lw_p78 : lw_okq (⟨"WheelCityModel", "findBest", "(I)I"⟩, 53) := ⟨⟨by decide +kernel, by decide +kernel⟩, List.mem_of_getElem? (i := 985) (by decide +kernel), List.mem_of_getElem? (i := 1337) (by decide +kernel), List.mem_of_getElem? (i := 1338) (by decide +kernel)⟩
theorem lw_p79 : lw_okq (⟨"WheelCityModel", "findSurest", "(I)I"⟩, 53) := ⟨⟨by decide +kernel, by decide +kernel⟩, List.mem_of_getElem? (i := 985) (by decide +kernel), List.mem_of_getElem? (i := 1349) (by decide +kernel), List.mem_of_getElem? (i := 1350) (by decide +kernel)⟩
def lw_privs_5 : List (MethodName × Nat) := [(⟨"WheelCityModel", "its", "(II)I"⟩, 53), (⟨"WheelCityModel", "wayIts", "(II)I"⟩, 53), (⟨"WheelCityModel", "isPlace", "(I)Z"⟩, 53), (⟨"WheelCityModel", "waysAt", "(I)I"⟩, 53), (⟨"WheelCityModel", "isWay", "(I)Z"⟩, 53), (⟨"WheelCityModel", "worthAt", "(I)I"⟩, 53), (⟨"WheelCityModel", "goes", "(III)I"⟩, 53), (⟨"WheelCityModel", "gets", "(II)V"⟩, 53), (⟨"WheelCityModel", "isWet", "(II)Z"⟩, 53), (⟨"WheelCityModel", "byLeft", "(III)I"⟩, 53), (⟨"WheelCityModel", "byRoom", "(III)I"⟩, 53), (⟨"WheelCityModel", "eats", "(II)I"⟩, 53), (⟨"WheelCityModel", "doesIt", "(I)I"⟩, 53), (⟨"WheelCityModel", "becomes", "(I)V"⟩, 53), (⟨"WheelCityModel", "findBest", "(I)I"⟩, 53), (⟨"WheelCityModel", "findSurest", "(I)I"⟩, 53)]
theorem lw_r5 : ∀ q ∈ lw_privs_5, lw_okq q := List.forall_mem_cons.mpr ⟨lw_p64, List.forall_mem_cons.mpr ⟨lw_p65, List.forall_mem_cons.mpr ⟨lw_p66, List.forall_mem_cons.mpr ⟨lw_p67, List.forall_mem_cons.mpr ⟨lw_p68, List.forall_mem_cons.mpr ⟨lw_p69, List.forall_mem_cons.mpr ⟨lw_p70, List.forall_mem_cons.mpr ⟨lw_p71, List.forall_mem_cons.mpr ⟨lw_p72, List.forall_mem_cons.mpr ⟨lw_p73, List.forall_mem_cons.mpr ⟨lw_p74, List.forall_mem_cons.mpr ⟨lw_p75, List.forall_mem_cons.mpr ⟨lw_p76, List.forall_mem_cons.mpr ⟨lw_p77, List.forall_mem_cons.mpr ⟨lw_p78, List.forall_mem_cons.mpr ⟨lw_p79, fun _ h => absurd h List.not_mem_nil⟩⟩⟩⟩⟩⟩⟩⟩⟩⟩⟩⟩⟩⟩⟩⟩
theorem lw_p80 : lw_okq (⟨"WheelCityModel", "isOnMeadow", "(I)Z"⟩, 53) := ⟨⟨by decide +kernel, by decide +kernel⟩, List.mem_of_getElem? (i := 985) (by decide +kernel), List.mem_of_getElem? (i := 1356) (by decide +kernel), List.mem_of_getElem? (i := 1357) (by decide +kernel)⟩
theorem lw_p81 : lw_okq (⟨"WheelCityModel", "down", "(III)I"⟩, 53) := ⟨⟨by decide +kernel, by decide +kernel⟩, List.mem_of_getElem? (i := 985) (by decide +kernel), List.mem_of_getElem? (i := 1360) (by decide +kernel), List.mem_of_getElem? (i := 1361) (by decide +kernel)⟩
theorem lw_p82 : lw_okq (⟨"WheelCityModel", "lowest", "(II)V"⟩, 53) := ⟨⟨by decide +kernel, by decide +kernel⟩, List.mem_of_getElem? (i := 985) (by decide +kernel), List.mem_of_getElem? (i := 1364) (by decide +kernel), List.mem_of_getElem? (i := 1365) (by decide +kernel)⟩
theorem lw_p83 : lw_okq (⟨"WheelCityModel", "findFars", "()V"⟩, 53) := ⟨⟨by decide +kernel, by decide +kernel⟩, List.mem_of_getElem? (i := 985) (by decide +kernel), List.mem_of_getElem? (i := 1376) (by decide +kernel), List.mem_of_getElem? (i := 1377) (by decide +kernel)⟩
theorem lw_p84 : lw_okq (⟨"WheelCityModel", "nearer", "(III)V"⟩, 53) := ⟨⟨by decide +kernel, by decide +kernel⟩, List.mem_of_getElem? (i := 985) (by decide +kernel), List.mem_of_getElem? (i := 1380) (by decide +kernel), List.mem_of_getElem? (i := 1381) (by decide +kernel)⟩
theorem lw_p85 : lw_okq (⟨"WheelCityModel", "lacksSort", "(II)I"⟩, 53) := ⟨⟨by decide +kernel, by decide +kernel⟩, List.mem_of_getElem? (i := 985) (by decide +kernel), List.mem_of_getElem? (i := 1403) (by decide +kernel), List.mem_of_getElem? (i := 1404) (by decide +kernel)⟩
theorem lw_p86 : lw_okq (⟨"WheelCityModel", "isForEver", "(I)Z"⟩, 53) := ⟨⟨by decide +kernel, by decide +kernel⟩, List.mem_of_getElem? (i := 985) (by decide +kernel), List.mem_of_getElem? (i := 1407) (by decide +kernel), List.mem_of_getElem? (i := 1408) (by decide +kernel)⟩
theorem lw_p87 : lw_okq (⟨"WheelCityModel", "isRule", "(I)Z"⟩, 53) := ⟨⟨by decide +kernel, by decide +kernel⟩, List.mem_of_getElem? (i := 985) (by decide +kernel), List.mem_of_getElem? (i := 1420) (by decide +kernel), List.mem_of_getElem? (i := 1421) (by decide +kernel)⟩
theorem lw_p88 : lw_okq (⟨"WheelCityModel", "nextOf", "(I)I"⟩, 53) := ⟨⟨by decide +kernel, by decide +kernel⟩, List.mem_of_getElem? (i := 985) (by decide +kernel), List.mem_of_getElem? (i := 1428) (by decide +kernel), List.mem_of_getElem? (i := 1429) (by decide +kernel)⟩
theorem lw_p89 : lw_okq (⟨"WheelCityModel", "nearAct", "()I"⟩, 53) := ⟨⟨by decide +kernel, by decide +kernel⟩, List.mem_of_getElem? (i := 985) (by decide +kernel), List.mem_of_getElem? (i := 1432) (by decide +kernel), List.mem_of_getElem? (i := 1433) (by decide +kernel)⟩
theorem lw_p90 : lw_okq (⟨"WheelCityModel", "leads", "(III)Z"⟩, 53) := ⟨⟨by decide +kernel, by decide +kernel⟩, List.mem_of_getElem? (i := 985) (by decide +kernel), List.mem_of_getElem? (i := 1436) (by decide +kernel), List.mem_of_getElem? (i := 1437) (by decide +kernel)⟩
theorem lw_p91 : lw_okq (⟨"WheelCityModel", "isRow", "(II)Z"⟩, 53) := ⟨⟨by decide +kernel, by decide +kernel⟩, List.mem_of_getElem? (i := 985) (by decide +kernel), List.mem_of_getElem? (i := 1452) (by decide +kernel), List.mem_of_getElem? (i := 1453) (by decide +kernel)⟩
theorem lw_p92 : lw_okq (⟨"WheelCityModel", "isHeld", "(II)Z"⟩, 53) := ⟨⟨by decide +kernel, by decide +kernel⟩, List.mem_of_getElem? (i := 985) (by decide +kernel), List.mem_of_getElem? (i := 1480) (by decide +kernel), List.mem_of_getElem? (i := 1481) (by decide +kernel)⟩
theorem lw_p93 : lw_okq (⟨"WheelCityModel", "kindOn", "(I)I"⟩, 53) := ⟨⟨by decide +kernel, by decide +kernel⟩, List.mem_of_getElem? (i := 985) (by decide +kernel), List.mem_of_getElem? (i := 1488) (by decide +kernel), List.mem_of_getElem? (i := 1489) (by decide +kernel)⟩
theorem lw_p94 : lw_okq (⟨"WheelCityModel", "rollsIt", "(I)I"⟩, 53) := ⟨⟨by decide +kernel, by decide +kernel⟩, List.mem_of_getElem? (i := 985) (by decide +kernel), List.mem_of_getElem? (i := 1499) (by decide +kernel), List.mem_of_getElem? (i := 1500) (by decide +kernel)⟩
theorem lw_p95 : lw_okq (⟨"WheelCityModel", "ran", "(I)V"⟩, 53) := ⟨⟨by decide +kernel, by decide +kernel⟩, List.mem_of_getElem? (i := 985) (by decide +kernel), List.mem_of_getElem? (i := 1503) (by decide +kernel), List.mem_of_getElem? (i := 1504) (by decide +kernel)⟩
def lw_privs_6 : List (MethodName × Nat) := [(⟨"WheelCityModel", "isOnMeadow", "(I)Z"⟩, 53), (⟨"WheelCityModel", "down", "(III)I"⟩, 53), (⟨"WheelCityModel", "lowest", "(II)V"⟩, 53), (⟨"WheelCityModel", "findFars", "()V"⟩, 53), (⟨"WheelCityModel", "nearer", "(III)V"⟩, 53), (⟨"WheelCityModel", "lacksSort", "(II)I"⟩, 53), (⟨"WheelCityModel", "isForEver", "(I)Z"⟩, 53), (⟨"WheelCityModel", "isRule", "(I)Z"⟩, 53), (⟨"WheelCityModel", "nextOf", "(I)I"⟩, 53), (⟨"WheelCityModel", "nearAct", "()I"⟩, 53), (⟨"WheelCityModel", "leads", "(III)Z"⟩, 53), (⟨"WheelCityModel", "isRow", "(II)Z"⟩, 53), (⟨"WheelCityModel", "isHeld", "(II)Z"⟩, 53), (⟨"WheelCityModel", "kindOn", "(I)I"⟩, 53), (⟨"WheelCityModel", "rollsIt", "(I)I"⟩, 53), (⟨"WheelCityModel", "ran", "(I)V"⟩, 53)]
theorem lw_r6 : ∀ q ∈ lw_privs_6, lw_okq q := List.forall_mem_cons.mpr ⟨lw_p80, List.forall_mem_cons.mpr ⟨lw_p81, List.forall_mem_cons.mpr ⟨lw_p82, List.forall_mem_cons.mpr ⟨lw_p83, List.forall_mem_cons.mpr ⟨lw_p84, List.forall_mem_cons.mpr ⟨lw_p85, List.forall_mem_cons.mpr ⟨lw_p86, List.forall_mem_cons.mpr ⟨lw_p87, List.forall_mem_cons.mpr ⟨lw_p88, List.forall_mem_cons.mpr ⟨lw_p89, List.forall_mem_cons.mpr ⟨lw_p90, List.forall_mem_cons.mpr ⟨lw_p91, List.forall_mem_cons.mpr ⟨lw_p92, List.forall_mem_cons.mpr ⟨lw_p93, List.forall_mem_cons.mpr ⟨lw_p94, List.forall_mem_cons.mpr ⟨lw_p95, fun _ h => absurd h List.not_mem_nil⟩⟩⟩⟩⟩⟩⟩⟩⟩⟩⟩⟩⟩⟩⟩⟩
theorem lw_p96 : lw_okq (⟨"WheelCityModel", "eatsIt", "(I)I"⟩, 53) := ⟨⟨by decide +kernel, by decide +kernel⟩, List.mem_of_getElem? (i := 985) (by decide +kernel), List.mem_of_getElem? (i := 1507) (by decide +kernel), List.mem_of_getElem? (i := 1508) (by decide +kernel)⟩
theorem lw_p97 : lw_okq (⟨"WheelCityModel", "nearEats", "(I)I"⟩, 53) := ⟨⟨by decide +kernel, by decide +kernel⟩, List.mem_of_getElem? (i := 985) (by decide +kernel), List.mem_of_getElem? (i := 1511) (by decide +kernel), List.mem_of_getElem? (i := 1512) (by decide +kernel)⟩
theorem lw_p98 : lw_okq (⟨"WheelCityModel", "plainEats", "(I)I"⟩, 53) := ⟨⟨by decide +kernel, by decide +kernel⟩, List.mem_of_getElem? (i := 985) (by decide +kernel), List.mem_of_getElem? (i := 1515) (by decide +kernel), List.mem_of_getElem? (i := 1516) (by decide +kernel)⟩
theorem lw_p99 : lw_okq (⟨"WheelCityModel", "sharesIt", "(I)I"⟩, 53) := ⟨⟨by decide +kernel, by decide +kernel⟩, List.mem_of_getElem? (i := 985) (by decide +kernel), List.mem_of_getElem? (i := 1519) (by decide +kernel), List.mem_of_getElem? (i := 1520) (by decide +kernel)⟩
theorem lw_p100 : lw_okq (⟨"WheelCityModel", "loopShares", "(I)I"⟩, 53) := ⟨⟨by decide +kernel, by decide +kernel⟩, List.mem_of_getElem? (i := 985) (by decide +kernel), List.mem_of_getElem? (i := 1523) (by decide +kernel), List.mem_of_getElem? (i := 1524) (by decide +kernel)⟩
theorem lw_p101 : lw_okq (⟨"WheelCityModel", "plainShares", "(I)I"⟩, 53) := ⟨⟨by decide +kernel, by decide +kernel⟩, List.mem_of_getElem? (i := 985) (by decide +kernel), List.mem_of_getElem? (i := 1527) (by decide +kernel), List.mem_of_getElem? (i := 1528) (by decide +kernel)⟩
theorem lw_p102 : lw_okq (⟨"WheelCityModel", "tellsIt", "(I)I"⟩, 53) := ⟨⟨by decide +kernel, by decide +kernel⟩, List.mem_of_getElem? (i := 985) (by decide +kernel), List.mem_of_getElem? (i := 1531) (by decide +kernel), List.mem_of_getElem? (i := 1532) (by decide +kernel)⟩
theorem lw_p103 : lw_okq (⟨"WheelCityModel", "plainTells", "(I)I"⟩, 53) := ⟨⟨by decide +kernel, by decide +kernel⟩, List.mem_of_getElem? (i := 985) (by decide +kernel), List.mem_of_getElem? (i := 1535) (by decide +kernel), List.mem_of_getElem? (i := 1536) (by decide +kernel)⟩
theorem lw_p104 : lw_okq (⟨"WheelCityModel", "moveAll", "(Z)V"⟩, 53) := ⟨⟨by decide +kernel, by decide +kernel⟩, List.mem_of_getElem? (i := 985) (by decide +kernel), List.mem_of_getElem? (i := 1551) (by decide +kernel), List.mem_of_getElem? (i := 1552) (by decide +kernel)⟩
theorem lw_p105 : lw_okq (⟨"WheelCityModel", "move", "([IIZ)V"⟩, 53) := ⟨⟨by decide +kernel, by decide +kernel⟩, List.mem_of_getElem? (i := 985) (by decide +kernel), List.mem_of_getElem? (i := 1555) (by decide +kernel), List.mem_of_getElem? (i := 1556) (by decide +kernel)⟩
def lw_privs_7 : List (MethodName × Nat) := [(⟨"WheelCityModel", "eatsIt", "(I)I"⟩, 53), (⟨"WheelCityModel", "nearEats", "(I)I"⟩, 53), (⟨"WheelCityModel", "plainEats", "(I)I"⟩, 53), (⟨"WheelCityModel", "sharesIt", "(I)I"⟩, 53), (⟨"WheelCityModel", "loopShares", "(I)I"⟩, 53), (⟨"WheelCityModel", "plainShares", "(I)I"⟩, 53), (⟨"WheelCityModel", "tellsIt", "(I)I"⟩, 53), (⟨"WheelCityModel", "plainTells", "(I)I"⟩, 53), (⟨"WheelCityModel", "moveAll", "(Z)V"⟩, 53), (⟨"WheelCityModel", "move", "([IIZ)V"⟩, 53)]
theorem lw_r7 : ∀ q ∈ lw_privs_7, lw_okq q := List.forall_mem_cons.mpr ⟨lw_p96, List.forall_mem_cons.mpr ⟨lw_p97, List.forall_mem_cons.mpr ⟨lw_p98, List.forall_mem_cons.mpr ⟨lw_p99, List.forall_mem_cons.mpr ⟨lw_p100, List.forall_mem_cons.mpr ⟨lw_p101, List.forall_mem_cons.mpr ⟨lw_p102, List.forall_mem_cons.mpr ⟨lw_p103, List.forall_mem_cons.mpr ⟨lw_p104, List.forall_mem_cons.mpr ⟨lw_p105, fun _ h => absurd h List.not_mem_nil⟩⟩⟩⟩⟩⟩⟩⟩⟩⟩
def lw_privs : List (MethodName × Nat) := lw_privs_1 ++ (lw_privs_2 ++ (lw_privs_3 ++ (lw_privs_4 ++ (lw_privs_5 ++ (lw_privs_6 ++ (lw_privs_7))))))
def lw_tbl : List Cond := k2_sels lw_privs ++ tables_1
theorem lw_privs_ok : ∀ q ∈ lw_privs, lw_okq q := by
  show ∀ q ∈ lw_privs_1 ++ (lw_privs_2 ++ (lw_privs_3 ++ (lw_privs_4 ++ (lw_privs_5 ++ (lw_privs_6 ++ (lw_privs_7)))))), lw_okq q
  exact List.forall_mem_append.mpr ⟨lw_r1, List.forall_mem_append.mpr ⟨lw_r2, List.forall_mem_append.mpr ⟨lw_r3, List.forall_mem_append.mpr ⟨lw_r4, List.forall_mem_append.mpr ⟨lw_r5, List.forall_mem_append.mpr ⟨lw_r6, lw_r7⟩⟩⟩⟩⟩⟩
-- ===== end of PART A; then your names; then what follows =====
def RX0 : String := "WheelCity$Ahead"
def TX0 : u_T := fun k => match k with
  | _ => ("", "", "", false)
def tyX0 : Nat → FieldType := fun k => match k with
  | _ => .int
abbrev wsX00 : List Cond := u_ws RX0 TX0 0
theorem nmX0 : ∀ a, a < 0 → ∀ b, b < 0 → a ≠ b → (TX0 a).2.1 ≠ (TX0 b).2.1 := by decide +kernel
theorem tyX0_ok : ∀ k, k < 0 → parseFieldDescriptor (TX0 k).2.2.1 = some (tyX0 k) := by decide +kernel
abbrev cX0_mostWorth : ByteArray := prog_2_method_2_code
def yX0_mostWorth : MethodName := ⟨RX0, "mostWorth", "(LWheelCity$World;I)I"⟩
abbrev cX0_worthBehind : ByteArray := prog_2_method_3_code
def yX0_worthBehind : MethodName := ⟨RX0, "worthBehind", "(LWheelCity$World;II)I"⟩
abbrev cX0_firstAct : ByteArray := prog_2_method_4_code
def yX0_firstAct : MethodName := ⟨RX0, "firstAct", "(LWheelCity$World;I)I"⟩
abbrev cX0_lasts : ByteArray := prog_2_method_5_code
def yX0_lasts : MethodName := ⟨RX0, "lasts", "(LWheelCity$World;I)Z"⟩
abbrev cX0_sureness : ByteArray := prog_2_method_6_code
def yX0_sureness : MethodName := ⟨RX0, "sureness", "(LWheelCity$World;I)I"⟩
abbrev cX0_surenessOfStanding : ByteArray := prog_2_method_7_code
def yX0_surenessOfStanding : MethodName := ⟨RX0, "surenessOfStanding", "(LWheelCity$World;I)I"⟩
abbrev cX0_surenessOfDay : ByteArray := prog_2_method_8_code
def yX0_surenessOfDay : MethodName := ⟨RX0, "surenessOfDay", "(LWheelCity$World;IZ)I"⟩
def RX1 : String := "WheelCity$Best"
def TX1 : u_T := fun k => match k with
  | 0 => ("WheelCity$Rule", "kind", "I", true)
  | 1 => ("WheelCity$Rule", "number", "I", true)
  | _ => ("WheelCity$Rule", "a", "I", true)
def tyX1 : Nat → FieldType := fun k => match k with
  | 0 => .int
  | 1 => .int
  | _ => .int
abbrev wsX10 : List Cond := u_ws RX1 TX1 3
theorem nmX1 : ∀ a, a < 3 → ∀ b, b < 3 → a ≠ b → (TX1 a).2.1 ≠ (TX1 b).2.1 := by decide +kernel
theorem tyX1_ok : ∀ k, k < 3 → parseFieldDescriptor (TX1 k).2.2.1 = some (tyX1 k) := by decide +kernel
abbrev cX1_init : ByteArray := prog_3_method_1_code
def yX1_init : MethodName := ⟨RX1, "<init>", "(III)V"⟩
abbrev cX1_choose : ByteArray := prog_3_method_2_code
def yX1_choose : MethodName := ⟨RX1, "choose", "(LWheelCity$World;)I"⟩
abbrev cX1_rolls : ByteArray := prog_3_method_3_code
def yX1_rolls : MethodName := ⟨RX1, "rolls", "(ILWheelCity$Trace;)I"⟩
abbrev cX1_eats : ByteArray := prog_3_method_4_code
def yX1_eats : MethodName := ⟨RX1, "eats", "(ILWheelCity$Trace;)I"⟩
def RX2 : String := "WheelCity$Camp"
def TX2 : u_T := fun k => match k with
  | 0 => ("WheelCity$Rule", "kind", "I", true)
  | 1 => ("WheelCity$Rule", "number", "I", true)
  | _ => ("WheelCity$Rule", "a", "I", true)
def tyX2 : Nat → FieldType := fun k => match k with
  | 0 => .int
  | 1 => .int
  | _ => .int
abbrev wsX20 : List Cond := u_ws RX2 TX2 3
theorem nmX2 : ∀ a, a < 3 → ∀ b, b < 3 → a ≠ b → (TX2 a).2.1 ≠ (TX2 b).2.1 := by decide +kernel
theorem tyX2_ok : ∀ k, k < 3 → parseFieldDescriptor (TX2 k).2.2.1 = some (tyX2 k) := by decide +kernel
abbrev cX2_init : ByteArray := prog_4_method_1_code
def yX2_init : MethodName := ⟨RX2, "<init>", "(III)V"⟩
abbrev cX2_choose : ByteArray := prog_4_method_2_code
def yX2_choose : MethodName := ⟨RX2, "choose", "(LWheelCity$World;)I"⟩
abbrev cX2_rolls : ByteArray := prog_4_method_3_code
def yX2_rolls : MethodName := ⟨RX2, "rolls", "(ILWheelCity$Trace;)I"⟩
def RX3 : String := "WheelCity$Land"
def TX3 : u_T := fun k => match k with
  | 0 => ("WheelCity$Land", "places", "I", false)
  | 1 => ("WheelCity$Land", "kind", "[I", true)
  | 2 => ("WheelCity$Land", "gives", "[I", true)
  | 3 => ("WheelCity$Land", "toldLeft", "[I", true)
  | 4 => ("WheelCity$Land", "left", "[I", true)
  | 5 => ("WheelCity$Land", "waysOf", "[I", true)
  | 6 => ("WheelCity$Land", "wayAt", "[I", true)
  | 7 => ("WheelCity$Land", "ways", "I", false)
  | 8 => ("WheelCity$Land", "oneEnd", "[I", true)
  | 9 => ("WheelCity$Land", "otherEnd", "[I", true)
  | 10 => ("WheelCity$Land", "days", "[I", true)
  | 11 => ("WheelCity$Land", "toldBears", "[I", true)
  | 12 => ("WheelCity$Land", "bears", "[I", true)
  | 13 => ("WheelCity$Land", "months", "[I", true)
  | 14 => ("WheelCity$Land", "farFromHere", "[I", true)
  | _ => ("WheelCity$Land", "farFromThere", "[I", true)
def tyX3 : Nat → FieldType := fun k => match k with
  | 0 => .int
  | 1 => .array .int
  | 2 => .array .int
  | 3 => .array .int
  | 4 => .array .int
  | 5 => .array .int
  | 6 => .array .int
  | 7 => .int
  | 8 => .array .int
  | 9 => .array .int
  | 10 => .array .int
  | 11 => .array .int
  | 12 => .array .int
  | 13 => .array .int
  | 14 => .array .int
  | _ => .array .int
abbrev wsX30 : List Cond := u_ws RX3 TX3 16
theorem nmX3 : ∀ a, a < 16 → ∀ b, b < 16 → a ≠ b → (TX3 a).2.1 ≠ (TX3 b).2.1 := by decide +kernel
theorem tyX3_ok : ∀ k, k < 16 → parseFieldDescriptor (TX3 k).2.2.1 = some (tyX3 k) := by decide +kernel
abbrev cX3_init : ByteArray := prog_5_method_1_code
def yX3_init : MethodName := ⟨RX3, "<init>", "()V"⟩
abbrev cX3_isEndless : ByteArray := prog_5_method_2_code
def yX3_isEndless : MethodName := ⟨RX3, "isEndless", "(I)Z"⟩
abbrev cX3_clear : ByteArray := prog_5_method_3_code
def yX3_clear : MethodName := ⟨RX3, "clear", "()V"⟩
abbrev cX3_hasPlace : ByteArray := prog_5_method_4_code
def yX3_hasPlace : MethodName := ⟨RX3, "hasPlace", "(I)Z"⟩
abbrev cX3_hasWay : ByteArray := prog_5_method_5_code
def yX3_hasWay : MethodName := ⟨RX3, "hasWay", "(I)Z"⟩
abbrev cX3_canJoin : ByteArray := prog_5_method_6_code
def yX3_canJoin : MethodName := ⟨RX3, "canJoin", "(I)Z"⟩
abbrev cX3_isOpen : ByteArray := prog_5_method_7_code
def yX3_isOpen : MethodName := ⟨RX3, "isOpen", "(II)Z"⟩
abbrev cX3_farEnd : ByteArray := prog_5_method_8_code
def yX3_farEnd : MethodName := ⟨RX3, "farEnd", "(II)I"⟩
abbrev cX3_addPlace : ByteArray := prog_5_method_9_code
def yX3_addPlace : MethodName := ⟨RX3, "addPlace", "(III)I"⟩
abbrev cX3_addWay : ByteArray := prog_5_method_10_code
def yX3_addWay : MethodName := ⟨RX3, "addWay", "(IIIII)I"⟩
abbrev cX3_join : ByteArray := prog_5_method_11_code
def yX3_join : MethodName := ⟨RX3, "join", "(II)V"⟩
abbrev cX3_becomeAsTold : ByteArray := prog_5_method_12_code
def yX3_becomeAsTold : MethodName := ⟨RX3, "becomeAsTold", "()V"⟩
abbrev cX3_copyFrom : ByteArray := prog_5_method_13_code
def yX3_copyFrom : MethodName := ⟨RX3, "copyFrom", "(LWheelCity$Land;)V"⟩
abbrev cX3_copy : ByteArray := prog_5_method_14_code
def yX3_copy : MethodName := ⟨RX3, "copy", "([I[I)V"⟩
abbrev cX3_measure : ByteArray := prog_5_method_15_code
def yX3_measure : MethodName := ⟨RX3, "measure", "(I[I)V"⟩
abbrev cX3_daysBetween : ByteArray := prog_5_method_16_code
def yX3_daysBetween : MethodName := ⟨RX3, "daysBetween", "(II)I"⟩
abbrev cX3_daysToMeet : ByteArray := prog_5_method_17_code
def yX3_daysToMeet : MethodName := ⟨RX3, "daysToMeet", "(II)I"⟩
abbrev cX3_nearestFor : ByteArray := prog_5_method_18_code
def yX3_nearestFor : MethodName := ⟨RX3, "nearestFor", "(II)I"⟩
abbrev cX3_wayTowards : ByteArray := prog_5_method_19_code
def yX3_wayTowards : MethodName := ⟨RX3, "wayTowards", "(II)I"⟩
def RX4 : String := "WheelCity$Loop"
def TX4 : u_T := fun k => match k with
  | 0 => ("WheelCity$Rule", "kind", "I", true)
  | 1 => ("WheelCity$Rule", "number", "I", true)
  | _ => ("WheelCity$Rule", "a", "I", true)
def tyX4 : Nat → FieldType := fun k => match k with
  | 0 => .int
  | 1 => .int
  | _ => .int
abbrev wsX40 : List Cond := u_ws RX4 TX4 3
theorem nmX4 : ∀ a, a < 3 → ∀ b, b < 3 → a ≠ b → (TX4 a).2.1 ≠ (TX4 b).2.1 := by decide +kernel
theorem tyX4_ok : ∀ k, k < 3 → parseFieldDescriptor (TX4 k).2.2.1 = some (tyX4 k) := by decide +kernel
abbrev cX4_init : ByteArray := prog_6_method_1_code
def yX4_init : MethodName := ⟨RX4, "<init>", "(III)V"⟩
abbrev cX4_choose : ByteArray := prog_6_method_2_code
def yX4_choose : MethodName := ⟨RX4, "choose", "(LWheelCity$World;)I"⟩
abbrev cX4_shares : ByteArray := prog_6_method_3_code
def yX4_shares : MethodName := ⟨RX4, "shares", "(ILWheelCity$Trace;)I"⟩
def RX5 : String := "WheelCity$Near"
def TX5 : u_T := fun k => match k with
  | 0 => ("WheelCity$Rule", "kind", "I", true)
  | 1 => ("WheelCity$Rule", "number", "I", true)
  | _ => ("WheelCity$Rule", "a", "I", true)
def tyX5 : Nat → FieldType := fun k => match k with
  | 0 => .int
  | 1 => .int
  | _ => .int
abbrev wsX50 : List Cond := u_ws RX5 TX5 3
theorem nmX5 : ∀ a, a < 3 → ∀ b, b < 3 → a ≠ b → (TX5 a).2.1 ≠ (TX5 b).2.1 := by decide +kernel
theorem tyX5_ok : ∀ k, k < 3 → parseFieldDescriptor (TX5 k).2.2.1 = some (tyX5 k) := by decide +kernel
abbrev cX5_init : ByteArray := prog_7_method_1_code
def yX5_init : MethodName := ⟨RX5, "<init>", "(III)V"⟩
abbrev cX5_choose : ByteArray := prog_7_method_2_code
def yX5_choose : MethodName := ⟨RX5, "choose", "(LWheelCity$World;)I"⟩
abbrev cX5_eats : ByteArray := prog_7_method_3_code
def yX5_eats : MethodName := ⟨RX5, "eats", "(ILWheelCity$Trace;)I"⟩
abbrev cX5_tells : ByteArray := prog_7_method_4_code
def yX5_tells : MethodName := ⟨RX5, "tells", "(ILWheelCity$Trace;)I"⟩
def RX6 : String := "WheelCity$Rule"
def TX6 : u_T := fun k => match k with
  | _ => ("", "", "", false)
def tyX6 : Nat → FieldType := fun k => match k with
  | _ => .int
abbrev wsX60 : List Cond := u_ws RX6 TX6 0
theorem nmX6 : ∀ a, a < 0 → ∀ b, b < 0 → a ≠ b → (TX6 a).2.1 ≠ (TX6 b).2.1 := by decide +kernel
theorem tyX6_ok : ∀ k, k < 0 → parseFieldDescriptor (TX6 k).2.2.1 = some (tyX6 k) := by decide +kernel
abbrev cX6_init : ByteArray := prog_8_method_1_code
def yX6_init : MethodName := ⟨RX6, "<init>", "(III)V"⟩
abbrev cX6_isOf : ByteArray := prog_8_method_3_code
def yX6_isOf : MethodName := ⟨RX6, "isOf", "(I)Z"⟩
abbrev cX6_rolls : ByteArray := prog_8_method_4_code
def yX6_rolls : MethodName := ⟨RX6, "rolls", "(ILWheelCity$Trace;)I"⟩
abbrev cX6_eats : ByteArray := prog_8_method_5_code
def yX6_eats : MethodName := ⟨RX6, "eats", "(ILWheelCity$Trace;)I"⟩
abbrev cX6_shares : ByteArray := prog_8_method_6_code
def yX6_shares : MethodName := ⟨RX6, "shares", "(ILWheelCity$Trace;)I"⟩
abbrev cX6_tells : ByteArray := prog_8_method_7_code
def yX6_tells : MethodName := ⟨RX6, "tells", "(ILWheelCity$Trace;)I"⟩
def RX7 : String := "WheelCity$Tape"
def TX7 : u_T := fun k => match k with
  | 0 => ("WheelCity$Tape", "bytes", "[I", true)
  | 1 => ("WheelCity$Tape", "count", "I", false)
  | 2 => ("WheelCity$Tape", "sort", "I", false)
  | 3 => ("WheelCity$Tape", "start", "I", false)
  | 4 => ("WheelCity$Tape", "end", "I", false)
  | _ => ("WheelCity$Tape", "value", "I", false)
def tyX7 : Nat → FieldType := fun k => match k with
  | 0 => .array .int
  | 1 => .int
  | 2 => .int
  | 3 => .int
  | 4 => .int
  | _ => .int
abbrev wsX70 : List Cond := u_ws RX7 TX7 6
theorem nmX7 : ∀ a, a < 6 → ∀ b, b < 6 → a ≠ b → (TX7 a).2.1 ≠ (TX7 b).2.1 := by decide +kernel
theorem tyX7_ok : ∀ k, k < 6 → parseFieldDescriptor (TX7 k).2.2.1 = some (tyX7 k) := by decide +kernel
abbrev cX7_init : ByteArray := prog_9_method_1_code
def yX7_init : MethodName := ⟨RX7, "<init>", "()V"⟩
abbrev cX7_takes : ByteArray := prog_9_method_2_code
def yX7_takes : MethodName := ⟨RX7, "takes", "(JI)Z"⟩
abbrev cX7_readInto : ByteArray := prog_9_method_3_code
def yX7_readInto : MethodName := ⟨RX7, "readInto", "(LWheelCity$Land;)I"⟩
abbrev cX7_readPiece : ByteArray := prog_9_method_4_code
def yX7_readPiece : MethodName := ⟨RX7, "readPiece", "(LWheelCity$Land;)Z"⟩
abbrev cX7_readPlace : ByteArray := prog_9_method_5_code
def yX7_readPlace : MethodName := ⟨RX7, "readPlace", "(LWheelCity$Land;I)Z"⟩
abbrev cX7_readWay : ByteArray := prog_9_method_6_code
def yX7_readWay : MethodName := ⟨RX7, "readWay", "(LWheelCity$Land;)Z"⟩
abbrev cX7_readMonths : ByteArray := prog_9_method_7_code
def yX7_readMonths : MethodName := ⟨RX7, "readMonths", "()I"⟩
abbrev cX7_isFreePlace : ByteArray := prog_9_method_8_code
def yX7_isFreePlace : MethodName := ⟨RX7, "isFreePlace", "(LWheelCity$Land;)Z"⟩
abbrev cX7_isNumber : ByteArray := prog_9_method_9_code
def yX7_isNumber : MethodName := ⟨RX7, "isNumber", "(II)Z"⟩
abbrev cX7_isEndOfPiece : ByteArray := prog_9_method_10_code
def yX7_isEndOfPiece : MethodName := ⟨RX7, "isEndOfPiece", "()Z"⟩
abbrev cX7_kindNamed : ByteArray := prog_9_method_11_code
def yX7_kindNamed : MethodName := ⟨RX7, "kindNamed", "()I"⟩
abbrev cX7_isNamed : ByteArray := prog_9_method_12_code
def yX7_isNamed : MethodName := ⟨RX7, "isNamed", "(Ljava/lang/String;)Z"⟩
abbrev cX7_step : ByteArray := prog_9_method_13_code
def yX7_step : MethodName := ⟨RX7, "step", "()V"⟩
abbrev cX7_numberHere : ByteArray := prog_9_method_14_code
def yX7_numberHere : MethodName := ⟨RX7, "numberHere", "()I"⟩
abbrev cX7_sortOf : ByteArray := prog_9_method_15_code
def yX7_sortOf : MethodName := ⟨RX7, "sortOf", "(I)I"⟩
def RX8 : String := "WheelCity$Told"
def TX8 : u_T := fun k => match k with
  | 0 => ("WheelCity$Rule", "kind", "I", true)
  | 1 => ("WheelCity$Rule", "number", "I", true)
  | _ => ("WheelCity$Rule", "a", "I", true)
def tyX8 : Nat → FieldType := fun k => match k with
  | 0 => .int
  | 1 => .int
  | _ => .int
abbrev wsX80 : List Cond := u_ws RX8 TX8 3
theorem nmX8 : ∀ a, a < 3 → ∀ b, b < 3 → a ≠ b → (TX8 a).2.1 ≠ (TX8 b).2.1 := by decide +kernel
theorem tyX8_ok : ∀ k, k < 3 → parseFieldDescriptor (TX8 k).2.2.1 = some (tyX8 k) := by decide +kernel
abbrev cX8_init : ByteArray := prog_10_method_1_code
def yX8_init : MethodName := ⟨RX8, "<init>", "(III)V"⟩
abbrev cX8_choose : ByteArray := prog_10_method_2_code
def yX8_choose : MethodName := ⟨RX8, "choose", "(LWheelCity$World;)I"⟩
abbrev cX8_shares : ByteArray := prog_10_method_3_code
def yX8_shares : MethodName := ⟨RX8, "shares", "(ILWheelCity$Trace;)I"⟩
abbrev cX8_tells : ByteArray := prog_10_method_4_code
def yX8_tells : MethodName := ⟨RX8, "tells", "(ILWheelCity$Trace;)I"⟩
def RX9 : String := "WheelCity$Trace"
def TX9 : u_T := fun k => match k with
  | 0 => ("WheelCity$Trace", "bodies", "[I", true)
  | 1 => ("WheelCity$Trace", "count", "I", false)
  | _ => ("WheelCity$Trace", "parted", "Z", false)
def tyX9 : Nat → FieldType := fun k => match k with
  | 0 => .array .int
  | 1 => .int
  | _ => .boolean
abbrev wsX90 : List Cond := u_ws RX9 TX9 3
theorem nmX9 : ∀ a, a < 3 → ∀ b, b < 3 → a ≠ b → (TX9 a).2.1 ≠ (TX9 b).2.1 := by decide +kernel
theorem tyX9_ok : ∀ k, k < 3 → parseFieldDescriptor (TX9 k).2.2.1 = some (tyX9 k) := by decide +kernel
abbrev cX9_init : ByteArray := prog_11_method_1_code
def yX9_init : MethodName := ⟨RX9, "<init>", "()V"⟩
abbrev cX9_clear : ByteArray := prog_11_method_2_code
def yX9_clear : MethodName := ⟨RX9, "clear", "()V"⟩
abbrev cX9_begin : ByteArray := prog_11_method_3_code
def yX9_begin : MethodName := ⟨RX9, "begin", "(I)V"⟩
def RX10 : String := "WheelCity$World"
def TX10 : u_T := fun k => match k with
  | 0 => ("WheelCity$World", "land", "LWheelCity$Land;", true)
  | 1 => ("WheelCity$World", "law", "[I", true)
  | 2 => ("WheelCity$World", "rain", "I", false)
  | 3 => ("WheelCity$World", "there", "Z", false)
  | 4 => ("WheelCity$World", "at", "I", false)
  | 5 => ("WheelCity$World", "day", "I", false)
  | 6 => ("WheelCity$World", "shed", "[I", true)
  | 7 => ("WheelCity$World", "rules", "I", false)
  | 8 => ("WheelCity$World", "rule", "[LWheelCity$Rule;", true)
  | _ => ("WheelCity$World", "did", "[I", true)
def tyX10 : Nat → FieldType := fun k => match k with
  | 0 => .object "WheelCity$Land"
  | 1 => .array .int
  | 2 => .int
  | 3 => .boolean
  | 4 => .int
  | 5 => .int
  | 6 => .array .int
  | 7 => .int
  | 8 => .array (.object "WheelCity$Rule")
  | _ => .array .int
abbrev wsX100 : List Cond := u_ws RX10 TX10 10
theorem nmX10 : ∀ a, a < 10 → ∀ b, b < 10 → a ≠ b → (TX10 a).2.1 ≠ (TX10 b).2.1 := by decide +kernel
theorem tyX10_ok : ∀ k, k < 10 → parseFieldDescriptor (TX10 k).2.2.1 = some (tyX10 k) := by decide +kernel
abbrev cX10_init : ByteArray := prog_12_method_1_code
def yX10_init : MethodName := ⟨RX10, "<init>", "()V"⟩
abbrev cX10_monthOf : ByteArray := prog_12_method_2_code
def yX10_monthOf : MethodName := ⟨RX10, "monthOf", "(I)I"⟩
abbrev cX10_copyFrom : ByteArray := prog_12_method_3_code
def yX10_copyFrom : MethodName := ⟨RX10, "copyFrom", "(LWheelCity$World;)V"⟩
abbrev cX10_ruleAt : ByteArray := prog_12_method_4_code
def yX10_ruleAt : MethodName := ⟨RX10, "ruleAt", "(I)LWheelCity$Rule;"⟩
abbrev cX10_settle : ByteArray := prog_12_method_5_code
def yX10_settle : MethodName := ⟨RX10, "settle", "(IIII)V"⟩
abbrev cX10_worth : ByteArray := prog_12_method_6_code
def yX10_worth : MethodName := ⟨RX10, "worth", "()I"⟩
abbrev cX10_leastShed : ByteArray := prog_12_method_7_code
def yX10_leastShed : MethodName := ⟨RX10, "leastShed", "()I"⟩
abbrev cX10_choices : ByteArray := prog_12_method_8_code
def yX10_choices : MethodName := ⟨RX10, "choices", "()I"⟩
abbrev cX10_choice : ByteArray := prog_12_method_9_code
def yX10_choice : MethodName := ⟨RX10, "choice", "(I)I"⟩
abbrev cX10_daysOf : ByteArray := prog_12_method_10_code
def yX10_daysOf : MethodName := ⟨RX10, "daysOf", "(I)I"⟩
abbrev cX10_onMeadow : ByteArray := prog_12_method_11_code
def yX10_onMeadow : MethodName := ⟨RX10, "onMeadow", "()Z"⟩
abbrev cX10_rains : ByteArray := prog_12_method_12_code
def yX10_rains : MethodName := ⟨RX10, "rains", "()Z"⟩
abbrev cX10_can : ByteArray := prog_12_method_13_code
def yX10_can : MethodName := ⟨RX10, "can", "(I)Z"⟩
abbrev cX10_attempt : ByteArray := prog_12_method_14_code
def yX10_attempt : MethodName := ⟨RX10, "attempt", "(I)I"⟩
abbrev cX10_takeBack : ByteArray := prog_12_method_15_code
def yX10_takeBack : MethodName := ⟨RX10, "takeBack", "(II)V"⟩
abbrev cX10_stand : ByteArray := prog_12_method_16_code
def yX10_stand : MethodName := ⟨RX10, "stand", "(Z)I"⟩
abbrev cX10_go : ByteArray := prog_12_method_17_code
def yX10_go : MethodName := ⟨RX10, "go", "(I)I"⟩
abbrev cX10_taking : ByteArray := prog_12_method_18_code
def yX10_taking : MethodName := ⟨RX10, "taking", "(II)I"⟩
abbrev cX10_eat : ByteArray := prog_12_method_19_code
def yX10_eat : MethodName := ⟨RX10, "eat", "(II)Z"⟩
abbrev cX10_spitOut : ByteArray := prog_12_method_20_code
def yX10_spitOut : MethodName := ⟨RX10, "spitOut", "(II)V"⟩
abbrev cX10_isNoWorseThan : ByteArray := prog_12_method_21_code
def yX10_isNoWorseThan : MethodName := ⟨RX10, "isNoWorseThan", "(LWheelCity$World;)Z"⟩
abbrev cX10_noneLess : ByteArray := prog_12_method_22_code
def yX10_noneLess : MethodName := ⟨RX10, "noneLess", "([I[II)Z"⟩
def RX11 : String := "WheelCity"
def TX11 : u_T := fun k => match k with
  | 0 => ("WheelCity", "tape", "LWheelCity$Tape;", true)
  | 1 => ("WheelCity", "now", "LWheelCity$World;", true)
  | 2 => ("WheelCity", "kept", "LWheelCity$World;", true)
  | 3 => ("WheelCity", "trial", "LWheelCity$World;", true)
  | 4 => ("WheelCity", "isKept", "Z", false)
  | 5 => ("WheelCity", "rows", "[I", true)
  | 6 => ("WheelCity", "rowCount", "I", false)
  | 7 => ("WheelCity", "sheetSort", "[I", true)
  | 8 => ("WheelCity", "sheetSize", "[I", true)
  | 9 => ("WheelCity", "sheetItems", "[[J", true)
  | 10 => ("WheelCity", "shelfHolds", "[I", true)
  | 11 => ("WheelCity", "shelfThing", "[I", true)
  | 12 => ("WheelCity", "shelfSize", "[I", true)
  | _ => ("WheelCity", "trace", "LWheelCity$Trace;", true)
def tyX11 : Nat → FieldType := fun k => match k with
  | 0 => .object "WheelCity$Tape"
  | 1 => .object "WheelCity$World"
  | 2 => .object "WheelCity$World"
  | 3 => .object "WheelCity$World"
  | 4 => .boolean
  | 5 => .array .int
  | 6 => .int
  | 7 => .array .int
  | 8 => .array .int
  | 9 => .array (.array .long)
  | 10 => .array .int
  | 11 => .array .int
  | 12 => .array .int
  | _ => .object "WheelCity$Trace"
abbrev wsX110 : List Cond := u_ws RX11 TX11 14
theorem nmX11 : ∀ a, a < 14 → ∀ b, b < 14 → a ≠ b → (TX11 a).2.1 ≠ (TX11 b).2.1 := by decide +kernel
theorem tyX11_ok : ∀ k, k < 14 → parseFieldDescriptor (TX11 k).2.2.1 = some (tyX11 k) := by decide +kernel
abbrev cX11_init : ByteArray := prog_1_method_1_code
def yX11_init : MethodName := ⟨RX11, "<init>", "()V"⟩
abbrev cX11_feed : ByteArray := prog_1_method_2_code
def yX11_feed : MethodName := ⟨RX11, "feed", "(JI)I"⟩
abbrev cX11_plain : ByteArray := prog_1_method_3_code
def yX11_plain : MethodName := ⟨RX11, "plain", "()I"⟩
abbrev cX11_place : ByteArray := prog_1_method_4_code
def yX11_place : MethodName := ⟨RX11, "place", "(III)I"⟩
abbrev cX11_way : ByteArray := prog_1_method_5_code
def yX11_way : MethodName := ⟨RX11, "way", "(IIIII)I"⟩
abbrev cX11_placeOf : ByteArray := prog_1_method_6_code
def yX11_placeOf : MethodName := ⟨RX11, "placeOf", "(II)I"⟩
abbrev cX11_wayOf : ByteArray := prog_1_method_7_code
def yX11_wayOf : MethodName := ⟨RX11, "wayOf", "(II)I"⟩
abbrev cX11_set : ByteArray := prog_1_method_8_code
def yX11_set : MethodName := ⟨RX11, "set", "(II)I"⟩
abbrev cX11_rain : ByteArray := prog_1_method_9_code
def yX11_rain : MethodName := ⟨RX11, "rain", "(I)I"⟩
abbrev cX11_city : ByteArray := prog_1_method_10_code
def yX11_city : MethodName := ⟨RX11, "city", "(IIII)I"⟩
abbrev cX11_cityOf : ByteArray := prog_1_method_11_code
def yX11_cityOf : MethodName := ⟨RX11, "cityOf", "(I)I"⟩
abbrev cX11_may : ByteArray := prog_1_method_12_code
def yX11_may : MethodName := ⟨RX11, "may", "(I)I"⟩
abbrev cX11_does : ByteArray := prog_1_method_13_code
def yX11_does : MethodName := ⟨RX11, "does", "(I)I"⟩
abbrev cX11_stuck : ByteArray := prog_1_method_14_code
def yX11_stuck : MethodName := ⟨RX11, "stuck", "()I"⟩
abbrev cX11_best : ByteArray := prog_1_method_15_code
def yX11_best : MethodName := ⟨RX11, "best", "(II)I"⟩
abbrev cX11_last : ByteArray := prog_1_method_16_code
def yX11_last : MethodName := ⟨RX11, "last", "()I"⟩
abbrev cX11_surest : ByteArray := prog_1_method_17_code
def yX11_surest : MethodName := ⟨RX11, "surest", "(II)I"⟩
abbrev cX11_light : ByteArray := prog_1_method_18_code
def yX11_light : MethodName := ⟨RX11, "light", "(I)I"⟩
abbrev cX11_far : ByteArray := prog_1_method_19_code
def yX11_far : MethodName := ⟨RX11, "far", "(II)I"⟩
abbrev cX11_meet : ByteArray := prog_1_method_20_code
def yX11_meet : MethodName := ⟨RX11, "meet", "(I)I"⟩
abbrev cX11_party : ByteArray := prog_1_method_21_code
def yX11_party : MethodName := ⟨RX11, "party", "(I)I"⟩
abbrev cX11_gate : ByteArray := prog_1_method_22_code
def yX11_gate : MethodName := ⟨RX11, "gate", "(II)I"⟩
abbrev cX11_round : ByteArray := prog_1_method_23_code
def yX11_round : MethodName := ⟨RX11, "round", "(II)I"⟩
abbrev cX11_rule : ByteArray := prog_1_method_24_code
def yX11_rule : MethodName := ⟨RX11, "rule", "(II)I"⟩
abbrev cX11_ruleOf : ByteArray := prog_1_method_25_code
def yX11_ruleOf : MethodName := ⟨RX11, "ruleOf", "(II)I"⟩
abbrev cX11_next : ByteArray := prog_1_method_26_code
def yX11_next : MethodName := ⟨RX11, "next", "(I)I"⟩
abbrev cX11_follow : ByteArray := prog_1_method_27_code
def yX11_follow : MethodName := ⟨RX11, "follow", "(II)I"⟩
abbrev cX11_prove : ByteArray := prog_1_method_28_code
def yX11_prove : MethodName := ⟨RX11, "prove", "(I)I"⟩
abbrev cX11_row : ByteArray := prog_1_method_29_code
def yX11_row : MethodName := ⟨RX11, "row", "(II)I"⟩
abbrev cX11_alterRow : ByteArray := prog_1_method_30_code
def yX11_alterRow : MethodName := ⟨RX11, "alterRow", "(III)I"⟩
abbrev cX11_judge : ByteArray := prog_1_method_31_code
def yX11_judge : MethodName := ⟨RX11, "judge", "()I"⟩
abbrev cX11_sheet : ByteArray := prog_1_method_32_code
def yX11_sheet : MethodName := ⟨RX11, "sheet", "(III)I"⟩
abbrev cX11_put : ByteArray := prog_1_method_33_code
def yX11_put : MethodName := ⟨RX11, "put", "(III)I"⟩
abbrev cX11_item : ByteArray := prog_1_method_34_code
def yX11_item : MethodName := ⟨RX11, "item", "(III)I"⟩
abbrev cX11_shelf : ByteArray := prog_1_method_35_code
def yX11_shelf : MethodName := ⟨RX11, "shelf", "(III)I"⟩
abbrev cX11_taken : ByteArray := prog_1_method_36_code
def yX11_taken : MethodName := ⟨RX11, "taken", "(II)I"⟩
abbrev cX11_act : ByteArray := prog_1_method_37_code
def yX11_act : MethodName := ⟨RX11, "act", "(III)I"⟩
abbrev cX11_trace : ByteArray := prog_1_method_38_code
def yX11_trace : MethodName := ⟨RX11, "trace", "(I)I"⟩
abbrev cX11_many : ByteArray := prog_1_method_39_code
def yX11_many : MethodName := ⟨RX11, "many", "(I)I"⟩
abbrev cX11_keep : ByteArray := prog_1_method_40_code
def yX11_keep : MethodName := ⟨RX11, "keep", "()I"⟩
abbrev cX11_again : ByteArray := prog_1_method_41_code
def yX11_again : MethodName := ⟨RX11, "again", "()I"⟩
abbrev cX11_within : ByteArray := prog_1_method_42_code
def yX11_within : MethodName := ⟨RX11, "within", "(III)Z"⟩
abbrev cX11_newRule : ByteArray := prog_1_method_43_code
def yX11_newRule : MethodName := ⟨RX11, "newRule", "(III)LWheelCity$Rule;"⟩
abbrev cX11_isRowPart : ByteArray := prog_1_method_44_code
def yX11_isRowPart : MethodName := ⟨RX11, "isRowPart", "(II)Z"⟩
abbrev cX11_narrowed : ByteArray := prog_1_method_45_code
def yX11_narrowed : MethodName := ⟨RX11, "narrowed", "(II)J"⟩
abbrev cX11_shelveRule : ByteArray := prog_1_method_46_code
def yX11_shelveRule : MethodName := ⟨RX11, "shelveRule", "(II)I"⟩
abbrev cX11_shelveSheet : ByteArray := prog_1_method_47_code
def yX11_shelveSheet : MethodName := ⟨RX11, "shelveSheet", "(II)I"⟩
abbrev cX11_ruleOn : ByteArray := prog_1_method_48_code
def yX11_ruleOn : MethodName := ⟨RX11, "ruleOn", "(I)LWheelCity$Rule;"⟩
def RX12 : String := "WheelCityModel"
def TX12 : u_T := fun k => match k with
  | 0 => ("WheelCityModel", "places", "I", false)
  | 1 => ("WheelCityModel", "place", "[I", true)
  | 2 => ("WheelCityModel", "ways", "I", false)
  | 3 => ("WheelCityModel", "way", "[I", true)
  | 4 => ("WheelCityModel", "laws", "[I", true)
  | 5 => ("WheelCityModel", "mostOf", "[I", true)
  | 6 => ("WheelCityModel", "rains", "I", false)
  | 7 => ("WheelCityModel", "isCity", "Z", false)
  | 8 => ("WheelCityModel", "rules", "I", false)
  | 9 => ("WheelCityModel", "rule", "[I", true)
  | 10 => ("WheelCityModel", "rowsAhead", "[I", true)
  | 11 => ("WheelCityModel", "tape", "[I", true)
  | 12 => ("WheelCityModel", "tapeMany", "I", false)
  | 13 => ("WheelCityModel", "sort", "I", false)
  | 14 => ("WheelCityModel", "begins", "I", false)
  | 15 => ("WheelCityModel", "tokenEnds", "I", false)
  | 16 => ("WheelCityModel", "word", "J", false)
  | 17 => ("WheelCityModel", "value", "I", false)
  | 18 => ("WheelCityModel", "good", "Z", false)
  | 19 => ("WheelCityModel", "freshPlaces", "I", false)
  | 20 => ("WheelCityModel", "freshWays", "I", false)
  | 21 => ("WheelCityModel", "freshPlace", "[I", true)
  | 22 => ("WheelCityModel", "freshWay", "[I", true)
  | 23 => ("WheelCityModel", "freshMany", "[I", true)
  | 24 => ("WheelCityModel", "tried", "[I", true)
  | 25 => ("WheelCityModel", "bestRow", "[I", true)
  | 26 => ("WheelCityModel", "bestMany", "I", false)
  | 27 => ("WheelCityModel", "daysLeft", "[I", true)
  | 28 => ("WheelCityModel", "bestOdds", "[I", true)
  | 29 => ("WheelCityModel", "triedOdds", "[I", true)
  | 30 => ("WheelCityModel", "toldDry", "[I", true)
  | 31 => ("WheelCityModel", "phase", "[I", true)
  | 32 => ("WheelCityModel", "above", "I", false)
  | 33 => ("WheelCityModel", "below", "I", false)
  | 34 => ("WheelCityModel", "fars", "[I", true)
  | 35 => ("WheelCityModel", "rows", "[I", true)
  | 36 => ("WheelCityModel", "rowMany", "I", false)
  | 37 => ("WheelCityModel", "sorts", "[I", true)
  | 38 => ("WheelCityModel", "sizes", "[I", true)
  | 39 => ("WheelCityModel", "sheets", "[J", true)
  | 40 => ("WheelCityModel", "held", "[I", true)
  | 41 => ("WheelCityModel", "heldNumber", "[I", true)
  | 42 => ("WheelCityModel", "heldSize", "[I", true)
  | 43 => ("WheelCityModel", "kind", "I", false)
  | 44 => ("WheelCityModel", "number", "I", false)
  | 45 => ("WheelCityModel", "own", "I", false)
  | 46 => ("WheelCityModel", "traced", "[I", true)
  | 47 => ("WheelCityModel", "bodies", "I", false)
  | 48 => ("WheelCityModel", "isParted", "Z", false)
  | 49 => ("WheelCityModel", "isKept", "Z", false)
  | 50 => ("WheelCityModel", "kept", "[I", true)
  | 51 => ("WheelCityModel", "movedTo", "I", false)
  | _ => ("WheelCityModel", "single", "[I", true)
def tyX12 : Nat → FieldType := fun k => match k with
  | 0 => .int
  | 1 => .array .int
  | 2 => .int
  | 3 => .array .int
  | 4 => .array .int
  | 5 => .array .int
  | 6 => .int
  | 7 => .boolean
  | 8 => .int
  | 9 => .array .int
  | 10 => .array .int
  | 11 => .array .int
  | 12 => .int
  | 13 => .int
  | 14 => .int
  | 15 => .int
  | 16 => .long
  | 17 => .int
  | 18 => .boolean
  | 19 => .int
  | 20 => .int
  | 21 => .array .int
  | 22 => .array .int
  | 23 => .array .int
  | 24 => .array .int
  | 25 => .array .int
  | 26 => .int
  | 27 => .array .int
  | 28 => .array .int
  | 29 => .array .int
  | 30 => .array .int
  | 31 => .array .int
  | 32 => .int
  | 33 => .int
  | 34 => .array .int
  | 35 => .array .int
  | 36 => .int
  | 37 => .array .int
  | 38 => .array .int
  | 39 => .array .long
  | 40 => .array .int
  | 41 => .array .int
  | 42 => .array .int
  | 43 => .int
  | 44 => .int
  | 45 => .int
  | 46 => .array .int
  | 47 => .int
  | 48 => .boolean
  | 49 => .boolean
  | 50 => .array .int
  | 51 => .int
  | _ => .array .int
abbrev wsX120 : List Cond := u_ws RX12 TX12 53
theorem nmX12 : ∀ a, a < 53 → ∀ b, b < 53 → a ≠ b → (TX12 a).2.1 ≠ (TX12 b).2.1 := by decide +kernel
theorem tyX12_ok : ∀ k, k < 53 → parseFieldDescriptor (TX12 k).2.2.1 = some (tyX12 k) := by decide +kernel
abbrev cX12_init : ByteArray := prog_14_method_1_code
def yX12_init : MethodName := ⟨RX12, "<init>", "()V"⟩
abbrev cX12_in : ByteArray := prog_14_method_2_code
def yX12_in : MethodName := ⟨RX12, "in", "(III)Z"⟩
abbrev cX12_isPlace : ByteArray := prog_14_method_3_code
def yX12_isPlace : MethodName := ⟨RX12, "isPlace", "(I)Z"⟩
abbrev cX12_isWay : ByteArray := prog_14_method_4_code
def yX12_isWay : MethodName := ⟨RX12, "isWay", "(I)Z"⟩
abbrev cX12_isSide : ByteArray := prog_14_method_5_code
def yX12_isSide : MethodName := ⟨RX12, "isSide", "(I)Z"⟩
abbrev cX12_its : ByteArray := prog_14_method_6_code
def yX12_its : MethodName := ⟨RX12, "its", "(II)I"⟩
abbrev cX12_wayIts : ByteArray := prog_14_method_7_code
def yX12_wayIts : MethodName := ⟨RX12, "wayIts", "(II)I"⟩
abbrev cX12_waysAt : ByteArray := prog_14_method_8_code
def yX12_waysAt : MethodName := ⟨RX12, "waysAt", "(I)I"⟩
abbrev cX12_feed : ByteArray := prog_14_method_9_code
def yX12_feed : MethodName := ⟨RX12, "feed", "(JI)I"⟩
abbrev cX12_byteAt : ByteArray := prog_14_method_10_code
def yX12_byteAt : MethodName := ⟨RX12, "byteAt", "(I)I"⟩
abbrev cX12_isLetter : ByteArray := prog_14_method_11_code
def yX12_isLetter : MethodName := ⟨RX12, "isLetter", "(I)Z"⟩
abbrev cX12_isDigit : ByteArray := prog_14_method_12_code
def yX12_isDigit : MethodName := ⟨RX12, "isDigit", "(I)Z"⟩
abbrev cX12_advance : ByteArray := prog_14_method_13_code
def yX12_advance : MethodName := ⟨RX12, "advance", "()V"⟩
abbrev cX12_isWord : ByteArray := prog_14_method_14_code
def yX12_isWord : MethodName := ⟨RX12, "isWord", "(J)Z"⟩
abbrev cX12_kindHere : ByteArray := prog_14_method_15_code
def yX12_kindHere : MethodName := ⟨RX12, "kindHere", "()I"⟩
abbrev cX12_wantNumber : ByteArray := prog_14_method_16_code
def yX12_wantNumber : MethodName := ⟨RX12, "wantNumber", "(II)I"⟩
abbrev cX12_wantEnd : ByteArray := prog_14_method_17_code
def yX12_wantEnd : MethodName := ⟨RX12, "wantEnd", "()V"⟩
abbrev cX12_isEndless : ByteArray := prog_14_method_18_code
def yX12_isEndless : MethodName := ⟨RX12, "isEndless", "(I)Z"⟩
abbrev cX12_wantPlace : ByteArray := prog_14_method_19_code
def yX12_wantPlace : MethodName := ⟨RX12, "wantPlace", "()V"⟩
abbrev cX12_wantOne : ByteArray := prog_14_method_20_code
def yX12_wantOne : MethodName := ⟨RX12, "wantOne", "(I)I"⟩
abbrev cX12_wantWay : ByteArray := prog_14_method_21_code
def yX12_wantWay : MethodName := ⟨RX12, "wantWay", "()V"⟩
abbrev cX12_plain : ByteArray := prog_14_method_22_code
def yX12_plain : MethodName := ⟨RX12, "plain", "()I"⟩
abbrev cX12_refill : ByteArray := prog_14_method_23_code
def yX12_refill : MethodName := ⟨RX12, "refill", "()V"⟩
abbrev cX12_place : ByteArray := prog_14_method_24_code
def yX12_place : MethodName := ⟨RX12, "place", "(III)I"⟩
abbrev cX12_way : ByteArray := prog_14_method_25_code
def yX12_way : MethodName := ⟨RX12, "way", "(IIIII)I"⟩
abbrev cX12_placeOf : ByteArray := prog_14_method_26_code
def yX12_placeOf : MethodName := ⟨RX12, "placeOf", "(II)I"⟩
abbrev cX12_wayOf : ByteArray := prog_14_method_27_code
def yX12_wayOf : MethodName := ⟨RX12, "wayOf", "(II)I"⟩
abbrev cX12_set : ByteArray := prog_14_method_28_code
def yX12_set : MethodName := ⟨RX12, "set", "(II)I"⟩
abbrev cX12_rain : ByteArray := prog_14_method_29_code
def yX12_rain : MethodName := ⟨RX12, "rain", "(I)I"⟩
abbrev cX12_city : ByteArray := prog_14_method_30_code
def yX12_city : MethodName := ⟨RX12, "city", "(IIII)I"⟩
abbrev cX12_monthOf : ByteArray := prog_14_method_31_code
def yX12_monthOf : MethodName := ⟨RX12, "monthOf", "(I)I"⟩
abbrev cX12_worthAt : ByteArray := prog_14_method_32_code
def yX12_worthAt : MethodName := ⟨RX12, "worthAt", "(I)I"⟩
abbrev cX12_cityOf : ByteArray := prog_14_method_33_code
def yX12_cityOf : MethodName := ⟨RX12, "cityOf", "(I)I"⟩
abbrev cX12_shedOf : ByteArray := prog_14_method_34_code
def yX12_shedOf : MethodName := ⟨RX12, "shedOf", "(I)I"⟩
abbrev cX12_eats : ByteArray := prog_14_method_35_code
def yX12_eats : MethodName := ⟨RX12, "eats", "(II)I"⟩
abbrev cX12_byLeft : ByteArray := prog_14_method_36_code
def yX12_byLeft : MethodName := ⟨RX12, "byLeft", "(III)I"⟩
abbrev cX12_byRoom : ByteArray := prog_14_method_37_code
def yX12_byRoom : MethodName := ⟨RX12, "byRoom", "(III)I"⟩
abbrev cX12_isWet : ByteArray := prog_14_method_38_code
def yX12_isWet : MethodName := ⟨RX12, "isWet", "(II)Z"⟩
abbrev cX12_gets : ByteArray := prog_14_method_39_code
def yX12_gets : MethodName := ⟨RX12, "gets", "(II)V"⟩
abbrev cX12_goes : ByteArray := prog_14_method_40_code
def yX12_goes : MethodName := ⟨RX12, "goes", "(III)I"⟩
abbrev cX12_becomes : ByteArray := prog_14_method_41_code
def yX12_becomes : MethodName := ⟨RX12, "becomes", "(I)V"⟩
abbrev cX12_may : ByteArray := prog_14_method_42_code
def yX12_may : MethodName := ⟨RX12, "may", "(I)I"⟩
abbrev cX12_doesIt : ByteArray := prog_14_method_43_code
def yX12_doesIt : MethodName := ⟨RX12, "doesIt", "(I)I"⟩
abbrev cX12_does : ByteArray := prog_14_method_44_code
def yX12_does : MethodName := ⟨RX12, "does", "(I)I"⟩
abbrev cX12_stuck : ByteArray := prog_14_method_45_code
def yX12_stuck : MethodName := ⟨RX12, "stuck", "()I"⟩
abbrev cX12_findBest : ByteArray := prog_14_method_46_code
def yX12_findBest : MethodName := ⟨RX12, "findBest", "(I)I"⟩
abbrev cX12_best : ByteArray := prog_14_method_47_code
def yX12_best : MethodName := ⟨RX12, "best", "(II)I"⟩
abbrev cX12_last : ByteArray := prog_14_method_48_code
def yX12_last : MethodName := ⟨RX12, "last", "()I"⟩
abbrev cX12_power : ByteArray := prog_14_method_49_code
def yX12_power : MethodName := ⟨RX12, "power", "(I)I"⟩
abbrev cX12_isOnMeadow : ByteArray := prog_14_method_50_code
def yX12_isOnMeadow : MethodName := ⟨RX12, "isOnMeadow", "(I)Z"⟩
abbrev cX12_down : ByteArray := prog_14_method_51_code
def yX12_down : MethodName := ⟨RX12, "down", "(III)I"⟩
abbrev cX12_findSurest : ByteArray := prog_14_method_52_code
def yX12_findSurest : MethodName := ⟨RX12, "findSurest", "(I)I"⟩
abbrev cX12_lowest : ByteArray := prog_14_method_53_code
def yX12_lowest : MethodName := ⟨RX12, "lowest", "(II)V"⟩
abbrev cX12_surest : ByteArray := prog_14_method_54_code
def yX12_surest : MethodName := ⟨RX12, "surest", "(II)I"⟩
abbrev cX12_light : ByteArray := prog_14_method_55_code
def yX12_light : MethodName := ⟨RX12, "light", "(I)I"⟩
abbrev cX12_findFars : ByteArray := prog_14_method_56_code
def yX12_findFars : MethodName := ⟨RX12, "findFars", "()V"⟩
abbrev cX12_nearer : ByteArray := prog_14_method_57_code
def yX12_nearer : MethodName := ⟨RX12, "nearer", "(III)V"⟩
abbrev cX12_far : ByteArray := prog_14_method_58_code
def yX12_far : MethodName := ⟨RX12, "far", "(II)I"⟩
abbrev cX12_meet : ByteArray := prog_14_method_59_code
def yX12_meet : MethodName := ⟨RX12, "meet", "(I)I"⟩
abbrev cX12_party : ByteArray := prog_14_method_60_code
def yX12_party : MethodName := ⟨RX12, "party", "(I)I"⟩
abbrev cX12_gate : ByteArray := prog_14_method_61_code
def yX12_gate : MethodName := ⟨RX12, "gate", "(II)I"⟩
abbrev cX12_isForEver : ByteArray := prog_14_method_62_code
def yX12_isForEver : MethodName := ⟨RX12, "isForEver", "(I)Z"⟩
abbrev cX12_round : ByteArray := prog_14_method_63_code
def yX12_round : MethodName := ⟨RX12, "round", "(II)I"⟩
abbrev cX12_isRule : ByteArray := prog_14_method_64_code
def yX12_isRule : MethodName := ⟨RX12, "isRule", "(I)Z"⟩
abbrev cX12_rule : ByteArray := prog_14_method_65_code
def yX12_rule : MethodName := ⟨RX12, "rule", "(II)I"⟩
abbrev cX12_ruleOf : ByteArray := prog_14_method_66_code
def yX12_ruleOf : MethodName := ⟨RX12, "ruleOf", "(II)I"⟩
abbrev cX12_nearAct : ByteArray := prog_14_method_67_code
def yX12_nearAct : MethodName := ⟨RX12, "nearAct", "()I"⟩
abbrev cX12_leads : ByteArray := prog_14_method_68_code
def yX12_leads : MethodName := ⟨RX12, "leads", "(III)Z"⟩
abbrev cX12_nextOf : ByteArray := prog_14_method_69_code
def yX12_nextOf : MethodName := ⟨RX12, "nextOf", "(I)I"⟩
abbrev cX12_next : ByteArray := prog_14_method_70_code
def yX12_next : MethodName := ⟨RX12, "next", "(I)I"⟩
abbrev cX12_follow : ByteArray := prog_14_method_71_code
def yX12_follow : MethodName := ⟨RX12, "follow", "(II)I"⟩
abbrev cX12_prove : ByteArray := prog_14_method_72_code
def yX12_prove : MethodName := ⟨RX12, "prove", "(I)I"⟩
abbrev cX12_isRow : ByteArray := prog_14_method_73_code
def yX12_isRow : MethodName := ⟨RX12, "isRow", "(II)Z"⟩
abbrev cX12_row : ByteArray := prog_14_method_74_code
def yX12_row : MethodName := ⟨RX12, "row", "(II)I"⟩
abbrev cX12_alterRow : ByteArray := prog_14_method_75_code
def yX12_alterRow : MethodName := ⟨RX12, "alterRow", "(III)I"⟩
abbrev cX12_judge : ByteArray := prog_14_method_76_code
def yX12_judge : MethodName := ⟨RX12, "judge", "()I"⟩
abbrev cX12_isShelf : ByteArray := prog_14_method_77_code
def yX12_isShelf : MethodName := ⟨RX12, "isShelf", "(I)Z"⟩
abbrev cX12_sheet : ByteArray := prog_14_method_78_code
def yX12_sheet : MethodName := ⟨RX12, "sheet", "(III)I"⟩
abbrev cX12_put : ByteArray := prog_14_method_79_code
def yX12_put : MethodName := ⟨RX12, "put", "(III)I"⟩
abbrev cX12_lacksSort : ByteArray := prog_14_method_80_code
def yX12_lacksSort : MethodName := ⟨RX12, "lacksSort", "(II)I"⟩
abbrev cX12_item : ByteArray := prog_14_method_81_code
def yX12_item : MethodName := ⟨RX12, "item", "(III)I"⟩
abbrev cX12_isHeld : ByteArray := prog_14_method_82_code
def yX12_isHeld : MethodName := ⟨RX12, "isHeld", "(II)Z"⟩
abbrev cX12_shelf : ByteArray := prog_14_method_83_code
def yX12_shelf : MethodName := ⟨RX12, "shelf", "(III)I"⟩
abbrev cX12_kindOn : ByteArray := prog_14_method_84_code
def yX12_kindOn : MethodName := ⟨RX12, "kindOn", "(I)I"⟩
abbrev cX12_isUnder : ByteArray := prog_14_method_85_code
def yX12_isUnder : MethodName := ⟨RX12, "isUnder", "(II)Z"⟩
abbrev cX12_taken : ByteArray := prog_14_method_86_code
def yX12_taken : MethodName := ⟨RX12, "taken", "(II)I"⟩
abbrev cX12_ran : ByteArray := prog_14_method_87_code
def yX12_ran : MethodName := ⟨RX12, "ran", "(I)V"⟩
abbrev cX12_rollsIt : ByteArray := prog_14_method_88_code
def yX12_rollsIt : MethodName := ⟨RX12, "rollsIt", "(I)I"⟩
abbrev cX12_plainEats : ByteArray := prog_14_method_89_code
def yX12_plainEats : MethodName := ⟨RX12, "plainEats", "(I)I"⟩
abbrev cX12_nearEats : ByteArray := prog_14_method_90_code
def yX12_nearEats : MethodName := ⟨RX12, "nearEats", "(I)I"⟩
abbrev cX12_eatsIt : ByteArray := prog_14_method_91_code
def yX12_eatsIt : MethodName := ⟨RX12, "eatsIt", "(I)I"⟩
abbrev cX12_plainShares : ByteArray := prog_14_method_92_code
def yX12_plainShares : MethodName := ⟨RX12, "plainShares", "(I)I"⟩
abbrev cX12_loopShares : ByteArray := prog_14_method_93_code
def yX12_loopShares : MethodName := ⟨RX12, "loopShares", "(I)I"⟩
abbrev cX12_sharesIt : ByteArray := prog_14_method_94_code
def yX12_sharesIt : MethodName := ⟨RX12, "sharesIt", "(I)I"⟩
abbrev cX12_plainTells : ByteArray := prog_14_method_95_code
def yX12_plainTells : MethodName := ⟨RX12, "plainTells", "(I)I"⟩
abbrev cX12_tellsIt : ByteArray := prog_14_method_96_code
def yX12_tellsIt : MethodName := ⟨RX12, "tellsIt", "(I)I"⟩
abbrev cX12_act : ByteArray := prog_14_method_97_code
def yX12_act : MethodName := ⟨RX12, "act", "(III)I"⟩
abbrev cX12_trace : ByteArray := prog_14_method_98_code
def yX12_trace : MethodName := ⟨RX12, "trace", "(I)I"⟩
abbrev cX12_many : ByteArray := prog_14_method_99_code
def yX12_many : MethodName := ⟨RX12, "many", "(I)I"⟩
abbrev cX12_move : ByteArray := prog_14_method_100_code
def yX12_move : MethodName := ⟨RX12, "move", "([IIZ)V"⟩
abbrev cX12_moveAll : ByteArray := prog_14_method_101_code
def yX12_moveAll : MethodName := ⟨RX12, "moveAll", "(Z)V"⟩
abbrev cX12_keep : ByteArray := prog_14_method_102_code
def yX12_keep : MethodName := ⟨RX12, "keep", "()I"⟩
abbrev cX12_again : ByteArray := prog_14_method_103_code
def yX12_again : MethodName := ⟨RX12, "again", "()I"⟩
def RJx145de : String := "java/io/Serializable"
def TJx145de : u_T := fun k => match k with
  | _ => ("", "", "", false)
def tyJx145de : Nat → FieldType := fun k => match k with
  | _ => .int
abbrev wsJx145de0 : List Cond := u_ws RJx145de TJx145de 0
theorem nmJx145de : ∀ a, a < 0 → ∀ b, b < 0 → a ≠ b → (TJx145de a).2.1 ≠ (TJx145de b).2.1 := by decide +kernel
theorem tyJx145de_ok : ∀ k, k < 0 → parseFieldDescriptor (TJx145de k).2.2.1 = some (tyJx145de k) := by decide +kernel
def RJx9f9b0 : String := "java/lang/CharSequence"
def TJx9f9b0 : u_T := fun k => match k with
  | _ => ("", "", "", false)
def tyJx9f9b0 : Nat → FieldType := fun k => match k with
  | _ => .int
abbrev wsJx9f9b00 : List Cond := u_ws RJx9f9b0 TJx9f9b0 0
theorem nmJx9f9b0 : ∀ a, a < 0 → ∀ b, b < 0 → a ≠ b → (TJx9f9b0 a).2.1 ≠ (TJx9f9b0 b).2.1 := by decide +kernel
theorem tyJx9f9b0_ok : ∀ k, k < 0 → parseFieldDescriptor (TJx9f9b0 k).2.2.1 = some (tyJx9f9b0 k) := by decide +kernel
def RJx8e188 : String := "java/lang/Cloneable"
def TJx8e188 : u_T := fun k => match k with
  | _ => ("", "", "", false)
def tyJx8e188 : Nat → FieldType := fun k => match k with
  | _ => .int
abbrev wsJx8e1880 : List Cond := u_ws RJx8e188 TJx8e188 0
theorem nmJx8e188 : ∀ a, a < 0 → ∀ b, b < 0 → a ≠ b → (TJx8e188 a).2.1 ≠ (TJx8e188 b).2.1 := by decide +kernel
theorem tyJx8e188_ok : ∀ k, k < 0 → parseFieldDescriptor (TJx8e188 k).2.2.1 = some (tyJx8e188 k) := by decide +kernel
def RJxb160c : String := "java/lang/Comparable"
def TJxb160c : u_T := fun k => match k with
  | _ => ("", "", "", false)
def tyJxb160c : Nat → FieldType := fun k => match k with
  | _ => .int
abbrev wsJxb160c0 : List Cond := u_ws RJxb160c TJxb160c 0
theorem nmJxb160c : ∀ a, a < 0 → ∀ b, b < 0 → a ≠ b → (TJxb160c a).2.1 ≠ (TJxb160c b).2.1 := by decide +kernel
theorem tyJxb160c_ok : ∀ k, k < 0 → parseFieldDescriptor (TJxb160c k).2.2.1 = some (tyJxb160c k) := by decide +kernel
def RJ9 : String := "java/lang/Math"
def TJ9 : u_T := fun k => match k with
  | _ => ("", "", "", false)
def tyJ9 : Nat → FieldType := fun k => match k with
  | _ => .int
abbrev wsJ90 : List Cond := u_ws RJ9 TJ9 0
theorem nmJ9 : ∀ a, a < 0 → ∀ b, b < 0 → a ≠ b → (TJ9 a).2.1 ≠ (TJ9 b).2.1 := by decide +kernel
theorem tyJ9_ok : ∀ k, k < 0 → parseFieldDescriptor (TJ9 k).2.2.1 = some (tyJ9 k) := by decide +kernel
abbrev cJ9_max_7cf53 : ByteArray := prog_16_method_65_code
def yJ9_max_7cf53 : MethodName := ⟨RJ9, "max", "(II)I"⟩
abbrev cJ9_min_7cf53 : ByteArray := prog_16_method_69_code
def yJ9_min_7cf53 : MethodName := ⟨RJ9, "min", "(II)I"⟩
def RJ0 : String := "java/lang/String"
def TJ0 : u_T := fun k => match k with
  | _ => ("", "", "", false)
def tyJ0 : Nat → FieldType := fun k => match k with
  | _ => .int
abbrev wsJ00 : List Cond := u_ws RJ0 TJ0 0
theorem nmJ0 : ∀ a, a < 0 → ∀ b, b < 0 → a ≠ b → (TJ0 a).2.1 ≠ (TJ0 b).2.1 := by decide +kernel
theorem tyJ0_ok : ∀ k, k < 0 → parseFieldDescriptor (TJ0 k).2.2.1 = some (tyJ0 k) := by decide +kernel
abbrev cJ0_length_8abf5 : ByteArray := prog_17_method_54_code
def yJ0_length_8abf5 : MethodName := ⟨RJ0, "length", "()I"⟩
abbrev cJ0_charAt_5068e : ByteArray := prog_17_method_56_code
def yJ0_charAt_5068e : MethodName := ⟨RJ0, "charAt", "(I)C"⟩
abbrev cJ0_coder_7d493 : ByteArray := prog_17_method_152_code
def yJ0_coder_7d493 : MethodName := ⟨RJ0, "coder", "()B"⟩
abbrev cJ0_isLatin1_aae02 : ByteArray := prog_17_method_154_code
def yJ0_isLatin1_aae02 : MethodName := ⟨RJ0, "isLatin1", "()Z"⟩
abbrev cJ0_checkIndex_df160 : ByteArray := prog_17_method_155_code
def yJ0_checkIndex_df160 : MethodName := ⟨RJ0, "checkIndex", "(II)V"⟩
def RJ1 : String := "java/lang/StringLatin1"
def TJ1 : u_T := fun k => match k with
  | _ => ("", "", "", false)
def tyJ1 : Nat → FieldType := fun k => match k with
  | _ => .int
abbrev wsJ10 : List Cond := u_ws RJ1 TJ1 0
theorem nmJ1 : ∀ a, a < 0 → ∀ b, b < 0 → a ≠ b → (TJ1 a).2.1 ≠ (TJ1 b).2.1 := by decide +kernel
theorem tyJ1_ok : ∀ k, k < 0 → parseFieldDescriptor (TJ1 k).2.2.1 = some (tyJ1 k) := by decide +kernel
abbrev cJ1_charAt_3b067 : ByteArray := prog_18_method_2_code
def yJ1_charAt_3b067 : MethodName := ⟨RJ1, "charAt", "([BI)C"⟩
def RJ2 : String := "java/lang/StringUTF16"
def TJ2 : u_T := fun k => match k with
  | _ => ("", "", "", false)
def tyJ2 : Nat → FieldType := fun k => match k with
  | _ => .int
abbrev wsJ20 : List Cond := u_ws RJ2 TJ2 0
theorem nmJ2 : ∀ a, a < 0 → ∀ b, b < 0 → a ≠ b → (TJ2 a).2.1 ≠ (TJ2 b).2.1 := by decide +kernel
theorem tyJ2_ok : ∀ k, k < 0 → parseFieldDescriptor (TJ2 k).2.2.1 = some (tyJ2 k) := by decide +kernel
abbrev cJ2_getChar_3b067 : ByteArray := prog_19_method_5_code
def yJ2_getChar_3b067 : MethodName := ⟨RJ2, "getChar", "([BI)C"⟩
abbrev cJ2_length_9d52b : ByteArray := prog_19_method_6_code
def yJ2_length_9d52b : MethodName := ⟨RJ2, "length", "([B)I"⟩
abbrev cJ2_charAt_3b067 : ByteArray := prog_19_method_83_code
def yJ2_charAt_3b067 : MethodName := ⟨RJ2, "charAt", "([BI)C"⟩
abbrev cJ2_checkIndex_2214a : ByteArray := prog_19_method_91_code
def yJ2_checkIndex_2214a : MethodName := ⟨RJ2, "checkIndex", "(I[B)V"⟩
def RJ10 : String := "java/lang/System"
def TJ10 : u_T := fun k => match k with
  | _ => ("", "", "", false)
def tyJ10 : Nat → FieldType := fun k => match k with
  | _ => .int
abbrev wsJ100 : List Cond := u_ws RJ10 TJ10 0
theorem nmJ10 : ∀ a, a < 0 → ∀ b, b < 0 → a ≠ b → (TJ10 a).2.1 ≠ (TJ10 b).2.1 := by decide +kernel
theorem tyJ10_ok : ∀ k, k < 0 → parseFieldDescriptor (TJ10 k).2.2.1 = some (tyJ10 k) := by decide +kernel
def RJxfd54e : String := "java/lang/constant/Constable"
def TJxfd54e : u_T := fun k => match k with
  | _ => ("", "", "", false)
def tyJxfd54e : Nat → FieldType := fun k => match k with
  | _ => .int
abbrev wsJxfd54e0 : List Cond := u_ws RJxfd54e TJxfd54e 0
theorem nmJxfd54e : ∀ a, a < 0 → ∀ b, b < 0 → a ≠ b → (TJxfd54e a).2.1 ≠ (TJxfd54e b).2.1 := by decide +kernel
theorem tyJxfd54e_ok : ∀ k, k < 0 → parseFieldDescriptor (TJxfd54e k).2.2.1 = some (tyJxfd54e k) := by decide +kernel
def RJx3cf43 : String := "java/lang/constant/ConstantDesc"
def TJx3cf43 : u_T := fun k => match k with
  | _ => ("", "", "", false)
def tyJx3cf43 : Nat → FieldType := fun k => match k with
  | _ => .int
abbrev wsJx3cf430 : List Cond := u_ws RJx3cf43 TJx3cf43 0
theorem nmJx3cf43 : ∀ a, a < 0 → ∀ b, b < 0 → a ≠ b → (TJx3cf43 a).2.1 ≠ (TJx3cf43 b).2.1 := by decide +kernel
theorem tyJx3cf43_ok : ∀ k, k < 0 → parseFieldDescriptor (TJx3cf43 k).2.2.1 = some (tyJx3cf43 k) := by decide +kernel
def RJ7 : String := "java/util/Arrays"
def TJ7 : u_T := fun k => match k with
  | _ => ("", "", "", false)
def tyJ7 : Nat → FieldType := fun k => match k with
  | _ => .int
abbrev wsJ70 : List Cond := u_ws RJ7 TJ7 0
theorem nmJ7 : ∀ a, a < 0 → ∀ b, b < 0 → a ≠ b → (TJ7 a).2.1 ≠ (TJ7 b).2.1 := by decide +kernel
theorem tyJ7_ok : ∀ k, k < 0 → parseFieldDescriptor (TJ7 k).2.2.1 = some (tyJ7 k) := by decide +kernel
abbrev cJ7_fill_d0a16 : ByteArray := prog_21_method_101_code
def yJ7_fill_d0a16 : MethodName := ⟨RJ7, "fill", "([JJ)V"⟩
abbrev cJ7_fill_53178 : ByteArray := prog_21_method_103_code
def yJ7_fill_53178 : MethodName := ⟨RJ7, "fill", "([II)V"⟩
def RJ3 : String := "jdk/internal/util/Preconditions"
def TJ3 : u_T := fun k => match k with
  | _ => ("", "", "", false)
def tyJ3 : Nat → FieldType := fun k => match k with
  | _ => .int
abbrev wsJ30 : List Cond := u_ws RJ3 TJ3 0
theorem nmJ3 : ∀ a, a < 0 → ∀ b, b < 0 → a ≠ b → (TJ3 a).2.1 ≠ (TJ3 b).2.1 := by decide +kernel
theorem tyJ3_ok : ∀ k, k < 0 → parseFieldDescriptor (TJ3 k).2.2.1 = some (tyJ3 k) := by decide +kernel
abbrev cJ3_checkIndex_8e157 : ByteArray := prog_22_method_11_code
def yJ3_checkIndex_8e157 : MethodName := ⟨RJ3, "checkIndex", "(IILjava/util/function/BiFunction;)I"⟩
def RL : String := "WheelCityLaw"
abbrev cL_law : ByteArray := code
def yL_law : MethodName := ⟨RL, "law", "([I)Z"⟩
abbrev vwCl : List vw_C := [(RX1, TX1, 3), (RX2, TX2, 3), (RX3, TX3, 16), (RX4, TX4, 3), (RX5, TX5, 3), (RX7, TX7, 6), (RX8, TX8, 3), (RX9, TX9, 3), (RX10, TX10, 10), (RX11, TX11, 14), (RX12, TX12, 53)]
end
section
/-! ===== the memory that the methods' pure pictures speak of: ints, longs and references by cell and place, and how many cells there are ===== -/
abbrev k_M : Type := (Nat → Nat → Int32) × (Nat → Nat → Int64) × (Nat → Nat → Option Nat) × Nat
/-- what stays over the whole run: the state at the law's entry, the tables' numbers, the array classes by kind, where the static arrays and the texts lie -/
abbrev k_Z : Type := State × va_G × (Nat → ClassId) × (Nat → Nat) × (Nat → Nat)
/-- what stays over one method's body -/
abbrev k_G : Type := Program × Launch × Env × Room × State × MethodId × Array Value × List Frame × Method × Code
def k_h (Z : k_Z) : Nat := Z.1.heap.size
/-- the fields' sorts by the class's number in vwCl: 0 an int or a boolean, 1 a long, 2 a reference -/
def k_fty : Nat → List Nat
  | 2 => [0, 2, 2, 2, 2, 2, 2, 0, 2, 2, 2, 2, 2, 2, 2, 2]
  | 5 => [2, 0, 0, 0, 0, 0]
  | 7 => [2, 0, 0]
  | 8 => [2, 2, 0, 0, 0, 0, 2, 0, 2, 2]
  | 9 => [2, 2, 2, 2, 0, 2, 0, 2, 2, 2, 2, 2, 2, 2]
  | 10 => [0, 2, 0, 2, 2, 2, 0, 0, 0, 2, 2, 2, 0, 0, 0, 0, 1, 0, 0, 0, 0, 2, 2, 2, 2, 2, 0, 2, 2, 2, 2, 2, 0, 0, 2, 2, 0, 2, 2, 2, 2, 2, 2, 0, 0, 0, 2, 0, 0, 0, 2, 0, 2]
  | _ => [0, 0, 0]
/-- a World's cells from its own address on: itself, its Land, the Land's fourteen rows, law, shed, rule, did -/
def k_tabW : List (Nat × Nat) := [(8, 0), (2, 0), (11, 8), (11, 8), (11, 8), (11, 8), (11, 8), (11, 32), (11, 12), (11, 12), (11, 12), (11, 12), (11, 12), (11, 12), (11, 8), (11, 8), (11, 13), (11, 3), (13, 4), (11, 4)]
/-- the cells by their numbers: (number of the class in vwCl, 0); arrays: 11 ints, 12 longs, 13 rules, 14 rows of longs, with their lengths -/
def k_tab : List (Nat × Nat) := [(9, 0), (5, 0), (11, 200)] ++ k_tabW ++ k_tabW ++ k_tabW ++ [(11, 18), (11, 4), (11, 4), (14, 4), (12, 40), (12, 40), (12, 40), (12, 40), (11, 4), (11, 4), (11, 4), (7, 0), (11, 30),
  (10, 0), (11, 24), (11, 60), (11, 13), (11, 13), (11, 12), (11, 1100), (11, 200), (11, 24), (11, 60), (11, 8), (11, 8), (11, 8), (11, 6), (11, 6), (11, 6), (11, 6), (11, 6), (11, 64), (11, 18), (11, 4), (11, 4), (12, 160), (11, 4), (11, 4), (11, 4), (11, 30), (11, 150), (11, 5)]
theorem k_tab_len : k_tab.length = 105 := by decide +kernel
def k_st (a : Nat) : Nat × Nat := k_tab.getD a (99, 0)
theorem k_st_lt {a kd n : Nat} (h : k_st a = (kd, n)) (hk : kd < 15) : a < 105 := by
  by_cases ha : a < 105
  · exact ha
  · exfalso
    unfold k_st at h
    rw [List.getD_eq_getElem?_getD, List.getElem?_eq_none (by rw [k_tab_len]; omega)] at h
    simp only [Option.getD_none, Prod.mk.injEq] at h
    omega
/-- a rule's class by its kind -/
def k_tag (t : Int32) : Nat := if t = 1 then 1 else if t = 2 then 4 else if t = 3 then 3 else if t = 4 then 0 else 6
theorem k_tag_lt (t : Int32) : k_tag t < 7 := by
  unfold k_tag
  repeat' split
  all_goals omega
def k_kq (k : Nat) (fi : Nat → Int32) : Nat × Nat := if k < 105 then k_st k else (k_tag (fi 3), 0)
abbrev k_ra (Z : k_Z) (a : Nat) : Value := .ref (k_h Z + a)
def k_rn (Z : k_Z) (o : Option Nat) : Value := va_rf (o.map (fun a => k_h Z + a))
def k_fv (h : Nat) (fi : Nat → Int32) (fj : Nat → Int64) (fr : Nat → Option Nat) (j : Nat) (t : Nat) : Value := if t = 0 then .int (fi j) else if t = 1 then .long (fj j) else va_rf ((fr j).map (fun a => h + a))
def k_fl (h : Nat) (fi : Nat → Int32) (fj : Nat → Int64) (fr : Nat → Option Nat) : Nat → List Nat → List Value
  | _, [] => []
  | j, t :: ts => k_fv h fi fj fr j t :: k_fl h fi fj fr (j + 1) ts
theorem k_fl_get {h : Nat} {fi : Nat → Int32} {fj : Nat → Int64} {fr : Nat → Option Nat} : ∀ (ts : List Nat) (j0 j t : Nat), ts[j]? = some t → (k_fl h fi fj fr j0 ts)[j]? = some (k_fv h fi fj fr (j0 + j) t)
  | [], _, j, _, hj => by simp at hj
  | t0 :: ts, j0, j, t, hj => by
    cases j with
    | zero => simp at hj; subst hj; simp [k_fl]
    | succ j =>
      simp only [List.getElem?_cons_succ] at hj
      have h1 := k_fl_get (h := h) (fi := fi) (fj := fj) (fr := fr) ts (j0 + 1) j t hj
      simp only [k_fl, List.getElem?_cons_succ]
      rw [h1]
      congr 2
      omega
theorem k_fl_len {h : Nat} {fi : Nat → Int32} {fj : Nat → Int64} {fr : Nat → Option Nat} : ∀ (ts : List Nat) (j0 : Nat), (k_fl h fi fj fr j0 ts).length = ts.length
  | [], _ => rfl
  | _ :: ts, j0 => by simp only [k_fl, List.length_cons, k_fl_len ts (j0 + 1)]
theorem k_fl_congr {h : Nat} {fi fi' : Nat → Int32} {fj fj' : Nat → Int64} {fr fr' : Nat → Option Nat} : ∀ (ts : List Nat) (j0 : Nat), (∀ i, j0 ≤ i → fi i = fi' i) → (∀ i, j0 ≤ i → fj i = fj' i) → (∀ i, j0 ≤ i → fr i = fr' i) → k_fl h fi fj fr j0 ts = k_fl h fi' fj' fr' j0 ts
  | [], _, _, _, _ => rfl
  | t :: ts, j0, h1, h2, h3 => by
    simp only [k_fl]
    rw [k_fl_congr ts (j0 + 1) (fun i hi => h1 i (by omega)) (fun i hi => h2 i (by omega)) (fun i hi => h3 i (by omega))]
    unfold k_fv
    rw [h1 j0 (Nat.le_refl _), h2 j0 (Nat.le_refl _), h3 j0 (Nat.le_refl _)]
/-- a write at one place of one cell -/
def k_up {α : Type} (f : Nat → α) (j : Nat) (v : α) : Nat → α := fun i => if i = j then v else f i
theorem k_up_self {α : Type} (f : Nat → α) (j : Nat) (v : α) : k_up f j v j = v := if_pos rfl
theorem k_up_ne {α : Type} (f : Nat → α) {i j : Nat} (v : α) (h : i ≠ j) : k_up f j v i = f i := if_neg h
def sI (M : k_M) (a j : Nat) (v : Int32) : k_M := (fun b => if b = a then k_up (M.1 a) j v else M.1 b, M.2)
def sJ (M : k_M) (a j : Nat) (v : Int64) : k_M := (M.1, fun b => if b = a then k_up (M.2.1 a) j v else M.2.1 b, M.2.2)
def sR (M : k_M) (a j : Nat) (v : Option Nat) : k_M := (M.1, M.2.1, fun b => if b = a then k_up (M.2.2.1 a) j v else M.2.2.1 b, M.2.2.2)
theorem k_fl_set {h : Nat} {fi fi' : Nat → Int32} {fj fj' : Nat → Int64} {fr fr' : Nat → Option Nat} : ∀ (ts : List Nat) (j0 j t : Nat) (v : Value), ts[j]? = some t → (∀ i, i ≠ j0 + j → fi' i = fi i) → (∀ i, i ≠ j0 + j → fj' i = fj i) → (∀ i, i ≠ j0 + j → fr' i = fr i) → k_fv h fi' fj' fr' (j0 + j) t = v → (k_fl h fi fj fr j0 ts).set j v = k_fl h fi' fj' fr' j0 ts
  | [], _, j, _, _, hj, _, _, _, _ => by simp at hj
  | t0 :: ts, j0, j, t, v, hj, h1, h2, h3, hv => by
    cases j with
    | zero =>
      simp at hj
      subst hj
      simp only [k_fl, List.set_cons_zero]
      rw [show k_fv h fi' fj' fr' j0 t0 = v from hv]
      congr 1
      exact k_fl_congr ts (j0 + 1) (fun i hi => (h1 i (by omega)).symm) (fun i hi => (h2 i (by omega)).symm) (fun i hi => (h3 i (by omega)).symm)
    | succ j =>
      simp only [List.getElem?_cons_succ] at hj
      simp only [k_fl, List.set_cons_succ]
      have e1 : k_fv h fi' fj' fr' j0 t0 = k_fv h fi fj fr j0 t0 := by
        unfold k_fv
        rw [h1 j0 (by omega), h2 j0 (by omega), h3 j0 (by omega)]
      rw [e1, k_fl_set ts (j0 + 1) j t v hj (fun i hi => h1 i (by omega)) (fun i hi => h2 i (by omega)) (fun i hi => h3 i (by omega)) (by rw [← hv]; congr 1; omega)]
/-- a cell of the real heap by its kind and its rows -/
def k_e (Z : k_Z) (q : Nat × Nat) (fi : Nat → Int32) (fj : Nat → Int64) (fr : Nat → Option Nat) : va_E :=
  if q.1 < 11 then .inr (q.1, k_fl (k_h Z) fi fj fr 0 (k_fty q.1)) else if q.1 = 11 then .inl (Z.2.2.1 11, q.2, .inl fi) else if q.1 = 12 then .inl (Z.2.2.1 12, q.2, .inr (.inl fj)) else .inl (Z.2.2.1 q.1, q.2, .inr (.inr (.inr (.inr (fun j => (fr j).map (fun a => k_h Z + a))))))
def k_E (Z : k_Z) (M : k_M) (k : Nat) : va_E := k_e Z (k_kq k (M.1 k)) (M.1 k) (M.2.1 k) (M.2.2.1 k)
/-- the heap holds the memory, and all that was there before as it was -/
def k_Rg (Z : k_Z) (M : k_M) (H : Heap) : Prop := H.size = k_h Z + M.2.2.2 ∧ (∀ q : Nat, q < k_h Z → H[q]? = Z.1.heap[q]?) ∧ ∀ k : Nat, k < M.2.2.2 → va_at Z.2.1 vwCl (k_h Z + k, k_E Z M k) H
/-- which cell a reference field of a made object holds: so many cells behind its own -/
def k_off : Nat → Nat → Option Nat
  | 2, j => if j = 0 ∨ j = 7 then none else if j < 7 then some j else if j < 16 then some (j - 1) else none
  | 5, j => if j = 0 then some 1 else none
  | 7, j => if j = 0 then some 1 else none
  | 8, j => if j = 0 then some 1 else if j = 1 then some 16 else if j = 6 then some 17 else if j = 8 then some 18 else if j = 9 then some 19 else none
  | 9, j => [some 1, some 3, some 23, some 43, none, some 63, none, some 64, some 65, some 66, some 71, some 72, some 73, some 74].getD j none
  | 10, j => [none, some 1, none, some 2, some 3, some 4, none, none, none, some 5, some 6, some 7, none, none, none, none, none, none, none, none, none, some 8, some 9, some 10, some 11, some 12, none, some 13, some 14, some 15, some 16, some 17, none, none, some 18, some 19, none, some 20, some 21, some 22, some 23, some 24, some 25, none, none, none, some 26, none, none, none, some 27, none, some 28].getD j none
  | 14, j => if j < 4 then some (j + 1) else none
  | _, _ => none
def k_Sh (M : k_M) : Prop := ∀ (a kd n j o : Nat), k_st a = (kd, n) → k_off kd j = some o → M.2.2.1 a j = some (a + o)
def k_Rn (Z : k_Z) (M : k_M) (H : Heap) : Prop := k_Rg Z M H ∧ k_Sh M ∧ 105 ≤ M.2.2.2
theorem k_upd {Z : k_Z} {M M1 : k_M} {H H1 : Heap} {a : Nat} (h : k_Rg Z M H) (hn : M1.2.2.2 = M.2.2.2) (hs : H1.size = H.size) (oq : ∀ q : Nat, q ≠ k_h Z + a → H1[q]? = H[q]?) (hE : ∀ k, k ≠ a → k_E Z M1 k = k_E Z M k) (hA : va_at Z.2.1 vwCl (k_h Z + a, k_E Z M1 a) H1) : k_Rg Z M1 H1 := by
  refine ⟨by rw [hs, hn]; exact h.1, fun q hq => (oq q (by omega)).trans (h.2.1 q hq), fun k hk => ?_⟩
  by_cases hka : k = a
  · subst hka
    exact hA
  · rw [hE k hka]
    exact (h.2.2 k (by rw [← hn]; exact hk)).kept (oq _ (by show k_h Z + k ≠ k_h Z + a; omega))
theorem sI_at (M : k_M) (a j : Nat) (v : Int32) : (sI M a j v).1 a = k_up (M.1 a) j v := if_pos rfl
theorem sI_ne (M : k_M) {a b : Nat} (j : Nat) (v : Int32) (h : b ≠ a) : (sI M a j v).1 b = M.1 b := if_neg h
theorem sJ_at (M : k_M) (a j : Nat) (v : Int64) : (sJ M a j v).2.1 a = k_up (M.2.1 a) j v := if_pos rfl
theorem sJ_ne (M : k_M) {a b : Nat} (j : Nat) (v : Int64) (h : b ≠ a) : (sJ M a j v).2.1 b = M.2.1 b := if_neg h
theorem sR_at (M : k_M) (a j : Nat) (v : Option Nat) : (sR M a j v).2.2.1 a = k_up (M.2.2.1 a) j v := if_pos rfl
theorem sR_ne (M : k_M) {a b : Nat} (j : Nat) (v : Option Nat) (h : b ≠ a) : (sR M a j v).2.2.1 b = M.2.2.1 b := if_neg h
theorem k_E_sI {Z : k_Z} (M : k_M) {a b : Nat} (j : Nat) (v : Int32) (h : b ≠ a) : k_E Z (sI M a j v) b = k_E Z M b := by
  unfold k_E
  rw [sI_ne M j v h]
  rfl
theorem k_E_sJ {Z : k_Z} (M : k_M) {a b : Nat} (j : Nat) (v : Int64) (h : b ≠ a) : k_E Z (sJ M a j v) b = k_E Z M b := by
  unfold k_E
  rw [sJ_ne M j v h]
  rfl
theorem k_E_sR {Z : k_Z} (M : k_M) {a b : Nat} (j : Nat) (v : Option Nat) (h : b ≠ a) : k_E Z (sR M a j v) b = k_E Z M b := by
  unfold k_E
  rw [sR_ne M j v h]
  rfl
theorem k_E_st {Z : k_Z} (M : k_M) {a kd n : Nat} (h : k_st a = (kd, n)) (hk : kd < 15) : k_E Z M a = k_e Z (kd, n) (M.1 a) (M.2.1 a) (M.2.2.1 a) := by
  unfold k_E k_kq
  rw [if_pos (k_st_lt h hk), h]
theorem k_e_obj {Z : k_Z} {kd n : Nat} {fi : Nat → Int32} {fj : Nat → Int64} {fr : Nat → Option Nat} (h : kd < 11) : k_e Z (kd, n) fi fj fr = .inr (kd, k_fl (k_h Z) fi fj fr 0 (k_fty kd)) := if_pos h
theorem k_e_int {Z : k_Z} {n : Nat} {fi : Nat → Int32} {fj : Nat → Int64} {fr : Nat → Option Nat} : k_e Z (11, n) fi fj fr = .inl (Z.2.2.1 11, n, .inl fi) := rfl
theorem k_e_long {Z : k_Z} {n : Nat} {fi : Nat → Int32} {fj : Nat → Int64} {fr : Nat → Option Nat} : k_e Z (12, n) fi fj fr = .inl (Z.2.2.1 12, n, .inr (.inl fj)) := rfl
theorem k_e_rule {Z : k_Z} {n : Nat} {fi : Nat → Int32} {fj : Nat → Int64} {fr : Nat → Option Nat} : k_e Z (13, n) fi fj fr = .inl (Z.2.2.1 13, n, .inr (.inr (.inr (.inr (fun j => (fr j).map (fun a => k_h Z + a)))))) := rfl
theorem k_e_rows {Z : k_Z} {n : Nat} {fi : Nat → Int32} {fj : Nat → Int64} {fr : Nat → Option Nat} : k_e Z (14, n) fi fj fr = .inl (Z.2.2.1 14, n, .inr (.inr (.inr (.inr (fun j => (fr j).map (fun a => k_h Z + a)))))) := rfl
end
section
/-! ===== the judgement Sm: from this place of a method's body on, wherever the pure picture o answers, the machine ends with that answer and that memory ===== -/
abbrev k_F : Type := Bool × Nat × Nat × Nat × Nat
def k_rm (d mc ms : Nat) : Room := { frames := d, cells := mc, slots := ms, locals := 64 * d }
def k_fr (Z : k_Z) : Addr → Prop := fun q => k_h Z ≤ q
def k_R (b : Bool) (Z : k_Z) (M : k_M) (H : Heap) : Prop := k_Rg Z M H ∧ (b = true → k_Sh M ∧ 105 ≤ M.2.2.2)
def k_stN : Nat → String × String × Nat
  | 0 => ("WheelCity$World", "LAW_MOST", 13)
  | 1 => ("WheelCity$World", "LAW_FIRST", 13)
  | 2 => ("WheelCity$Land", "SHED_OF_KIND", 6)
  | _ => ("WheelCity$Land", "LEFT_BY_ONE", 6)
def k_stV : Nat → List Int32
  | 0 => [5, 5, 5, 5, 5, 5, 20, 5, 9, 9, 9, 9, 4]
  | 1 => [1, 1, 1, 1, 1, 1, 10, 0, 1, 1, 1, 5, 2]
  | 2 => [-1, 1, 0, 2, 1, 0]
  | _ => [0, 0, 1, 1, 0, 2]
def k_tys (Z : k_Z) : List (ClassId × FieldType) := [(Z.2.2.1 11, .int), (Z.2.2.1 12, .long), (Z.2.2.1 13, .object "WheelCity$Rule"), (Z.2.2.1 14, .array .long)]
def k_stat (Z : k_Z) : Prop := ∀ i : Nat, i < 4 → va_Z (k_stN i).1 (k_stN i).2.1 "[I" (.ref (Z.2.2.2.1 i)) (k_fr Z) Z.1 Z.1.heap ∧ va_T .int (Z.2.2.2.1 i) (k_stN i).2.2 (fun j => .int ((k_stV i).getD j 0)) (k_fr Z) Z.1 Z.1.heap
/-- the texts, by their numbers: entry of Tape's pool, the text -/
def k_txN : List (Nat × String) := [(41, "way"), (90, "in"), (92, "and"), (97, "place"), (99, "well"), (101, "mine"), (103, "meadow"), (105, "spring"), (107, "pit")]
def k_txL : List Nat := [3, 2, 3, 5, 4, 4, 6, 6, 3]
def k_txB : List (List Int32) := [[119, 97, 121], [105, 110], [97, 110, 100], [112, 108, 97, 99, 101], [119, 101, 108, 108], [109, 105, 110, 101], [109, 101, 97, 100, 111, 119], [115, 112, 114, 105, 110, 103], [112, 105, 116]]
def k_str (Z : k_Z) : Prop := vk_S 9 k_txL k_txB (fun i => Z.2.2.2.2 (2 * i)) (fun i => Z.2.2.2.2 (2 * i + 1)) (k_fr Z) Z.1 Z.1.heap ∧ (∀ i : Nat, i < 9 → vk_R "WheelCity$Tape" (k_txN.getD i (0, "")).1 (k_txN.getD i (0, "")).2 (Z.2.2.2.2 (2 * i)) Z.1) ∧ va_Z "java/lang/String" "COMPACT_STRINGS" "Z" (.int 1) (k_fr Z) Z.1 Z.1.heap ∧ va_Zq "jdk/internal/util/Preconditions" "SIOOBE_FORMATTER" "Ljava/util/function/BiFunction;" (k_fr Z) Z.1 Z.1.heap
def k_ncl : List (String × String) := [("WheelCity$Camp", "WheelCity$Near"), ("WheelCity$Camp", "WheelCity$Loop"), ("WheelCity$Camp", "WheelCity$Best"), ("WheelCity$Camp", "WheelCity$Told"), ("WheelCity$Near", "WheelCity$Camp"), ("WheelCity$Near", "WheelCity$Loop"), ("WheelCity$Near", "WheelCity$Best"), ("WheelCity$Near", "WheelCity$Told"), ("WheelCity$Loop", "WheelCity$Camp"), ("WheelCity$Loop", "WheelCity$Near"), ("WheelCity$Loop", "WheelCity$Best"), ("WheelCity$Loop", "WheelCity$Told"), ("WheelCity$Best", "WheelCity$Camp"), ("WheelCity$Best", "WheelCity$Loop"), ("WheelCity$Best", "WheelCity$Told"), ("WheelCity$Told", "WheelCity$Camp"), ("WheelCity$Told", "WheelCity$Near"), ("WheelCity$Told", "WheelCity$Best")]
def k_nc (Z : k_Z) : Prop := ∀ q ∈ k_ncl, va_Nc q.1 q.2 Z.1
def k_Gd (Z : k_Z) : Prop := (∃ A0 : Array Value, ∀ w ∈ lw_tbl, w.before A0 Z.1 = true) ∧ va_K Z.2.1 vwCl (k_tys Z) Z.1 ∧ k_stat Z ∧ k_nc Z ∧ k_str Z
abbrev g_R (G : k_G) : Room := G.2.2.2.1
abbrev g_s (G : k_G) : State := G.2.2.2.2.1
abbrev g_m (G : k_G) : MethodId := G.2.2.2.2.2.1
abbrev g_a (G : k_G) : Array Value := G.2.2.2.2.2.2.1
abbrev g_b (G : k_G) : List Frame := G.2.2.2.2.2.2.2.1
abbrev g_t (G : k_G) : Method := G.2.2.2.2.2.2.2.2.1
abbrev g_c (G : k_G) : Code := G.2.2.2.2.2.2.2.2.2
def k_C (Z : k_Z) (G : k_G) (own : String) (cc : ByteArray) (F : k_F) (ret : Option FieldType) (nm : String) : Prop :=
  G.1.tables.exec = Jvm.exec ∧ (g_c G).code = cc ∧ (g_c G).maxLocals = F.2.1 ∧ (g_s G).vm.findClass own = some (g_m G).cls ∧ Z.1.WarmedH (g_s G).vm ∧ (g_t G).sig.returnType = ret ∧ (g_t G).locks = false ∧ (g_t G).name = nm ∧ g_R G = k_rm F.2.2.1 F.2.2.2.1 F.2.2.2.2 ∧ k_Gd Z
def k_Pc (b : Bool) (Z : k_Z) (M : k_M) (vs : List Value) : Array Value → State → Prop := fun a U => a = vs.toArray ∧ Z.1.WarmedH U.vm ∧ k_R b Z M U.heap
def k_Qc {ρ : Type} (b : Bool) (Z : k_Z) (em : ρ → Option Value) (r : ρ) (M' : k_M) : Array Value → State → Outcome → State → Prop := fun _ _ oc t => oc = .returned (em r) ∧ k_R b Z M' t.heap
def Sm (Z : k_Z) (G : k_G) {ρ : Type} (em : ρ → Option Value) (F : k_F) (K : Nat × Nat) (pc : Nat) (lv : List (Nat × Value)) (st : List Value) (M : k_M) (o : Option (ρ × k_M)) : Prop :=
  ∀ (r : ρ) (M' : k_M), o = some (r, M') → ∀ (H : Heap) (locs : List Loc) (ls : Array Slot), lv_has ls F.2.1 lv → k_R F.1 Z M H → (∀ q ∈ locs, k_h Z ≤ q.base) →
    W G.1 G.2.1 G.2.2.1 (g_R G) (g_s G) (g_m G) (g_a G) (g_b G) (g_t G) (g_c G) H locs K.1 K.2 (MQ (g_b G) (k_Qc F.1 Z em r M') (g_a G) (g_s G) F.2.2.2.1 F.2.2.2.2 (k_fr Z)) (F0 (g_m G) pc ls st)
/-- a method's contract: wherever the picture answers -/
def Con {ρ : Type} (b : Bool) (Z : k_Z) (l : Launch) (y : MethodName) (cc : ByteArray) (nL : Nat) (ret : Option FieldType) (d mc ms : Nat) (em : ρ → Option Value) (vs : List Value) (M : k_M) (o : Option (ρ × k_M)) : Prop :=
  ∀ (r : ρ) (M' : k_M), o = some (r, M') → Met l y [.code y cc nL ret] (k_rm d mc ms) (k_Pc b Z M vs) (k_Qc b Z em r M') mc ms (k_fr Z)
/-- the pictures' words -/
def ix (i : Int32) (n : Nat) : Bool := decide (¬ (i < 0 ∨ n ≤ i.toNatClampNeg))
def rdI {β : Type} (M : k_M) (a n : Nat) (i : Int32) (k : Int32 → Option β) : Option β := if ix i n = true then k (M.1 a i.toNatClampNeg) else none
def wrI {β : Type} (M : k_M) (a n : Nat) (i v : Int32) (k : k_M → Option β) : Option β := if ix i n = true then k (sI M a i.toNatClampNeg v) else none
def rdJ {β : Type} (M : k_M) (a n : Nat) (i : Int32) (k : Int64 → Option β) : Option β := if ix i n = true then k (M.2.1 a i.toNatClampNeg) else none
def wrJ {β : Type} (M : k_M) (a n : Nat) (i : Int32) (v : Int64) (k : k_M → Option β) : Option β := if ix i n = true then k (sJ M a i.toNatClampNeg v) else none
def rdT {β : Type} (t : Nat) (i : Int32) (k : Int32 → Option β) : Option β := if ix i (k_stN t).2.2 = true then k ((k_stV t).getD i.toNatClampNeg 0) else none
def bN {α β : Type} (a : α) (k : α → β) : β := k a
def bd {α β : Type} (o : Option (α × k_M)) (k : α → k_M → Option β) : Option β := match o with
  | none => none
  | some q => k q.1 q.2
def dv {β : Type} (y : Int32) (k : Option β) : Option β := if y = 0 then none else k
def ckZ {β : Type} (v : Int32) (k : Option β) : Option β := if v = 0 ∨ v = 1 then k else none
def tsw {β : Type} (x : Int32) (lo : Int) (n : Nat) (f : Nat → β) (d : β) : β := if x.toInt < lo ∨ lo + n ≤ x.toInt then d else f (x.toInt - lo).toNat
def emI : Int32 → Option Value := fun v => some (.int v)
def emJ : Int64 → Option Value := fun v => some (.long v)
def emV : Unit → Option Value := fun _ => none
def emR (Z : k_Z) : Option Nat → Option Value := fun v => some (k_rn Z v)
section XR
variable {Z : k_Z} {G : k_G} {ρ : Type} {em : ρ → Option Value} {F : k_F} {K : Nat × Nat} {pc : Nat} {lv lv' : List (Nat × Value)} {st rest : List Value} {M : k_M} {o o2 : Option (ρ × k_M)} {own : String} {cc : ByteArray} {ret : Option FieldType} {nm : String}
theorem x_none : Sm Z G em F K pc lv st M none := fun _ _ h => by cases h
theorem x_lv (ks : List Nat) (hl : lv_pick lv ks = lv') (kk : Sm Z G em F K pc lv' st M o) : Sm Z G em F K pc lv st M o := fun r M' ho H locs ls h hP hL => kk r M' ho H locs ls (lv_sub h ks hl) hP hL
theorem x_nm {α : Type} {e : α} {w : α → Value} {k : α → Option (ρ × k_M)} (kk : ∀ v : α, v = e → Sm Z G em F K pc lv (w v :: rest) M (k v)) : Sm Z G em F K pc lv (w e :: rest) M (bN e k) := kk e rfl
theorem x_iload_n (C : k_C Z G own cc F ret nm) {k : Fin 4} {x : Int32} (hdg : decode cc pc = .ok (.iload_n k, 1)) (i : Nat) (hi : lv[i]? = some (k.val, .int x)) (kk : Sm Z G em F K (pc + 1) lv (.int x :: st) M o) : Sm Z G em F K pc lv st M o := fun r M' ho H locs ls hl hP hL => lv_iload_n C.1 C.2.1 hdg rfl (lv_at hl i hi) (kk r M' ho H locs ls hl hP hL)
theorem x_iload (C : k_C Z G own cc F ret nm) {k : Nat} {x : Int32} (hdg : decode cc pc = .ok (.iload k, 2)) (i : Nat) (hi : lv[i]? = some (k, .int x)) (kk : Sm Z G em F K (pc + 2) lv (.int x :: st) M o) : Sm Z G em F K pc lv st M o := fun r M' ho H locs ls hl hP hL => lv_iload C.1 C.2.1 hdg (lv_at hl i hi) (kk r M' ho H locs ls hl hP hL)
theorem x_lload_n (C : k_C Z G own cc F ret nm) {k : Fin 4} {x : Int64} (hdg : decode cc pc = .ok (.lload_n k, 1)) (i : Nat) (hi : lv[i]? = some (k.val, .long x)) (kk : Sm Z G em F K (pc + 1) lv (.long x :: st) M o) : Sm Z G em F K pc lv st M o := fun r M' ho H locs ls hl hP hL => lv_lload_n C.1 C.2.1 hdg rfl (lv_at hl i hi) (kk r M' ho H locs ls hl hP hL)
theorem x_aload_n (C : k_C Z G own cc F ret nm) {k : Fin 4} {x : Nat} (hdg : decode cc pc = .ok (.aload_n k, 1)) (i : Nat) (hi : lv[i]? = some (k.val, .ref x)) (kk : Sm Z G em F K (pc + 1) lv (.ref x :: st) M o) : Sm Z G em F K pc lv st M o := fun r M' ho H locs ls hl hP hL => lv_aload_n C.1 C.2.1 hdg rfl (lv_at hl i hi) (kk r M' ho H locs ls hl hP hL)
theorem x_aload (C : k_C Z G own cc F ret nm) {k : Nat} {x : Nat} (hdg : decode cc pc = .ok (.aload k, 2)) (i : Nat) (hi : lv[i]? = some (k, .ref x)) (kk : Sm Z G em F K (pc + 2) lv (.ref x :: st) M o) : Sm Z G em F K pc lv st M o := fun r M' ho H locs ls hl hP hL => lv_aload C.1 C.2.1 hdg (lv_at hl i hi) (kk r M' ho H locs ls hl hP hL)
theorem x_aload_q (C : k_C Z G own cc F ret nm) {k : Fin 4} {x : Option Nat} (hdg : decode cc pc = .ok (.aload_n k, 1)) (i : Nat) (hi : lv[i]? = some (k.val, k_rn Z x)) (kk : Sm Z G em F K (pc + 1) lv (k_rn Z x :: st) M o) : Sm Z G em F K pc lv st M o := by
  intro r M' ho H locs ls hl hP hL
  cases x with
  | none => exact lv_aload_nN C.1 C.2.1 hdg rfl (lv_at hl i hi) (kk r M' ho H locs ls hl hP hL)
  | some x => exact lv_aload_n C.1 C.2.1 hdg rfl (lv_at hl i hi) (kk r M' ho H locs ls hl hP hL)
theorem x_istore_n (C : k_C Z G own cc F ret nm) {k : Fin 4} {x : Int32} (hdg : decode cc pc = .ok (.istore_n k, 1)) (hn : k.val < F.2.1) (hl' : (k.val, Value.int x) :: lv.filter (fun q => !(q.1 == k.val) && !(q.1 + 1 == k.val && q.2.category == 2)) = lv') (kk : Sm Z G em F K (pc + 1) lv' rest M o) : Sm Z G em F K pc lv (.int x :: rest) M o := fun r M' ho H locs ls hl hP hL => lv_istore_n C.1 C.2.1 hdg rfl hl hn hl' (fun ls' h' => kk r M' ho H locs ls' h' hP hL)
theorem x_istore (C : k_C Z G own cc F ret nm) {k : Nat} {x : Int32} (hdg : decode cc pc = .ok (.istore k, 2)) (hn : k < F.2.1) (hl' : (k, Value.int x) :: lv.filter (fun q => !(q.1 == k) && !(q.1 + 1 == k && q.2.category == 2)) = lv') (kk : Sm Z G em F K (pc + 2) lv' rest M o) : Sm Z G em F K pc lv (.int x :: rest) M o := fun r M' ho H locs ls hl hP hL => lv_istore C.1 C.2.1 hdg hl hn hl' (fun ls' h' => kk r M' ho H locs ls' h' hP hL)
theorem x_astore_n (C : k_C Z G own cc F ret nm) {k : Fin 4} {x : Nat} (hdg : decode cc pc = .ok (.astore_n k, 1)) (hn : k.val < F.2.1) (hl' : (k.val, Value.ref x) :: lv.filter (fun q => !(q.1 == k.val) && !(q.1 + 1 == k.val && q.2.category == 2)) = lv') (kk : Sm Z G em F K (pc + 1) lv' rest M o) : Sm Z G em F K pc lv (.ref x :: rest) M o := fun r M' ho H locs ls hl hP hL => lv_astore_n C.1 C.2.1 hdg rfl hl hn hl' (fun ls' h' => kk r M' ho H locs ls' h' hP hL)
theorem x_astore (C : k_C Z G own cc F ret nm) {k : Nat} {x : Nat} (hdg : decode cc pc = .ok (.astore k, 2)) (hn : k < F.2.1) (hl' : (k, Value.ref x) :: lv.filter (fun q => !(q.1 == k) && !(q.1 + 1 == k && q.2.category == 2)) = lv') (kk : Sm Z G em F K (pc + 2) lv' rest M o) : Sm Z G em F K pc lv (.ref x :: rest) M o := fun r M' ho H locs ls hl hP hL => lv_astore C.1 C.2.1 hdg hl hn hl' (fun ls' h' => kk r M' ho H locs ls' h' hP hL)
theorem x_astore_q (C : k_C Z G own cc F ret nm) {k : Fin 4} {x : Option Nat} (hdg : decode cc pc = .ok (.astore_n k, 1)) (hn : k.val < F.2.1) (hl' : (k.val, k_rn Z x) :: lv.filter (fun q => !(q.1 == k.val) && !(q.1 + 1 == k.val && q.2.category == 2)) = lv') (kk : Sm Z G em F K (pc + 1) lv' rest M o) : Sm Z G em F K pc lv (k_rn Z x :: rest) M o := by
  intro r M' ho H locs ls hl hP hL
  cases x with
  | none => exact lv_astore_nN C.1 C.2.1 hdg rfl hl hn hl' (fun ls' h' => kk r M' ho H locs ls' h' hP hL)
  | some x => exact lv_astore_n C.1 C.2.1 hdg rfl hl hn hl' (fun ls' h' => kk r M' ho H locs ls' h' hP hL)
theorem x_iinc (C : k_C Z G own cc F ret nm) {i : Nat} {n : Int} {x v : Int32} (hdg : decode cc pc = .ok (.iinc i n, 3)) (k : Nat) (hk : lv[k]? = some (i, .int x)) (hv : Int32.ofInt n = v) (hn : i < F.2.1) (hl' : (i, Value.int (x + v)) :: lv.filter (fun q => !(q.1 == i) && !(q.1 + 1 == i && q.2.category == 2)) = lv') (kk : Sm Z G em F K (pc + 3) lv' st M o) : Sm Z G em F K pc lv st M o := fun r M' ho H locs ls hl hP hL => lv_iinc C.1 C.2.1 hdg hl hk (by rw [hv]) hn hl' (fun ls' h' => kk r M' ho H locs ls' h' hP hL)
theorem x_iconst (C : k_C Z G own cc F ret nm) {n : Int} {v : Int32} (hdg : decode cc pc = .ok (.iconst n, 1)) (hv : Int32.ofInt n = v) (kk : Sm Z G em F K (pc + 1) lv (.int v :: st) M o) : Sm Z G em F K pc lv st M o := fun r M' ho H locs ls hl hP hL => lv_iconst C.1 C.2.1 hdg hv (kk r M' ho H locs ls hl hP hL)
theorem x_bipush (C : k_C Z G own cc F ret nm) {n : Int} {v : Int32} (hdg : decode cc pc = .ok (.bipush n, 2)) (hv : (Int8.ofInt n).toInt32 = v) (kk : Sm Z G em F K (pc + 2) lv (.int v :: st) M o) : Sm Z G em F K pc lv st M o := fun r M' ho H locs ls hl hP hL => lv_bipush C.1 C.2.1 hdg hv (kk r M' ho H locs ls hl hP hL)
theorem x_sipush (C : k_C Z G own cc F ret nm) {n : Int} {v : Int32} (hdg : decode cc pc = .ok (.sipush n, 3)) (hv : (Int16.ofInt n).toInt32 = v) (kk : Sm Z G em F K (pc + 3) lv (.int v :: st) M o) : Sm Z G em F K pc lv st M o := fun r M' ho H locs ls hl hP hL => lv_sipush C.1 C.2.1 hdg hv (kk r M' ho H locs ls hl hP hL)
theorem x_lconst (C : k_C Z G own cc F ret nm) {n : Fin 2} {v : Int64} (hdg : decode cc pc = .ok (.lconst n, 1)) (hv : Int64.ofNat (n : Nat) = v) (kk : Sm Z G em F K (pc + 1) lv (.long v :: st) M o) : Sm Z G em F K pc lv st M o := fun r M' ho H locs ls hl hP hL => lv_lconst C.1 C.2.1 hdg hv (kk r M' ho H locs ls hl hP hL)
theorem x_null (C : k_C Z G own cc F ret nm) (hdg : decode cc pc = .ok (.aconst_null, 1)) (kk : Sm Z G em F K (pc + 1) lv (k_rn Z none :: st) M o) : Sm Z G em F K pc lv st M o := fun r M' ho H locs ls hl hP hL => lv_null C.1 C.2.1 hdg (kk r M' ho H locs ls hl hP hL)
theorem x_dup (C : k_C Z G own cc F ret nm) {v : Value} (hdg : decode cc pc = .ok (.dup, 1)) (hv : v.category = 1) (kk : Sm Z G em F K (pc + 1) lv (v :: v :: rest) M o) : Sm Z G em F K pc lv (v :: rest) M o := fun r M' ho H locs ls hl hP hL => lv_dup C.1 C.2.1 hdg hv (kk r M' ho H locs ls hl hP hL)
theorem x_dup2 (C : k_C Z G own cc F ret nm) {va vb : Value} (hdg : decode cc pc = .ok (.dup2, 1)) (hva : va.category = 1) (hvb : vb.category = 1) (kk : Sm Z G em F K (pc + 1) lv (va :: vb :: va :: vb :: rest) M o) : Sm Z G em F K pc lv (va :: vb :: rest) M o := fun r M' ho H locs ls hl hP hL => lv_dup2_11 C.1 C.2.1 hdg hva hvb (kk r M' ho H locs ls hl hP hL)
theorem x_pop (C : k_C Z G own cc F ret nm) {v : Value} (hdg : decode cc pc = .ok (.pop, 1)) (hv : v.category = 1) (kk : Sm Z G em F K (pc + 1) lv rest M o) : Sm Z G em F K pc lv (v :: rest) M o := fun r M' ho H locs ls hl hP hL => lv_pop C.1 C.2.1 hdg hv (kk r M' ho H locs ls hl hP hL)
theorem x_iadd (C : k_C Z G own cc F ret nm) {x y : Int32} (hdg : decode cc pc = .ok (.iadd, 1)) (kk : Sm Z G em F K (pc + 1) lv (.int (x + y) :: rest) M o) : Sm Z G em F K pc lv (.int y :: .int x :: rest) M o := fun r M' ho H locs ls hl hP hL => lv_iadd C.1 C.2.1 hdg (kk r M' ho H locs ls hl hP hL)
theorem x_isub (C : k_C Z G own cc F ret nm) {x y : Int32} (hdg : decode cc pc = .ok (.isub, 1)) (kk : Sm Z G em F K (pc + 1) lv (.int (x - y) :: rest) M o) : Sm Z G em F K pc lv (.int y :: .int x :: rest) M o := fun r M' ho H locs ls hl hP hL => lv_isub C.1 C.2.1 hdg (kk r M' ho H locs ls hl hP hL)
theorem x_imul (C : k_C Z G own cc F ret nm) {x y : Int32} (hdg : decode cc pc = .ok (.imul, 1)) (kk : Sm Z G em F K (pc + 1) lv (.int (x * y) :: rest) M o) : Sm Z G em F K pc lv (.int y :: .int x :: rest) M o := fun r M' ho H locs ls hl hP hL => lv_imul C.1 C.2.1 hdg (kk r M' ho H locs ls hl hP hL)
theorem x_iand (C : k_C Z G own cc F ret nm) {x y : Int32} (hdg : decode cc pc = .ok (.iand, 1)) (kk : Sm Z G em F K (pc + 1) lv (.int (x &&& y) :: rest) M o) : Sm Z G em F K pc lv (.int y :: .int x :: rest) M o := fun r M' ho H locs ls hl hP hL => lv_iand C.1 C.2.1 hdg (kk r M' ho H locs ls hl hP hL)
theorem x_ior (C : k_C Z G own cc F ret nm) {x y : Int32} (hdg : decode cc pc = .ok (.ior, 1)) (kk : Sm Z G em F K (pc + 1) lv (.int (x ||| y) :: rest) M o) : Sm Z G em F K pc lv (.int y :: .int x :: rest) M o := fun r M' ho H locs ls hl hP hL => lv_ior C.1 C.2.1 hdg (kk r M' ho H locs ls hl hP hL)
theorem x_ixor (C : k_C Z G own cc F ret nm) {x y : Int32} (hdg : decode cc pc = .ok (.ixor, 1)) (kk : Sm Z G em F K (pc + 1) lv (.int (x ^^^ y) :: rest) M o) : Sm Z G em F K pc lv (.int y :: .int x :: rest) M o := fun r M' ho H locs ls hl hP hL => lv_ixor C.1 C.2.1 hdg (kk r M' ho H locs ls hl hP hL)
theorem x_ishl (C : k_C Z G own cc F ret nm) {x y : Int32} (hdg : decode cc pc = .ok (.ishl, 1)) (kk : Sm Z G em F K (pc + 1) lv (.int (x <<< (y &&& 31)) :: rest) M o) : Sm Z G em F K pc lv (.int y :: .int x :: rest) M o := fun r M' ho H locs ls hl hP hL => lv_ishl C.1 C.2.1 hdg (kk r M' ho H locs ls hl hP hL)
theorem x_ishr (C : k_C Z G own cc F ret nm) {x y : Int32} (hdg : decode cc pc = .ok (.ishr, 1)) (kk : Sm Z G em F K (pc + 1) lv (.int (x >>> (y &&& 31)) :: rest) M o) : Sm Z G em F K pc lv (.int y :: .int x :: rest) M o := fun r M' ho H locs ls hl hP hL => lv_ishr C.1 C.2.1 hdg (kk r M' ho H locs ls hl hP hL)
theorem x_idivC (C : k_C Z G own cc F ret nm) {x y : Int32} (hdg : decode cc pc = .ok (.idiv, 1)) (hy : ¬ y = 0) (kk : Sm Z G em F K (pc + 1) lv (.int (x / y) :: rest) M o) : Sm Z G em F K pc lv (.int y :: .int x :: rest) M o := fun r M' ho H locs ls hl hP hL => lv_idiv C.1 C.2.1 hdg hy (kk r M' ho H locs ls hl hP hL)
theorem x_iremC (C : k_C Z G own cc F ret nm) {x y : Int32} (hdg : decode cc pc = .ok (.irem, 1)) (hy : ¬ y = 0) (kk : Sm Z G em F K (pc + 1) lv (.int (x - x / y * y) :: rest) M o) : Sm Z G em F K pc lv (.int y :: .int x :: rest) M o := fun r M' ho H locs ls hl hP hL => lv_irem C.1 C.2.1 hdg hy (kk r M' ho H locs ls hl hP hL)
theorem x_dv {y : Int32} (kk : ¬ y = 0 → Sm Z G em F K pc lv st M o) : Sm Z G em F K pc lv st M (dv y o) := by
  intro r M' ho
  unfold dv at ho
  by_cases hy : y = 0
  · rw [if_pos hy] at ho; cases ho
  · rw [if_neg hy] at ho
    exact kk hy r M' ho
theorem x_ckZ {v : Int32} (kk : v = 0 ∨ v = 1 → Sm Z G em F K pc lv st M o) : Sm Z G em F K pc lv st M (ckZ v o) := by
  intro r M' ho
  unfold ckZ at ho
  by_cases hy : v = 0 ∨ v = 1
  · rw [if_pos hy] at ho
    exact kk hy r M' ho
  · rw [if_neg hy] at ho; cases ho
theorem x_ladd (C : k_C Z G own cc F ret nm) {x y : Int64} (hdg : decode cc pc = .ok (.ladd, 1)) (kk : Sm Z G em F K (pc + 1) lv (.long (x + y) :: rest) M o) : Sm Z G em F K pc lv (.long y :: .long x :: rest) M o := fun r M' ho H locs ls hl hP hL => lv_ladd C.1 C.2.1 hdg (kk r M' ho H locs ls hl hP hL)
theorem x_lsub (C : k_C Z G own cc F ret nm) {x y : Int64} (hdg : decode cc pc = .ok (.lsub, 1)) (kk : Sm Z G em F K (pc + 1) lv (.long (x - y) :: rest) M o) : Sm Z G em F K pc lv (.long y :: .long x :: rest) M o := fun r M' ho H locs ls hl hP hL => lv_lsub C.1 C.2.1 hdg (kk r M' ho H locs ls hl hP hL)
theorem x_lmul (C : k_C Z G own cc F ret nm) {x y : Int64} (hdg : decode cc pc = .ok (.lmul, 1)) (kk : Sm Z G em F K (pc + 1) lv (.long (x * y) :: rest) M o) : Sm Z G em F K pc lv (.long y :: .long x :: rest) M o := fun r M' ho H locs ls hl hP hL => lv_lmul C.1 C.2.1 hdg (kk r M' ho H locs ls hl hP hL)
theorem x_land (C : k_C Z G own cc F ret nm) {x y : Int64} (hdg : decode cc pc = .ok (.land, 1)) (kk : Sm Z G em F K (pc + 1) lv (.long (x &&& y) :: rest) M o) : Sm Z G em F K pc lv (.long y :: .long x :: rest) M o := fun r M' ho H locs ls hl hP hL => lv_land C.1 C.2.1 hdg (kk r M' ho H locs ls hl hP hL)
theorem x_lor (C : k_C Z G own cc F ret nm) {x y : Int64} (hdg : decode cc pc = .ok (.lor, 1)) (kk : Sm Z G em F K (pc + 1) lv (.long (x ||| y) :: rest) M o) : Sm Z G em F K pc lv (.long y :: .long x :: rest) M o := fun r M' ho H locs ls hl hP hL => lv_lor C.1 C.2.1 hdg (kk r M' ho H locs ls hl hP hL)
theorem x_lshl (C : k_C Z G own cc F ret nm) {x : Int64} {y : Int32} (hdg : decode cc pc = .ok (.lshl, 1)) (kk : Sm Z G em F K (pc + 1) lv (.long (x <<< (y.toInt64 &&& 63)) :: rest) M o) : Sm Z G em F K pc lv (.int y :: .long x :: rest) M o := fun r M' ho H locs ls hl hP hL => lv_lshl C.1 C.2.1 hdg rfl (kk r M' ho H locs ls hl hP hL)
theorem x_lshr (C : k_C Z G own cc F ret nm) {x : Int64} {y : Int32} (hdg : decode cc pc = .ok (.lshr, 1)) (kk : Sm Z G em F K (pc + 1) lv (.long (x >>> (y.toInt64 &&& 63)) :: rest) M o) : Sm Z G em F K pc lv (.int y :: .long x :: rest) M o := fun r M' ho H locs ls hl hP hL => lv_lshr C.1 C.2.1 hdg rfl (kk r M' ho H locs ls hl hP hL)
theorem x_i2l (C : k_C Z G own cc F ret nm) {x : Int32} (hdg : decode cc pc = .ok (.i2l, 1)) (kk : Sm Z G em F K (pc + 1) lv (.long x.toInt64 :: rest) M o) : Sm Z G em F K pc lv (.int x :: rest) M o := fun r M' ho H locs ls hl hP hL => lv_i2l C.1 C.2.1 hdg rfl (kk r M' ho H locs ls hl hP hL)
theorem x_l2i (C : k_C Z G own cc F ret nm) {x : Int64} (hdg : decode cc pc = .ok (.l2i, 1)) (kk : Sm Z G em F K (pc + 1) lv (.int x.toInt32 :: rest) M o) : Sm Z G em F K pc lv (.long x :: rest) M o := fun r M' ho H locs ls hl hP hL => lv_l2i C.1 C.2.1 hdg rfl (kk r M' ho H locs ls hl hP hL)
theorem x_i2b (C : k_C Z G own cc F ret nm) {x : Int32} (hdg : decode cc pc = .ok (.i2b, 1)) (kk : Sm Z G em F K (pc + 1) lv (.int x.toInt8.toInt32 :: rest) M o) : Sm Z G em F K pc lv (.int x :: rest) M o := fun r M' ho H locs ls hl hP hL => lv_i2b C.1 C.2.1 hdg rfl (kk r M' ho H locs ls hl hP hL)
theorem x_i2s (C : k_C Z G own cc F ret nm) {x : Int32} (hdg : decode cc pc = .ok (.i2s, 1)) (kk : Sm Z G em F K (pc + 1) lv (.int x.toInt16.toInt32 :: rest) M o) : Sm Z G em F K pc lv (.int x :: rest) M o := fun r M' ho H locs ls hl hP hL => lv_i2s C.1 C.2.1 hdg rfl (kk r M' ho H locs ls hl hP hL)
theorem x_lcmp (C : k_C Z G own cc F ret nm) {x y : Int64} (hdg : decode cc pc = .ok (.lcmp, 1)) (kk : Sm Z G em F K (pc + 1) lv (.int (lg_cmp x y) :: rest) M o) : Sm Z G em F K pc lv (.long y :: .long x :: rest) M o := fun r M' ho H locs ls hl hP hL => W.lcmp C.1 C.2.1 hdg (kk r M' ho H locs ls hl hP hL)
end XR
end
section
/-! ===== branches, fields, arrays, statics, ends ===== -/
section XB
variable {Z : k_Z} {G : k_G} {ρ : Type} {em : ρ → Option Value} {F : k_F} {K : Nat × Nat} {pc : Nat} {lv lv' : List (Nat × Value)} {st rest : List Value} {M : k_M} {o o2 : Option (ρ × k_M)} {own : String} {cc : ByteArray} {ret : Option FieldType} {nm : String}
theorem x_icmp_eq (C : k_C Z G own cc F ret nm) {x y : Int32} {off : Int} {tgt : Nat} (hdg : decode cc pc = .ok (.if_icmp .eq off, 3)) (ht : (pc : Int) + off = (tgt : Int)) [inst : Decidable (x = y)] (kt : x = y → Sm Z G em F K tgt lv rest M o) (kf : ¬ (x = y) → Sm Z G em F K (pc + 3) lv rest M o2) : Sm Z G em F K pc lv (.int y :: .int x :: rest) M (@ite _ (x = y) inst o o2) := fun r M' ho H locs ls hl hP hL => lv_icmp_eq C.1 C.2.1 hdg ht (fun c => kt c r M' (by rw [if_pos c] at ho; exact ho) H locs ls hl hP hL) (fun c => kf c r M' (by rw [if_neg c] at ho; exact ho) H locs ls hl hP hL)
theorem x_icmp_ne (C : k_C Z G own cc F ret nm) {x y : Int32} {off : Int} {tgt : Nat} (hdg : decode cc pc = .ok (.if_icmp .ne off, 3)) (ht : (pc : Int) + off = (tgt : Int)) [inst : Decidable (x = y)] (kf : x = y → Sm Z G em F K (pc + 3) lv rest M o) (kt : ¬ x = y → Sm Z G em F K tgt lv rest M o2) : Sm Z G em F K pc lv (.int y :: .int x :: rest) M (@ite _ (x = y) inst o o2) := fun r M' ho H locs ls hl hP hL => lv_icmp_ne C.1 C.2.1 hdg ht (fun c => kt c r M' (by rw [if_neg c] at ho; exact ho) H locs ls hl hP hL) (fun c => kf c r M' (by rw [if_pos c] at ho; exact ho) H locs ls hl hP hL)
theorem x_icmp_ge (C : k_C Z G own cc F ret nm) {x y : Int32} {off : Int} {tgt : Nat} (hdg : decode cc pc = .ok (.if_icmp .ge off, 3)) (ht : (pc : Int) + off = (tgt : Int)) [inst : Decidable (y ≤ x)] (kt : y ≤ x → Sm Z G em F K tgt lv rest M o) (kf : ¬ (y ≤ x) → Sm Z G em F K (pc + 3) lv rest M o2) : Sm Z G em F K pc lv (.int y :: .int x :: rest) M (@ite _ (y ≤ x) inst o o2) := fun r M' ho H locs ls hl hP hL => lv_icmp_ge C.1 C.2.1 hdg ht (fun c => kt c r M' (by rw [if_pos c] at ho; exact ho) H locs ls hl hP hL) (fun c => kf c r M' (by rw [if_neg c] at ho; exact ho) H locs ls hl hP hL)
theorem x_icmp_gt (C : k_C Z G own cc F ret nm) {x y : Int32} {off : Int} {tgt : Nat} (hdg : decode cc pc = .ok (.if_icmp .gt off, 3)) (ht : (pc : Int) + off = (tgt : Int)) [inst : Decidable (y < x)] (kt : y < x → Sm Z G em F K tgt lv rest M o) (kf : ¬ (y < x) → Sm Z G em F K (pc + 3) lv rest M o2) : Sm Z G em F K pc lv (.int y :: .int x :: rest) M (@ite _ (y < x) inst o o2) := fun r M' ho H locs ls hl hP hL => lv_icmp_gt C.1 C.2.1 hdg ht (fun c => kt c r M' (by rw [if_pos c] at ho; exact ho) H locs ls hl hP hL) (fun c => kf c r M' (by rw [if_neg c] at ho; exact ho) H locs ls hl hP hL)
theorem x_icmp_le (C : k_C Z G own cc F ret nm) {x y : Int32} {off : Int} {tgt : Nat} (hdg : decode cc pc = .ok (.if_icmp .le off, 3)) (ht : (pc : Int) + off = (tgt : Int)) [inst : Decidable (x ≤ y)] (kt : x ≤ y → Sm Z G em F K tgt lv rest M o) (kf : ¬ (x ≤ y) → Sm Z G em F K (pc + 3) lv rest M o2) : Sm Z G em F K pc lv (.int y :: .int x :: rest) M (@ite _ (x ≤ y) inst o o2) := fun r M' ho H locs ls hl hP hL => lv_icmp_le C.1 C.2.1 hdg ht (fun c => kt c r M' (by rw [if_pos c] at ho; exact ho) H locs ls hl hP hL) (fun c => kf c r M' (by rw [if_neg c] at ho; exact ho) H locs ls hl hP hL)
theorem x_icmp_lt (C : k_C Z G own cc F ret nm) {x y : Int32} {off : Int} {tgt : Nat} (hdg : decode cc pc = .ok (.if_icmp .lt off, 3)) (ht : (pc : Int) + off = (tgt : Int)) [inst : Decidable (x < y)] (kt : x < y → Sm Z G em F K tgt lv rest M o) (kf : ¬ (x < y) → Sm Z G em F K (pc + 3) lv rest M o2) : Sm Z G em F K pc lv (.int y :: .int x :: rest) M (@ite _ (x < y) inst o o2) := fun r M' ho H locs ls hl hP hL => lv_icmp_lt C.1 C.2.1 hdg ht (fun c => kt c r M' (by rw [if_pos c] at ho; exact ho) H locs ls hl hP hL) (fun c => kf c r M' (by rw [if_neg c] at ho; exact ho) H locs ls hl hP hL)
theorem x_if_eq (C : k_C Z G own cc F ret nm) {x : Int32} {off : Int} {tgt : Nat} (hdg : decode cc pc = .ok (.ifCond .eq off, 3)) (ht : (pc : Int) + off = (tgt : Int)) [inst : Decidable (x = 0)] (kt : x = 0 → Sm Z G em F K tgt lv rest M o) (kf : ¬ (x = 0) → Sm Z G em F K (pc + 3) lv rest M o2) : Sm Z G em F K pc lv (.int x :: rest) M (@ite _ (x = 0) inst o o2) := fun r M' ho H locs ls hl hP hL => lv_if_eq C.1 C.2.1 hdg ht (fun c => kt c r M' (by rw [if_pos c] at ho; exact ho) H locs ls hl hP hL) (fun c => kf c r M' (by rw [if_neg c] at ho; exact ho) H locs ls hl hP hL)
theorem x_if_ne (C : k_C Z G own cc F ret nm) {x : Int32} {off : Int} {tgt : Nat} (hdg : decode cc pc = .ok (.ifCond .ne off, 3)) (ht : (pc : Int) + off = (tgt : Int)) [inst : Decidable (x = 0)] (kf : x = 0 → Sm Z G em F K (pc + 3) lv rest M o) (kt : ¬ x = 0 → Sm Z G em F K tgt lv rest M o2) : Sm Z G em F K pc lv (.int x :: rest) M (@ite _ (x = 0) inst o o2) := fun r M' ho H locs ls hl hP hL => lv_if_ne C.1 C.2.1 hdg ht (fun c => kt c r M' (by rw [if_neg c] at ho; exact ho) H locs ls hl hP hL) (fun c => kf c r M' (by rw [if_pos c] at ho; exact ho) H locs ls hl hP hL)
theorem x_if_ge (C : k_C Z G own cc F ret nm) {x : Int32} {off : Int} {tgt : Nat} (hdg : decode cc pc = .ok (.ifCond .ge off, 3)) (ht : (pc : Int) + off = (tgt : Int)) [inst : Decidable (0 ≤ x)] (kt : 0 ≤ x → Sm Z G em F K tgt lv rest M o) (kf : ¬ (0 ≤ x) → Sm Z G em F K (pc + 3) lv rest M o2) : Sm Z G em F K pc lv (.int x :: rest) M (@ite _ (0 ≤ x) inst o o2) := fun r M' ho H locs ls hl hP hL => lv_if_ge C.1 C.2.1 hdg ht (fun c => kt c r M' (by rw [if_pos c] at ho; exact ho) H locs ls hl hP hL) (fun c => kf c r M' (by rw [if_neg c] at ho; exact ho) H locs ls hl hP hL)
theorem x_if_gt (C : k_C Z G own cc F ret nm) {x : Int32} {off : Int} {tgt : Nat} (hdg : decode cc pc = .ok (.ifCond .gt off, 3)) (ht : (pc : Int) + off = (tgt : Int)) [inst : Decidable (0 < x)] (kt : 0 < x → Sm Z G em F K tgt lv rest M o) (kf : ¬ (0 < x) → Sm Z G em F K (pc + 3) lv rest M o2) : Sm Z G em F K pc lv (.int x :: rest) M (@ite _ (0 < x) inst o o2) := fun r M' ho H locs ls hl hP hL => lv_if_gt C.1 C.2.1 hdg ht (fun c => kt c r M' (by rw [if_pos c] at ho; exact ho) H locs ls hl hP hL) (fun c => kf c r M' (by rw [if_neg c] at ho; exact ho) H locs ls hl hP hL)
theorem x_if_le (C : k_C Z G own cc F ret nm) {x : Int32} {off : Int} {tgt : Nat} (hdg : decode cc pc = .ok (.ifCond .le off, 3)) (ht : (pc : Int) + off = (tgt : Int)) [inst : Decidable (x ≤ 0)] (kt : x ≤ 0 → Sm Z G em F K tgt lv rest M o) (kf : ¬ (x ≤ 0) → Sm Z G em F K (pc + 3) lv rest M o2) : Sm Z G em F K pc lv (.int x :: rest) M (@ite _ (x ≤ 0) inst o o2) := fun r M' ho H locs ls hl hP hL => lv_if_le C.1 C.2.1 hdg ht (fun c => kt c r M' (by rw [if_pos c] at ho; exact ho) H locs ls hl hP hL) (fun c => kf c r M' (by rw [if_neg c] at ho; exact ho) H locs ls hl hP hL)
theorem x_if_lt (C : k_C Z G own cc F ret nm) {x : Int32} {off : Int} {tgt : Nat} (hdg : decode cc pc = .ok (.ifCond .lt off, 3)) (ht : (pc : Int) + off = (tgt : Int)) [inst : Decidable (x < 0)] (kt : x < 0 → Sm Z G em F K tgt lv rest M o) (kf : ¬ (x < 0) → Sm Z G em F K (pc + 3) lv rest M o2) : Sm Z G em F K pc lv (.int x :: rest) M (@ite _ (x < 0) inst o o2) := fun r M' ho H locs ls hl hP hL => lv_if_lt C.1 C.2.1 hdg ht (fun c => kt c r M' (by rw [if_pos c] at ho; exact ho) H locs ls hl hP hL) (fun c => kf c r M' (by rw [if_neg c] at ho; exact ho) H locs ls hl hP hL)
theorem x_goto (C : k_C Z G own cc F ret nm) {off : Int} {tgt : Nat} (hdg : decode cc pc = .ok (.goto off, 3)) (ht : (pc : Int) + off = (tgt : Int)) (kk : Sm Z G em F K tgt lv st M o) : Sm Z G em F K pc lv st M o := fun r M' ho H locs ls hl hP hL => lv_goto C.1 C.2.1 hdg ht (kk r M' ho H locs ls hl hP hL)
/-- a nullable reference: two roads -/
def nul {β : Type} (q : Option Nat) (n : β) (k : Nat → β) : β := match q with
  | none => n
  | some a => k a
theorem x_ifnull (C : k_C Z G own cc F ret nm) {q : Option Nat} {k : Nat → Option (ρ × k_M)} {off : Int} {tgt : Nat} (hdg : decode cc pc = .ok (.ifnull off, 3)) (ht : (pc : Int) + off = (tgt : Int)) (kt : q = none → Sm Z G em F K tgt lv rest M o) (kf : ∀ a, q = some a → Sm Z G em F K (pc + 3) lv rest M (k a)) : Sm Z G em F K pc lv (k_rn Z q :: rest) M (nul q o k) := by
  intro r M' ho H locs ls hl hP hL
  cases q with
  | none => exact lv_ifnullN C.1 C.2.1 hdg ht (kt rfl r M' ho H locs ls hl hP hL)
  | some a => exact lv_ifnull C.1 C.2.1 hdg (kf a rfl r M' ho H locs ls hl hP hL)
theorem x_ifnonnull (C : k_C Z G own cc F ret nm) {q : Option Nat} {k : Nat → Option (ρ × k_M)} {off : Int} {tgt : Nat} (hdg : decode cc pc = .ok (.ifnonnull off, 3)) (ht : (pc : Int) + off = (tgt : Int)) (kt : q = none → Sm Z G em F K (pc + 3) lv rest M o) (kf : ∀ a, q = some a → Sm Z G em F K tgt lv rest M (k a)) : Sm Z G em F K pc lv (k_rn Z q :: rest) M (nul q o k) := by
  intro r M' ho H locs ls hl hP hL
  cases q with
  | none => exact lv_ifnonnullN C.1 C.2.1 hdg (kt rfl r M' ho H locs ls hl hP hL)
  | some a => exact lv_ifnonnull C.1 C.2.1 hdg ht (kf a rfl r M' ho H locs ls hl hP hL)
theorem x_tsw (C : k_C Z G own cc F ret nm) {x : Int32} {dflt lo hi : Int} {offs : Array Int} {len n tgt : Nat} {f : Nat → Option (ρ × k_M)} (hdg : decode cc pc = .ok (.tableswitch dflt lo hi offs, len)) (hn : hi + 1 = lo + n) (ht : (pc : Int) + dflt = (tgt : Int)) (tg : Nat → Nat) (hoff : ∀ i, i < n → ∃ off, offs[i]? = some off ∧ (pc : Int) + off = (tg i : Int)) (kf : ∀ i, i < n → x.toInt = lo + i → Sm Z G em F K (tg i) lv rest M (f i)) (kd : Sm Z G em F K tgt lv rest M o) : Sm Z G em F K pc lv (.int x :: rest) M (tsw x lo n f o) := by
  intro r M' ho H locs ls hl hP hL
  unfold tsw at ho
  by_cases hx : x.toInt < lo ∨ lo + n ≤ x.toInt
  · rw [if_pos hx] at ho
    exact lv_tableOut C.1 C.2.1 hdg (by omega) ht (kd r M' ho H locs ls hl hP hL)
  · rw [if_neg hx] at ho
    have h1 : ¬ x.toInt < lo := fun q => hx (Or.inl q)
    have h2 : ¬ lo + n ≤ x.toInt := fun q => hx (Or.inr q)
    obtain ⟨off, e1, e2⟩ := hoff (x.toInt - lo).toNat (by omega)
    exact lv_tableIn C.1 C.2.1 hdg h1 (by omega) e1 e2 (kf _ (by omega) (by omega) r M' ho H locs ls hl hP hL)
/-- words of the tables at a method's entry -/
theorem k_word (C : k_C Z G own cc F ret nm) {w : Cond} (hw : w ∈ lw_tbl) (hg : goodWord w = true) : w.before (g_a G) (g_s G) = true := by
  obtain ⟨A0, h⟩ := C.2.2.2.2.2.2.2.2.2.1
  exact word_at C.2.2.2.2.1 (good_of_word hg) (h w hw)
theorem k_wordN (C : k_C Z G own cc F ret nm) {a : String} {i : Nat} {b n d h : String} (hw : Cond.fieldLinkNest a i b n d h ∈ lw_tbl) : (Cond.fieldLinkNest a i b n d h).before (g_a G) (g_s G) = true := by
  obtain ⟨A0, h⟩ := C.2.2.2.2.2.2.2.2.2.1
  exact va_Nw.use rfl (va_Nw.warmF C.2.2.2.2.1 (va_Nw.of rfl (h _ hw)))
theorem k_K (C : k_C Z G own cc F ret nm) : va_K Z.2.1 vwCl (k_tys Z) (g_s G) := va_K.moved C.2.2.2.2.1.alike C.2.2.2.2.2.2.2.2.2.2.1
/-- the link of a field: own's entry idx is the field j of the class kd -/
def k_FL (own : String) (idx kd j : Nat) : Prop := ∃ (r : vw_C) (ref : String), vwCl[kd]? = some r ∧ j < r.2.2 ∧ (∀ w ∈ u_ws r.1 r.2.1 r.2.2, w ∈ lw_tbl ∧ goodWord w = true) ∧ (Cond.fieldLink own idx ref (r.2.1 j).2.1 (r.2.1 j).2.2.1 ∈ lw_tbl ∨ Cond.fieldLinkNest own idx ref (r.2.1 j).2.1 (r.2.1 j).2.2.1 "WheelCity" ∈ lw_tbl) ∧ (ref = (r.2.1 j).1 ∨ Cond.sameField ref (r.2.1 j).1 (r.2.1 j).2.1 (r.2.1 j).2.2.1 ∈ lw_tbl)
theorem k_lt {b : Bool} {a kd n : Nat} {H : Heap} (hP : k_R b Z M H) (hb : b = true) (hk : k_st a = (kd, n)) (hkd : kd < 15) : a < M.2.2.2 := Nat.lt_of_lt_of_le (k_st_lt hk hkd) (hP.2 hb).2
theorem k_same (C : k_C Z G own cc F ret nm) {ref O n d : String} (h : ref = O ∨ Cond.sameField ref O n d ∈ lw_tbl) : ∀ x, (g_s G).fieldFound? O n d = some x → (g_s G).fieldFound? ref n d = some x := by
  rcases h with rfl | h
  · exact fun _ h => h
  · exact u_same (args := g_a G) (k_word C h rfl)
/-- reading a field of an object whose cell is known -/
theorem k_getv (C : k_C Z G own cc F ret nm) {a kd idx j t : Nat} {fi : Nat → Int32} {fj : Nat → Int64} {fr : Nat → Option Nat} {H : Heap} {locs : List Loc} {ls : Array Slot} {c1 c2 : Nat} {Q : State → Prop} (hE : va_at Z.2.1 vwCl (k_h Z + a, .inr (kd, k_fl (k_h Z) fi fj fr 0 (k_fty kd))) H) (hF : k_FL own idx kd j) (ht : (k_fty kd)[j]? = some t) (hdg : decode cc pc = .ok (.getfield idx, 3))
    (kk : W G.1 G.2.1 G.2.2.1 (g_R G) (g_s G) (g_m G) (g_a G) (g_b G) (g_t G) (g_c G) H locs c1 c2 Q (F0 (g_m G) (pc + 3) ls (k_fv (k_h Z) fi fj fr j t :: rest))) :
    W G.1 G.2.1 G.2.2.1 (g_R G) (g_s G) (g_m G) (g_a G) (g_b G) (g_t G) (g_c G) H locs c1 c2 Q (F0 (g_m G) pc ls (k_ra Z a :: rest)) := by
  obtain ⟨r, ref, hr, hj, hws, hl, hsm⟩ := hF
  have hK := k_K C
  have hts : ∀ w ∈ u_ws r.1 r.2.1 r.2.2, w.before (g_a G) (g_s G) = true := fun w hw => k_word C (hws w hw).1 (hws w hw).2
  have hv := k_fl_get (h := k_h Z) (fi := fi) (fj := fj) (fr := fr) (k_fty kd) 0 j t ht
  rw [Nat.zero_add] at hv
  have hP1 : va_P Z.2.1 vwCl [(k_h Z + a, .inr (kd, k_fl (k_h Z) fi fj fr 0 (k_fty kd)))] H := fun k q hq => by
    have hz : k < 1 := (List.getElem?_eq_some_iff.mp hq).1
    rw [show k = 0 by omega] at hq
    cases hq
    exact hE
  rcases hl with hl | hl
  · exact va_get C.1 C.2.1 (C := r.1) (T := r.2.1) (N := r.2.2) (Ts := u_ws r.1 r.2.1 r.2.2) hts (fun w h => h) C.2.2.2.1 hK hP1 0 rfl hr j hj (k_word C hl rfl) (k_same C hsm) hv hdg kk
  · exact va_getN C.1 C.2.1 (C := r.1) (T := r.2.1) (N := r.2.2) (Ts := u_ws r.1 r.2.1 r.2.2) hts (fun w h => h) C.2.2.2.1 hK hP1 0 rfl hr j hj (k_wordN C hl) (k_same C hsm) hv hdg kk
theorem x_getI (C : k_C Z G own cc F ret nm) {a kd n idx j : Nat} (hb : F.1 = true) (hk : k_st a = (kd, n)) (hkd : kd < 11) (hF : k_FL own idx kd j) (ht : (k_fty kd)[j]? = some 0) (hdg : decode cc pc = .ok (.getfield idx, 3)) (kk : Sm Z G em F K (pc + 3) lv (.int (M.1 a j) :: rest) M o) : Sm Z G em F K pc lv (k_ra Z a :: rest) M o := by
  intro r M' ho H locs ls hl hP hL
  have hE := hP.1.2.2 a (k_lt hP hb hk (by omega))
  rw [k_E_st M hk (by omega), k_e_obj hkd] at hE
  exact k_getv C hE hF ht hdg (kk r M' ho H locs ls hl hP hL)
theorem x_getJ (C : k_C Z G own cc F ret nm) {a kd n idx j : Nat} (hb : F.1 = true) (hk : k_st a = (kd, n)) (hkd : kd < 11) (hF : k_FL own idx kd j) (ht : (k_fty kd)[j]? = some 1) (hdg : decode cc pc = .ok (.getfield idx, 3)) (kk : Sm Z G em F K (pc + 3) lv (.long (M.2.1 a j) :: rest) M o) : Sm Z G em F K pc lv (k_ra Z a :: rest) M o := by
  intro r M' ho H locs ls hl hP hL
  have hE := hP.1.2.2 a (k_lt hP hb hk (by omega))
  rw [k_E_st M hk (by omega), k_e_obj hkd] at hE
  exact k_getv C hE hF ht hdg (kk r M' ho H locs ls hl hP hL)
theorem x_getR (C : k_C Z G own cc F ret nm) {a kd n idx j f : Nat} (g : Nat) (hb : F.1 = true) (hk : k_st a = (kd, n)) (hkd : kd < 11) (hF : k_FL own idx kd j) (ht : (k_fty kd)[j]? = some 2) (hf : k_off kd j = some f) (hg : a + f = g) (hdg : decode cc pc = .ok (.getfield idx, 3)) (kk : Sm Z G em F K (pc + 3) lv (k_ra Z g :: rest) M o) : Sm Z G em F K pc lv (k_ra Z a :: rest) M o := by
  intro r M' ho H locs ls hl hP hL
  have hE := hP.1.2.2 a (k_lt hP hb hk (by omega))
  rw [k_E_st M hk (by omega), k_e_obj hkd] at hE
  subst hg
  refine k_getv C hE hF ht hdg ?_
  have e : k_fv (k_h Z) (M.1 a) (M.2.1 a) (M.2.2.1 a) j 2 = k_ra Z (a + f) := by
    unfold k_fv
    rw [(hP.2 hb).1 a kd n j f hk hf]
    rfl
  rw [e]
  exact kk r M' ho H locs ls hl hP hL
/-- reading a field of a rule -/
def gRl {β : Type} (M : k_M) (a j : Nat) (k : Int32 → Option β) : Option β := if 105 ≤ a ∧ a < M.2.2.2 then k (M.1 a j) else none
theorem k_E_rl (M : k_M) {a : Nat} (h : 105 ≤ a) : k_E Z M a = .inr (k_tag (M.1 a 3), k_fl (k_h Z) (M.1 a) (M.2.1 a) (M.2.2.1 a) 0 [0, 0, 0]) := by
  unfold k_E k_kq
  rw [if_neg (by omega)]
  have h7 := k_tag_lt (M.1 a 3)
  rw [k_e_obj (by omega)]
  have e : k_fty (k_tag (M.1 a 3)) = [0, 0, 0] := by
    unfold k_tag
    repeat' split
    all_goals rfl
  rw [e]
theorem x_getRl (C : k_C Z G own cc F ret nm) {a idx j : Nat} {k : Int32 → Option (ρ × k_M)} (hj : j < 3) (hF : ∀ t : Int32, k_FL own idx (k_tag t) j) (hdg : decode cc pc = .ok (.getfield idx, 3)) (kk : ∀ v : Int32, Sm Z G em F K (pc + 3) lv (.int v :: rest) M (k v)) : Sm Z G em F K pc lv (k_ra Z a :: rest) M (gRl M a j k) := by
  intro r M' ho H locs ls hl hP hL
  unfold gRl at ho
  by_cases hc : 105 ≤ a ∧ a < M.2.2.2
  · rw [if_pos hc] at ho
    have hE := hP.1.2.2 a hc.2
    rw [k_E_rl M hc.1] at hE
    have e : k_fty (k_tag (M.1 a 3)) = [0, 0, 0] := by
      unfold k_tag
      repeat' split
      all_goals rfl
    rw [← e] at hE
    refine k_getv C hE (hF _) (t := 0) (by rw [e]; match j, hj with | 0, _ => rfl | 1, _ => rfl | 2, _ => rfl) hdg (kk _ r M' ho H locs ls hl hP hL)
  · rw [if_neg hc] at ho; cases ho
/-- what makes a field's store whole -/
theorem k_putv (C : k_C Z G own cc F ret nm) {a kd idx j t : Nat} {ty : FieldType} {v : Value} {H : Heap} {locs : List Loc} {ls : Array Slot} {c1 c2 : Nat} {Q : State → Prop} {fi fi' : Nat → Int32} {fj fj' : Nat → Int64} {fr fr' : Nat → Option Nat} (hkd : kd < 11) (hE : va_at Z.2.1 vwCl (k_h Z + a, .inr (kd, k_fl (k_h Z) fi fj fr 0 (k_fty kd))) H) (hF : k_FL own idx kd j) (ht : (k_fty kd)[j]? = some t)
    (hT : ∀ r, vwCl[kd]? = some r → (r.2.1 j).2.2.2 = false ∧ parseFieldDescriptor (r.2.1 j).2.2.1 = some ty) (hN : ∀ r, vwCl[kd]? = some r → (∃ ty0 : Nat → FieldType, ∀ k, k < r.2.2 → parseFieldDescriptor (r.2.1 k).2.2.1 = some (ty0 k)) ∧ ∀ a, a < r.2.2 → ∀ b, b < r.2.2 → a ≠ b → (r.2.1 a).2.1 ≠ (r.2.1 b).2.1) (hnw : narrow ty v = v) (hfit : fits ty v = true)
    (h1 : ∀ i, i ≠ j → fi' i = fi i) (h2 : ∀ i, i ≠ j → fj' i = fj i) (h3 : ∀ i, i ≠ j → fr' i = fr i) (hv : k_fv (k_h Z) fi' fj' fr' j t = v) (hdg : decode cc pc = .ok (.putfield idx, 3))
    (kk : ∀ (H1 : Heap) (i : Nat), H1.size = H.size → (∀ q, q ≠ k_h Z + a → H1[q]? = H[q]?) → va_at Z.2.1 vwCl (k_h Z + a, .inr (kd, k_fl (k_h Z) fi' fj' fr' 0 (k_fty kd))) H1 → W G.1 G.2.1 G.2.2.1 (g_R G) (g_s G) (g_m G) (g_a G) (g_b G) (g_t G) (g_c G) H1 (locs ++ [⟨k_h Z + a, i⟩]) c1 c2 Q (F0 (g_m G) (pc + 3) ls rest)) :
    W G.1 G.2.1 G.2.2.1 (g_R G) (g_s G) (g_m G) (g_a G) (g_b G) (g_t G) (g_c G) H locs c1 c2 Q (F0 (g_m G) pc ls (v :: k_ra Z a :: rest)) := by
  obtain ⟨r, ref, hr, hj, hws, hl, hsm⟩ := hF
  obtain ⟨hfin, hd⟩ := hT r hr
  obtain ⟨⟨ty0, hty⟩, hnm⟩ := hN r hr
  have hK := k_K C
  have hts : ∀ w ∈ u_ws r.1 r.2.1 r.2.2, w.before (g_a G) (g_s G) = true := fun w hw => k_word C (hws w hw).1 (hws w hw).2
  have hin : ∀ w ∈ u_ws r.1 r.2.1 r.2.2, w ∈ u_ws r.1 r.2.1 r.2.2 := fun w h => h
  have hap := va_apart (own := own) hts hin ty0 hty hnm hK hr
  obtain ⟨r', g1, cell, q1, q2, q3, q4⟩ := hE
  have hrr : r' = r := Option.some.inj (g1.symm.trans hr)
  subst hrr
  obtain ⟨hS, hfc, kC, hkC, hkind⟩ := hK.1 kd _ hr
  obtain ⟨cf, kf, fi0, f, hi, hsl⟩ := hS j hj
  have hlay := hts _ (hin _ (u_in_lay hj))
  unfold u_lay at hlay
  rw [if_neg (by rw [hfin]; decide)] at hlay
  have hst := (u_facts hfc hkC (u_lays hts hin hj) hi).1
  have h6 := u_store hfc hkC hkind hlay hi hd hnw hfit
  have hset := k_fl_set (h := k_h Z) (k_fty kd) 0 j t v ht (fun i hi => h1 i (by omega)) (fun i hi => h2 i (by omega)) (fun i hi => h3 i (by omega)) (by rw [Nat.zero_add]; exact hv)
  have hlen : j < (k_fl (k_h Z) fi fj fr 0 (k_fty kd)).length := by rw [k_fl_len]; exact (List.getElem?_eq_some_iff.mp ht).1
  have fin : ∀ H' : Heap, H'[k_h Z + a]? = some (cell.setSlot f.slot v) → H'.size = H.size → (∀ q, q ≠ k_h Z + a → H'[q]? = H[q]?) → W G.1 G.2.1 G.2.2.1 (g_R G) (g_s G) (g_m G) (g_a G) (g_b G) (g_t G) (g_c G) H' (locs ++ [⟨k_h Z + a, f.slot⟩]) c1 c2 Q (F0 (g_m G) (pc + 3) ls rest) := by
    intro H' e1 e2 e3
    rw [hsl] at e1
    refine kk H' _ e2 e3 ⟨r', hr, ?_⟩
    show t_OB _ _ _ _ _ (vp_V (k_fl (k_h Z) fi' fj' fr' 0 (k_fty kd)))
    rw [← hset]
    exact t_OB.to (V := updV (vp_V (k_fl (k_h Z) fi fj fr 0 (k_fty kd))) j v) ⟨_, e1, q2, q3, t_set q4 hap hj v⟩ (fun i _ => vp_updV_set hlen v i)
  rcases hl with hl | hl
  · exact W.putK C.1 C.2.1 (f := f) ⟨C.2.2.2.1, k_word C hl rfl, ⟨_, _, _, k_same C hsm _ hi⟩, hst⟩ (by rw [q2]; exact h6) q1 q3 (by rw [hsl]; exact k2_hasslot (q4 j hj)) rfl rfl hdg fin
  · exact va_WputK C.1 C.2.1 (f := f) C.2.2.2.1 (k_wordN C hl) (k_same C hsm _ hi) hst (by rw [q2]; exact h6) q1 q3 (by rw [hsl]; exact k2_hasslot (q4 j hj)) rfl rfl hdg fin
theorem k_Sh_sI {a j : Nat} {v : Int32} (h : k_Sh M) : k_Sh (sI M a j v) := h
theorem k_Sh_sJ {a j : Nat} {v : Int64} (h : k_Sh M) : k_Sh (sJ M a j v) := h
theorem k_lcs {locs : List Loc} {b i : Nat} (h : ∀ q ∈ locs, k_h Z ≤ q.base) (hb : k_h Z ≤ b) : ∀ q ∈ locs ++ [⟨b, i⟩], k_h Z ≤ q.base := by
  intro q hq
  rcases List.mem_append.mp hq with h1 | h1
  · exact h q h1
  · rw [List.mem_singleton] at h1
    subst h1
    exact hb
/-- the field tables in one word -/
def k_cls (kd j : Nat) (ty : FieldType) : Prop := ∀ r, vwCl[kd]? = some r → (r.2.1 j).2.2.2 = false ∧ parseFieldDescriptor (r.2.1 j).2.2.1 = some ty
def k_tbs (kd : Nat) : Prop := ∀ r, vwCl[kd]? = some r → (∃ ty0 : Nat → FieldType, ∀ k, k < r.2.2 → parseFieldDescriptor (r.2.1 k).2.2.1 = some (ty0 k)) ∧ ∀ a, a < r.2.2 → ∀ b, b < r.2.2 → a ≠ b → (r.2.1 a).2.1 ≠ (r.2.1 b).2.1
theorem x_putI (C : k_C Z G own cc F ret nm) {a kd n idx j : Nat} {ty : FieldType} {v : Int32} (hb : F.1 = true) (hk : k_st a = (kd, n)) (hkd : kd < 11) (hF : k_FL own idx kd j) (ht : (k_fty kd)[j]? = some 0) (hT : k_cls kd j ty) (hN : k_tbs kd) (hnw : narrow ty (.int v) = .int v) (hfit : fits ty (.int v) = true) (hdg : decode cc pc = .ok (.putfield idx, 3)) {k : k_M → Option (ρ × k_M)} (kk : ∀ M1 : k_M, Sm Z G em F K (pc + 3) lv rest M1 (k M1)) : Sm Z G em F K pc lv (.int v :: k_ra Z a :: rest) M (bN (sI M a j v) k) := by
  intro r M' ho H locs ls hl hP hL
  have hE := hP.1.2.2 a (k_lt hP hb hk (by omega))
  rw [k_E_st M hk (by omega), k_e_obj hkd] at hE
  refine k_putv C hkd hE hF ht hT hN hnw hfit (fi' := k_up (M.1 a) j v) (fj' := M.2.1 a) (fr' := M.2.2.1 a) (fun i hi => k_up_ne _ _ hi) (fun _ _ => rfl) (fun _ _ => rfl) (by unfold k_fv; rw [if_pos rfl, k_up_self]) hdg (fun H1 i z oq hA => kk _ r M' ho H1 _ ls hl ⟨k_upd hP.1 rfl z oq (fun k hk => k_E_sI M j v hk) ?_, hP.2⟩ (k_lcs hL (Nat.le_add_right _ _)))
  rw [k_E_st _ hk (by omega), k_e_obj hkd, sI_at]
  exact hA
theorem x_putJ (C : k_C Z G own cc F ret nm) {a kd n idx j : Nat} {v : Int64} (hb : F.1 = true) (hk : k_st a = (kd, n)) (hkd : kd < 11) (hF : k_FL own idx kd j) (ht : (k_fty kd)[j]? = some 1) (hT : k_cls kd j .long) (hN : k_tbs kd) (hdg : decode cc pc = .ok (.putfield idx, 3)) {k : k_M → Option (ρ × k_M)} (kk : ∀ M1 : k_M, Sm Z G em F K (pc + 3) lv rest M1 (k M1)) : Sm Z G em F K pc lv (.long v :: k_ra Z a :: rest) M (bN (sJ M a j v) k) := by
  intro r M' ho H locs ls hl hP hL
  have hE := hP.1.2.2 a (k_lt hP hb hk (by omega))
  rw [k_E_st M hk (by omega), k_e_obj hkd] at hE
  refine k_putv C hkd hE hF ht hT hN rfl rfl (fi' := M.1 a) (fj' := k_up (M.2.1 a) j v) (fr' := M.2.2.1 a) (fun _ _ => rfl) (fun i hi => k_up_ne _ _ hi) (fun _ _ => rfl) (by unfold k_fv; rw [if_neg (by decide), if_pos rfl, k_up_self]) hdg (fun H1 i z oq hA => kk _ r M' ho H1 _ ls hl ⟨k_upd hP.1 rfl z oq (fun k hk => k_E_sJ M j v hk) ?_, hP.2⟩ (k_lcs hL (Nat.le_add_right _ _)))
  rw [k_E_st _ hk (by omega), k_e_obj hkd, sJ_at]
  exact hA
theorem ix_in {i : Int32} {n : Nat} (h : ix i n = true) : vp_in i n := (of_decide_eq_true (p := ¬ (i < 0 ∨ n ≤ i.toNatClampNeg)) h)
theorem ix_lt {i : Int32} {n : Nat} (h : ix i n = true) : i.toNatClampNeg < n := Nat.not_le.mp fun q => ix_in h (Or.inr q)
theorem x_iald (C : k_C Z G own cc F ret nm) {a n : Nat} {i : Int32} {k : Int32 → Option (ρ × k_M)} (hb : F.1 = true) (hk : k_st a = (11, n)) (hdg : decode cc pc = .ok (.iaload, 1)) (kk : ∀ v : Int32, Sm Z G em F K (pc + 1) lv (.int v :: rest) M (k v)) : Sm Z G em F K pc lv (.int i :: k_ra Z a :: rest) M (rdI M a n i k) := by
  intro r M' ho H locs ls hl hP hL
  unfold rdI at ho
  by_cases hi : ix i n = true
  · rw [if_pos hi] at ho
    have hE := hP.1.2.2 a (k_lt hP hb hk (by omega))
    rw [k_E_st M hk (by omega), k_e_int] at hE
    have hlt := ix_lt hi
    exact W.iald (v := .int (M.1 a i.toNatClampNeg)) C.1 C.2.1 hE (((k_K C).2 0 _ rfl).1 n (fun j => .int (M.1 a j))) (fun q => by cases q) (by show ¬ (i < 0 ∨ (arrV _ _ _).slots.size ≤ _); rw [arrV_size]; exact ix_in hi) (by show (arrV _ _ _).slots[_]? = _; rw [arrV_read _ _ hlt]) rfl rfl hdg (kk _ r M' ho H locs ls hl hP hL)
  · rw [if_neg hi] at ho; cases ho
theorem x_lald (C : k_C Z G own cc F ret nm) {a n : Nat} {i : Int32} {k : Int64 → Option (ρ × k_M)} (hb : F.1 = true) (hk : k_st a = (12, n)) (hdg : decode cc pc = .ok (.laload, 1)) (kk : ∀ v : Int64, Sm Z G em F K (pc + 1) lv (.long v :: rest) M (k v)) : Sm Z G em F K pc lv (.int i :: k_ra Z a :: rest) M (rdJ M a n i k) := by
  intro r M' ho H locs ls hl hP hL
  unfold rdJ at ho
  by_cases hi : ix i n = true
  · rw [if_pos hi] at ho
    have hE := hP.1.2.2 a (k_lt hP hb hk (by omega))
    rw [k_E_st M hk (by omega), k_e_long] at hE
    have hlt := ix_lt hi
    exact W.lald (v := .long (M.2.1 a i.toNatClampNeg)) C.1 C.2.1 hE (((k_K C).2 1 _ rfl).1 n (fun j => .long (M.2.1 a j))) (fun q => by cases q) (by show ¬ (i < 0 ∨ (arrV _ _ _).slots.size ≤ _); rw [arrV_size]; exact ix_in hi) (by show (arrV _ _ _).slots[_]? = _; rw [arrV_read _ _ hlt]) rfl rfl hdg (kk _ r M' ho H locs ls hl hP hL)
  · rw [if_neg hi] at ho; cases ho
theorem x_iast (C : k_C Z G own cc F ret nm) {a n : Nat} {i x : Int32} {k : k_M → Option (ρ × k_M)} (hb : F.1 = true) (hk : k_st a = (11, n)) (hdg : decode cc pc = .ok (.iastore, 1)) (kk : ∀ M1 : k_M, Sm Z G em F K (pc + 1) lv rest M1 (k M1)) : Sm Z G em F K pc lv (.int x :: .int i :: k_ra Z a :: rest) M (wrI M a n i x k) := by
  intro r M' ho H locs ls hl hP hL
  unfold wrI at ho
  by_cases hi : ix i n = true
  · rw [if_pos hi] at ho
    have hE := hP.1.2.2 a (k_lt hP hb hk (by omega))
    rw [k_E_st M hk (by omega), k_e_int] at hE
    have hlt := ix_lt hi
    refine W.iast C.1 C.2.1 hE (((k_K C).2 0 _ rfl).1 n (fun j => .int (M.1 a j))) (fun q => by cases q) (by show ¬ (i < 0 ∨ (arrV _ _ _).slots.size ≤ _); rw [arrV_size]; exact ix_in hi) rfl rfl hdg fun H1 e z oq => kk _ r M' ho H1 _ ls hl ⟨k_upd hP.1 rfl z oq (fun k hk => k_E_sI M _ _ hk) ?_, hP.2⟩ (k_lcs hL (Nat.le_add_right _ _))
    rw [k_E_st _ hk (by omega), k_e_int, sI_at]
    show H1[k_h Z + a]? = some (vp_cell _ _)
    rw [e, vp_cell_i, vp_cell_i, arrV_store]
    congr 2
    funext q
    by_cases hq : q = i.toNatClampNeg
    · subst hq
      simp [updV, k_up]
    · simp [updV, k_up, hq]
  · rw [if_neg hi] at ho; cases ho
theorem x_last (C : k_C Z G own cc F ret nm) {a n : Nat} {i : Int32} {x : Int64} {k : k_M → Option (ρ × k_M)} (hb : F.1 = true) (hk : k_st a = (12, n)) (hdg : decode cc pc = .ok (.lastore, 1)) (kk : ∀ M1 : k_M, Sm Z G em F K (pc + 1) lv rest M1 (k M1)) : Sm Z G em F K pc lv (.long x :: .int i :: k_ra Z a :: rest) M (wrJ M a n i x k) := by
  intro r M' ho H locs ls hl hP hL
  unfold wrJ at ho
  by_cases hi : ix i n = true
  · rw [if_pos hi] at ho
    have hE := hP.1.2.2 a (k_lt hP hb hk (by omega))
    rw [k_E_st M hk (by omega), k_e_long] at hE
    have hlt := ix_lt hi
    refine W.last C.1 C.2.1 hE (((k_K C).2 1 _ rfl).1 n (fun j => .long (M.2.1 a j))) (fun q => by cases q) (by show ¬ (i < 0 ∨ (arrV _ _ _).slots.size ≤ _); rw [arrV_size]; exact ix_in hi) rfl rfl hdg fun H1 e z oq => kk _ r M' ho H1 _ ls hl ⟨k_upd hP.1 rfl z oq (fun k hk => k_E_sJ M _ _ hk) ?_, hP.2⟩ (k_lcs hL (Nat.le_add_right _ _))
    rw [k_E_st _ hk (by omega), k_e_long, sJ_at]
    show H1[k_h Z + a]? = some (vp_cell _ _)
    rw [e, vp_cell_l, vp_cell_l, arrV_store]
    congr 2
    funext q
    by_cases hq : q = i.toNatClampNeg
    · subst hq
      simp [updV, k_up]
    · simp [updV, k_up, hq]
  · rw [if_neg hi] at ho; cases ho
theorem x_ilen (C : k_C Z G own cc F ret nm) {a n : Nat} {v : Int32} (hb : F.1 = true) (hk : k_st a = (11, n)) (hv : Int32.ofNat n = v) (hdg : decode cc pc = .ok (.arraylength, 1)) (kk : Sm Z G em F K (pc + 1) lv (.int v :: rest) M o) : Sm Z G em F K pc lv (k_ra Z a :: rest) M o := by
  intro r M' ho H locs ls hl hP hL
  have hE := hP.1.2.2 a (k_lt hP hb hk (by omega))
  rw [k_E_st M hk (by omega), k_e_int] at hE
  exact W.alen C.1 C.2.1 hE (((k_K C).2 0 _ rfl).1 n (fun j => .int (M.1 a j))) (by show ((arrV _ _ _).slots.size).toInt32 = v; rw [arrV_size]; exact hv) rfl rfl hdg (kk r M' ho H locs ls hl hP hL)
theorem x_llen (C : k_C Z G own cc F ret nm) {a n : Nat} {v : Int32} (hb : F.1 = true) (hk : k_st a = (12, n)) (hv : Int32.ofNat n = v) (hdg : decode cc pc = .ok (.arraylength, 1)) (kk : Sm Z G em F K (pc + 1) lv (.int v :: rest) M o) : Sm Z G em F K pc lv (k_ra Z a :: rest) M o := by
  intro r M' ho H locs ls hl hP hL
  have hE := hP.1.2.2 a (k_lt hP hb hk (by omega))
  rw [k_E_st M hk (by omega), k_e_long] at hE
  exact W.alen C.1 C.2.1 hE (((k_K C).2 1 _ rfl).1 n (fun j => .long (M.2.1 a j))) (by show ((arrV _ _ _).slots.size).toInt32 = v; rw [arrV_size]; exact hv) rfl rfl hdg (kk r M' ho H locs ls hl hP hL)
/-- an end -/
theorem x_end (C : k_C Z G own cc F ret nm) {v : ρ} {r : ρ} {M' : k_M} {H : Heap} (ho : (some (v, M) : Option (ρ × k_M)) = some (r, M')) (hP : k_R F.1 Z M H) : ∀ t : State, t.heap = H → (g_s G).WarmedH t.vm → k_Qc F.1 Z em r M' (g_a G) (g_s G) (.returned (em v)) t := by
  intro t ht _
  cases ho
  exact ⟨rfl, by rw [ht]; exact hP⟩
theorem k_nz {v : Int32} (h : v = 0 ∨ v = 1) : narrow .boolean (.int v) = .int v := by
  rcases h with rfl | rfl <;> rfl
theorem k_fz {v : Int32} (h : v = 0 ∨ v = 1) : fits .boolean (.int v) = true := by
  rcases h with rfl | rfl <;> rfl
/-- the instructions of a method, decided at once -/
def k_dec (c : ByteArray) (l : List (Nat × Instr × Nat)) : Bool := l.all (fun q => decide (decode c q.1 = .ok (q.2.1, q.2.2)))
theorem k_dg {c : ByteArray} {l : List (Nat × Instr × Nat)} (h : k_dec c l = true) (i pc : Nat) (ins : Instr) (len : Nat) (hi : l[i]? = some (pc, ins, len)) : decode c pc = .ok (ins, len) := of_decide_eq_true (List.all_eq_true.mp h (pc, ins, len) (List.mem_of_getElem? hi))
end XB
section XE
variable {Z : k_Z} {G : k_G} {F : k_F} {K : Nat × Nat} {pc : Nat} {lv : List (Nat × Value)} {st : List Value} {M : k_M} {own : String} {cc : ByteArray} {ret : Option FieldType} {nm : String}
theorem x_iret {v : Int32} (C : k_C Z G own cc F (some .int) nm) (h1 : K.1 ≤ F.2.2.2.1) (h2 : K.2 ≤ F.2.2.2.2) (hdg : decode cc pc = .ok (.ireturn, 1)) : Sm Z G emI F K pc lv [.int v] M (some (v, M)) := fun r M' ho H locs ls hl hP hL => W.widen h1 h2 (W.iret C.1 C.2.1 C.2.2.2.2.2.1 (x_end (em := emI) C ho hP) hL hdg C.2.2.2.2.2.2.1)
theorem x_zret {v : Int32} {ty : FieldType} (C : k_C Z G own cc F (some ty) nm) (h1 : K.1 ≤ F.2.2.2.1) (h2 : K.2 ≤ F.2.2.2.2) (hn : narrow ty (.int v) = .int v) (hdg : decode cc pc = .ok (.ireturn, 1)) : Sm Z G emI F K pc lv [.int v] M (some (v, M)) := fun r M' ho H locs ls hl hP hL => W.widen h1 h2 (W.zret C.1 C.2.1 C.2.2.2.2.2.1 hn (x_end (em := emI) C ho hP) hL hdg C.2.2.2.2.2.2.1)
theorem x_lret {v : Int64} (C : k_C Z G own cc F (some .long) nm) (h1 : K.1 ≤ F.2.2.2.1) (h2 : K.2 ≤ F.2.2.2.2) (hdg : decode cc pc = .ok (.lreturn, 1)) : Sm Z G emJ F K pc lv [.long v] M (some (v, M)) := fun r M' ho H locs ls hl hP hL => W.widen h1 h2 (W.lret C.1 C.2.1 C.2.2.2.2.2.1 (x_end (em := emJ) C ho hP) hL hdg C.2.2.2.2.2.2.1)
theorem x_vret (C : k_C Z G own cc F none nm) (h1 : K.1 ≤ F.2.2.2.1) (h2 : K.2 ≤ F.2.2.2.2) (hdg : decode cc pc = .ok (.return_, 1)) : Sm Z G emV F K pc lv [] M (some ((), M)) := fun r M' ho H locs ls hl hP hL => W.widen h1 h2 (W.vret C.1 C.2.1 C.2.2.2.2.2.1 (x_end (em := emV) C ho hP) hL hdg C.2.2.2.2.2.2.1)
theorem x_aret {v : Option Nat} {n : String} (C : k_C Z G own cc F (some (.object n)) nm) (h1 : K.1 ≤ F.2.2.2.1) (h2 : K.2 ≤ F.2.2.2.2) (hdg : decode cc pc = .ok (.areturn, 1)) : Sm Z G (emR Z) F K pc lv [k_rn Z v] M (some (v, M)) := fun r M' ho H locs ls hl hP hL => W.widen h1 h2 (W.aret C.1 C.2.1 C.2.2.2.2.2.1 (Or.inl ⟨_, rfl⟩) (by cases v with | none => exact Or.inl rfl | some a => exact Or.inr ⟨_, rfl⟩) (x_end (em := emR Z) C ho hP) hL hdg C.2.2.2.2.2.2.1)
end XE
end
section
/-! ===== calls, constants, statics ===== -/
theorem k_blind {b : Bool} {Z : k_Z} {M : k_M} {vs : List Value} : FrameBlind (k_Pc b Z M vs) := fun _ _ _ _ h => h
section XC
variable {Z : k_Z} {G : k_G} {ρ : Type} {em : ρ → Option Value} {F : k_F} {K : Nat × Nat} {pc : Nat} {lv lv' : List (Nat × Value)} {st rest : List Value} {M : k_M} {o o2 : Option (ρ × k_M)} {own : String} {cc : ByteArray} {ret : Option FieldType} {nm : String}
theorem x_run {ρ' : Type} {em' : ρ' → Option Value} {b' : Bool} {o' : Option (ρ' × k_M)} {k : ρ' → k_M → Option (ρ × k_M)} {mc' ms' : Nat} {cas : Array Value}
    (hrun : ∀ (r' : ρ') (M1 : k_M), o' = some (r', M1) → ∀ (H : Heap) (locs : List Loc) (ls : Array Slot), lv_has ls F.2.1 lv → k_R F.1 Z M H → va_Run G.1 G.2.1 G.2.2.1 (g_R G) (g_s G) (g_m G) (g_a G) (g_b G) (g_t G) (g_c G) H locs K.1 K.2 mc' ms' (F0 (g_m G) pc ls st) rest (k_Qc b' Z em' r' M1 cas) (k_fr Z))
    (kR : ∀ (M1 : k_M) (H : Heap), k_R b' Z M1 H → k_R F.1 Z M1 H)
    (kk : ∀ (r' : ρ') (M1 : k_M), Sm Z G em F (K.1 + mc', K.2 + ms') (pc + 3) lv ((em' r').toList ++ rest) M1 (k r' M1)) : Sm Z G em F K pc lv st M (bd o' k) := by
  intro r M' ho H locs ls hl hP hL
  cases hq : o' with
  | none => rw [hq] at ho; cases ho
  | some q =>
    obtain ⟨r', M1⟩ := q
    rw [hq] at ho
    intro T hT X
    obtain ⟨v, st₀, t, T', L, h0, X', hLf, e1, e2, ⟨hv, hP1⟩, hst⟩ := hrun r' M1 hq H locs ls hl hP T hT X
    have hv' : v = em' r' := Outcome.returned.inj hv
    subst hv'
    obtain ⟨t2, a1, b1⟩ := kk r' M1 r M' ho T'.heap (locs ++ L) ls hl (kR M1 _ (by rw [e1]; exact hP1)) (fun q hq => by
      rcases List.mem_append.mp hq with h | h
      · exact hL q h
      · exact hLf q h) T' rfl X'
    exact ⟨t2, hst t2 a1, b1⟩
theorem k_wordM (C : k_C Z G own cc F ret nm) {a : String} {i : Nat} {x : MethodName} {h : String} (hw : Cond.methodLinkNest a i x h ∈ lw_tbl) : (Cond.methodLinkNest a i x h).before (g_a G) (g_s G) = true := by
  obtain ⟨A0, h⟩ := C.2.2.2.2.2.2.2.2.2.1
  exact va_Nw.use rfl (va_Nw.warmM C.2.2.2.2.1 (va_Nw.of rfl (h _ hw)))
theorem k_code (C : k_C Z G own cc F ret nm) {y : MethodName} {c' : ByteArray} {nL' : Nat} {ret' : Option FieldType} (hw : Cond.code y c' nL' ret' ∈ lw_tbl) : ∀ w ∈ [Cond.code y c' nL' ret'], ∀ (a' : Array Value) (U : State), (g_s G).WarmedH U.vm → w.before a' U = true := by
  intro w h a' U hW
  rw [List.mem_singleton] at h
  subst h
  exact word_at hW (Or.inl rfl) (k_word C hw rfl)
/-- what the tables must say of a called method -/
def k_cy (y : MethodName) (c' : ByteArray) (nL' : Nat) (ret' : Option FieldType) (na : Nat) : Prop := Cond.code y c' nL' ret' ∈ lw_tbl ∧ Cond.initialized y.cls ∈ lw_tbl ∧ (y.cls ≠ "java/lang/invoke/MethodHandle" ∧ y.cls ≠ "java/lang/invoke/VarHandle") ∧ (parseMethodDescriptor y.desc).map (fun d => d.parameters.length) = some na
theorem k_ar {y : MethodName} {na : Nat} (h : (parseMethodDescriptor y.desc).map (fun d => d.parameters.length) = some na) : ∀ sig, parseMethodDescriptor y.desc = some sig → na = sig.parameters.length := by
  intro sig hs
  rw [hs] at h
  exact (Option.some.inj h).symm
def k_lk (own : String) (idx : Nat) (y : MethodName) : Prop := Cond.methodLink own idx y ∈ lw_tbl ∨ Cond.methodLinkNest own idx y "WheelCity" ∈ lw_tbl
def k_lkN (own : String) (idx : Nat) (y : MethodName) : Prop := Cond.methodLinkNest own idx y "WheelCity" ∈ lw_tbl
theorem k_pre (C : k_C Z G own cc F ret nm) {vs : List Value} {H : Heap} (hP : k_R F.1 Z M H) : ∀ U : State, U.heap = H → (g_s G).WarmedH U.vm → k_Pc F.1 Z M vs vs.toArray U := fun U hU hW => ⟨rfl, State.WarmedH.trans C.2.2.2.2.1 hW, by rw [hU]; exact hP⟩
theorem k_room (C : k_C Z G own cc F ret nm) {d' mc' ms' nL' : Nat} (hd : d' + 1 ≤ F.2.2.1) (hn : nL' ≤ 45) : (k_rm d' mc' ms').frames + 1 ≤ (g_R G).frames ∧ 8 + (nL' + 11) + (k_rm d' mc' ms').locals ≤ (g_R G).locals := by
  rw [C.2.2.2.2.2.2.2.2.1]
  unfold k_rm
  dsimp only
  omega
theorem k_fit (C : k_C Z G own cc F ret nm) {mc' ms' : Nat} (h1 : K.1 + mc' ≤ F.2.2.2.1) (h2 : K.2 + ms' ≤ F.2.2.2.2) : K.1 + mc' ≤ (g_R G).cells ∧ K.2 + ms' ≤ (g_R G).slots := by
  rw [C.2.2.2.2.2.2.2.2.1]
  exact ⟨h1, h2⟩
theorem k_recv (C : k_C Z G own cc F ret nm) {a kd n : Nat} {cn : String} {H : Heap} (hP : k_R F.1 Z M H) (hb : F.1 = true) (hk : k_st a = (kd, n)) (hkd : kd < 11) (hcn : ∀ r, vwCl[kd]? = some r → r.1 = cn) : ∃ cell : Cell, H[k_h Z + a]? = some cell ∧ cell.vm.isStatics = false ∧ (g_s G).vm.findClass cn = some cell.cls := by
  have hE := hP.1.2.2 a (k_lt hP hb hk (by omega))
  rw [k_E_st M hk (by omega), k_e_obj hkd] at hE
  obtain ⟨r, hr, cell, q1, q2, q3, -⟩ := hE
  refine ⟨cell, q1, by rw [q3]; rfl, ?_⟩
  rw [← hcn r hr, q2]
  exact ((k_K C).1 kd r hr).2.1
theorem x_callV (C : k_C Z G own cc F ret nm) {ρ' : Type} {em' : ρ' → Option Value} {y : MethodName} {c' : ByteArray} {nL' : Nat} {ret' : Option FieldType} {d' mc' ms' idx a kd n na : Nat} {vs : List Value} {o' : Option (ρ' × k_M)} {k : ρ' → k_M → Option (ρ × k_M)} (hb : F.1 = true) (hk : k_st a = (kd, n)) (hkd : kd < 11) (hcn : ∀ r, vwCl[kd]? = some r → r.1 = y.cls)
    (hM : Con F.1 Z G.2.1 y c' nL' ret' d' mc' ms' em' (k_ra Z a :: vs) M o') (hy : k_cy y c' nL' ret' na) (hl : k_lk own idx y) (hi : Cond.instanceMethod y ∈ lw_tbl) (hse : Cond.selects y.cls y y ∈ lw_tbl) (hd : d' + 1 ≤ F.2.2.1) (hn : nL' ≤ 45) (h1 : K.1 + mc' ≤ F.2.2.2.1) (h2 : K.2 + ms' ≤ F.2.2.2.2) (hna : vs.length = na) (hs : st = vs.reverse ++ k_ra Z a :: rest) (hr : (rest.map fun v => v.category).sum ≤ 8) (hdg : decode cc pc = .ok (.invokevirtual idx, 3))
    (kk : ∀ (r' : ρ') (M1 : k_M), Sm Z G em F (K.1 + mc', K.2 + ms') (pc + 3) lv ((em' r').toList ++ rest) M1 (k r' M1)) : Sm Z G em F K pc lv st M (bd o' k) := by
  refine x_run (b' := F.1) (rest := rest) (cas := (k_ra Z a :: vs).toArray) (fun r' M1 hq H locs ls hl' hP => ?_) (fun _ _ h => h) kk
  subst hs
  have hrm := k_room C (mc' := mc') (ms' := ms') hd hn
  rcases hl with hl | hl
  · exact va_runV (Ts := []) (own := own) (C := y.cls) (As := vs) (rest := rest) ⟨C.1, C.2.1, C.2.2.1, C.2.2.2.1, fun w h => by cases h⟩ (hM r' M1 hq) ⟨⟨rfl, rfl, hrm.1, hrm.2, k_code C hy.1, List.mem_singleton.mpr rfl, k_word C hy.1 rfl, k_word C hy.2.1 rfl, hy.2.2.1, k_ar hy.2.2.2, k_word C hl rfl⟩, k_word C hi rfl, k_word C hse rfl⟩ ⟨k_blind, k_recv C hP hb hk hkd hcn, k_pre C hP⟩ rfl hna hl'.1 rfl (lv_room hr) hdg (k_fit C h1 h2)
  · exact va_runVN (Ts := []) (own := own) (C := y.cls) (host := "WheelCity") (As := vs) (rest := rest) ⟨C.1, C.2.1, C.2.2.1, C.2.2.2.1, fun w h => by cases h⟩ (hM r' M1 hq) ⟨⟨⟨rfl, rfl, hrm.1, hrm.2, k_code C hy.1, List.mem_singleton.mpr rfl⟩, k_word C hy.1 rfl, k_word C hy.2.1 rfl, hy.2.2.1, k_ar hy.2.2.2, k_wordM C hl⟩, k_word C hi rfl, k_word C hse rfl⟩ ⟨k_blind, k_recv C hP hb hk hkd hcn, k_pre C hP⟩ rfl hna hl'.1 rfl (lv_room hr) hdg (k_fit C h1 h2)
theorem x_callS (C : k_C Z G own cc F ret nm) {ρ' : Type} {em' : ρ' → Option Value} {y : MethodName} {c' : ByteArray} {nL' : Nat} {ret' : Option FieldType} {d' mc' ms' idx na : Nat} {vs : List Value} {o' : Option (ρ' × k_M)} {k : ρ' → k_M → Option (ρ × k_M)}
    (hM : Con F.1 Z G.2.1 y c' nL' ret' d' mc' ms' em' vs M o') (hy : k_cy y c' nL' ret' na) (hl : k_lk own idx y) (hi : Cond.static y ∈ lw_tbl) (hd : d' + 1 ≤ F.2.2.1) (hn : nL' ≤ 45) (h1 : K.1 + mc' ≤ F.2.2.2.1) (h2 : K.2 + ms' ≤ F.2.2.2.2) (hna : vs.length = na) (hs : st = vs.reverse ++ rest) (hr : (rest.map fun v => v.category).sum ≤ 8) (hdg : decode cc pc = .ok (.invokestatic idx, 3))
    (kk : ∀ (r' : ρ') (M1 : k_M), Sm Z G em F (K.1 + mc', K.2 + ms') (pc + 3) lv ((em' r').toList ++ rest) M1 (k r' M1)) : Sm Z G em F K pc lv st M (bd o' k) := by
  refine x_run (b' := F.1) (rest := rest) (cas := vs.toArray) (fun r' M1 hq H locs ls hl' hP => ?_) (fun _ _ h => h) kk
  subst hs
  have hrm := k_room C (mc' := mc') (ms' := ms') hd hn
  rcases hl with hl | hl
  · exact va_runS (Ts := []) (own := own) (As := vs) (rest := rest) ⟨C.1, C.2.1, C.2.2.1, C.2.2.2.1, fun w h => by cases h⟩ (hM r' M1 hq) ⟨⟨rfl, rfl, hrm.1, hrm.2, k_code C hy.1, List.mem_singleton.mpr rfl, k_word C hy.1 rfl, k_word C hy.2.1 rfl, hy.2.2.1, k_ar hy.2.2.2, k_word C hl rfl⟩, k_word C hi rfl⟩ ⟨k_blind, k_pre C hP⟩ rfl hna hl'.1 rfl (lv_room hr) hdg (k_fit C h1 h2)
  · exact va_runSN (Ts := []) (own := own) (host := "WheelCity") (As := vs) (rest := rest) ⟨C.1, C.2.1, C.2.2.1, C.2.2.2.1, fun w h => by cases h⟩ (hM r' M1 hq) ⟨⟨⟨rfl, rfl, hrm.1, hrm.2, k_code C hy.1, List.mem_singleton.mpr rfl⟩, k_word C hy.1 rfl, k_word C hy.2.1 rfl, hy.2.2.1, k_ar hy.2.2.2, k_wordM C hl⟩, k_word C hi rfl, trivial⟩ ⟨k_blind, k_pre C hP⟩ rfl hna hl'.1 rfl (lv_room hr) hdg (k_fit C h1 h2)
theorem k_size {ls : Array Slot} (C : k_C Z G own cc F ret nm) (hl : lv_has ls F.2.1 lv) : (g_c G).maxLocals = ls.size := C.2.2.1.trans hl.1.symm
def mxI (x y : Int32) : Int32 := if x < y then y else x
def mnI (x y : Int32) : Int32 := if y < x then y else x
theorem x_max (C : k_C Z G own cc F ret nm) {idx : Nat} {x y : Int32} (hl : Cond.methodLink own idx Lib.Math.max.name ∈ lw_tbl) (h1 : 1 ≤ F.2.2.1) (hr : (rest.map fun v => v.category).sum ≤ 8) (h2 : K.1 ≤ F.2.2.2.1) (h3 : K.2 ≤ F.2.2.2.2) (hdg : decode cc pc = .ok (.invokestatic idx, 3)) (kk : Sm Z G em F K (pc + 3) lv (.int (mxI x y) :: rest) M o) : Sm Z G em F K pc lv (.int y :: .int x :: rest) M o := fun r M' ho H locs ls hl' hP hL =>
  va_mmax C.1 C.2.1 (k_size C hl') C.2.2.2.1 (k_word C hl rfl) (k_word C (by decide +kernel) rfl) (k_word C (by decide +kernel) rfl) (k_word C (by decide +kernel) rfl) (by rw [C.2.2.2.2.2.2.2.2.1]; exact h1) (by rw [C.2.2.2.2.2.2.2.2.1]; show _ ≤ 64 * _; omega) (by rw [C.2.2.2.2.2.2.2.2.1]; exact h2) (by rw [C.2.2.2.2.2.2.2.2.1]; exact h3) hdg (kk r M' ho H locs ls hl' hP hL)
theorem x_min (C : k_C Z G own cc F ret nm) {idx : Nat} {x y : Int32} (hl : Cond.methodLink own idx Lib.Math.min.name ∈ lw_tbl) (h1 : 1 ≤ F.2.2.1) (hr : (rest.map fun v => v.category).sum ≤ 8) (h2 : K.1 ≤ F.2.2.2.1) (h3 : K.2 ≤ F.2.2.2.2) (hdg : decode cc pc = .ok (.invokestatic idx, 3)) (kk : Sm Z G em F K (pc + 3) lv (.int (mnI x y) :: rest) M o) : Sm Z G em F K pc lv (.int y :: .int x :: rest) M o := fun r M' ho H locs ls hl' hP hL =>
  va_mmin C.1 C.2.1 (k_size C hl') C.2.2.2.1 (k_word C hl rfl) (k_word C (by decide +kernel) rfl) (k_word C (by decide +kernel) rfl) (k_word C (by decide +kernel) rfl) (by rw [C.2.2.2.2.2.2.2.2.1]; exact h1) (by rw [C.2.2.2.2.2.2.2.2.1]; show _ ≤ 64 * _; omega) (by rw [C.2.2.2.2.2.2.2.2.1]; exact h2) (by rw [C.2.2.2.2.2.2.2.2.1]; exact h3) hdg (kk r M' ho H locs ls hl' hP hL)
theorem x_ldc (C : k_C Z G own cc F ret nm) {idx : Nat} {v : Int32} (hc : Cond.constant own idx v ∈ lw_tbl) (hdg : decode cc pc = .ok (.ldc idx, 2)) (kk : Sm Z G em F K (pc + 2) lv (.int v :: st) M o) : Sm Z G em F K pc lv st M o := fun r M' ho H locs ls hl hP hL => lv_ldc C.1 C.2.1 C.2.2.2.1 (k_word C hc rfl) hdg (kk r M' ho H locs ls hl hP hL)
theorem x_ldcw (C : k_C Z G own cc F ret nm) {idx : Nat} {v : Int32} (hc : Cond.constant own idx v ∈ lw_tbl) (hdg : decode cc pc = .ok (.ldc_w idx, 3)) (kk : Sm Z G em F K (pc + 3) lv (.int v :: st) M o) : Sm Z G em F K pc lv st M o := fun r M' ho H locs ls hl hP hL => lv_ldcw C.1 C.2.1 C.2.2.2.1 (k_word C hc rfl) hdg (kk r M' ho H locs ls hl hP hL)
theorem x_ldc2 (C : k_C Z G own cc F ret nm) {idx : Nat} {v : Int64} (hc : Cond.constantLong own idx v ∈ lw_tbl) (hdg : decode cc pc = .ok (.ldc2_w idx, 3)) (kk : Sm Z G em F K (pc + 3) lv (.long v :: st) M o) : Sm Z G em F K pc lv st M o := fun r M' ho H locs ls hl hP hL => lv_ldc2 C.1 C.2.1 C.2.2.2.1 (k_word C hc rfl) hdg (kk r M' ho H locs ls hl hP hL)
def ushr (x y : Int32) : Int32 := (x.toUInt32 >>> (y.toUInt32 &&& Int32.toUInt32 31)).toInt32
def ushrL (x : Int64) (y : Int32) : Int64 := (x.toUInt64 >>> (y.toInt64.toUInt64 &&& Int64.toUInt64 63)).toInt64
theorem x_iushr (C : k_C Z G own cc F ret nm) {x y : Int32} (hdg : decode cc pc = .ok (.iushr, 1)) (kk : Sm Z G em F K (pc + 1) lv (.int (ushr x y) :: rest) M o) : Sm Z G em F K pc lv (.int y :: .int x :: rest) M o := fun r M' ho H locs ls hl hP hL => lv_iushr C.1 C.2.1 hdg rfl (kk r M' ho H locs ls hl hP hL)
theorem x_lushr (C : k_C Z G own cc F ret nm) {x : Int64} {y : Int32} (hdg : decode cc pc = .ok (.lushr, 1)) (kk : Sm Z G em F K (pc + 1) lv (.long (ushrL x y) :: rest) M o) : Sm Z G em F K pc lv (.int y :: .long x :: rest) M o := fun r M' ho H locs ls hl hP hL => lv_lushr C.1 C.2.1 hdg rfl (kk r M' ho H locs ls hl hP hL)
abbrev k_ta (Z : k_Z) (t : Nat) : Value := .ref (Z.2.2.2.1 t)
theorem x_gets (C : k_C Z G own cc F ret nm) {idx t : Nat} (ht : t < 4) (hl : Cond.fieldLink own idx (k_stN t).1 (k_stN t).2.1 "[I" ∈ lw_tbl ∨ Cond.fieldLinkNest own idx (k_stN t).1 (k_stN t).2.1 "[I" "WheelCity" ∈ lw_tbl) (hdg : decode cc pc = .ok (.getstatic idx, 3)) (kk : Sm Z G em F K (pc + 3) lv (k_ta Z t :: st) M o) : Sm Z G em F K pc lv st M o := by
  intro r M' ho H locs ls hl' hP hL
  have hZ := (C.2.2.2.2.2.2.2.2.2.2.2.1 t ht).1.moved C.2.2.2.2.1.alike
  obtain ⟨cf, kf, fi, f, a, cell, h1, h2, h3, h4, h5, h6, h7, h8⟩ := hZ
  have hcell : H[a]? = some cell := by rw [hP.1.2.1 a (Array.getElem?_eq_some_iff.mp h5).1]; exact h5
  rcases hl with hl | hl
  · exact W.gets C.1 C.2.1 C.2.2.2.1 (k_word C hl rfl) h1 h2 h3 h4 hcell (fun e => by rw [e] at h6; cases h6) h7 rfl hdg (kk r M' ho H locs ls hl' hP hL)
  · exact va_WgetsN C.1 C.2.1 C.2.2.2.1 (k_wordN C hl) h1 h2 h3 h4 hcell (fun e => by rw [e] at h6; cases h6) h7 rfl hdg (kk r M' ho H locs ls hl' hP hL)
theorem x_tald (C : k_C Z G own cc F ret nm) {t : Nat} {i : Int32} {k : Int32 → Option (ρ × k_M)} (ht : t < 4) (hdg : decode cc pc = .ok (.iaload, 1)) (kk : ∀ v : Int32, Sm Z G em F K (pc + 1) lv (.int v :: rest) M (k v)) : Sm Z G em F K pc lv (.int i :: k_ta Z t :: rest) M (rdT t i k) := by
  intro r M' ho H locs ls hl hP hL
  unfold rdT at ho
  by_cases hi : ix i (k_stN t).2.2 = true
  · rw [if_pos hi] at ho
    obtain ⟨cell, h1, h2, h3, h4, h5, h6, h7⟩ := (C.2.2.2.2.2.2.2.2.2.2.2.1 t ht).2.moved C.2.2.2.2.1.alike
    have hlt := ix_lt hi
    refine W.iald (v := .int ((k_stV t).getD i.toNatClampNeg 0)) C.1 C.2.1 (by rw [hP.1.2.1 _ (Array.getElem?_eq_some_iff.mp h1).1]; exact h1) h2 h3 ?_ (h6 _ hlt) rfl rfl hdg (kk _ r M' ho H locs ls hl hP hL)
    intro q
    rcases q with q | q
    · exact ix_in hi (Or.inl q)
    · omega
  · rw [if_neg hi] at ho; cases ho
theorem x_tlen (C : k_C Z G own cc F ret nm) {t : Nat} {v : Int32} (ht : t < 4) (hv : Int32.ofNat (k_stN t).2.2 = v) (hdg : decode cc pc = .ok (.arraylength, 1)) (kk : Sm Z G em F K (pc + 1) lv (.int v :: rest) M o) : Sm Z G em F K pc lv (k_ta Z t :: rest) M o := by
  intro r M' ho H locs ls hl hP hL
  obtain ⟨cell, h1, h2, h3, h4, h5, h6, h7⟩ := (C.2.2.2.2.2.2.2.2.2.2.2.1 t ht).2.moved C.2.2.2.2.1.alike
  exact W.alen C.1 C.2.1 (by rw [hP.1.2.1 _ (Array.getElem?_eq_some_iff.mp h1).1]; exact h1) h2 (h5.trans hv) rfl rfl hdg (kk r M' ho H locs ls hl hP hL)
end XC
/-- a contract out of a walk -/
theorem k_con {ρ : Type} {b : Bool} {Z : k_Z} {l : Launch} {y : MethodName} {cc : ByteArray} {nL : Nat} {ret : Option FieldType} {d mc ms : Nat} {em : ρ → Option Value} {vs : List Value} {M : k_M} {o : Option (ρ × k_M)} (hg : k_Gd Z) (hy : plainName y.cls = true) (hlen : (lg_sl vs).length ≤ nL)
    (h : ∀ G : k_G, G.2.1 = l → k_C Z G y.cls cc (b, nL, d, mc, ms) ret y.name → Sm Z G em (b, nL, d, mc, ms) (0, 0) 0 (lv_args 0 vs) [] M o) : Con b Z l y cc nL ret d mc ms em vs M o := by
  intro r M' ho
  refine Met.ofW (cc := cc) (maxL := nL) (ret := ret) hy rfl ?_
  intro p e s m args below meth c s₁ B hml hv
  obtain ⟨rfl, hW, hP⟩ := hv
  have hn := (name_of_methodNamed B.named B.method).1
  have hl := lv_entry vs (n := nL) hlen
  have key := h (p, l, e, k_rm d mc ms, s, m, vs.toArray, below, meth, c) rfl ⟨B.exec, B.bytes, hml, findClass_of_methodNamed B.named, hW, B.returns, B.notSynchronized, hn, rfl, hg⟩ r M' ho s.heap [] _ hl hP (fun q hq => by cases hq)
  rw [lg_entry_eq]
  exact key
end
section
/-! ===== worlds by their base, rows of references, copies ===== -/
theorem k_inU (ws : List Cond) (is : List Nat) (h : ws = is.filterMap (fun i => lw_tbl[i]?)) (hg : ws.all goodWord = true) : ∀ w ∈ ws, w ∈ lw_tbl ∧ goodWord w = true := by
  intro w hw
  refine ⟨?_, List.all_eq_true.mp hg w hw⟩
  rw [h] at hw
  obtain ⟨i, -, hi⟩ := List.mem_filterMap.mp hw
  exact List.mem_of_getElem? hi
def k_fu : Nat := 1000000000
def isW (w : Nat) : Prop := w = 3 ∨ w = 23 ∨ w = 43
theorem isW3 : isW 3 := Or.inl rfl
theorem isW23 : isW 23 := Or.inr (Or.inl rfl)
theorem isW43 : isW 43 := Or.inr (Or.inr rfl)
theorem kW {w : Nat} (j : Nat) {q : Nat × Nat} (hw : isW w) (h : k_tabW[j]? = some q) : k_st (w + j) = q := by
  have hj : j < 20 := (List.getElem?_eq_some_iff.mp h).1
  have key : ∀ j : Nat, j < 20 → some (k_st (3 + j)) = k_tabW[j]? ∧ some (k_st (23 + j)) = k_tabW[j]? ∧ some (k_st (43 + j)) = k_tabW[j]? := by decide +kernel
  have k3 := key j hj
  rw [h] at k3
  rcases hw with rfl | rfl | rfl
  · exact Option.some.inj k3.1
  · exact Option.some.inj k3.2.1
  · exact Option.some.inj k3.2.2
/-- a whole row written -/
def sIr (M : k_M) (a : Nat) (f : Nat → Int32) : k_M := (fun b => if b = a then f else M.1 b, M.2)
theorem sIr_at (M : k_M) (a : Nat) (f : Nat → Int32) : (sIr M a f).1 a = f := if_pos rfl
theorem sIr_ne (M : k_M) {a b : Nat} (f : Nat → Int32) (h : b ≠ a) : (sIr M a f).1 b = M.1 b := if_neg h
theorem k_E_sIr {Z : k_Z} (M : k_M) {a b : Nat} (f : Nat → Int32) (h : b ≠ a) : k_E Z (sIr M a f) b = k_E Z M b := by
  unfold k_E
  rw [sIr_ne M f h]
  rfl
def acp {β : Type} (M : k_M) (a0 n0 a n : Nat) (sp dp len : Int32) (k : k_M → Option β) : Option β := if (¬ sp < 0 ∧ ¬ dp < 0 ∧ ¬ len < 0) ∧ sp.toNatClampNeg + len.toNatClampNeg ≤ n0 ∧ dp.toNatClampNeg + len.toNatClampNeg ≤ n then k (sIr M a (va_cpy (M.1 a0) (M.1 a) sp.toNatClampNeg dp.toNatClampNeg len.toNatClampNeg)) else none
def rdR {β : Type} (M : k_M) (a n : Nat) (i : Int32) (k : Option Nat → Option β) : Option β := if ix i n = true then k (M.2.2.1 a i.toNatClampNeg) else none
def okR (M : k_M) (q : Option Nat) : Prop := ∀ r, q = some r → 105 ≤ r ∧ r < M.2.2.2
def okRb (M : k_M) (q : Option Nat) : Bool := match q with
  | none => true
  | some r => decide (105 ≤ r ∧ r < M.2.2.2)
def wrR {β : Type} (M : k_M) (a n : Nat) (i : Int32) (q : Option Nat) (k : k_M → Option β) : Option β := if (ix i n && okRb M q) = true then k (sR M a i.toNatClampNeg q) else none
def rdLL {β : Type} (a : Nat) (i : Int32) (k : Nat → Option β) : Option β := if ix i 4 = true then k (a + (i.toNatClampNeg + 1)) else none
section XM
variable {Z : k_Z} {G : k_G} {ρ : Type} {em : ρ → Option Value} {F : k_F} {K : Nat × Nat} {pc : Nat} {lv lv' : List (Nat × Value)} {st rest : List Value} {M : k_M} {o o2 : Option (ρ × k_M)} {own : String} {cc : ByteArray} {ret : Option FieldType} {nm : String}
theorem x_aald (C : k_C Z G own cc F ret nm) {a n : Nat} {i : Int32} {k : Option Nat → Option (ρ × k_M)} (hb : F.1 = true) (hk : k_st a = (13, n)) (hdg : decode cc pc = .ok (.aaload, 1)) (kk : ∀ v : Option Nat, Sm Z G em F K (pc + 1) lv (k_rn Z v :: rest) M (k v)) : Sm Z G em F K pc lv (.int i :: k_ra Z a :: rest) M (rdR M a n i k) := by
  intro r M' ho H locs ls hl hP hL
  unfold rdR at ho
  by_cases hi : ix i n = true
  · rw [if_pos hi] at ho
    have hE := hP.1.2.2 a (k_lt hP hb hk (by omega))
    rw [k_E_st M hk (by omega), k_e_rule] at hE
    have hlt := ix_lt hi
    exact W.aald (v := k_rn Z (M.2.2.1 a i.toNatClampNeg)) C.1 C.2.1 hE (((k_K C).2 2 _ rfl).1 n (fun j => va_rf ((M.2.2.1 a j).map (fun a => k_h Z + a)))) rfl (fun q => by cases q) (by show ¬ (i < 0 ∨ (arrV _ _ _).slots.size ≤ _); rw [arrV_size]; exact ix_in hi) (by show (arrV _ _ _).slots[_]? = _; rw [arrV_read _ _ hlt]; rfl) rfl rfl hdg (kk _ r M' ho H locs ls hl hP hL)
  · rw [if_neg hi] at ho; cases ho
theorem k_st_rows : ∀ j : Nat, j < 4 → k_st (66 + (j + 1)) = (12, 40) := by decide +kernel
theorem x_aall (C : k_C Z G own cc F ret nm) {i : Int32} {k : Nat → Option (ρ × k_M)} (hb : F.1 = true) (hdg : decode cc pc = .ok (.aaload, 1)) (kk : ∀ v : Nat, k_st v = (12, 40) → Sm Z G em F K (pc + 1) lv (k_ra Z v :: rest) M (k v)) : Sm Z G em F K pc lv (.int i :: k_ra Z 66 :: rest) M (rdLL 66 i k) := by
  intro r M' ho H locs ls hl hP hL
  unfold rdLL at ho
  by_cases hi : ix i 4 = true
  · rw [if_pos hi] at ho
    have hk : k_st 66 = (14, 4) := rfl
    have hE := hP.1.2.2 66 (k_lt hP hb hk (by omega))
    rw [k_E_st M hk (by omega), k_e_rows] at hE
    have hlt := ix_lt hi
    have e : (M.2.2.1 66 i.toNatClampNeg) = some (66 + (i.toNatClampNeg + 1)) := (hP.2 hb).1 66 14 4 _ _ hk (if_pos hlt)
    refine W.aald (v := k_ra Z (66 + (i.toNatClampNeg + 1))) C.1 C.2.1 hE (((k_K C).2 3 _ rfl).1 4 (fun j => va_rf ((M.2.2.1 66 j).map (fun a => k_h Z + a)))) rfl (fun q => by cases q) (by show ¬ (i < 0 ∨ (arrV _ _ _).slots.size ≤ _); rw [arrV_size]; exact ix_in hi) ?_ rfl rfl hdg (kk _ (k_st_rows _ hlt) r M' ho H locs ls hl hP hL)
    show (arrV _ _ _).slots[_]? = _
    rw [arrV_read _ _ hlt]
    show some (va_rf ((M.2.2.1 66 i.toNatClampNeg).map (fun a => k_h Z + a))) = _
    rw [e]
    rfl
  · rw [if_neg hi] at ho; cases ho
theorem k_Sh_sR {a n j : Nat} {v : Option Nat} (hk : k_st a = (13, n)) (h : k_Sh M) : k_Sh (sR M a j v) := by
  intro b kd n' j' o' h1 h2
  by_cases hb : b = a
  · subst hb
    rw [hk] at h1
    cases h1
    cases h2
  · rw [sR_ne M j v hb]
    exact h b kd n' j' o' h1 h2
/-- the class of a rule's cell, and that it may stand in a row of rules -/
theorem k_castR (C : k_C Z G own cc F ret nm) (t : Int32) : ∀ r, vwCl[k_tag t]? = some r → ∃ comp, (g_s G).vm.findClass "WheelCity$Rule" = some comp ∧ (g_s G).vm.assignable (Z.2.1.1 (k_tag t)) comp = true := by
  intro r hr
  have hcl := ((k_K C).1 _ r hr).2.1
  have key : Cond.castable r.1 "WheelCity$Rule" ∈ lw_tbl := by
    unfold k_tag at hr
    by_cases h1 : t = 1
    · rw [if_pos h1] at hr; cases hr; decide +kernel
    · rw [if_neg h1] at hr
      by_cases h2 : t = 2
      · rw [if_pos h2] at hr; cases hr; decide +kernel
      · rw [if_neg h2] at hr
        by_cases h3 : t = 3
        · rw [if_pos h3] at hr; cases hr; decide +kernel
        · rw [if_neg h3] at hr
          by_cases h4 : t = 4
          · rw [if_pos h4] at hr; cases hr; decide +kernel
          · rw [if_neg h4] at hr; cases hr; decide +kernel
  obtain ⟨A0, h⟩ := C.2.2.2.2.2.2.2.2.2.1
  obtain ⟨c0, t0, f1, f2, f3⟩ := Cond.castable_spec (va_Nw.use (A := #[]) rfl (va_Nw.warmC C.2.2.2.2.1 (va_Nw.of rfl (h _ key))))
  cases hcl.symm.trans f1
  exact ⟨t0, f2, f3⟩
theorem x_aast (C : k_C Z G own cc F ret nm) {a n : Nat} {i : Int32} {q : Option Nat} {k : k_M → Option (ρ × k_M)} (hb : F.1 = true) (hk : k_st a = (13, n)) (hdg : decode cc pc = .ok (.aastore, 1)) (kk : ∀ M1 : k_M, Sm Z G em F K (pc + 1) lv rest M1 (k M1)) : Sm Z G em F K pc lv (k_rn Z q :: .int i :: k_ra Z a :: rest) M (wrR M a n i q k) := by
  intro r M' ho H locs ls hl hP hL
  unfold wrR at ho
  by_cases hi2 : (ix i n && okRb M q) = true
  · rw [if_pos hi2] at ho
    simp only [Bool.and_eq_true] at hi2
    obtain ⟨hi, hq⟩ := hi2
    have hE := hP.1.2.2 a (k_lt hP hb hk (by omega))
    rw [k_E_st M hk (by omega), k_e_rule] at hE
    have hlt := ix_lt hi
    have fin : ∀ H' : Heap, H'[k_h Z + a]? = some ((vp_cell (Z.2.2.1 13) (n, .inr (.inr (.inr (.inr (fun j => (M.2.2.1 a j).map (fun a => k_h Z + a))))))).setSlot i.toNatClampNeg (k_rn Z q)) → H'.size = H.size → (∀ q, q ≠ k_h Z + a → H'[q]? = H[q]?) → W G.1 G.2.1 G.2.2.1 (g_R G) (g_s G) (g_m G) (g_a G) (g_b G) (g_t G) (g_c G) H' (locs ++ [⟨k_h Z + a, i.toNatClampNeg⟩]) K.1 K.2 (MQ (g_b G) (k_Qc F.1 Z em r M') (g_a G) (g_s G) F.2.2.2.1 F.2.2.2.2 (k_fr Z)) (F0 (g_m G) (pc + 1) ls rest) := by
      intro H1 e z oq
      refine kk _ r M' ho H1 _ ls hl ⟨k_upd hP.1 rfl z oq (fun k hk => k_E_sR M _ _ hk) ?_, fun hb => ⟨k_Sh_sR hk (hP.2 hb).1, (hP.2 hb).2⟩⟩ (k_lcs hL (Nat.le_add_right _ _))
      rw [k_E_st _ hk (by omega), k_e_rule, sR_at]
      show H1[k_h Z + a]? = some (vp_cell _ _)
      rw [e, vp_cell_q, vp_cell_q, arrV_store]
      congr 2
      funext j
      by_cases hj : j = i.toNatClampNeg
      · subst hj
        simp [updV, k_up, k_rn]
      · simp [updV, k_up, hj]
    cases q with
    | none =>
      exact va_WaastN (C := "WheelCity$Rule") C.1 C.2.1 hE (((k_K C).2 2 _ rfl).1 n (fun j => va_rf ((M.2.2.1 a j).map (fun a => k_h Z + a)))) (fun q => by cases q) (by show ¬ (i < 0 ∨ (arrV _ _ _).slots.size ≤ _); rw [arrV_size]; exact ix_in hi) rfl rfl hdg fin
    | some v =>
      have hv : 105 ≤ v ∧ v < M.2.2.2 := of_decide_eq_true hq
      have hEv := hP.1.2.2 v hv.2
      rw [k_E_rl M hv.1] at hEv
      obtain ⟨rv, hr, cv, g1, g2, g3, -⟩ := hEv
      obtain ⟨comp, c1, c2⟩ := k_castR C (M.1 v 3) rv hr
      obtain ⟨kA, comp', k1, k2, k3, -⟩ := ((k_K C).2 2 _ rfl).2
      have hcc : comp' = comp := Option.some.inj (k3.symm.trans c1)
      subst hcc
      obtain ⟨kC, hkC, -⟩ := ((k_K C).1 _ rv hr).2.2
      have h0 : ¬ i < 0 := fun q => ix_in hi (Or.inl q)
      obtain ⟨kcomp, hkcomp⟩ : ∃ kcomp, (g_s G).vm.classes[comp']? = some kcomp := by
        obtain ⟨p0, kq, kp, e1, e2, e3, -⟩ := Cond.superclass_spec (cls := "WheelCity$Camp") (sup := "WheelCity$Rule") ((k_K C).1 1 _ rfl).2.1 (k_word C (w := .superclass "WheelCity$Camp" "WheelCity$Rule") (by decide +kernel) rfl)
        cases k3.symm.trans e1
        exact ⟨kp, e3⟩
      exact W.aast C.1 C.2.1 hE (fun q h => by cases h) (fun h => by cases h) k1 k2 rfl hkcomp ⟨h0, by show _ < (arrV _ _ _).slots.size; rw [arrV_size]; exact hlt⟩ g1 (fun q h => by rw [g3] at h; cases h) (by rw [g2]; exact hkC) (by rw [g2]; exact c2) rfl rfl hdg fin
  · rw [if_neg hi2] at ho; cases ho
theorem k_nat (C : k_C Z G own cc F ret nm) (h1 : 1 ≤ F.2.2.1) (hr : (rest.map fun v => v.category).sum ≤ 8) : 2 * 0 + (rest.map fun v => v.category).sum + (nativeFrameWords "java/lang/System" "arraycopy" 5 + 11) ≤ (g_R G).locals := by
  rw [C.2.2.2.2.2.2.2.2.1]
  have h5 : nativeFrameWords "java/lang/System" "arraycopy" 5 ≤ 40 := by decide +kernel
  show _ ≤ 64 * _
  omega
theorem x_copy (C : k_C Z G own cc F ret nm) {idx a0 n0 a n : Nat} {sp dp len : Int32} {k : k_M → Option (ρ × k_M)} (hb : F.1 = true) (hk0 : k_st a0 = (11, n0)) (hk : k_st a = (11, n)) (hl0 : Cond.methodLink own idx arraycopyName ∈ lw_tbl) (h1 : 1 ≤ F.2.2.1) (hr : (rest.map fun v => v.category).sum ≤ 8) (hdg : decode cc pc = .ok (.invokestatic idx, 3)) (kk : ∀ M1 : k_M, Sm Z G em F K (pc + 3) lv rest M1 (k M1)) : Sm Z G em F K pc lv (.int len :: .int dp :: k_ra Z a :: .int sp :: k_ra Z a0 :: rest) M (acp M a0 n0 a n sp dp len k) := by
  intro r M' ho H locs ls hl hP hL
  unfold acp at ho
  by_cases hc : (¬ sp < 0 ∧ ¬ dp < 0 ∧ ¬ len < 0) ∧ sp.toNatClampNeg + len.toNatClampNeg ≤ n0 ∧ dp.toNatClampNeg + len.toNatClampNeg ≤ n
  · rw [if_pos hc] at ho
    obtain ⟨⟨p1, p2, p3⟩, p4, p5⟩ := hc
    have hE0 := hP.1.2.2 a0 (k_lt hP hb hk0 (by omega))
    rw [k_E_st M hk0 (by omega), k_e_int] at hE0
    have hE := hP.1.2.2 a (k_lt hP hb hk (by omega))
    rw [k_E_st M hk (by omega), k_e_int] at hE
    have nn : ∀ z : Int32, ¬ z < 0 → z.toInt = (z.toNatClampNeg : Int) := by
      intro z hz
      have hz0 : (0 : Int) ≤ z.toInt := by
        have := Int32.not_lt.mp hz
        simpa using Int32.le_iff_toInt_le.mp this
      show z.toInt = ((z.toInt.toNat : Nat) : Int)
      omega
    have hK := k_K C
    intro T hT X
    have hc0 : H[k_h Z + a0]? = some (vp_cell (Z.2.2.1 11) (n0, .inl (M.1 a0))) := hE0
    have hc1 : H[k_h Z + a]? = some (vp_cell (Z.2.2.1 11) (n, .inl (M.1 a))) := hE
    obtain ⟨-, k0, hk0', cm0, hkk0⟩ := (hK.2 0 _ rfl).1 n0 (fun j => .int (M.1 a0 j))
    obtain ⟨vm', X', step⟩ := X.arraycopy C.1 C.2.2.2.1 (k_word C hl0 rfl) (k_word C (w := .native arraycopyName) (by decide +kernel) rfl) (k_word C (w := .static arraycopyName) (by decide +kernel) rfl) (k_word C (w := .initialized "java/lang/System") (by decide +kernel) rfl) (src := k_h Z + a0) (dst := k_h Z + a) (cs := vp_cell (Z.2.2.1 11) (n0, .inl (M.1 a0))) (cd := vp_cell (Z.2.2.1 11) (n, .inl (M.1 a))) (srcPos := sp) (destPos := dp) (n := len) (by rw [hT]; exact hc0) (by rw [hT]; exact hc1)
      (fun _ h => by cases h) (fun _ h => by cases h) (fun h => by cases h) (fun h => by cases h) hk0' hk0' hkk0 hkk0 (by simp [refKind]) p1 p2 p3
      (by rw [nn sp p1, nn len p3]; show ¬ _ > ((arrV _ n0 (fun j => .int (M.1 a0 j))).slots.size : Int); rw [arrV_size]; omega)
      (by rw [nn dp p2, nn len p3]; show ¬ _ > ((arrV _ n (fun j => .int (M.1 a j))).slots.size : Int); rw [arrV_size]; omega)
      (fun vm₁ _ i hi => by
        have e : (vp_cell (Z.2.2.1 11) (n0, .inl (M.1 a0))).slots.getD (sp.toNatClampNeg + i) .null = .int (M.1 a0 (sp.toNatClampNeg + i)) := by
          show (arrV (Z.2.2.1 11) n0 (fun j => .int (M.1 a0 j))).slots.getD _ _ = _
          rw [Array.getD_eq_getD_getElem?, arrV_read _ _ (by omega)]
          rfl
        refine ⟨?_, ?_⟩
        · rw [e]
          rfl
        · rw [e]
          exact trivial)
      (g := F0 (g_m G) pc ls (.int len :: .int dp :: k_ra Z a :: .int sp :: k_ra Z a0 :: rest)) rfl (by rw [k_size C hl]) (rest := rest) rfl (by rw [C.2.1]; exact hdg) (by rw [C.2.2.2.2.2.2.2.2.1]; exact h1) (k_nat C h1 hr)
    have e1 : copied (vp_cell (Z.2.2.1 11) (n0, .inl (M.1 a0))) (vp_cell (Z.2.2.1 11) (n, .inl (M.1 a))) sp dp len = vp_cell (Z.2.2.1 11) (n, .inl (va_cpy (M.1 a0) (M.1 a) sp.toNatClampNeg dp.toNatClampNeg len.toNatClampNeg)) := va_copied (fun z => .int z) _ _ (M.1 a0) (M.1 a) p4
    rw [e1] at X' step
    have hlz : k_h Z + a < H.size := (Array.getElem?_eq_some_iff.mp hc1).1
    generalize hcell : vp_cell (Z.2.2.1 11) (n, .inl (va_cpy (M.1 a0) (M.1 a) sp.toNatClampNeg dp.toNatClampNeg len.toNatClampNeg)) = cell at X' step
    have hheap : ((T.setVm vm').setCell (k_h Z + a) cell).heap = H.setIfInBounds (k_h Z + a) cell := by rw [← hT]; rfl
    have oq : ∀ q : Nat, q ≠ k_h Z + a → (H.setIfInBounds (k_h Z + a) cell)[q]? = H[q]? := fun q hq => by simp [Array.getElem?_setIfInBounds, Ne.symm hq]
    obtain ⟨t, a1, b1⟩ := kk _ r M' ho _ _ ls hl ⟨k_upd hP.1 rfl (by simp) oq (fun k hk => k_E_sIr M _ hk) (by
        rw [k_E_st _ hk (by omega), k_e_int, sIr_at]
        show (H.setIfInBounds (k_h Z + a) cell)[k_h Z + a]? = some (vp_cell _ _)
        rw [hcell]
        simp [Array.getElem?_setIfInBounds, hlz]), hP.2⟩ (fun q hq => by
        rcases List.mem_append.mp hq with h | h
        · exact hL q h
        · obtain ⟨z, -, hz⟩ := List.mem_map.mp h
          rw [← hz]
          exact Nat.le_add_right _ _) _ hheap X'
    exact ⟨t, step t a1, b1⟩
  · rw [if_neg hc] at ho; cases ho
end XM
end
section
/-! ===== rules as objects: made, asked, told apart ===== -/
/-- a new rule of the kind t behind all cells -/
def aRl (M : k_M) (t : Int32) : k_M := (fun b => if b = M.2.2.2 then (fun j => if j = 3 then t else 0) else M.1 b, M.2.1, M.2.2.1, M.2.2.2 + 1)
def nwR {β : Type} (M : k_M) (t : Int32) (k : Nat → k_M → Option β) : Option β := k M.2.2.2 (aRl M t)
def pFR {β : Type} (M : k_M) (a j : Nat) (v : Int32) (k : k_M → Option β) : Option β := if 105 ≤ a ∧ a < M.2.2.2 then k (sI M a j v) else none
def isRl {β : Type} (M : k_M) (a : Nat) (k : Option β) : Option β := if 105 ≤ a ∧ a < M.2.2.2 then k else none
theorem k_tag_fty (t : Int32) : k_fty (k_tag t) = [0, 0, 0] := by
  unfold k_tag
  repeat' split
  all_goals rfl
theorem k_tag5 {P : Nat → Prop} (t : Int32) (h1 : P 1) (h2 : P 4) (h3 : P 3) (h4 : P 0) (h5 : P 6) : P (k_tag t) := by
  unfold k_tag
  split
  · exact h1
  · split
    · exact h2
    · split
      · exact h3
      · split
        · exact h4
        · exact h5
section XO
variable {Z : k_Z} {G : k_G} {ρ : Type} {em : ρ → Option Value} {F : k_F} {K : Nat × Nat} {pc : Nat} {lv lv' : List (Nat × Value)} {st rest : List Value} {M : k_M} {o o2 : Option (ρ × k_M)} {own : String} {cc : ByteArray} {ret : Option FieldType} {nm : String}
theorem x_isRl {a : Nat} (kk : 105 ≤ a → a < M.2.2.2 → Sm Z G em F K pc lv st M o) : Sm Z G em F K pc lv st M (isRl M a o) := by
  intro r M' ho
  unfold isRl at ho
  by_cases hc : 105 ≤ a ∧ a < M.2.2.2
  · rw [if_pos hc] at ho
    exact kk hc.1 hc.2 r M' ho
  · rw [if_neg hc] at ho; cases ho
theorem x_newR (C : k_C Z G own cc F ret nm) {idx : Nat} {t : Int32} {r : vw_C} {ty : Nat → FieldType} {k : Nat → k_M → Option (ρ × k_M)} (hb : F.1 = true) (hr : vwCl[k_tag t]? = some r) (h3 : r.2.2 = 3) (hty : ∀ k, k < r.2.2 → parseFieldDescriptor (r.2.1 k).2.2.1 = some (ty k)) (hdf : ∀ j, j < 3 → defaultValue (ty j) = .int 0) (hws : ∀ w ∈ u_ws r.1 r.2.1 r.2.2, w ∈ lw_tbl ∧ goodWord w = true) (hcl : Cond.classLink own idx r.1 ∈ lw_tbl) (hin : Cond.instantiable r.1 3 ∈ lw_tbl) (hini : Cond.initialized r.1 ∈ lw_tbl) (h1 : K.1 + 1 ≤ F.2.2.2.1) (h2 : K.2 + 3 ≤ F.2.2.2.2) (hdg : decode cc pc = .ok (.new idx, 3)) (kk : ∀ (q : Nat) (M1 : k_M), Sm Z G em F (K.1 + 1, K.2 + 3) (pc + 3) lv (k_ra Z q :: st) M1 (k q M1)) : Sm Z G em F K pc lv st M (nwR M t k) := by
  intro r' M' ho H locs ls hl hP hL
  have hKn := (k_K C).1 _ _ hr
  have hts : ∀ w ∈ u_ws r.1 r.2.1 r.2.2, w.before (g_a G) (g_s G) = true := fun w hw => k_word C (hws w hw).1 (hws w hw).2
  have hn := (hP.2 hb).2
  refine W.newcK C.1 C.2.1 C.2.2.2.1 (k_word C hcl rfl) (k_word C hin rfl) (k_word C hini rfl) rfl hdg (by rw [C.2.2.2.2.2.2.2.2.1]; exact h1) (by rw [C.2.2.2.2.2.2.2.2.1]; exact h2) hKn.2.1 hP.1.1 fun H1 kC hkC e1 z1 o1 => ?_
  refine kk M.2.2.2 (aRl M t) r' M' ho H1 locs ls hl ⟨⟨?_, fun q hq => (o1 q (by omega)).trans (hP.1.2.1 q hq), fun k hk => ?_⟩, fun hb => ⟨(hP.2 hb).1, Nat.le_succ_of_le (hP.2 hb).2⟩⟩ hL
  · show H1.size = k_h Z + (M.2.2.2 + 1)
    omega
  · have hk' : k < M.2.2.2 + 1 := hk
    by_cases hkn : k = M.2.2.2
    · subst hkn
      have e3 : (aRl M t).1 M.2.2.2 = fun j => if j = 3 then t else 0 := if_pos rfl
      have eE : k_E Z (aRl M t) M.2.2.2 = .inr (k_tag t, [.int 0, .int 0, .int 0]) := by
        rw [k_E_rl _ hn, e3]
        rfl
      rw [eE]
      refine ⟨r, hr, (u_born ty hts (fun w h => h) hKn hkC e1 hty).to (fun j hj => ?_)⟩
      rw [h3] at hj
      show defaultValue (ty j) = _
      rw [hdf j hj]
      match j, hj with
      | 0, _ => rfl
      | 1, _ => rfl
      | 2, _ => rfl
    · have e4 : k_E Z (aRl M t) k = k_E Z M k := by
        unfold k_E
        rw [show (aRl M t).1 k = M.1 k from if_neg hkn]
        rfl
      rw [e4]
      have hlt : k < M.2.2.2 := by omega
      exact (hP.1.2.2 k hlt).kept (o1 _ (by show k_h Z + k < _; omega))
theorem x_objI (C : k_C Z G own cc F ret nm) {idx a : Nat} (hl0 : Cond.methodLink own idx objectInit ∈ lw_tbl) (h1 : 1 ≤ F.2.2.1) (hr : (rest.map fun v => v.category).sum ≤ 8) (hdg : decode cc pc = .ok (.invokespecial idx, 3)) (kk : Sm Z G em F K (pc + 3) lv rest M o) : Sm Z G em F K pc lv (.ref a :: rest) M o := fun r M' ho H locs ls hl hP hL =>
  W.objInit C.1 C.2.1 C.2.2.2.1 (k_word C hl0 rfl) (k_word C (w := .instanceMethod objectInit) (by decide +kernel) rfl) (k_word C (w := .code objectInit ⟨#[0xb1]⟩ 1 none) (by decide +kernel) rfl) rfl (by show ls.size = _; rw [C.2.2.1]; exact hl.1) rfl hdg (by rw [C.2.2.2.2.2.2.2.2.1]; exact h1) (by rw [C.2.2.2.2.2.2.2.2.1]; show 2 * 0 + _ + 12 ≤ 64 * _; omega) (kk r M' ho H locs ls hl hP hL)
/-- a final field of a rule, told in its constructor -/
theorem x_putFR (C : k_C Z G own cc F ret nm) {a idx j : Nat} {v : Int32} {k : k_M → Option (ρ × k_M)} (hj : j < 3) (hnm : nm = "<init>") (hF : ∀ t : Int32, k_FL own idx (k_tag t) j) (hN : ∀ t : Int32, k_tbs (k_tag t)) (hT : ∀ t : Int32, ∀ r, vwCl[k_tag t]? = some r → ((r.2.1 j).2.2.2 = true ∧ (r.2.1 j).1 = own) ∧ parseFieldDescriptor (r.2.1 j).2.2.1 = some .int) (hlk : ∀ t : Int32, ∀ r, vwCl[k_tag t]? = some r → Cond.fieldLink own idx (r.2.1 j).1 (r.2.1 j).2.1 (r.2.1 j).2.2.1 ∈ lw_tbl) (hdg : decode cc pc = .ok (.putfield idx, 3)) (kk : ∀ M1 : k_M, Sm Z G em F K (pc + 3) lv rest M1 (k M1)) : Sm Z G em F K pc lv (.int v :: k_ra Z a :: rest) M (pFR M a j v k) := by
  intro r' M' ho H locs ls hl hP hL
  unfold pFR at ho
  by_cases hc : 105 ≤ a ∧ a < M.2.2.2
  · rw [if_pos hc] at ho
    have hE := hP.1.2.2 a hc.2
    rw [k_E_rl M hc.1] at hE
    obtain ⟨r, hr, cell, q1, q2, q3, q4⟩ := hE
    obtain ⟨r2, ref, hr2, hj2, hws, -, -⟩ := hF (M.1 a 3)
    have hrr : r2 = r := Option.some.inj (hr2.symm.trans hr)
    subst hrr
    obtain ⟨⟨hfin, hdecl⟩, hd⟩ := hT _ _ hr
    obtain ⟨⟨ty0, hty⟩, hnmm⟩ := hN _ _ hr
    have hK := k_K C
    have hts : ∀ w ∈ u_ws r2.1 r2.2.1 r2.2.2, w.before (g_a G) (g_s G) = true := fun w hw => k_word C (hws w hw).1 (hws w hw).2
    have hin : ∀ w ∈ u_ws r2.1 r2.2.1 r2.2.2, w ∈ u_ws r2.1 r2.2.1 r2.2.2 := fun w h => h
    have hP1 : va_P Z.2.1 vwCl [(k_h Z + a, .inr (k_tag (M.1 a 3), k_fl (k_h Z) (M.1 a) (M.2.1 a) (M.2.2.1 a) 0 [0, 0, 0]))] H := fun k q hq => by
      have hz : k < 1 := (List.getElem?_eq_some_iff.mp hq).1
      rw [show k = 0 by omega] at hq
      cases hq
      exact ⟨r2, hr, cell, q1, q2, q3, q4⟩
    have hap := va_apart (own := own) hts hin ty0 hty hnmm hK hr
    obtain ⟨hS, hfc, kC, hkC, hkind⟩ := hK.1 _ _ hr
    obtain ⟨cf, kf, fi0, f, hi, hsl⟩ := hS j hj2
    have hst := (u_facts hfc hkC (u_lays hts hin hj2) hi).1
    have hcf : (g_m G).cls = cf := by
      have hlay := hts _ (hin _ (u_in_lay hj2))
      unfold u_lay at hlay
      rw [if_pos hfin] at hlay
      obtain ⟨_, _, c', _, _, _, -, -, hf', -, -, -, hown2, -⟩ := Cond.laysFinal_spec hlay
      have e1 : c' = cf := by have := hi.symm.trans hf'; simp at this; exact this.1.symm
      rw [hdecl] at hown2
      rw [← e1]; exact Option.some.inj (C.2.2.2.1.symm.trans hown2)
    have hstore : narrow f.type (.int v) = .int v ∧ (g_s G).fitsSlot cell.cls .none f.slot (.int v) = true := by
      rw [q2]
      exact u_fits hfc hkC hkind (u_lays hts hin hj2) hi hd rfl rfl
    have hset : (k_fl (k_h Z) (M.1 a) (M.2.1 a) (M.2.2.1 a) 0 [0, 0, 0]).set j (.int v) = k_fl (k_h Z) (k_up (M.1 a) j v) (M.2.1 a) (M.2.2.1 a) 0 [0, 0, 0] := k_fl_set (h := k_h Z) [0, 0, 0] 0 j 0 (.int v) (by match j, hj with | 0, _ => rfl | 1, _ => rfl | 2, _ => rfl) (fun i hi => k_up_ne _ _ (by omega)) (fun _ _ => rfl) (fun _ _ => rfl) (by unfold k_fv; rw [if_pos rfl, Nat.zero_add, k_up_self])
    refine W.putFinK C.1 C.2.1 C.2.2.2.1 (k_word C (hlk _ _ hr) rfl) hi hst hcf (by rw [C.2.2.2.2.2.2.2.1]; exact hnm) hstore q1 q3 (by rw [hsl]; exact k2_hasslot (q4 j hj2)) rfl rfl hdg fun H1 e1 e2 e3 => ?_
    rw [hsl] at e1
    refine kk _ r' M' ho H1 _ ls hl ⟨k_upd hP.1 rfl e2 e3 (fun k hk => k_E_sI M _ _ hk) ?_, hP.2⟩ (k_lcs hL (Nat.le_add_right _ _))
    rw [k_E_rl _ hc.1, sI_at]
    have e3' : k_up (M.1 a) j v 3 = M.1 a 3 := k_up_ne _ _ (by omega)
    rw [e3']
    refine ⟨r2, hr, ?_⟩
    show t_OB _ _ _ _ _ (vp_V (k_fl (k_h Z) (k_up (M.1 a) j v) (M.2.1 a) (M.2.2.1 a) 0 [0, 0, 0]))
    rw [← hset]
    exact t_OB.to (V := updV (vp_V (k_fl (k_h Z) (M.1 a) (M.2.1 a) (M.2.2.1 a) 0 [0, 0, 0])) j (.int v)) ⟨_, e1, q2, q3, t_set q4 hap hj2 (.int v)⟩ (fun i _ => vp_updV_set (by rw [k_fl_len]; exact hj) (.int v) i)
  · rw [if_neg hc] at ho; cases ho
theorem x_callI (C : k_C Z G own cc F ret nm) {ρ' : Type} {em' : ρ' → Option Value} {y : MethodName} {c' : ByteArray} {nL' : Nat} {d' mc' ms' idx b na : Nat} {vs : List Value} {o' : Option (ρ' × k_M)} {k : ρ' → k_M → Option (ρ × k_M)}
    (hM : Con F.1 Z G.2.1 y c' nL' none d' mc' ms' em' (.ref b :: vs) M o') (hy : k_cy y c' nL' none na) (hl : k_lk own idx y) (hi : Cond.instanceMethod y ∈ lw_tbl) (hyn : y.name = "<init>") (hd : d' + 1 ≤ F.2.2.1) (hn : nL' ≤ 45) (h1 : K.1 + mc' ≤ F.2.2.2.1) (h2 : K.2 + ms' ≤ F.2.2.2.2) (hna : vs.length = na) (hs : st = vs.reverse ++ .ref b :: rest) (hr : (rest.map fun v => v.category).sum ≤ 8) (hdg : decode cc pc = .ok (.invokespecial idx, 3))
    (kk : ∀ (r' : ρ') (M1 : k_M), Sm Z G em F (K.1 + mc', K.2 + ms') (pc + 3) lv ((em' r').toList ++ rest) M1 (k r' M1)) : Sm Z G em F K pc lv st M (bd o' k) := by
  refine x_run (b' := F.1) (rest := rest) (cas := (.ref b :: vs).toArray) (fun r' M1 hq H locs ls hl' hP => ?_) (fun _ _ h => h) kk
  subst hs
  have hrm := k_room C (mc' := mc') (ms' := ms') hd hn
  rcases hl with hl | hl
  · exact va_runI (Ts := []) (own := own) (As := vs) (rest := rest) ⟨C.1, C.2.1, C.2.2.1, C.2.2.2.1, fun w h => by cases h⟩ (hM r' M1 hq) ⟨⟨rfl, rfl, hrm.1, hrm.2, k_code C hy.1, List.mem_singleton.mpr rfl, k_word C hy.1 rfl, k_word C hy.2.1 rfl, hy.2.2.1, k_ar hy.2.2.2, k_word C hl rfl⟩, hyn, k_word C hi rfl⟩ ⟨k_blind, k_pre C hP⟩ rfl hna hl'.1 rfl (lv_room hr) hdg (k_fit C h1 h2)
  · exact va_runIN (Ts := []) (own := own) (host := "WheelCity") (As := vs) (rest := rest) ⟨C.1, C.2.1, C.2.2.1, C.2.2.2.1, fun w h => by cases h⟩ (hM r' M1 hq) ⟨⟨⟨rfl, rfl, hrm.1, hrm.2, k_code C hy.1, List.mem_singleton.mpr rfl⟩, k_word C hy.1 rfl, k_word C hy.2.1 rfl, hy.2.2.1, k_ar hy.2.2.2, k_wordM C hl⟩, hyn, k_word C hi rfl⟩ ⟨k_blind, k_pre C hP⟩ rfl hna hl'.1 rfl (lv_room hr) hdg (k_fit C h1 h2)
/-- the cell of a rule as a receiver -/
theorem k_recvR (C : k_C Z G own cc F ret nm) {a : Nat} {H : Heap} (hP : k_R F.1 Z M H) (ha : 105 ≤ a) (hlt : a < M.2.2.2) {r : vw_C} (hr : vwCl[k_tag (M.1 a 3)]? = some r) : ∃ cell : Cell, H[k_h Z + a]? = some cell ∧ cell.vm.isStatics = false ∧ (g_s G).vm.findClass r.1 = some cell.cls := by
  have hE := hP.1.2.2 a hlt
  rw [k_E_rl M ha] at hE
  obtain ⟨r', hr', cell, q1, q2, q3, -⟩ := hE
  have hrr : r' = r := Option.some.inj (hr'.symm.trans hr)
  subst hrr
  exact ⟨cell, q1, by rw [q3]; rfl, by rw [q2]; exact ((k_K C).1 _ _ hr).2.1⟩
/-- a call to a rule's method by the class of the rule -/
theorem x_callD (C : k_C Z G own cc F ret nm) {ρ' : Type} {em' : ρ' → Option Value} {x y : MethodName} {c' : ByteArray} {nL' : Nat} {ret' : Option FieldType} {d' mc' ms' idx a na : Nat} {vs : List Value} {o' : Option (ρ' × k_M)} {k : ρ' → k_M → Option (ρ × k_M)} {r : vw_C} {owner : String} (ha : 105 ≤ a) (hlt : a < M.2.2.2) (hr0 : vwCl[k_tag (M.1 a 3)]? = some r)
    (hM : Con F.1 Z G.2.1 y c' nL' ret' d' mc' ms' em' (k_ra Z a :: vs) M o') (hy : k_cy y c' nL' ret' na) (hl : Cond.methodLink own idx x ∈ lw_tbl) (hsm : Cond.sameMethod x.cls owner x.name x.desc ∈ lw_tbl) (hdc : va_Decl (g_s G) ⟨owner, x.name, x.desc⟩) (ho1 : owner ≠ "java/lang/invoke/MethodHandle" ∧ owner ≠ "java/lang/invoke/VarHandle") (hxd : x.desc = y.desc) (hse : Cond.selects r.1 x y ∈ lw_tbl) (hi : Cond.instanceMethod y ∈ lw_tbl) (hd : d' + 1 ≤ F.2.2.1) (hn : nL' ≤ 45) (h1 : K.1 + mc' ≤ F.2.2.2.1) (h2 : K.2 + ms' ≤ F.2.2.2.2) (hna : vs.length = na) (hs : st = vs.reverse ++ k_ra Z a :: rest) (hr : (rest.map fun v => v.category).sum ≤ 8) (hdg : decode cc pc = .ok (.invokevirtual idx, 3))
    (kk : ∀ (r' : ρ') (M1 : k_M), Sm Z G em F (K.1 + mc', K.2 + ms') (pc + 3) lv ((em' r').toList ++ rest) M1 (k r' M1)) : Sm Z G em F K pc lv st M (bd o' k) := by
  refine x_run (b' := F.1) (rest := rest) (cas := (k_ra Z a :: vs).toArray) (fun r' M1 hq H locs ls hl' hP => ?_) (fun _ _ h => h) kk
  subst hs
  have hrm := k_room C (mc' := mc') (ms' := ms') hd hn
  exact va_runU (Ts := []) (own := own) (C := r.1) (owner := owner) (x := x) (As := vs) (rest := rest) ⟨C.1, C.2.1, C.2.2.1, C.2.2.2.1, fun w h => by cases h⟩ (hM r' M1 hq) ⟨⟨rfl, rfl, hrm.1, hrm.2, k_code C hy.1, List.mem_singleton.mpr rfl⟩, k_word C hy.1 rfl, k_word C hy.2.1 rfl, ho1, by rw [hxd]; exact k_ar hy.2.2.2, k_word C hl rfl, k_word C hsm rfl, hdc, k_word C hse rfl, k_word C hi rfl⟩ ⟨k_blind, k_recvR C hP ha hlt hr0, k_pre C hP⟩ rfl hna hl'.1 rfl (lv_room hr) hdg (k_fit C h1 h2)
theorem k_decl (C : k_C Z G own cc F ret nm) {x : MethodName} (hw : Cond.declares x ∈ lw_tbl) : va_Decl (g_s G) x := by
  obtain ⟨A0, h⟩ := C.2.2.2.2.2.2.2.2.2.1
  exact va_Decl.abs (va_Nw.warmD C.2.2.2.2.1 (va_Nw.of rfl (h _ hw)))
theorem k_declI (C : k_C Z G own cc F ret nm) {x : MethodName} {b : ByteArray} {n : Nat} {rt : Option FieldType} (hw : Cond.instanceMethod x ∈ lw_tbl) (hc : Cond.code x b n rt ∈ lw_tbl) : va_Decl (g_s G) x := va_Decl.of (k_word C hw rfl) (k_word C hc rfl)
/-- a call to what the class above has; x: as it is named, y: whose code it is -/
theorem x_callSU (C : k_C Z G own cc F ret nm) {ρ' : Type} {em' : ρ' → Option Value} {x y : MethodName} {c' : ByteArray} {nL' : Nat} {ret' : Option FieldType} {d' mc' ms' idx a na : Nat} {vs : List Value} {o' : Option (ρ' × k_M)} {k : ρ' → k_M → Option (ρ × k_M)} (ha : 105 ≤ a) (hlt : a < M.2.2.2)
    (hM : Con F.1 Z G.2.1 y c' nL' ret' d' mc' ms' em' (k_ra Z a :: vs) M o') (hy : k_cy y c' nL' ret' na) (hyx : y.name = x.name ∧ y.desc = x.desc) (hl : Cond.methodLink own idx x ∈ lw_tbl) (hsm : Cond.sameMethod x.cls y.cls x.name x.desc ∈ lw_tbl) (hsup : Cond.superclass own x.cls ∈ lw_tbl) (hsub : x.cls = y.cls ∨ Cond.superclass x.cls y.cls ∈ lw_tbl) (hno : x.name ≠ "<init>") (hi : Cond.instanceMethod y ∈ lw_tbl) (hd : d' + 1 ≤ F.2.2.1) (hn : nL' ≤ 45) (h1 : K.1 + mc' ≤ F.2.2.2.1) (h2 : K.2 + ms' ≤ F.2.2.2.2) (hna : vs.length = na) (hs : st = vs.reverse ++ k_ra Z a :: rest) (hr : (rest.map fun v => v.category).sum ≤ 8) (hdg : decode cc pc = .ok (.invokespecial idx, 3))
    (kk : ∀ (r' : ρ') (M1 : k_M), Sm Z G em F (K.1 + mc', K.2 + ms') (pc + 3) lv ((em' r').toList ++ rest) M1 (k r' M1)) : Sm Z G em F K pc lv st M (bd o' k) := by
  refine x_run (b' := F.1) (rest := rest) (cas := (k_ra Z a :: vs).toArray) (fun r' M1 hq H locs ls hl' hP => ?_) (fun _ _ h => h) kk
  subst hs
  have hrm := k_room C (mc' := mc') (ms' := ms') hd hn
  have hinst := k_word C hi rfl
  have hcode := k_word C hy.1 rfl
  have hini := k_word C hy.2.1 rfl
  obtain ⟨mk, methM, hnamed, hmethM, hstM, habM⟩ := Cond.instanceMethod_spec hinst
  obtain ⟨methM', cM, hmethM', -, -, -, -, -, -, hsigM⟩ := Cond.code_spec hnamed hcode
  cases hmethM.symm.trans hmethM'
  obtain ⟨ps, dk, kp, hps, hdk, hkp, hsuper, -, -, hnid⟩ := Cond.superclass_spec C.2.2.2.1 (k_word C hsup rfl)
  have hcm := findClass_of_methodNamed hnamed
  have hsub' : (g_s G).vm.isSubclass ps mk.cls = true := by
    rcases hsub with e | h
    · rw [e] at hps
      have hpm : ps = mk.cls := Option.some.inj (hps.symm.trans hcm)
      rw [hpm]; simp [Vm.isSubclass, Vm.isSubclassAux]
    · obtain ⟨p2, k2, kp2, e1, e2, e3, e4, -⟩ := Cond.superclass_spec hps (k_word C h rfl)
      have hpm : p2 = mk.cls := Option.some.inj (e1.symm.trans hcm)
      have hsz : p2 < (g_s G).vm.classes.size := (Array.getElem?_eq_some_iff.mp e3).1
      obtain ⟨n, hn1⟩ := Nat.exists_eq_succ_of_ne_zero (Nat.ne_of_gt (Nat.lt_of_le_of_lt (Nat.zero_le p2) hsz))
      rw [← hpm]
      simp [Vm.isSubclass, Vm.isSubclassAux, hn1, e2, e4]
  have hK : Back G.2.1 (g_R G) G.1 G.2.2.1 (g_b G) (g_s G) (g_a G) y 3 8 (PreOf (g_R G) mc' ms' (k_Pc F.1 Z M (k_ra Z a :: vs))) (PostOf (k_Qc F.1 Z em' r' M1) mc' ms' (k_fr Z)) := back_of (bytes := c') (maxL := nL') (ret := ret') (hM r' M1 hq) k_blind rfl rfl hrm.1 hrm.2 (k_code C hy.1) (List.mem_singleton.mpr rfl) (fun a' U hW => word_at hW (Or.inl (by first | rfl | simp [Cond.onTables, Cond.keeps, Cond.steady])) hini)
  obtain ⟨r, hr0, cellB, q1, q2, q3, -⟩ : va_at Z.2.1 vwCl (k_h Z + a, .inr (k_tag (M.1 a 3), k_fl (k_h Z) (M.1 a) (M.2.1 a) (M.2.2.1 a) 0 [0, 0, 0])) H := by
    have hE := hP.1.2.2 a hlt
    rw [k_E_rl M ha] at hE
    exact hE
  obtain ⟨kB, hkB, -⟩ := ((k_K C).1 _ _ hr0).2.2
  intro T hT X
  have hn' : (g_s G).methodNamed? ⟨y.cls, x.name, x.desc⟩ = some mk := by rw [← hyx.1, ← hyx.2]; exact hnamed
  obtain ⟨vm₁, X₁, hstep₁⟩ := X.invokespecialUp C.1 C.2.2.2.1 (k_word C hl rfl) (k_word C hsm rfl) hn' hmethM hstM habM hno hdk hnid hps hsuper hsub' (a := k_h Z + a) (cell := cellB) (by rw [hT]; exact q1)
    (fun z h => by rw [q3] at h; cases h) (by rw [q2]; exact hkB) (g := F0 (g_m G) pc ls (vs.reverse ++ k_ra Z a :: rest)) rfl (argsL := vs) (rest := rest) (hna.trans (k_ar hy.2.2.2 _ hsigM)) rfl (by rw [C.2.1]; exact hdg)
  obtain ⟨v, ⟨U', l2, c2, s2⟩, X', ⟨g', mk', t, L, e1, e2, hqq, e3, hL, e4, e5⟩, hsteps⟩ := hK (g_m G) (g_t G) (g_c G) ⟨T.setVm vm₁, locs, K.1, K.2⟩ { F0 (g_m G) pc ls (vs.reverse ++ k_ra Z a :: rest) with stack := rest } (.invokespecial idx) mk (k_ra Z a :: vs).toArray X₁ rfl (by show ls.size = _; rw [C.2.2.1]; exact hl'.1) (by rw [C.2.1]; exact hdg) (lv_room hr) (X₁.named hnamed) ⟨(k_fit C h1 h2).1, (k_fit C h1 h2).2, k_pre C hP (T.setVm vm₁) hT X₁.warmed⟩
  dsimp only [Pt.U, Pt.locs, Pt.cells, Pt.slots] at X' e1 e2 e3 e4 e5 hsteps
  subst e3; subst e4; subst e5
  exact ⟨v, (T.setVm vm₁).calling g' mk' (k_ra Z a :: vs).toArray, t, U', L, hT, X', hL, e1, e2, hqq, fun target h => hstep₁ _ (by rw [doInvoke_state]; exact hsteps.trans h)⟩
/-- instanceof, asked of a rule -/
theorem x_instR (C : k_C Z G own cc F ret nm) {idx a : Nat} {nmc : String} {v : Int32} {r : vw_C} (ha : 105 ≤ a) (hlt : a < M.2.2.2) (hr0 : vwCl[k_tag (M.1 a 3)]? = some r) (hl : Cond.classLink own idx nmc ∈ lw_tbl) (hv : (v = 1 ∧ (r.1 = nmc ∨ Cond.castable r.1 nmc ∈ lw_tbl)) ∨ (v = 0 ∧ (r.1, nmc) ∈ k_ncl)) (hdg : decode cc pc = .ok (.instanceof idx, 3)) (kk : Sm Z G em F K (pc + 3) lv (.int v :: rest) M o) : Sm Z G em F K pc lv (k_ra Z a :: rest) M o := by
  intro r' M' ho H locs ls hl' hP hL
  have hrc := k_recvR C hP ha hlt hr0
  have k2 := kk r' M' ho H locs ls hl' hP hL
  rcases hv with ⟨rfl, h | h⟩ | ⟨rfl, h⟩
  · rw [h] at hrc
    exact va_instE C.1 C.2.1 C.2.2.2.1 (k_word C hl rfl) hrc hdg k2
  · obtain ⟨A0, hA⟩ := C.2.2.2.2.2.2.2.2.2.1
    exact va_instY C.1 C.2.1 C.2.2.2.1 (k_word C hl rfl) (va_Nw.warmC C.2.2.2.2.1 (va_Nw.of rfl (hA _ h))) hrc hdg k2
  · exact va_instNo C.1 C.2.1 C.2.2.2.1 (k_word C hl rfl) (va_Nc.moved C.2.2.2.2.1.alike (C.2.2.2.2.2.2.2.2.2.2.2.2.1 _ h)) hrc hdg k2
end XO
def insV (kd c : Nat) : Int32 := if kd = c ∨ (kd = 0 ∧ c = 4) ∨ (kd = 6 ∧ c = 3) then 1 else 0
def insR {β : Type} (M : k_M) (a c : Nat) (k : Int32 → Option β) : Option β := isRl M a (k (insV (k_tag (M.1 a 3)) c))
theorem k_tags (t : Int32) : k_tag t = 1 ∨ k_tag t = 4 ∨ k_tag t = 3 ∨ k_tag t = 0 ∨ k_tag t = 6 := k_tag5 (P := fun n => n = 1 ∨ n = 4 ∨ n = 3 ∨ n = 0 ∨ n = 6) t (by decide) (by decide) (by decide) (by decide) (by decide)
theorem k_ca1 : Cond.castable "WheelCity$Best" "WheelCity$Near" ∈ lw_tbl := by decide +kernel
theorem k_ca2 : Cond.castable "WheelCity$Told" "WheelCity$Loop" ∈ lw_tbl := by decide +kernel
section XP
variable {Z : k_Z} {G : k_G} {ρ : Type} {em : ρ → Option Value} {F : k_F} {K : Nat × Nat} {pc : Nat} {lv lv' : List (Nat × Value)} {st rest : List Value} {M : k_M} {o o2 : Option (ρ × k_M)} {own : String} {cc : ByteArray} {ret : Option FieldType} {nm : String}
theorem x_inst (C : k_C Z G own cc F ret nm) {idx a : Nat} {k : Int32 → Option (ρ × k_M)} (c : Nat) (nmc : String) (hc : (c, nmc) ∈ [(1, "WheelCity$Camp"), (4, "WheelCity$Near"), (3, "WheelCity$Loop"), (0, "WheelCity$Best"), (6, "WheelCity$Told")]) (hl : Cond.classLink own idx nmc ∈ lw_tbl) (hdg : decode cc pc = .ok (.instanceof idx, 3)) (kk : ∀ v : Int32, Sm Z G em F K (pc + 3) lv (.int v :: rest) M (k v)) : Sm Z G em F K pc lv (k_ra Z a :: rest) M (insR M a c k) := by
  unfold insR
  refine x_isRl (fun ha hlt => ?_)
  have hcs : (c = 1 ∧ nmc = "WheelCity$Camp") ∨ (c = 4 ∧ nmc = "WheelCity$Near") ∨ (c = 3 ∧ nmc = "WheelCity$Loop") ∨ (c = 0 ∧ nmc = "WheelCity$Best") ∨ (c = 6 ∧ nmc = "WheelCity$Told") := by simpa using hc
  have ht := k_tags (M.1 a 3)
  generalize hkd : k_tag (M.1 a 3) = kd at ht ⊢
  rcases ht with rfl | rfl | rfl | rfl | rfl
  · refine x_instR C ha hlt (r := (RX2, TX2, 3)) (v := insV 1 c) (by rw [hkd]; rfl) hl ?_ hdg (kk _)
    rcases hcs with ⟨rfl, rfl⟩ | ⟨rfl, rfl⟩ | ⟨rfl, rfl⟩ | ⟨rfl, rfl⟩ | ⟨rfl, rfl⟩
    · exact Or.inl ⟨rfl, Or.inl rfl⟩
    · exact Or.inr ⟨rfl, by decide +kernel⟩
    · exact Or.inr ⟨rfl, by decide +kernel⟩
    · exact Or.inr ⟨rfl, by decide +kernel⟩
    · exact Or.inr ⟨rfl, by decide +kernel⟩
  · refine x_instR C ha hlt (r := (RX5, TX5, 3)) (v := insV 4 c) (by rw [hkd]; rfl) hl ?_ hdg (kk _)
    rcases hcs with ⟨rfl, rfl⟩ | ⟨rfl, rfl⟩ | ⟨rfl, rfl⟩ | ⟨rfl, rfl⟩ | ⟨rfl, rfl⟩
    · exact Or.inr ⟨rfl, by decide +kernel⟩
    · exact Or.inl ⟨rfl, Or.inl rfl⟩
    · exact Or.inr ⟨rfl, by decide +kernel⟩
    · exact Or.inr ⟨rfl, by decide +kernel⟩
    · exact Or.inr ⟨rfl, by decide +kernel⟩
  · refine x_instR C ha hlt (r := (RX4, TX4, 3)) (v := insV 3 c) (by rw [hkd]; rfl) hl ?_ hdg (kk _)
    rcases hcs with ⟨rfl, rfl⟩ | ⟨rfl, rfl⟩ | ⟨rfl, rfl⟩ | ⟨rfl, rfl⟩ | ⟨rfl, rfl⟩
    · exact Or.inr ⟨rfl, by decide +kernel⟩
    · exact Or.inr ⟨rfl, by decide +kernel⟩
    · exact Or.inl ⟨rfl, Or.inl rfl⟩
    · exact Or.inr ⟨rfl, by decide +kernel⟩
    · exact Or.inr ⟨rfl, by decide +kernel⟩
  · refine x_instR C ha hlt (r := (RX1, TX1, 3)) (v := insV 0 c) (by rw [hkd]; rfl) hl ?_ hdg (kk _)
    rcases hcs with ⟨rfl, rfl⟩ | ⟨rfl, rfl⟩ | ⟨rfl, rfl⟩ | ⟨rfl, rfl⟩ | ⟨rfl, rfl⟩
    · exact Or.inr ⟨rfl, by decide +kernel⟩
    · exact Or.inl ⟨rfl, Or.inr k_ca1⟩
    · exact Or.inr ⟨rfl, by decide +kernel⟩
    · exact Or.inl ⟨rfl, Or.inl rfl⟩
    · exact Or.inr ⟨rfl, by decide +kernel⟩
  · refine x_instR C ha hlt (r := (RX8, TX8, 3)) (v := insV 6 c) (by rw [hkd]; rfl) hl ?_ hdg (kk _)
    rcases hcs with ⟨rfl, rfl⟩ | ⟨rfl, rfl⟩ | ⟨rfl, rfl⟩ | ⟨rfl, rfl⟩ | ⟨rfl, rfl⟩
    · exact Or.inr ⟨rfl, by decide +kernel⟩
    · exact Or.inr ⟨rfl, by decide +kernel⟩
    · exact Or.inl ⟨rfl, Or.inr k_ca2⟩
    · exact Or.inr ⟨rfl, by decide +kernel⟩
    · exact Or.inl ⟨rfl, Or.inl rfl⟩
theorem x_callDV (C : k_C Z G own cc F ret nm) {ρ' : Type} {em' : ρ' → Option Value} {y : MethodName} {c' : ByteArray} {nL' : Nat} {ret' : Option FieldType} {d' mc' ms' idx a na : Nat} {vs : List Value} {o' : Option (ρ' × k_M)} {k : ρ' → k_M → Option (ρ × k_M)} {r : vw_C} (ha : 105 ≤ a) (hlt : a < M.2.2.2) (hr0 : vwCl[k_tag (M.1 a 3)]? = some r) (hcn : r.1 = y.cls)
    (hM : Con F.1 Z G.2.1 y c' nL' ret' d' mc' ms' em' (k_ra Z a :: vs) M o') (hy : k_cy y c' nL' ret' na) (hl : Cond.methodLink own idx y ∈ lw_tbl) (hse : Cond.selects y.cls y y ∈ lw_tbl) (hi : Cond.instanceMethod y ∈ lw_tbl) (hd : d' + 1 ≤ F.2.2.1) (hn : nL' ≤ 45) (h1 : K.1 + mc' ≤ F.2.2.2.1) (h2 : K.2 + ms' ≤ F.2.2.2.2) (hna : vs.length = na) (hs : st = vs.reverse ++ k_ra Z a :: rest) (hr : (rest.map fun v => v.category).sum ≤ 8) (hdg : decode cc pc = .ok (.invokevirtual idx, 3))
    (kk : ∀ (r' : ρ') (M1 : k_M), Sm Z G em F (K.1 + mc', K.2 + ms') (pc + 3) lv ((em' r').toList ++ rest) M1 (k r' M1)) : Sm Z G em F K pc lv st M (bd o' k) := by
  refine x_run (b' := F.1) (rest := rest) (cas := (k_ra Z a :: vs).toArray) (fun r' M1 hq H locs ls hl' hP => ?_) (fun _ _ h => h) kk
  subst hs
  have hrm := k_room C (mc' := mc') (ms' := ms') hd hn
  have hrc := k_recvR C hP ha hlt hr0
  rw [hcn] at hrc
  exact va_runV (Ts := []) (own := own) (C := y.cls) (As := vs) (rest := rest) ⟨C.1, C.2.1, C.2.2.1, C.2.2.2.1, fun w h => by cases h⟩ (hM r' M1 hq) ⟨⟨rfl, rfl, hrm.1, hrm.2, k_code C hy.1, List.mem_singleton.mpr rfl, k_word C hy.1 rfl, k_word C hy.2.1 rfl, hy.2.2.1, k_ar hy.2.2.2, k_word C hl rfl⟩, k_word C hi rfl, k_word C hse rfl⟩ ⟨k_blind, hrc, k_pre C hP⟩ rfl hna hl'.1 rfl (lv_room hr) hdg (k_fit C h1 h2)
end XP
end
section
/-! ===== the nine texts: their length and letters ===== -/
abbrev k_sa (Z : k_Z) (i : Nat) : Value := .ref (Z.2.2.2.2 (2 * i))
abbrev k_sv (Z : k_Z) (i : Nat) : Value := .ref (Z.2.2.2.2 (2 * i + 1))
def rdS {β : Type} (s : Nat) (i : Int32) (k : Int32 → Option β) : Option β := if ix i (k_txL.getD s 0) = true then k ((k_txB.getD s []).getD i.toNatClampNeg 0) else none
section XT
variable {Z : k_Z} {G : k_G} {ρ : Type} {em : ρ → Option Value} {F : k_F} {K : Nat × Nat} {pc : Nat} {lv lv' : List (Nat × Value)} {st rest : List Value} {M : k_M} {o o2 : Option (ρ × k_M)} {own : String} {cc : ByteArray} {ret : Option FieldType} {nm : String}
theorem k_S (C : k_C Z G own cc F ret nm) : k_str Z := C.2.2.2.2.2.2.2.2.2.2.2.2.2
theorem x_lds (C : k_C Z G own cc F ret nm) (i : Nat) (hi : i < 9) (ho : own = "WheelCity$Tape") (hdg : decode cc pc = .ok (.ldc (k_txN.getD i (0, "")).1, 2)) (kk : Sm Z G em F K (pc + 2) lv (k_sa Z i :: st) M o) : Sm Z G em F K pc lv st M o := fun r M' ho' H locs ls hl hP hL =>
  va_ldcS C.1 C.2.1 (own := "WheelCity$Tape") (by rw [← ho]; exact C.2.2.2.1) (vk_R.warm C.2.2.2.2.1 ((k_S C).2.1 i hi)) hdg (kk r M' ho' H locs ls hl hP hL)
theorem k_old {t : Nat} {H : Heap} {cell : Cell} (hP : k_R F.1 Z M H) (h : Z.1.heap[t]? = some cell) : H[t]? = some cell := by rw [hP.1.2.1 t (Array.getElem?_eq_some_iff.mp h).1]; exact h
theorem x_sgetc (C : k_C Z G own cc F ret nm) {i idx : Nat} (hi : i < 9) (hl0 : Cond.fieldLink own idx "java/lang/String" "coder" "B" ∈ lw_tbl) (hdg : decode cc pc = .ok (.getfield idx, 3)) (kk : Sm Z G em F K (pc + 3) lv (.int 0 :: rest) M o) : Sm Z G em F K pc lv (k_sa Z i :: rest) M o := by
  intro r M' ho H locs ls hl hP hL
  obtain ⟨cf, k, fi, f, cell, g1, g2, g3, g4, g5, -⟩ := ((k_S C).1.1 i hi).2.1.moved C.2.2.2.2.1.alike
  exact W.getf C.1 C.2.1 C.2.2.2.1 (k_word C hl0 rfl) g1 g2 (k_old hP g3) g4 g5 rfl rfl hdg (kk r M' ho H locs ls hl hP hL)
theorem x_sgetv (C : k_C Z G own cc F ret nm) {i idx : Nat} (hi : i < 9) (hl0 : Cond.fieldLink own idx "java/lang/String" "value" "[B" ∈ lw_tbl) (hdg : decode cc pc = .ok (.getfield idx, 3)) (kk : Sm Z G em F K (pc + 3) lv (k_sv Z i :: rest) M o) : Sm Z G em F K pc lv (k_sa Z i :: rest) M o := by
  intro r M' ho H locs ls hl hP hL
  obtain ⟨cf, k, fi, f, cell, g1, g2, g3, g4, g5, -⟩ := ((k_S C).1.1 i hi).2.2.1.moved C.2.2.2.2.1.alike
  exact W.getf C.1 C.2.1 C.2.2.2.1 (k_word C hl0 rfl) g1 g2 (k_old hP g3) g4 g5 rfl rfl hdg (kk r M' ho H locs ls hl hP hL)
theorem x_salen (C : k_C Z G own cc F ret nm) {i : Nat} (hi : i < 9) (hdg : decode cc pc = .ok (.arraylength, 1)) (kk : Sm Z G em F K (pc + 1) lv (.int (Int32.ofNat (k_txL.getD i 0)) :: rest) M o) : Sm Z G em F K pc lv (k_sv Z i :: rest) M o := by
  intro r M' ho H locs ls hl hP hL
  obtain ⟨cell, h1, h2, h3, h4, h5, h6, h7⟩ := ((k_S C).1.1 i hi).2.2.2.moved C.2.2.2.2.1.alike
  exact W.alen C.1 C.2.1 (k_old hP h1) h2 h5 rfl rfl hdg (kk r M' ho H locs ls hl hP hL)
theorem x_sald (C : k_C Z G own cc F ret nm) {i : Nat} {j : Int32} (hi : i < 9) (hj : ix j (k_txL.getD i 0) = true) (hdg : decode cc pc = .ok (.baload, 1)) (kk : Sm Z G em F K (pc + 1) lv (.int ((k_txB.getD i []).getD j.toNatClampNeg 0) :: rest) M o) : Sm Z G em F K pc lv (.int j :: k_sv Z i :: rest) M o := by
  intro r M' ho H locs ls hl hP hL
  obtain ⟨cell, h1, h2, h3, h4, h5, h6, h7⟩ := ((k_S C).1.1 i hi).2.2.2.moved C.2.2.2.2.1.alike
  have hlt := ix_lt hj
  refine W.bald (v := .int ((k_txB.getD i []).getD j.toNatClampNeg 0)) C.1 C.2.1 (k_old hP h1) h2 h3 ?_ (h6 _ hlt) rfl rfl hdg (kk r M' ho H locs ls hl hP hL)
  intro q
  rcases q with q | q
  · exact ix_in hj (Or.inl q)
  · omega
theorem x_gsZ (C : k_C Z G own cc F ret nm) {idx : Nat} (hl0 : Cond.fieldLink own idx "java/lang/String" "COMPACT_STRINGS" "Z" ∈ lw_tbl) (hdg : decode cc pc = .ok (.getstatic idx, 3)) (kk : Sm Z G em F K (pc + 3) lv (.int 1 :: st) M o) : Sm Z G em F K pc lv st M o := by
  intro r M' ho H locs ls hl hP hL
  obtain ⟨cf, kf, fi, f, a, cell, h1, h2, h3, h4, h5, h6, h7, h8⟩ := (k_S C).2.2.1.moved C.2.2.2.2.1.alike
  exact W.gets C.1 C.2.1 C.2.2.2.1 (k_word C hl0 rfl) h1 h2 h3 h4 (k_old hP h5) (fun e => by rw [e] at h6; cases h6) h7 rfl hdg (kk r M' ho H locs ls hl hP hL)
theorem x_gsF (C : k_C Z G own cc F ret nm) {idx : Nat} (hl0 : Cond.fieldLink own idx "jdk/internal/util/Preconditions" "SIOOBE_FORMATTER" "Ljava/util/function/BiFunction;" ∈ lw_tbl) (hdg : decode cc pc = .ok (.getstatic idx, 3)) (kk : ∀ v : Value, v.category = 1 → Sm Z G em F K (pc + 3) lv (v :: st) M o) : Sm Z G em F K pc lv st M o := by
  intro r M' ho H locs ls hl hP hL
  have key : ∀ v : Value, v.category = 1 → va_Z "jdk/internal/util/Preconditions" "SIOOBE_FORMATTER" "Ljava/util/function/BiFunction;" v (k_fr Z) Z.1 Z.1.heap → W G.1 G.2.1 G.2.2.1 (g_R G) (g_s G) (g_m G) (g_a G) (g_b G) (g_t G) (g_c G) H locs K.1 K.2 (MQ (g_b G) (k_Qc F.1 Z em r M') (g_a G) (g_s G) F.2.2.2.1 F.2.2.2.2 (k_fr Z)) (F0 (g_m G) pc ls st) := by
    intro v hv hZ
    obtain ⟨cf, kf, fi, f, a, cell, h1, h2, h3, h4, h5, h6, h7, h8⟩ := hZ.moved C.2.2.2.2.1.alike
    exact W.gets C.1 C.2.1 C.2.2.2.1 (k_word C hl0 rfl) h1 h2 h3 h4 (k_old hP h5) (fun e => by rw [e] at h6; cases h6) h7 rfl hdg (kk v hv r M' ho H locs ls hl hP hL)
  rcases (k_S C).2.2.2 with h | ⟨t, h⟩
  · exact key _ rfl h
  · exact key _ rfl h
theorem x_runE {ρ' : Type} {em' : ρ' → Option Value} {b' : Bool} {o' : Option (ρ' × k_M)} {k : ρ' → k_M → Option (ρ × k_M)} {mc' ms' : Nat} {cas : Array Value}
    (hrun : ∀ (r' : ρ') (M1 : k_M), o' = some (r', M1) → ∀ (H : Heap) (locs : List Loc) (ls : Array Slot), lv_has ls F.2.1 lv → k_R F.1 Z M H → va_Run G.1 G.2.1 G.2.2.1 (g_R G) (g_s G) (g_m G) (g_a G) (g_b G) (g_t G) (g_c G) H locs K.1 K.2 mc' ms' (F0 (g_m G) pc ls st) rest (k_Qc b' Z em' r' M1 cas) (k_fr Z))
    (kR : ∀ (M1 : k_M) (H : Heap), k_R b' Z M1 H → k_R F.1 Z M1 H)
    (kk : ∀ (r' : ρ') (M1 : k_M), o' = some (r', M1) → Sm Z G em F (K.1 + mc', K.2 + ms') (pc + 3) lv ((em' r').toList ++ rest) M1 (k r' M1)) : Sm Z G em F K pc lv st M (bd o' k) := by
  intro r M' ho H locs ls hl hP hL
  cases hq : o' with
  | none => rw [hq] at ho; cases ho
  | some q =>
    obtain ⟨r', M1⟩ := q
    rw [hq] at ho
    intro T hT X
    obtain ⟨v, st₀, t, T', L, h0, X', hLf, e1, e2, ⟨hv, hP1⟩, hst⟩ := hrun r' M1 hq H locs ls hl hP T hT X
    have hv' : v = em' r' := Outcome.returned.inj hv
    subst hv'
    obtain ⟨t2, a1, b1⟩ := kk r' M1 hq r M' ho T'.heap (locs ++ L) ls hl (kR M1 _ (by rw [e1]; exact hP1)) (fun q hq => by
      rcases List.mem_append.mp hq with h | h
      · exact hL q h
      · exact hLf q h) T' rfl X'
    exact ⟨t2, hst t2 a1, b1⟩
theorem x_callVS (C : k_C Z G own cc F ret nm) {ρ' : Type} {em' : ρ' → Option Value} {y : MethodName} {c' : ByteArray} {nL' : Nat} {ret' : Option FieldType} {d' idx i na : Nat} {vs : List Value} {o' : Option (ρ' × k_M)} {k : ρ' → k_M → Option (ρ × k_M)} (hi9 : i < 9) (hcn : y.cls = "java/lang/String")
    (hM : Con F.1 Z G.2.1 y c' nL' ret' d' 0 0 em' (k_sa Z i :: vs) M o') (hy : k_cy y c' nL' ret' na) (hl : Cond.methodLink own idx y ∈ lw_tbl) (hi : Cond.instanceMethod y ∈ lw_tbl) (hse : Cond.selects y.cls y y ∈ lw_tbl) (hd : d' + 1 ≤ F.2.2.1) (hn : nL' ≤ 45) (h1 : K.1 ≤ F.2.2.2.1) (h2 : K.2 ≤ F.2.2.2.2) (hna : vs.length = na) (hs : st = vs.reverse ++ k_sa Z i :: rest) (hr : (rest.map fun v => v.category).sum ≤ 8) (hdg : decode cc pc = .ok (.invokevirtual idx, 3))
    (kk : ∀ (r' : ρ') (M1 : k_M), o' = some (r', M1) → Sm Z G em F K (pc + 3) lv ((em' r').toList ++ rest) M1 (k r' M1)) : Sm Z G em F K pc lv st M (bd o' k) := by
  refine x_runE (b' := F.1) (rest := rest) (mc' := 0) (ms' := 0) (cas := (k_sa Z i :: vs).toArray) (fun r' M1 hq H locs ls hl' hP => ?_) (fun _ _ h => h) kk
  subst hs
  have hrm := k_room C (mc' := 0) (ms' := 0) hd hn
  obtain ⟨cell, g1, g2, g3, -⟩ := ((k_S C).1.1 i hi9).1.moved C.2.2.2.2.1.alike
  exact va_runV (Ts := []) (own := own) (C := y.cls) (As := vs) (rest := rest) ⟨C.1, C.2.1, C.2.2.1, C.2.2.2.1, fun w h => by cases h⟩ (hM r' M1 hq) ⟨⟨rfl, rfl, hrm.1, hrm.2, k_code C hy.1, List.mem_singleton.mpr rfl, k_word C hy.1 rfl, k_word C hy.2.1 rfl, hy.2.2.1, k_ar hy.2.2.2, k_word C hl rfl⟩, k_word C hi rfl, k_word C hse rfl⟩ ⟨k_blind, ⟨cell, k_old hP g1, g2, by rw [hcn]; exact g3⟩, k_pre C hP⟩ rfl hna hl'.1 rfl (lv_room hr) hdg (k_fit C h1 h2)
theorem x_callSE (C : k_C Z G own cc F ret nm) {ρ' : Type} {em' : ρ' → Option Value} {y : MethodName} {c' : ByteArray} {nL' : Nat} {ret' : Option FieldType} {d' idx na : Nat} {vs : List Value} {o' : Option (ρ' × k_M)} {k : ρ' → k_M → Option (ρ × k_M)}
    (hM : Con F.1 Z G.2.1 y c' nL' ret' d' 0 0 em' vs M o') (hy : k_cy y c' nL' ret' na) (hl : Cond.methodLink own idx y ∈ lw_tbl) (hi : Cond.static y ∈ lw_tbl) (hd : d' + 1 ≤ F.2.2.1) (hn : nL' ≤ 45) (h1 : K.1 ≤ F.2.2.2.1) (h2 : K.2 ≤ F.2.2.2.2) (hna : vs.length = na) (hs : st = vs.reverse ++ rest) (hr : (rest.map fun v => v.category).sum ≤ 8) (hdg : decode cc pc = .ok (.invokestatic idx, 3))
    (kk : ∀ (r' : ρ') (M1 : k_M), o' = some (r', M1) → Sm Z G em F K (pc + 3) lv ((em' r').toList ++ rest) M1 (k r' M1)) : Sm Z G em F K pc lv st M (bd o' k) := by
  refine x_runE (b' := F.1) (rest := rest) (mc' := 0) (ms' := 0) (cas := vs.toArray) (fun r' M1 hq H locs ls hl' hP => ?_) (fun _ _ h => h) kk
  subst hs
  have hrm := k_room C (mc' := 0) (ms' := 0) hd hn
  exact va_runS (Ts := []) (own := own) (As := vs) (rest := rest) ⟨C.1, C.2.1, C.2.2.1, C.2.2.2.1, fun w h => by cases h⟩ (hM r' M1 hq) ⟨⟨rfl, rfl, hrm.1, hrm.2, k_code C hy.1, List.mem_singleton.mpr rfl, k_word C hy.1 rfl, k_word C hy.2.1 rfl, hy.2.2.1, k_ar hy.2.2.2, k_word C hl rfl⟩, k_word C hi rfl⟩ ⟨k_blind, k_pre C hP⟩ rfl hna hl'.1 rfl (lv_room hr) hdg (k_fit C h1 h2)
theorem x_i2c (C : k_C Z G own cc F ret nm) {x v : Int32} (hv : (x.toUInt32 % 65536).toInt32 = v) (hdg : decode cc pc = .ok (.i2c, 1)) (kk : Sm Z G em F K (pc + 1) lv (.int v :: rest) M o) : Sm Z G em F K pc lv (.int x :: rest) M o := fun r M' ho H locs ls hl hP hL => lv_i2c C.1 C.2.1 hdg hv (kk r M' ho H locs ls hl hP hL)
end XT
theorem tx_c : ∀ (i j : Nat), i < 9 → j < k_txL.getD i 0 → ((((k_txB.getD i []).getD j 0) &&& 255).toUInt32 % 65536).toInt32 = (k_txB.getD i []).getD j 0 ∧ narrow .char (.int ((k_txB.getD i []).getD j 0)) = .int ((k_txB.getD i []).getD j 0) := by
  have key : ∀ i : Nat, i < 9 → ∀ j : Nat, j < k_txL.getD i 0 → ((((k_txB.getD i []).getD j 0) &&& 255).toUInt32 % 65536).toInt32 = (k_txB.getD i []).getD j 0 ∧ narrow .char (.int ((k_txB.getD i []).getD j 0)) = .int ((k_txB.getD i []).getD j 0) := by decide +kernel
  exact fun i j hi hj => key i hi j hj
theorem tx_e {β : Type} (i : Nat) (j : Int32) (hi : i < 9) (M : k_M) {f : Int32 → Option β} : rdS i j f = bd (if j < 0 then none else if j < Int32.ofNat (k_txL.getD i 0) then some ((), M) else none) (fun _ _ => rdS i j f) := by
  have hb : k_txL.getD i 0 < 100 := (by decide +kernel : ∀ i : Nat, i < 9 → k_txL.getD i 0 < 100) i hi
  by_cases h0 : j < 0
  · rw [if_pos h0]
    unfold rdS
    rw [if_neg (fun h => ix_in h (Or.inl h0))]
    rfl
  · rw [if_neg h0]
    by_cases h1 : j < Int32.ofNat (k_txL.getD i 0)
    · rw [if_pos h1]
      rfl
    · rw [if_neg h1]
      unfold rdS
      rw [if_neg (fun h => h1 ?_)]
      · rfl
      · have h2 := ix_lt h
        rw [Int32.lt_iff_toInt_lt, show (Int32.ofNat (k_txL.getD i 0)).toInt = _ from nI_toInt (n := k_txL.getD i 0) (by omega)]
        have h3 : (j.toNatClampNeg : Nat) = j.toInt.toNat := rfl
        omega
theorem dt_J0_length_8abf5 : k_dec cJ0_length_8abf5 [(0, .aload_n 0, 1), (1, .getfield 9, 3), (4, .arraylength, 1), (5, .aload_n 0, 1), (6, .invokevirtual 335, 3), (9, .ishr, 1), (10, .ireturn, 1)] = true := by decide +kernel
theorem cy_J0_length_8abf5 : k_cy yJ0_length_8abf5 cJ0_length_8abf5 1 (some .int) 0 := ⟨List.mem_of_getElem? (i := 413) (by decide +kernel), List.mem_of_getElem? (i := 113) (by decide +kernel), ⟨by decide +kernel, by decide +kernel⟩, by decide +kernel⟩
theorem im_J0_length_8abf5 : Cond.instanceMethod yJ0_length_8abf5 ∈ lw_tbl := List.mem_of_getElem? (i := 411) (by decide +kernel)
theorem se_J0_length_8abf5 : Cond.selects yJ0_length_8abf5.cls yJ0_length_8abf5 yJ0_length_8abf5 ∈ lw_tbl := List.mem_of_getElem? (i := 412) (by decide +kernel)
theorem dt_J0_coder_7d493 : k_dec cJ0_coder_7d493 [(0, .getstatic 38, 3), (3, .ifCond .eq 10, 3), (6, .aload_n 0, 1), (7, .getfield 15, 3), (10, .goto 4, 3), (13, .iconst 1, 1), (14, .ireturn, 1)] = true := by decide +kernel
theorem cy_J0_coder_7d493 : k_cy yJ0_coder_7d493 cJ0_coder_7d493 1 (some .byte) 0 := ⟨List.mem_of_getElem? (i := 417) (by decide +kernel), List.mem_of_getElem? (i := 113) (by decide +kernel), ⟨by decide +kernel, by decide +kernel⟩, by decide +kernel⟩
theorem im_J0_coder_7d493 : Cond.instanceMethod yJ0_coder_7d493 ∈ lw_tbl := List.mem_of_getElem? (i := 415) (by decide +kernel)
theorem se_J0_coder_7d493 : Cond.selects yJ0_coder_7d493.cls yJ0_coder_7d493 yJ0_coder_7d493 ∈ lw_tbl := List.mem_of_getElem? (i := 416) (by decide +kernel)
theorem dt_J0_isLatin1_aae02 : k_dec cJ0_isLatin1_aae02 [(0, .getstatic 38, 3), (3, .ifCond .eq 14, 3), (6, .aload_n 0, 1), (7, .getfield 15, 3), (10, .ifCond .ne 7, 3), (13, .iconst 1, 1), (14, .goto 4, 3), (17, .iconst 0, 1), (18, .ireturn, 1)] = true := by decide +kernel
theorem cy_J0_isLatin1_aae02 : k_cy yJ0_isLatin1_aae02 cJ0_isLatin1_aae02 1 (some .boolean) 0 := ⟨List.mem_of_getElem? (i := 427) (by decide +kernel), List.mem_of_getElem? (i := 113) (by decide +kernel), ⟨by decide +kernel, by decide +kernel⟩, by decide +kernel⟩
theorem im_J0_isLatin1_aae02 : Cond.instanceMethod yJ0_isLatin1_aae02 ∈ lw_tbl := List.mem_of_getElem? (i := 425) (by decide +kernel)
theorem se_J0_isLatin1_aae02 : Cond.selects yJ0_isLatin1_aae02.cls yJ0_isLatin1_aae02 yJ0_isLatin1_aae02 ∈ lw_tbl := List.mem_of_getElem? (i := 426) (by decide +kernel)
theorem dt_J0_charAt_5068e : k_dec cJ0_charAt_5068e [(0, .aload_n 0, 1), (1, .invokevirtual 492, 3), (4, .ifCond .eq 12, 3), (7, .aload_n 0, 1), (8, .getfield 9, 3), (11, .iload_n 1, 1), (12, .invokestatic 495, 3), (15, .ireturn, 1), (16, .aload_n 0, 1), (17, .getfield 9, 3), (20, .iload_n 1, 1), (21, .invokestatic 498, 3), (24, .ireturn, 1)] = true := by decide +kernel
theorem cy_J0_charAt_5068e : k_cy yJ0_charAt_5068e cJ0_charAt_5068e 2 (some .char) 1 := ⟨List.mem_of_getElem? (i := 423) (by decide +kernel), List.mem_of_getElem? (i := 113) (by decide +kernel), ⟨by decide +kernel, by decide +kernel⟩, by decide +kernel⟩
theorem im_J0_charAt_5068e : Cond.instanceMethod yJ0_charAt_5068e ∈ lw_tbl := List.mem_of_getElem? (i := 421) (by decide +kernel)
theorem se_J0_charAt_5068e : Cond.selects yJ0_charAt_5068e.cls yJ0_charAt_5068e yJ0_charAt_5068e ∈ lw_tbl := List.mem_of_getElem? (i := 422) (by decide +kernel)
theorem dt_J1_charAt_3b067 : k_dec cJ1_charAt_3b067 [(0, .iload_n 1, 1), (1, .aload_n 0, 1), (2, .arraylength, 1), (3, .invokestatic 9, 3), (6, .aload_n 0, 1), (7, .iload_n 1, 1), (8, .baload, 1), (9, .sipush 255, 3), (12, .iand, 1), (13, .i2c, 1), (14, .ireturn, 1)] = true := by decide +kernel
theorem cy_J1_charAt_3b067 : k_cy yJ1_charAt_3b067 cJ1_charAt_3b067 2 (some .char) 2 := ⟨List.mem_of_getElem? (i := 430) (by decide +kernel), List.mem_of_getElem? (i := 114) (by decide +kernel), ⟨by decide +kernel, by decide +kernel⟩, by decide +kernel⟩
theorem stt_J1_charAt_3b067 : Cond.static yJ1_charAt_3b067 ∈ lw_tbl := List.mem_of_getElem? (i := 429) (by decide +kernel)
theorem dt_J0_checkIndex_df160 : k_dec cJ0_checkIndex_df160 [(0, .iload_n 0, 1), (1, .iload_n 1, 1), (2, .getstatic 1053, 3), (5, .invokestatic 1059, 3), (8, .pop, 1), (9, .return_, 1)] = true := by decide +kernel
theorem cy_J0_checkIndex_df160 : k_cy yJ0_checkIndex_df160 cJ0_checkIndex_df160 2 none 2 := ⟨List.mem_of_getElem? (i := 433) (by decide +kernel), List.mem_of_getElem? (i := 113) (by decide +kernel), ⟨by decide +kernel, by decide +kernel⟩, by decide +kernel⟩
theorem stt_J0_checkIndex_df160 : Cond.static yJ0_checkIndex_df160 ∈ lw_tbl := List.mem_of_getElem? (i := 432) (by decide +kernel)
theorem dt_J3_checkIndex_8e157 : k_dec cJ3_checkIndex_8e157 [(0, .iload_n 0, 1), (1, .ifCond .lt 8, 3), (4, .iload_n 0, 1), (5, .iload_n 1, 1), (6, .if_icmp .lt 10, 3), (9, .aload_n 2, 1), (10, .iload_n 0, 1), (11, .iload_n 1, 1), (12, .invokestatic 95, 3), (15, .athrow, 1), (16, .iload_n 0, 1), (17, .ireturn, 1)] = true := by decide +kernel
theorem cy_J3_checkIndex_8e157 : k_cy yJ3_checkIndex_8e157 cJ3_checkIndex_8e157 3 (some .int) 3 := ⟨List.mem_of_getElem? (i := 438) (by decide +kernel), List.mem_of_getElem? (i := 115) (by decide +kernel), ⟨by decide +kernel, by decide +kernel⟩, by decide +kernel⟩
theorem stt_J3_checkIndex_8e157 : Cond.static yJ3_checkIndex_8e157 ∈ lw_tbl := List.mem_of_getElem? (i := 437) (by decide +kernel)
theorem c_txcod {Z : k_Z} (hg : k_Gd Z) (l : Launch) (i : Nat) (M : k_M) (hi : i < 9) : Con true Z l yJ0_coder_7d493 cJ0_coder_7d493 1 (some .byte) 1 0 0 emI [k_sa Z i] M (some ((0 : Int32), M)) := k_con hg (by decide) (Nat.le_of_ble_eq_true rfl) (fun G hl C => by
  refine x_gsZ C (List.mem_of_getElem? (i := 418) (by decide +kernel)) (k_dg dt_J0_coder_7d493 0 0 (.getstatic 38) 3 rfl) ?_
  refine (if_neg (by decide : ¬ (1 : Int32) = 0) : (if (1 : Int32) = 0 then none else some ((0 : Int32), M)) = some ((0 : Int32), M)) ▸ ?_
  refine x_if_eq C (tgt := 13) (k_dg dt_J0_coder_7d493 1 3 (.ifCond .eq 10) 3 rfl) (by decide) (fun _ => x_none) (fun _ => ?_)
  refine x_aload_n C (k_dg dt_J0_coder_7d493 2 6 (.aload_n 0) 1 rfl) 0 rfl ?_
  refine x_sgetc C hi (List.mem_of_getElem? (i := 1682) (by decide +kernel)) (k_dg dt_J0_coder_7d493 3 7 (.getfield 15) 3 rfl) ?_
  refine x_goto C (tgt := 14) (k_dg dt_J0_coder_7d493 4 10 (.goto 4) 3 rfl) (by decide) ?_
  exact x_zret C (by decide) (by decide) rfl (k_dg dt_J0_coder_7d493 6 14 (.ireturn) 1 rfl))
theorem c_txlat {Z : k_Z} (hg : k_Gd Z) (l : Launch) (i : Nat) (M : k_M) (hi : i < 9) : Con true Z l yJ0_isLatin1_aae02 cJ0_isLatin1_aae02 1 (some .boolean) 1 0 0 emI [k_sa Z i] M (some ((1 : Int32), M)) := k_con hg (by decide) (Nat.le_of_ble_eq_true rfl) (fun G hl C => by
  refine x_gsZ C (List.mem_of_getElem? (i := 418) (by decide +kernel)) (k_dg dt_J0_isLatin1_aae02 0 0 (.getstatic 38) 3 rfl) ?_
  refine (if_neg (by decide : ¬ (1 : Int32) = 0) : (if (1 : Int32) = 0 then none else some ((1 : Int32), M)) = some ((1 : Int32), M)) ▸ ?_
  refine x_if_eq C (tgt := 17) (k_dg dt_J0_isLatin1_aae02 1 3 (.ifCond .eq 14) 3 rfl) (by decide) (fun _ => x_none) (fun _ => ?_)
  refine x_aload_n C (k_dg dt_J0_isLatin1_aae02 2 6 (.aload_n 0) 1 rfl) 0 rfl ?_
  refine x_sgetc C hi (List.mem_of_getElem? (i := 1682) (by decide +kernel)) (k_dg dt_J0_isLatin1_aae02 3 7 (.getfield 15) 3 rfl) ?_
  refine (if_pos rfl : (if (0 : Int32) = 0 then some ((1 : Int32), M) else none) = some ((1 : Int32), M)) ▸ ?_
  refine x_if_ne C (tgt := 17) (k_dg dt_J0_isLatin1_aae02 4 10 (.ifCond .ne 7) 3 rfl) (by decide) (fun _ => ?_) (fun _ => x_none)
  refine x_iconst C (v := 1) (k_dg dt_J0_isLatin1_aae02 5 13 (.iconst 1) 1 rfl) (by decide) ?_
  refine x_goto C (tgt := 18) (k_dg dt_J0_isLatin1_aae02 6 14 (.goto 4) 3 rfl) (by decide) ?_
  exact x_zret C (by decide) (by decide) rfl (k_dg dt_J0_isLatin1_aae02 8 18 (.ireturn) 1 rfl))
theorem c_txlen {Z : k_Z} (hg : k_Gd Z) (l : Launch) (i : Nat) (M : k_M) (hi : i < 9) : Con true Z l yJ0_length_8abf5 cJ0_length_8abf5 1 (some .int) 2 0 0 emI [k_sa Z i] M (some (Int32.ofNat (k_txL.getD i 0), M)) := k_con hg (by decide) (Nat.le_of_ble_eq_true rfl) (fun G hl C => by
  refine x_aload_n C (k_dg dt_J0_length_8abf5 0 0 (.aload_n 0) 1 rfl) 0 rfl ?_
  refine x_sgetv C hi (List.mem_of_getElem? (i := 1681) (by decide +kernel)) (k_dg dt_J0_length_8abf5 1 1 (.getfield 9) 3 rfl) ?_
  refine x_salen C hi (k_dg dt_J0_length_8abf5 2 4 (.arraylength) 1 rfl) ?_
  refine x_aload_n C (k_dg dt_J0_length_8abf5 3 5 (.aload_n 0) 1 rfl) 0 rfl ?_
  show Sm Z G emI _ _ _ _ _ M (bd (some ((0 : Int32), M)) (fun r M1 => some (Int32.ofNat (k_txL.getD i 0), M1)))
  refine x_callVS C (vs := []) (rest := [.int (Int32.ofNat (k_txL.getD i 0))]) hi rfl (c_txcod hg G.2.1 i M hi) cy_J0_coder_7d493 (List.mem_of_getElem? (i := 414) (by decide +kernel)) im_J0_coder_7d493 se_J0_coder_7d493 (by decide) (by decide) (by decide) (by decide) rfl rfl (Nat.le_of_ble_eq_true rfl) (k_dg dt_J0_length_8abf5 4 6 (.invokevirtual 335) 3 rfl) (fun r M1 h => ?_)
  cases h
  refine x_ishr C (x := Int32.ofNat (k_txL.getD i 0)) (y := 0) (k_dg dt_J0_length_8abf5 5 9 (.ishr) 1 rfl) ?_
  have e : Int32.ofNat (k_txL.getD i 0) >>> ((0 : Int32) &&& 31) = Int32.ofNat (k_txL.getD i 0) := (by decide +kernel : ∀ i : Nat, i < 9 → Int32.ofNat (k_txL.getD i 0) >>> ((0 : Int32) &&& 31) = Int32.ofNat (k_txL.getD i 0)) i hi
  rw [e]
  exact x_iret C (by decide) (by decide) (k_dg dt_J0_length_8abf5 6 10 (.ireturn) 1 rfl))
theorem c_txpix {Z : k_Z} (hg : k_Gd Z) (l : Launch) (j n : Int32) (v : Value) (hv : v.category = 1) (M : k_M) : Con true Z l yJ3_checkIndex_8e157 cJ3_checkIndex_8e157 3 (some .int) 1 0 0 emI [.int j, .int n, v] M (if j < 0 then none else if j < n then some (j, M) else none) := k_con hg (by decide) (by cases v <;> first | exact Nat.le_refl 3 | (simp [Value.category] at hv)) (fun G hl C => by
  have hlv : lv_pick (lv_args 0 [.int j, .int n, v]) [0, 1] = [(0, .int j), (1, .int n)] := rfl
  refine x_lv [0, 1] hlv ?_
  refine x_iload_n C (k_dg dt_J3_checkIndex_8e157 0 0 (.iload_n 0) 1 rfl) 0 rfl ?_
  refine x_if_lt C (tgt := 9) (k_dg dt_J3_checkIndex_8e157 1 1 (.ifCond .lt 8) 3 rfl) (by decide) (fun _ => x_none) (fun _ => ?_)
  refine x_iload_n C (k_dg dt_J3_checkIndex_8e157 2 4 (.iload_n 0) 1 rfl) 0 rfl ?_
  refine x_iload_n C (k_dg dt_J3_checkIndex_8e157 3 5 (.iload_n 1) 1 rfl) 1 rfl ?_
  refine x_icmp_lt C (tgt := 16) (k_dg dt_J3_checkIndex_8e157 4 6 (.if_icmp .lt 10) 3 rfl) (by decide) (fun _ => ?_) (fun _ => x_none)
  refine x_iload_n C (k_dg dt_J3_checkIndex_8e157 10 16 (.iload_n 0) 1 rfl) 0 rfl ?_
  exact x_iret C (by decide) (by decide) (k_dg dt_J3_checkIndex_8e157 11 17 (.ireturn) 1 rfl))
theorem c_txcix {Z : k_Z} (hg : k_Gd Z) (l : Launch) (j n : Int32) (M : k_M) : Con true Z l yJ0_checkIndex_df160 cJ0_checkIndex_df160 2 none 2 0 0 emV [.int j, .int n] M (if j < 0 then none else if j < n then some ((), M) else none) := k_con hg (by decide) (Nat.le_of_ble_eq_true rfl) (fun G hl C => by
  refine x_iload_n C (k_dg dt_J0_checkIndex_df160 0 0 (.iload_n 0) 1 rfl) 0 rfl ?_
  refine x_iload_n C (k_dg dt_J0_checkIndex_df160 1 1 (.iload_n 1) 1 rfl) 1 rfl ?_
  refine x_gsF C (List.mem_of_getElem? (i := 434) (by decide +kernel)) (k_dg dt_J0_checkIndex_df160 2 2 (.getstatic 1053) 3 rfl) (fun v hv => ?_)
  have e : (if j < 0 then none else if j < n then some ((), M) else none) = bd (if j < 0 then none else if j < n then some (j, M) else none) (fun _ M1 => some ((), M1)) := by (split; rfl; split <;> rfl)
  rw [e]
  refine x_callSE C (vs := [.int j, .int n, v]) (rest := []) (c_txpix hg G.2.1 j n v hv M) cy_J3_checkIndex_8e157 (List.mem_of_getElem? (i := 436) (by decide +kernel)) stt_J3_checkIndex_8e157 (by decide) (by decide) (by decide) (by decide) rfl rfl (Nat.le_of_ble_eq_true rfl) (k_dg dt_J0_checkIndex_df160 3 5 (.invokestatic 1059) 3 rfl) (fun r M1 _ => ?_)
  refine x_pop C (v := .int r) (k_dg dt_J0_checkIndex_df160 4 8 (.pop) 1 rfl) rfl ?_
  exact x_vret C (by decide) (by decide) (k_dg dt_J0_checkIndex_df160 5 9 (.return_) 1 rfl))
theorem c_txl1c {Z : k_Z} (hg : k_Gd Z) (l : Launch) (i : Nat) (j : Int32) (M : k_M) (hi : i < 9) : Con true Z l yJ1_charAt_3b067 cJ1_charAt_3b067 2 (some .char) 3 0 0 emI [k_sv Z i, .int j] M (rdS i j (fun v => some (v, M))) := k_con hg (by decide) (Nat.le_of_ble_eq_true rfl) (fun G hl C => by
  refine x_iload_n C (k_dg dt_J1_charAt_3b067 0 0 (.iload_n 1) 1 rfl) 1 rfl ?_
  refine x_aload_n C (k_dg dt_J1_charAt_3b067 1 1 (.aload_n 0) 1 rfl) 0 rfl ?_
  refine x_salen C hi (k_dg dt_J1_charAt_3b067 2 2 (.arraylength) 1 rfl) ?_
  rw [tx_e i j hi M]
  refine x_callSE C (vs := [.int j, .int (Int32.ofNat (k_txL.getD i 0))]) (rest := []) (c_txcix hg G.2.1 j _ M) cy_J0_checkIndex_df160 (List.mem_of_getElem? (i := 431) (by decide +kernel)) stt_J0_checkIndex_df160 (by decide) (by decide) (by decide) (by decide) rfl rfl (Nat.le_of_ble_eq_true rfl) (k_dg dt_J1_charAt_3b067 3 3 (.invokestatic 9) 3 rfl) (fun r M1 h => ?_)
  have hM : M = M1 := by (split at h; cases h; split at h; (cases h; rfl); cases h)
  subst hM
  refine x_aload_n C (k_dg dt_J1_charAt_3b067 4 6 (.aload_n 0) 1 rfl) 0 rfl ?_
  refine x_iload_n C (k_dg dt_J1_charAt_3b067 5 7 (.iload_n 1) 1 rfl) 1 rfl ?_
  unfold rdS
  by_cases hj : ix j (k_txL.getD i 0) = true
  · rw [if_pos hj]
    refine x_sald C hi hj (k_dg dt_J1_charAt_3b067 6 8 (.baload) 1 rfl) ?_
    refine x_sipush C (v := 255) (k_dg dt_J1_charAt_3b067 7 9 (.sipush 255) 3 rfl) (by decide) ?_
    refine x_iand C (k_dg dt_J1_charAt_3b067 8 12 (.iand) 1 rfl) ?_
    refine x_i2c C (tx_c i _ hi (ix_lt hj)).1 (k_dg dt_J1_charAt_3b067 9 13 (.i2c) 1 rfl) ?_
    exact x_zret C (by decide) (by decide) (tx_c i _ hi (ix_lt hj)).2 (k_dg dt_J1_charAt_3b067 10 14 (.ireturn) 1 rfl)
  · rw [if_neg hj]
    exact x_none)
theorem c_txchr {Z : k_Z} (hg : k_Gd Z) (l : Launch) (i : Nat) (j : Int32) (M : k_M) (hi : i < 9) : Con true Z l yJ0_charAt_5068e cJ0_charAt_5068e 2 (some .char) 4 0 0 emI [k_sa Z i, .int j] M (rdS i j (fun v => some (v, M))) := k_con hg (by decide) (Nat.le_of_ble_eq_true rfl) (fun G hl C => by
  refine x_aload_n C (k_dg dt_J0_charAt_5068e 0 0 (.aload_n 0) 1 rfl) 0 rfl ?_
  show Sm Z G emI _ _ _ _ _ M (bd (some ((1 : Int32), M)) (fun _ M1 => rdS i j (fun v => some (v, M1))))
  refine x_callVS C (vs := []) (rest := []) hi rfl (c_txlat hg G.2.1 i M hi) cy_J0_isLatin1_aae02 (List.mem_of_getElem? (i := 424) (by decide +kernel)) im_J0_isLatin1_aae02 se_J0_isLatin1_aae02 (by decide) (by decide) (by decide) (by decide) rfl rfl (Nat.le_of_ble_eq_true rfl) (k_dg dt_J0_charAt_5068e 1 1 (.invokevirtual 492) 3 rfl) (fun r M1 h => ?_)
  cases h
  refine (if_neg (by decide : ¬ (1 : Int32) = 0) : (if (1 : Int32) = 0 then none else rdS i j (fun v => some (v, M))) = rdS i j (fun v => some (v, M))) ▸ ?_
  refine x_if_eq C (tgt := 16) (k_dg dt_J0_charAt_5068e 2 4 (.ifCond .eq 12) 3 rfl) (by decide) (fun _ => x_none) (fun _ => ?_)
  refine x_aload_n C (k_dg dt_J0_charAt_5068e 3 7 (.aload_n 0) 1 rfl) 0 rfl ?_
  refine x_sgetv C hi (List.mem_of_getElem? (i := 1681) (by decide +kernel)) (k_dg dt_J0_charAt_5068e 4 8 (.getfield 9) 3 rfl) ?_
  refine x_iload_n C (k_dg dt_J0_charAt_5068e 5 11 (.iload_n 1) 1 rfl) 1 rfl ?_
  have e : rdS i j (fun v => some (v, M)) = bd (rdS i j (fun v => some (v, M))) (fun v M1 => some (v, M1)) := by unfold rdS; split <;> rfl
  rw [e]
  refine x_callSE C (vs := [k_sv Z i, .int j]) (rest := []) (c_txl1c hg G.2.1 i j M hi) cy_J1_charAt_3b067 (List.mem_of_getElem? (i := 428) (by decide +kernel)) stt_J1_charAt_3b067 (by decide) (by decide) (by decide) (by decide) rfl rfl (Nat.le_of_ble_eq_true rfl) (k_dg dt_J0_charAt_5068e 6 12 (.invokestatic 495) 3 rfl) (fun r M1 h => ?_)
  have hr : narrow .char (.int r) = .int r := by (unfold rdS at h; split at h; (rename_i hj; cases h; exact (tx_c i _ hi (ix_lt hj)).2); cases h)
  exact x_zret C (by decide) (by decide) hr (k_dg dt_J0_charAt_5068e 7 15 (.ireturn) 1 rfl))
section XU
variable {Z : k_Z} {G : k_G} {ρ : Type} {em : ρ → Option Value} {F2 : Nat × Nat × Nat × Nat} {K : Nat × Nat} {pc : Nat} {lv : List (Nat × Value)} {rest : List Value} {M : k_M} {o : Option (ρ × k_M)} {own : String} {cc : ByteArray} {ret : Option FieldType} {nm : String}
theorem x_slen (C : k_C Z G own cc (true, F2) ret nm) {i idx : Nat} (hi : i < 9) (hl : Cond.methodLink own idx yJ0_length_8abf5 ∈ lw_tbl) (hd : 3 ≤ F2.2.1) (h1 : K.1 ≤ F2.2.2.1) (h2 : K.2 ≤ F2.2.2.2) (hr : (rest.map fun v => v.category).sum ≤ 8) (hdg : decode cc pc = .ok (.invokevirtual idx, 3)) (kk : Sm Z G em (true, F2) K (pc + 3) lv (.int (Int32.ofNat (k_txL.getD i 0)) :: rest) M o) : Sm Z G em (true, F2) K pc lv (k_sa Z i :: rest) M o := by
  show Sm Z G em (true, F2) K pc lv (k_sa Z i :: rest) M (bd (some (Int32.ofNat (k_txL.getD i 0), M)) (fun _ _ => o))
  refine x_callVS C (vs := []) (rest := rest) hi rfl (c_txlen C.2.2.2.2.2.2.2.2.2 G.2.1 i M hi) cy_J0_length_8abf5 hl im_J0_length_8abf5 se_J0_length_8abf5 hd (by decide) h1 h2 rfl rfl hr hdg (fun r M1 h => ?_)
  cases h
  exact kk
theorem x_schr (C : k_C Z G own cc (true, F2) ret nm) {i idx : Nat} {j : Int32} {k : Int32 → Option (ρ × k_M)} (hi : i < 9) (hl : Cond.methodLink own idx yJ0_charAt_5068e ∈ lw_tbl) (hd : 5 ≤ F2.2.1) (h1 : K.1 ≤ F2.2.2.1) (h2 : K.2 ≤ F2.2.2.2) (hr : (rest.map fun v => v.category).sum ≤ 8) (hdg : decode cc pc = .ok (.invokevirtual idx, 3)) (kk : ∀ v : Int32, Sm Z G em (true, F2) K (pc + 3) lv (.int v :: rest) M (k v)) : Sm Z G em (true, F2) K pc lv (.int j :: k_sa Z i :: rest) M (rdS i j k) := by
  have e : rdS i j k = bd (rdS i j (fun v => some (v, M))) (fun v _ => k v) := by unfold rdS; split <;> rfl
  rw [e]
  refine x_callVS C (vs := [.int j]) (rest := rest) hi rfl (c_txchr C.2.2.2.2.2.2.2.2.2 G.2.1 i j M hi) cy_J0_charAt_5068e hl im_J0_charAt_5068e se_J0_charAt_5068e hd (by decide) h1 h2 rfl rfl hr hdg (fun r M1 h => ?_)
  have hM : M = M1 := by (unfold rdS at h; split at h; (cases h; rfl); cases h)
  subst hM
  exact kk r
end XU
end
