section
-- ===== PART A: goes FIRST, ahead of the names: the tables' words, and 'selects' of the private methods out of them =====
/-- a private method of a class that the tables say can be made, by its rows of tables_1 -/
def lw_okq (q : MethodName × Nat) : Prop := (q.1.cls ≠ "java/lang/invoke/MethodHandle" ∧ q.1.cls ≠ "java/lang/invoke/VarHandle") ∧ Cond.instantiable q.1.cls q.2 ∈ tables_1 ∧ Cond.privateMethod q.1 ∈ tables_1 ∧ Cond.instanceMethod q.1 ∈ tables_1
theorem lw_p0 : lw_okq (⟨"TouchMap$Way", "begin", "(IZ)V"⟩, 8) := ⟨⟨by decide +kernel, by decide +kernel⟩, List.mem_of_getElem? (i := 27) (by decide +kernel), List.mem_of_getElem? (i := 337) (by decide +kernel), List.mem_of_getElem? (i := 338) (by decide +kernel)⟩
theorem lw_p1 : lw_okq (⟨"TouchMap$Way", "takes", "(II)Z"⟩, 8) := ⟨⟨by decide +kernel, by decide +kernel⟩, List.mem_of_getElem? (i := 27) (by decide +kernel), List.mem_of_getElem? (i := 348) (by decide +kernel), List.mem_of_getElem? (i := 349) (by decide +kernel)⟩
theorem lw_p2 : lw_okq (⟨"TouchMap$Way", "add", "(II)V"⟩, 8) := ⟨⟨by decide +kernel, by decide +kernel⟩, List.mem_of_getElem? (i := 27) (by decide +kernel), List.mem_of_getElem? (i := 352) (by decide +kernel), List.mem_of_getElem? (i := 353) (by decide +kernel)⟩
theorem lw_p3 : lw_okq (⟨"TouchMap", "hasPoints", "(I)Z"⟩, 9) := ⟨⟨by decide +kernel, by decide +kernel⟩, List.mem_of_getElem? (i := 18) (by decide +kernel), List.mem_of_getElem? (i := 360) (by decide +kernel), List.mem_of_getElem? (i := 361) (by decide +kernel)⟩
theorem lw_p4 : lw_okq (⟨"TouchMap$Ruler", "thin", "(LTouchMap$Way;I)V"⟩, 4) := ⟨⟨by decide +kernel, by decide +kernel⟩, List.mem_of_getElem? (i := 117) (by decide +kernel), List.mem_of_getElem? (i := 364) (by decide +kernel), List.mem_of_getElem? (i := 365) (by decide +kernel)⟩
theorem lw_p5 : lw_okq (⟨"TouchMap$Ruler", "findNext", "(LTouchMap$Way;II)V"⟩, 4) := ⟨⟨by decide +kernel, by decide +kernel⟩, List.mem_of_getElem? (i := 117) (by decide +kernel), List.mem_of_getElem? (i := 368) (by decide +kernel), List.mem_of_getElem? (i := 369) (by decide +kernel)⟩
theorem lw_p6 : lw_okq (⟨"TouchMap$Ruler", "spares", "(LTouchMap$Way;III)Z"⟩, 4) := ⟨⟨by decide +kernel, by decide +kernel⟩, List.mem_of_getElem? (i := 117) (by decide +kernel), List.mem_of_getElem? (i := 372) (by decide +kernel), List.mem_of_getElem? (i := 373) (by decide +kernel)⟩
theorem lw_p7 : lw_okq (⟨"TouchMap$Way", "bringSpan", "(IILTouchMap$Line;)V"⟩, 8) := ⟨⟨by decide +kernel, by decide +kernel⟩, List.mem_of_getElem? (i := 27) (by decide +kernel), List.mem_of_getElem? (i := 376) (by decide +kernel), List.mem_of_getElem? (i := 377) (by decide +kernel)⟩
theorem lw_p8 : lw_okq (⟨"TouchMap$Line", "compareMiss", "(III)I"⟩, 4) := ⟨⟨by decide +kernel, by decide +kernel⟩, List.mem_of_getElem? (i := 123) (by decide +kernel), List.mem_of_getElem? (i := 380) (by decide +kernel), List.mem_of_getElem? (i := 381) (by decide +kernel)⟩
theorem lw_p9 : lw_okq (⟨"TouchMap$Line", "along", "(II)I"⟩, 4) := ⟨⟨by decide +kernel, by decide +kernel⟩, List.mem_of_getElem? (i := 123) (by decide +kernel), List.mem_of_getElem? (i := 384) (by decide +kernel), List.mem_of_getElem? (i := 385) (by decide +kernel)⟩
theorem lw_p10 : lw_okq (⟨"TouchMap$Line", "side", "(II)I"⟩, 4) := ⟨⟨by decide +kernel, by decide +kernel⟩, List.mem_of_getElem? (i := 123) (by decide +kernel), List.mem_of_getElem? (i := 394) (by decide +kernel), List.mem_of_getElem? (i := 395) (by decide +kernel)⟩
theorem lw_p11 : lw_okq (⟨"TouchMap$Way", "bend", "(I)I"⟩, 8) := ⟨⟨by decide +kernel, by decide +kernel⟩, List.mem_of_getElem? (i := 27) (by decide +kernel), List.mem_of_getElem? (i := 406) (by decide +kernel), List.mem_of_getElem? (i := 407) (by decide +kernel)⟩
theorem lw_p12 : lw_okq (⟨"TouchMap", "areTwoWays", "(II)Z"⟩, 9) := ⟨⟨by decide +kernel, by decide +kernel⟩, List.mem_of_getElem? (i := 18) (by decide +kernel), List.mem_of_getElem? (i := 418) (by decide +kernel), List.mem_of_getElem? (i := 419) (by decide +kernel)⟩
theorem lw_p13 : lw_okq (⟨"TouchMap$Ruler", "areTooNear", "(LTouchMap$Way;LTouchMap$Way;I)Z"⟩, 4) := ⟨⟨by decide +kernel, by decide +kernel⟩, List.mem_of_getElem? (i := 117) (by decide +kernel), List.mem_of_getElem? (i := 422) (by decide +kernel), List.mem_of_getElem? (i := 423) (by decide +kernel)⟩
theorem lw_p14 : lw_okq (⟨"TouchMap$Way", "bringLine", "(ILTouchMap$Line;)V"⟩, 8) := ⟨⟨by decide +kernel, by decide +kernel⟩, List.mem_of_getElem? (i := 27) (by decide +kernel), List.mem_of_getElem? (i := 426) (by decide +kernel), List.mem_of_getElem? (i := 427) (by decide +kernel)⟩
theorem lw_p15 : lw_okq (⟨"TouchMap$Line", "sharesEnd", "(LTouchMap$Line;)Z"⟩, 4) := ⟨⟨by decide +kernel, by decide +kernel⟩, List.mem_of_getElem? (i := 123) (by decide +kernel), List.mem_of_getElem? (i := 431) (by decide +kernel), List.mem_of_getElem? (i := 432) (by decide +kernel)⟩
def lw_privs_1 : List (MethodName × Nat) := [(⟨"TouchMap$Way", "begin", "(IZ)V"⟩, 8), (⟨"TouchMap$Way", "takes", "(II)Z"⟩, 8), (⟨"TouchMap$Way", "add", "(II)V"⟩, 8), (⟨"TouchMap", "hasPoints", "(I)Z"⟩, 9), (⟨"TouchMap$Ruler", "thin", "(LTouchMap$Way;I)V"⟩, 4), (⟨"TouchMap$Ruler", "findNext", "(LTouchMap$Way;II)V"⟩, 4), (⟨"TouchMap$Ruler", "spares", "(LTouchMap$Way;III)Z"⟩, 4), (⟨"TouchMap$Way", "bringSpan", "(IILTouchMap$Line;)V"⟩, 8), (⟨"TouchMap$Line", "compareMiss", "(III)I"⟩, 4), (⟨"TouchMap$Line", "along", "(II)I"⟩, 4), (⟨"TouchMap$Line", "side", "(II)I"⟩, 4), (⟨"TouchMap$Way", "bend", "(I)I"⟩, 8), (⟨"TouchMap", "areTwoWays", "(II)Z"⟩, 9), (⟨"TouchMap$Ruler", "areTooNear", "(LTouchMap$Way;LTouchMap$Way;I)Z"⟩, 4), (⟨"TouchMap$Way", "bringLine", "(ILTouchMap$Line;)V"⟩, 8), (⟨"TouchMap$Line", "sharesEnd", "(LTouchMap$Line;)Z"⟩, 4)]
theorem lw_r1 : ∀ q ∈ lw_privs_1, lw_okq q := List.forall_mem_cons.mpr ⟨lw_p0, List.forall_mem_cons.mpr ⟨lw_p1, List.forall_mem_cons.mpr ⟨lw_p2, List.forall_mem_cons.mpr ⟨lw_p3, List.forall_mem_cons.mpr ⟨lw_p4, List.forall_mem_cons.mpr ⟨lw_p5, List.forall_mem_cons.mpr ⟨lw_p6, List.forall_mem_cons.mpr ⟨lw_p7, List.forall_mem_cons.mpr ⟨lw_p8, List.forall_mem_cons.mpr ⟨lw_p9, List.forall_mem_cons.mpr ⟨lw_p10, List.forall_mem_cons.mpr ⟨lw_p11, List.forall_mem_cons.mpr ⟨lw_p12, List.forall_mem_cons.mpr ⟨lw_p13, List.forall_mem_cons.mpr ⟨lw_p14, List.forall_mem_cons.mpr ⟨lw_p15, fun _ h => absurd h List.not_mem_nil⟩⟩⟩⟩⟩⟩⟩⟩⟩⟩⟩⟩⟩⟩⟩⟩
theorem lw_p16 : lw_okq (⟨"TouchMap$Line", "hasEnd", "(II)Z"⟩, 4) := ⟨⟨by decide +kernel, by decide +kernel⟩, List.mem_of_getElem? (i := 123) (by decide +kernel), List.mem_of_getElem? (i := 435) (by decide +kernel), List.mem_of_getElem? (i := 436) (by decide +kernel)⟩
theorem lw_p17 : lw_okq (⟨"TouchMap$Line", "isNearer", "(LTouchMap$Line;I)Z"⟩, 4) := ⟨⟨by decide +kernel, by decide +kernel⟩, List.mem_of_getElem? (i := 123) (by decide +kernel), List.mem_of_getElem? (i := 439) (by decide +kernel), List.mem_of_getElem? (i := 440) (by decide +kernel)⟩
theorem lw_p18 : lw_okq (⟨"TouchMap$Line", "cuts", "(LTouchMap$Line;)Z"⟩, 4) := ⟨⟨by decide +kernel, by decide +kernel⟩, List.mem_of_getElem? (i := 123) (by decide +kernel), List.mem_of_getElem? (i := 443) (by decide +kernel), List.mem_of_getElem? (i := 444) (by decide +kernel)⟩
theorem lw_p19 : lw_okq (⟨"TouchMap$Ruler", "countCrossed", "(LTouchMap$Way;LTouchMap$Way;)I"⟩, 4) := ⟨⟨by decide +kernel, by decide +kernel⟩, List.mem_of_getElem? (i := 117) (by decide +kernel), List.mem_of_getElem? (i := 455) (by decide +kernel), List.mem_of_getElem? (i := 456) (by decide +kernel)⟩
theorem lw_p20 : lw_okq (⟨"TouchMap$Line", "crosses", "(LTouchMap$Line;)Z"⟩, 4) := ⟨⟨by decide +kernel, by decide +kernel⟩, List.mem_of_getElem? (i := 123) (by decide +kernel), List.mem_of_getElem? (i := 459) (by decide +kernel), List.mem_of_getElem? (i := 460) (by decide +kernel)⟩
theorem lw_p21 : lw_okq (⟨"TouchMap$Line", "overlaps", "(LTouchMap$Line;)Z"⟩, 4) := ⟨⟨by decide +kernel, by decide +kernel⟩, List.mem_of_getElem? (i := 123) (by decide +kernel), List.mem_of_getElem? (i := 463) (by decide +kernel), List.mem_of_getElem? (i := 464) (by decide +kernel)⟩
theorem lw_p22 : lw_okq (⟨"TouchMap$Keeper", "find", "([LTouchMap$Way;LTouchMap$Ruler;I)I"⟩, 2) := ⟨⟨by decide +kernel, by decide +kernel⟩, List.mem_of_getElem? (i := 159) (by decide +kernel), List.mem_of_getElem? (i := 477) (by decide +kernel), List.mem_of_getElem? (i := 478) (by decide +kernel)⟩
theorem lw_p23 : lw_okq (⟨"TouchMap$Keeper", "measure", "([LTouchMap$Way;LTouchMap$Ruler;I)I"⟩, 2) := ⟨⟨by decide +kernel, by decide +kernel⟩, List.mem_of_getElem? (i := 159) (by decide +kernel), List.mem_of_getElem? (i := 481) (by decide +kernel), List.mem_of_getElem? (i := 482) (by decide +kernel)⟩
theorem lw_p24 : lw_okq (⟨"TouchMap$Chooser", "clearClashes", "()V"⟩, 8) := ⟨⟨by decide +kernel, by decide +kernel⟩, List.mem_of_getElem? (i := 165) (by decide +kernel), List.mem_of_getElem? (i := 485) (by decide +kernel), List.mem_of_getElem? (i := 486) (by decide +kernel)⟩
theorem lw_p25 : lw_okq (⟨"TouchMap$Chooser", "price", "(II)V"⟩, 8) := ⟨⟨by decide +kernel, by decide +kernel⟩, List.mem_of_getElem? (i := 165) (by decide +kernel), List.mem_of_getElem? (i := 489) (by decide +kernel), List.mem_of_getElem? (i := 490) (by decide +kernel)⟩
theorem lw_p26 : lw_okq (⟨"TouchMap$Chooser", "choose", "(I)I"⟩, 8) := ⟨⟨by decide +kernel, by decide +kernel⟩, List.mem_of_getElem? (i := 165) (by decide +kernel), List.mem_of_getElem? (i := 500) (by decide +kernel), List.mem_of_getElem? (i := 501) (by decide +kernel)⟩
theorem lw_p27 : lw_okq (⟨"TouchMap$Keeper", "holds", "(I)Z"⟩, 2) := ⟨⟨by decide +kernel, by decide +kernel⟩, List.mem_of_getElem? (i := 159) (by decide +kernel), List.mem_of_getElem? (i := 514) (by decide +kernel), List.mem_of_getElem? (i := 515) (by decide +kernel)⟩
theorem lw_p28 : lw_okq (⟨"TouchMap$Word", "append", "(I)V"⟩, 2) := ⟨⟨by decide +kernel, by decide +kernel⟩, List.mem_of_getElem? (i := 78) (by decide +kernel), List.mem_of_getElem? (i := 522) (by decide +kernel), List.mem_of_getElem? (i := 523) (by decide +kernel)⟩
theorem lw_p29 : lw_okq (⟨"TouchMap$Speller", "shorten", "(ILTouchMap$Word;I)V"⟩, 6) := ⟨⟨by decide +kernel, by decide +kernel⟩, List.mem_of_getElem? (i := 210) (by decide +kernel), List.mem_of_getElem? (i := 530) (by decide +kernel), List.mem_of_getElem? (i := 531) (by decide +kernel)⟩
theorem lw_p30 : lw_okq (⟨"TouchMap$Word", "copy", "(LTouchMap$Word;)V"⟩, 2) := ⟨⟨by decide +kernel, by decide +kernel⟩, List.mem_of_getElem? (i := 78) (by decide +kernel), List.mem_of_getElem? (i := 534) (by decide +kernel), List.mem_of_getElem? (i := 535) (by decide +kernel)⟩
theorem lw_p31 : lw_okq (⟨"TouchMap$Word", "clear", "()V"⟩, 2) := ⟨⟨by decide +kernel, by decide +kernel⟩, List.mem_of_getElem? (i := 78) (by decide +kernel), List.mem_of_getElem? (i := 538) (by decide +kernel), List.mem_of_getElem? (i := 539) (by decide +kernel)⟩
def lw_privs_2 : List (MethodName × Nat) := [(⟨"TouchMap$Line", "hasEnd", "(II)Z"⟩, 4), (⟨"TouchMap$Line", "isNearer", "(LTouchMap$Line;I)Z"⟩, 4), (⟨"TouchMap$Line", "cuts", "(LTouchMap$Line;)Z"⟩, 4), (⟨"TouchMap$Ruler", "countCrossed", "(LTouchMap$Way;LTouchMap$Way;)I"⟩, 4), (⟨"TouchMap$Line", "crosses", "(LTouchMap$Line;)Z"⟩, 4), (⟨"TouchMap$Line", "overlaps", "(LTouchMap$Line;)Z"⟩, 4), (⟨"TouchMap$Keeper", "find", "([LTouchMap$Way;LTouchMap$Ruler;I)I"⟩, 2), (⟨"TouchMap$Keeper", "measure", "([LTouchMap$Way;LTouchMap$Ruler;I)I"⟩, 2), (⟨"TouchMap$Chooser", "clearClashes", "()V"⟩, 8), (⟨"TouchMap$Chooser", "price", "(II)V"⟩, 8), (⟨"TouchMap$Chooser", "choose", "(I)I"⟩, 8), (⟨"TouchMap$Keeper", "holds", "(I)Z"⟩, 2), (⟨"TouchMap$Word", "append", "(I)V"⟩, 2), (⟨"TouchMap$Speller", "shorten", "(ILTouchMap$Word;I)V"⟩, 6), (⟨"TouchMap$Word", "copy", "(LTouchMap$Word;)V"⟩, 2), (⟨"TouchMap$Word", "clear", "()V"⟩, 2)]
theorem lw_r2 : ∀ q ∈ lw_privs_2, lw_okq q := List.forall_mem_cons.mpr ⟨lw_p16, List.forall_mem_cons.mpr ⟨lw_p17, List.forall_mem_cons.mpr ⟨lw_p18, List.forall_mem_cons.mpr ⟨lw_p19, List.forall_mem_cons.mpr ⟨lw_p20, List.forall_mem_cons.mpr ⟨lw_p21, List.forall_mem_cons.mpr ⟨lw_p22, List.forall_mem_cons.mpr ⟨lw_p23, List.forall_mem_cons.mpr ⟨lw_p24, List.forall_mem_cons.mpr ⟨lw_p25, List.forall_mem_cons.mpr ⟨lw_p26, List.forall_mem_cons.mpr ⟨lw_p27, List.forall_mem_cons.mpr ⟨lw_p28, List.forall_mem_cons.mpr ⟨lw_p29, List.forall_mem_cons.mpr ⟨lw_p30, List.forall_mem_cons.mpr ⟨lw_p31, fun _ h => absurd h List.not_mem_nil⟩⟩⟩⟩⟩⟩⟩⟩⟩⟩⟩⟩⟩⟩⟩⟩
theorem lw_p32 : lw_okq (⟨"TouchMap$Name", "begin", "(LTouchMap$Word;III)V"⟩, 5) := ⟨⟨by decide +kernel, by decide +kernel⟩, List.mem_of_getElem? (i := 72) (by decide +kernel), List.mem_of_getElem? (i := 548) (by decide +kernel), List.mem_of_getElem? (i := 549) (by decide +kernel)⟩
theorem lw_p33 : lw_okq (⟨"TouchMap$Speller", "spell", "(LTouchMap$Word;)I"⟩, 6) := ⟨⟨by decide +kernel, by decide +kernel⟩, List.mem_of_getElem? (i := 210) (by decide +kernel), List.mem_of_getElem? (i := 553) (by decide +kernel), List.mem_of_getElem? (i := 554) (by decide +kernel)⟩
theorem lw_p34 : lw_okq (⟨"TouchMap$Speller", "findStep", "(LTouchMap$Word;I)V"⟩, 6) := ⟨⟨by decide +kernel, by decide +kernel⟩, List.mem_of_getElem? (i := 210) (by decide +kernel), List.mem_of_getElem? (i := 557) (by decide +kernel), List.mem_of_getElem? (i := 558) (by decide +kernel)⟩
theorem lw_p35 : lw_okq (⟨"TouchMap$Word", "hasAt", "(ILTouchMap$Word;)Z"⟩, 2) := ⟨⟨by decide +kernel, by decide +kernel⟩, List.mem_of_getElem? (i := 78) (by decide +kernel), List.mem_of_getElem? (i := 563) (by decide +kernel), List.mem_of_getElem? (i := 564) (by decide +kernel)⟩
theorem lw_p36 : lw_okq (⟨"TouchMap$Speller", "offerStep", "(III)V"⟩, 6) := ⟨⟨by decide +kernel, by decide +kernel⟩, List.mem_of_getElem? (i := 210) (by decide +kernel), List.mem_of_getElem? (i := 567) (by decide +kernel), List.mem_of_getElem? (i := 568) (by decide +kernel)⟩
theorem lw_p37 : lw_okq (⟨"TouchMap", "isName", "(I)Z"⟩, 9) := ⟨⟨by decide +kernel, by decide +kernel⟩, List.mem_of_getElem? (i := 18) (by decide +kernel), List.mem_of_getElem? (i := 575) (by decide +kernel), List.mem_of_getElem? (i := 576) (by decide +kernel)⟩
theorem lw_p38 : lw_okq (⟨"TouchMap$Setter", "measure", "([LTouchMap$Name;LTouchMap$Speller;)V"⟩, 7) := ⟨⟨by decide +kernel, by decide +kernel⟩, List.mem_of_getElem? (i := 239) (by decide +kernel), List.mem_of_getElem? (i := 587) (by decide +kernel), List.mem_of_getElem? (i := 588) (by decide +kernel)⟩
theorem lw_p39 : lw_okq (⟨"TouchMap$Setter", "putBox", "(IIII)V"⟩, 7) := ⟨⟨by decide +kernel, by decide +kernel⟩, List.mem_of_getElem? (i := 239) (by decide +kernel), List.mem_of_getElem? (i := 592) (by decide +kernel), List.mem_of_getElem? (i := 593) (by decide +kernel)⟩
theorem lw_p40 : lw_okq (⟨"TouchMap$Setter", "avoid", "([LTouchMap$Way;LTouchMap$Keeper;)V"⟩, 7) := ⟨⟨by decide +kernel, by decide +kernel⟩, List.mem_of_getElem? (i := 239) (by decide +kernel), List.mem_of_getElem? (i := 598) (by decide +kernel), List.mem_of_getElem? (i := 599) (by decide +kernel)⟩
theorem lw_p41 : lw_okq (⟨"TouchMap$Setter", "avoidWay", "(LTouchMap$Way;)V"⟩, 7) := ⟨⟨by decide +kernel, by decide +kernel⟩, List.mem_of_getElem? (i := 239) (by decide +kernel), List.mem_of_getElem? (i := 603) (by decide +kernel), List.mem_of_getElem? (i := 604) (by decide +kernel)⟩
theorem lw_p42 : lw_okq (⟨"TouchMap$Setter", "isUsable", "(I)Z"⟩, 7) := ⟨⟨by decide +kernel, by decide +kernel⟩, List.mem_of_getElem? (i := 239) (by decide +kernel), List.mem_of_getElem? (i := 608) (by decide +kernel), List.mem_of_getElem? (i := 609) (by decide +kernel)⟩
theorem lw_p43 : lw_okq (⟨"TouchMap$Line", "enters", "(IIII)Z"⟩, 4) := ⟨⟨by decide +kernel, by decide +kernel⟩, List.mem_of_getElem? (i := 123) (by decide +kernel), List.mem_of_getElem? (i := 612) (by decide +kernel), List.mem_of_getElem? (i := 613) (by decide +kernel)⟩
theorem lw_p44 : lw_okq (⟨"TouchMap$Setter", "find", "([LTouchMap$Name;)I"⟩, 7) := ⟨⟨by decide +kernel, by decide +kernel⟩, List.mem_of_getElem? (i := 239) (by decide +kernel), List.mem_of_getElem? (i := 616) (by decide +kernel), List.mem_of_getElem? (i := 617) (by decide +kernel)⟩
theorem lw_p45 : lw_okq (⟨"TouchMap$Setter", "overlap", "(II)Z"⟩, 7) := ⟨⟨by decide +kernel, by decide +kernel⟩, List.mem_of_getElem? (i := 239) (by decide +kernel), List.mem_of_getElem? (i := 621) (by decide +kernel), List.mem_of_getElem? (i := 622) (by decide +kernel)⟩
theorem lw_p46 : lw_okq (⟨"TouchMap$Layer", "find", "(I)I"⟩, 6) := ⟨⟨by decide +kernel, by decide +kernel⟩, List.mem_of_getElem? (i := 272) (by decide +kernel), List.mem_of_getElem? (i := 647) (by decide +kernel), List.mem_of_getElem? (i := 648) (by decide +kernel)⟩
theorem lw_p47 : lw_okq (⟨"TouchMap$Layer", "findOfSize", "(II)Z"⟩, 6) := ⟨⟨by decide +kernel, by decide +kernel⟩, List.mem_of_getElem? (i := 272) (by decide +kernel), List.mem_of_getElem? (i := 651) (by decide +kernel), List.mem_of_getElem? (i := 652) (by decide +kernel)⟩
def lw_privs_3 : List (MethodName × Nat) := [(⟨"TouchMap$Name", "begin", "(LTouchMap$Word;III)V"⟩, 5), (⟨"TouchMap$Speller", "spell", "(LTouchMap$Word;)I"⟩, 6), (⟨"TouchMap$Speller", "findStep", "(LTouchMap$Word;I)V"⟩, 6), (⟨"TouchMap$Word", "hasAt", "(ILTouchMap$Word;)Z"⟩, 2), (⟨"TouchMap$Speller", "offerStep", "(III)V"⟩, 6), (⟨"TouchMap", "isName", "(I)Z"⟩, 9), (⟨"TouchMap$Setter", "measure", "([LTouchMap$Name;LTouchMap$Speller;)V"⟩, 7), (⟨"TouchMap$Setter", "putBox", "(IIII)V"⟩, 7), (⟨"TouchMap$Setter", "avoid", "([LTouchMap$Way;LTouchMap$Keeper;)V"⟩, 7), (⟨"TouchMap$Setter", "avoidWay", "(LTouchMap$Way;)V"⟩, 7), (⟨"TouchMap$Setter", "isUsable", "(I)Z"⟩, 7), (⟨"TouchMap$Line", "enters", "(IIII)Z"⟩, 4), (⟨"TouchMap$Setter", "find", "([LTouchMap$Name;)I"⟩, 7), (⟨"TouchMap$Setter", "overlap", "(II)Z"⟩, 7), (⟨"TouchMap$Layer", "find", "(I)I"⟩, 6), (⟨"TouchMap$Layer", "findOfSize", "(II)Z"⟩, 6)]
theorem lw_r3 : ∀ q ∈ lw_privs_3, lw_okq q := List.forall_mem_cons.mpr ⟨lw_p32, List.forall_mem_cons.mpr ⟨lw_p33, List.forall_mem_cons.mpr ⟨lw_p34, List.forall_mem_cons.mpr ⟨lw_p35, List.forall_mem_cons.mpr ⟨lw_p36, List.forall_mem_cons.mpr ⟨lw_p37, List.forall_mem_cons.mpr ⟨lw_p38, List.forall_mem_cons.mpr ⟨lw_p39, List.forall_mem_cons.mpr ⟨lw_p40, List.forall_mem_cons.mpr ⟨lw_p41, List.forall_mem_cons.mpr ⟨lw_p42, List.forall_mem_cons.mpr ⟨lw_p43, List.forall_mem_cons.mpr ⟨lw_p44, List.forall_mem_cons.mpr ⟨lw_p45, List.forall_mem_cons.mpr ⟨lw_p46, List.forall_mem_cons.mpr ⟨lw_p47, fun _ h => absurd h List.not_mem_nil⟩⟩⟩⟩⟩⟩⟩⟩⟩⟩⟩⟩⟩⟩⟩⟩
theorem lw_p48 : lw_okq (⟨"TouchMap$Layer", "narrow", "(IIIJ)J"⟩, 6) := ⟨⟨by decide +kernel, by decide +kernel⟩, List.mem_of_getElem? (i := 272) (by decide +kernel), List.mem_of_getElem? (i := 668) (by decide +kernel), List.mem_of_getElem? (i := 669) (by decide +kernel)⟩
theorem lw_p49 : lw_okq (⟨"TouchMap$Layer", "isTrialLess", "(I)Z"⟩, 6) := ⟨⟨by decide +kernel, by decide +kernel⟩, List.mem_of_getElem? (i := 272) (by decide +kernel), List.mem_of_getElem? (i := 673) (by decide +kernel), List.mem_of_getElem? (i := 674) (by decide +kernel)⟩
theorem lw_p50 : lw_okq (⟨"TouchMapModel", "isWay", "(I)Z"⟩, 38) := ⟨⟨by decide +kernel, by decide +kernel⟩, List.mem_of_getElem? (i := 682) (by decide +kernel), List.mem_of_getElem? (i := 815) (by decide +kernel), List.mem_of_getElem? (i := 816) (by decide +kernel)⟩
theorem lw_p51 : lw_okq (⟨"TouchMapModel", "isNear", "(IIII)Z"⟩, 38) := ⟨⟨by decide +kernel, by decide +kernel⟩, List.mem_of_getElem? (i := 682) (by decide +kernel), List.mem_of_getElem? (i := 823) (by decide +kernel), List.mem_of_getElem? (i := 824) (by decide +kernel)⟩
theorem lw_p52 : lw_okq (⟨"TouchMapModel", "far", "(IIII)I"⟩, 38) := ⟨⟨by decide +kernel, by decide +kernel⟩, List.mem_of_getElem? (i := 682) (by decide +kernel), List.mem_of_getElem? (i := 827) (by decide +kernel), List.mem_of_getElem? (i := 828) (by decide +kernel)⟩
theorem lw_p53 : lw_okq (⟨"TouchMapModel", "apart", "(II)J"⟩, 38) := ⟨⟨by decide +kernel, by decide +kernel⟩, List.mem_of_getElem? (i := 682) (by decide +kernel), List.mem_of_getElem? (i := 831) (by decide +kernel), List.mem_of_getElem? (i := 832) (by decide +kernel)⟩
theorem lw_p54 : lw_okq (⟨"TouchMapModel", "cross", "(III)J"⟩, 38) := ⟨⟨by decide +kernel, by decide +kernel⟩, List.mem_of_getElem? (i := 682) (by decide +kernel), List.mem_of_getElem? (i := 841) (by decide +kernel), List.mem_of_getElem? (i := 842) (by decide +kernel)⟩
theorem lw_p55 : lw_okq (⟨"TouchMapModel", "puts", "(II)V"⟩, 38) := ⟨⟨by decide +kernel, by decide +kernel⟩, List.mem_of_getElem? (i := 682) (by decide +kernel), List.mem_of_getElem? (i := 845) (by decide +kernel), List.mem_of_getElem? (i := 846) (by decide +kernel)⟩
theorem lw_p56 : lw_okq (⟨"TouchMapModel", "at", "(II)I"⟩, 38) := ⟨⟨by decide +kernel, by decide +kernel⟩, List.mem_of_getElem? (i := 682) (by decide +kernel), List.mem_of_getElem? (i := 857) (by decide +kernel), List.mem_of_getElem? (i := 858) (by decide +kernel)⟩
theorem lw_p57 : lw_okq (⟨"TouchMapModel", "isThere", "(I)Z"⟩, 38) := ⟨⟨by decide +kernel, by decide +kernel⟩, List.mem_of_getElem? (i := 682) (by decide +kernel), List.mem_of_getElem? (i := 869) (by decide +kernel), List.mem_of_getElem? (i := 870) (by decide +kernel)⟩
theorem lw_p58 : lw_okq (⟨"TouchMapModel", "areNear", "(II)Z"⟩, 38) := ⟨⟨by decide +kernel, by decide +kernel⟩, List.mem_of_getElem? (i := 682) (by decide +kernel), List.mem_of_getElem? (i := 873) (by decide +kernel), List.mem_of_getElem? (i := 874) (by decide +kernel)⟩
theorem lw_p59 : lw_okq (⟨"TouchMapModel", "isClose", "(IIII)Z"⟩, 38) := ⟨⟨by decide +kernel, by decide +kernel⟩, List.mem_of_getElem? (i := 682) (by decide +kernel), List.mem_of_getElem? (i := 877) (by decide +kernel), List.mem_of_getElem? (i := 878) (by decide +kernel)⟩
theorem lw_p60 : lw_okq (⟨"TouchMapModel", "isSame", "(II)Z"⟩, 38) := ⟨⟨by decide +kernel, by decide +kernel⟩, List.mem_of_getElem? (i := 682) (by decide +kernel), List.mem_of_getElem? (i := 881) (by decide +kernel), List.mem_of_getElem? (i := 882) (by decide +kernel)⟩
theorem lw_p61 : lw_okq (⟨"TouchMapModel", "meets", "(IIII)Z"⟩, 38) := ⟨⟨by decide +kernel, by decide +kernel⟩, List.mem_of_getElem? (i := 682) (by decide +kernel), List.mem_of_getElem? (i := 885) (by decide +kernel), List.mem_of_getElem? (i := 886) (by decide +kernel)⟩
theorem lw_p62 : lw_okq (⟨"TouchMapModel", "isOn", "(III)Z"⟩, 38) := ⟨⟨by decide +kernel, by decide +kernel⟩, List.mem_of_getElem? (i := 682) (by decide +kernel), List.mem_of_getElem? (i := 889) (by decide +kernel), List.mem_of_getElem? (i := 890) (by decide +kernel)⟩
theorem lw_p63 : lw_okq (⟨"TouchMapModel", "crosses", "(IIII)Z"⟩, 38) := ⟨⟨by decide +kernel, by decide +kernel⟩, List.mem_of_getElem? (i := 682) (by decide +kernel), List.mem_of_getElem? (i := 897) (by decide +kernel), List.mem_of_getElem? (i := 898) (by decide +kernel)⟩
def lw_privs_4 : List (MethodName × Nat) := [(⟨"TouchMap$Layer", "narrow", "(IIIJ)J"⟩, 6), (⟨"TouchMap$Layer", "isTrialLess", "(I)Z"⟩, 6), (⟨"TouchMapModel", "isWay", "(I)Z"⟩, 38), (⟨"TouchMapModel", "isNear", "(IIII)Z"⟩, 38), (⟨"TouchMapModel", "far", "(IIII)I"⟩, 38), (⟨"TouchMapModel", "apart", "(II)J"⟩, 38), (⟨"TouchMapModel", "cross", "(III)J"⟩, 38), (⟨"TouchMapModel", "puts", "(II)V"⟩, 38), (⟨"TouchMapModel", "at", "(II)I"⟩, 38), (⟨"TouchMapModel", "isThere", "(I)Z"⟩, 38), (⟨"TouchMapModel", "areNear", "(II)Z"⟩, 38), (⟨"TouchMapModel", "isClose", "(IIII)Z"⟩, 38), (⟨"TouchMapModel", "isSame", "(II)Z"⟩, 38), (⟨"TouchMapModel", "meets", "(IIII)Z"⟩, 38), (⟨"TouchMapModel", "isOn", "(III)Z"⟩, 38), (⟨"TouchMapModel", "crosses", "(IIII)Z"⟩, 38)]
theorem lw_r4 : ∀ q ∈ lw_privs_4, lw_okq q := List.forall_mem_cons.mpr ⟨lw_p48, List.forall_mem_cons.mpr ⟨lw_p49, List.forall_mem_cons.mpr ⟨lw_p50, List.forall_mem_cons.mpr ⟨lw_p51, List.forall_mem_cons.mpr ⟨lw_p52, List.forall_mem_cons.mpr ⟨lw_p53, List.forall_mem_cons.mpr ⟨lw_p54, List.forall_mem_cons.mpr ⟨lw_p55, List.forall_mem_cons.mpr ⟨lw_p56, List.forall_mem_cons.mpr ⟨lw_p57, List.forall_mem_cons.mpr ⟨lw_p58, List.forall_mem_cons.mpr ⟨lw_p59, List.forall_mem_cons.mpr ⟨lw_p60, List.forall_mem_cons.mpr ⟨lw_p61, List.forall_mem_cons.mpr ⟨lw_p62, List.forall_mem_cons.mpr ⟨lw_p63, fun _ h => absurd h List.not_mem_nil⟩⟩⟩⟩⟩⟩⟩⟩⟩⟩⟩⟩⟩⟩⟩⟩
theorem lw_p64 : lw_okq (⟨"TouchMapModel", "mayBe", "(I)Z"⟩, 38) := ⟨⟨by decide +kernel, by decide +kernel⟩, List.mem_of_getElem? (i := 682) (by decide +kernel), List.mem_of_getElem? (i := 911) (by decide +kernel), List.mem_of_getElem? (i := 912) (by decide +kernel)⟩
theorem lw_p65 : lw_okq (⟨"TouchMapModel", "worthOf", "(I)I"⟩, 38) := ⟨⟨by decide +kernel, by decide +kernel⟩, List.mem_of_getElem? (i := 682) (by decide +kernel), List.mem_of_getElem? (i := 915) (by decide +kernel), List.mem_of_getElem? (i := 916) (by decide +kernel)⟩
theorem lw_p66 : lw_okq (⟨"TouchMapModel", "writes", "(I)I"⟩, 38) := ⟨⟨by decide +kernel, by decide +kernel⟩, List.mem_of_getElem? (i := 682) (by decide +kernel), List.mem_of_getElem? (i := 941) (by decide +kernel), List.mem_of_getElem? (i := 942) (by decide +kernel)⟩
theorem lw_p67 : lw_okq (⟨"TouchMapModel", "stands", "(III)Z"⟩, 38) := ⟨⟨by decide +kernel, by decide +kernel⟩, List.mem_of_getElem? (i := 682) (by decide +kernel), List.mem_of_getElem? (i := 945) (by decide +kernel), List.mem_of_getElem? (i := 946) (by decide +kernel)⟩
theorem lw_p68 : lw_okq (⟨"TouchMapModel", "isName", "(I)Z"⟩, 38) := ⟨⟨by decide +kernel, by decide +kernel⟩, List.mem_of_getElem? (i := 682) (by decide +kernel), List.mem_of_getElem? (i := 953) (by decide +kernel), List.mem_of_getElem? (i := 954) (by decide +kernel)⟩
theorem lw_p69 : lw_okq (⟨"TouchMapModel", "boxes", "()V"⟩, 38) := ⟨⟨by decide +kernel, by decide +kernel⟩, List.mem_of_getElem? (i := 682) (by decide +kernel), List.mem_of_getElem? (i := 965) (by decide +kernel), List.mem_of_getElem? (i := 966) (by decide +kernel)⟩
theorem lw_p70 : lw_okq (⟨"TouchMapModel", "isFree", "(I)Z"⟩, 38) := ⟨⟨by decide +kernel, by decide +kernel⟩, List.mem_of_getElem? (i := 682) (by decide +kernel), List.mem_of_getElem? (i := 969) (by decide +kernel), List.mem_of_getElem? (i := 970) (by decide +kernel)⟩
theorem lw_p71 : lw_okq (⟨"TouchMapModel", "isThrough", "(III)Z"⟩, 38) := ⟨⟨by decide +kernel, by decide +kernel⟩, List.mem_of_getElem? (i := 682) (by decide +kernel), List.mem_of_getElem? (i := 973) (by decide +kernel), List.mem_of_getElem? (i := 974) (by decide +kernel)⟩
theorem lw_p72 : lw_okq (⟨"TouchMapModel", "mayCome", "(I)Z"⟩, 38) := ⟨⟨by decide +kernel, by decide +kernel⟩, List.mem_of_getElem? (i := 682) (by decide +kernel), List.mem_of_getElem? (i := 978) (by decide +kernel), List.mem_of_getElem? (i := 979) (by decide +kernel)⟩
theorem lw_p73 : lw_okq (⟨"TouchMapModel", "mayHave", "(I)Z"⟩, 38) := ⟨⟨by decide +kernel, by decide +kernel⟩, List.mem_of_getElem? (i := 682) (by decide +kernel), List.mem_of_getElem? (i := 998) (by decide +kernel), List.mem_of_getElem? (i := 999) (by decide +kernel)⟩
def lw_privs_5 : List (MethodName × Nat) := [(⟨"TouchMapModel", "mayBe", "(I)Z"⟩, 38), (⟨"TouchMapModel", "worthOf", "(I)I"⟩, 38), (⟨"TouchMapModel", "writes", "(I)I"⟩, 38), (⟨"TouchMapModel", "stands", "(III)Z"⟩, 38), (⟨"TouchMapModel", "isName", "(I)Z"⟩, 38), (⟨"TouchMapModel", "boxes", "()V"⟩, 38), (⟨"TouchMapModel", "isFree", "(I)Z"⟩, 38), (⟨"TouchMapModel", "isThrough", "(III)Z"⟩, 38), (⟨"TouchMapModel", "mayCome", "(I)Z"⟩, 38), (⟨"TouchMapModel", "mayHave", "(I)Z"⟩, 38)]
theorem lw_r5 : ∀ q ∈ lw_privs_5, lw_okq q := List.forall_mem_cons.mpr ⟨lw_p64, List.forall_mem_cons.mpr ⟨lw_p65, List.forall_mem_cons.mpr ⟨lw_p66, List.forall_mem_cons.mpr ⟨lw_p67, List.forall_mem_cons.mpr ⟨lw_p68, List.forall_mem_cons.mpr ⟨lw_p69, List.forall_mem_cons.mpr ⟨lw_p70, List.forall_mem_cons.mpr ⟨lw_p71, List.forall_mem_cons.mpr ⟨lw_p72, List.forall_mem_cons.mpr ⟨lw_p73, fun _ h => absurd h List.not_mem_nil⟩⟩⟩⟩⟩⟩⟩⟩⟩⟩
def lw_privs : List (MethodName × Nat) := lw_privs_1 ++ (lw_privs_2 ++ (lw_privs_3 ++ (lw_privs_4 ++ (lw_privs_5))))
def lw_tbl : List Cond := k2_sels lw_privs ++ tables_1
theorem lw_privs_ok : ∀ q ∈ lw_privs, lw_okq q := by
  show ∀ q ∈ lw_privs_1 ++ (lw_privs_2 ++ (lw_privs_3 ++ (lw_privs_4 ++ (lw_privs_5)))), lw_okq q
  exact List.forall_mem_append.mpr ⟨lw_r1, List.forall_mem_append.mpr ⟨lw_r2, List.forall_mem_append.mpr ⟨lw_r3, List.forall_mem_append.mpr ⟨lw_r4, lw_r5⟩⟩⟩⟩
end
section
/-! names: the classes, their fields in the order of the slots, the words of the tables that stay -/
def TT : List Cond := lw_tbl.filter goodWord
theorem TT_of {w : Cond} (h : w ∈ lw_tbl) (g : goodWord w = true) : w ∈ TT := List.mem_filter.mpr ⟨h, g⟩
theorem TT_t {w : Cond} (h : w ∈ tables_1) (g : goodWord w = true) : w ∈ TT := TT_of (List.mem_append_right _ h) g
def isNest : Cond → Bool
  | .methodLinkNest .. => true
  | .fieldLinkNest .. => true
  | _ => false
def NN : List Cond := tables_1.filter isNest
def cn : Nat → String := fun k => ["TouchMap$Chooser", "TouchMap$Keeper", "TouchMap$Layer", "TouchMap$Line", "TouchMap$Name", "TouchMap$Ruler", "TouchMap$Setter", "TouchMap$Speller", "TouchMap$Way", "TouchMap$Word", "TouchMap", "TouchMapModel", "TouchMapLaw", "java/lang/Integer", "java/lang/Long", "java/lang/Math"].getD k ""
def F_Chooser : u_T := fun k => match k with
  | 0 => ("TouchMap$Chooser", "items", "I", true)
  | 1 => ("TouchMap$Chooser", "options", "I", true)
  | 2 => ("TouchMap$Chooser", "clashes", "[I", true)
  | 3 => ("TouchMap$Chooser", "gains", "[I", true)
  | 4 => ("TouchMap$Chooser", "bounds", "[I", true)
  | 5 => ("TouchMap$Chooser", "trial", "[I", true)
  | 6 => ("TouchMap$Chooser", "chosen", "[I", true)
  | _ => ("TouchMap$Chooser", "best", "I", false)
def t_Chooser : Nat → FieldType := fun k => match k with
  | 0 => .int
  | 1 => .int
  | 2 => (.array .int)
  | 3 => (.array .int)
  | 4 => (.array .int)
  | 5 => (.array .int)
  | 6 => (.array .int)
  | _ => .int
theorem n_Chooser : ∀ a, a < 8 → ∀ b, b < 8 → a ≠ b → (F_Chooser a).2.1 ≠ (F_Chooser b).2.1 := by decide +kernel
theorem t_Chooser_ok : ∀ k, k < 8 → parseFieldDescriptor (F_Chooser k).2.2.1 = some (t_Chooser k) := by decide +kernel
theorem i_Chooser0 : ∀ w ∈ u_ws "TouchMap$Chooser" F_Chooser 8, w ∈ tables_1 := by decide +kernel
theorem i_Chooser1 : ∀ w ∈ u_ws "TouchMap$Chooser" F_Chooser 8, goodWord w = true := by decide +kernel
theorem i_Chooser : ∀ w ∈ u_ws "TouchMap$Chooser" F_Chooser 8, w ∈ TT := fun w h => TT_t (i_Chooser0 w h) (i_Chooser1 w h)
def F_Keeper : u_T := fun k => match k with
  | 0 => ("TouchMap$Keeper", "chooser", "LTouchMap$Chooser;", true)
  | _ => ("TouchMap$Keeper", "hasFound", "Z", false)
def t_Keeper : Nat → FieldType := fun k => match k with
  | 0 => (.object "TouchMap$Chooser")
  | _ => .boolean
theorem n_Keeper : ∀ a, a < 2 → ∀ b, b < 2 → a ≠ b → (F_Keeper a).2.1 ≠ (F_Keeper b).2.1 := by decide +kernel
theorem t_Keeper_ok : ∀ k, k < 2 → parseFieldDescriptor (F_Keeper k).2.2.1 = some (t_Keeper k) := by decide +kernel
theorem i_Keeper0 : ∀ w ∈ u_ws "TouchMap$Keeper" F_Keeper 2, w ∈ tables_1 := by decide +kernel
theorem i_Keeper1 : ∀ w ∈ u_ws "TouchMap$Keeper" F_Keeper 2, goodWord w = true := by decide +kernel
theorem i_Keeper : ∀ w ∈ u_ws "TouchMap$Keeper" F_Keeper 2, w ∈ TT := fun w h => TT_t (i_Keeper0 w h) (i_Keeper1 w h)
def F_Layer : u_T := fun k => match k with
  | 0 => ("TouchMap$Layer", "touching", "[I", true)
  | 1 => ("TouchMap$Layer", "unlike", "[I", true)
  | 2 => ("TouchMap$Layer", "trial", "[I", true)
  | 3 => ("TouchMap$Layer", "best", "[I", true)
  | 4 => ("TouchMap$Layer", "dead", "[J", true)
  | _ => ("TouchMap$Layer", "laid", "I", false)
def t_Layer : Nat → FieldType := fun k => match k with
  | 0 => (.array .int)
  | 1 => (.array .int)
  | 2 => (.array .int)
  | 3 => (.array .int)
  | 4 => (.array .long)
  | _ => .int
theorem n_Layer : ∀ a, a < 6 → ∀ b, b < 6 → a ≠ b → (F_Layer a).2.1 ≠ (F_Layer b).2.1 := by decide +kernel
theorem t_Layer_ok : ∀ k, k < 6 → parseFieldDescriptor (F_Layer k).2.2.1 = some (t_Layer k) := by decide +kernel
theorem i_Layer0 : ∀ w ∈ u_ws "TouchMap$Layer" F_Layer 6, w ∈ tables_1 := by decide +kernel
theorem i_Layer1 : ∀ w ∈ u_ws "TouchMap$Layer" F_Layer 6, goodWord w = true := by decide +kernel
theorem i_Layer : ∀ w ∈ u_ws "TouchMap$Layer" F_Layer 6, w ∈ TT := fun w h => TT_t (i_Layer0 w h) (i_Layer1 w h)
def F_Line : u_T := fun k => match k with
  | 0 => ("TouchMap$Line", "x1", "I", false)
  | 1 => ("TouchMap$Line", "y1", "I", false)
  | 2 => ("TouchMap$Line", "x2", "I", false)
  | _ => ("TouchMap$Line", "y2", "I", false)
def t_Line : Nat → FieldType := fun k => match k with
  | 0 => .int
  | 1 => .int
  | 2 => .int
  | _ => .int
theorem n_Line : ∀ a, a < 4 → ∀ b, b < 4 → a ≠ b → (F_Line a).2.1 ≠ (F_Line b).2.1 := by decide +kernel
theorem t_Line_ok : ∀ k, k < 4 → parseFieldDescriptor (F_Line k).2.2.1 = some (t_Line k) := by decide +kernel
theorem i_Line0 : ∀ w ∈ u_ws "TouchMap$Line" F_Line 4, w ∈ tables_1 := by decide +kernel
theorem i_Line1 : ∀ w ∈ u_ws "TouchMap$Line" F_Line 4, goodWord w = true := by decide +kernel
theorem i_Line : ∀ w ∈ u_ws "TouchMap$Line" F_Line 4, w ∈ TT := fun w h => TT_t (i_Line0 w h) (i_Line1 w h)
def F_Name : u_T := fun k => match k with
  | 0 => ("TouchMap$Name", "word", "LTouchMap$Word;", true)
  | 1 => ("TouchMap$Name", "x", "I", false)
  | 2 => ("TouchMap$Name", "y", "I", false)
  | 3 => ("TouchMap$Name", "worth", "I", false)
  | _ => ("TouchMap$Name", "isThere", "Z", false)
def t_Name : Nat → FieldType := fun k => match k with
  | 0 => (.object "TouchMap$Word")
  | 1 => .int
  | 2 => .int
  | 3 => .int
  | _ => .boolean
theorem n_Name : ∀ a, a < 5 → ∀ b, b < 5 → a ≠ b → (F_Name a).2.1 ≠ (F_Name b).2.1 := by decide +kernel
theorem t_Name_ok : ∀ k, k < 5 → parseFieldDescriptor (F_Name k).2.2.1 = some (t_Name k) := by decide +kernel
theorem i_Name0 : ∀ w ∈ u_ws "TouchMap$Name" F_Name 5, w ∈ tables_1 := by decide +kernel
theorem i_Name1 : ∀ w ∈ u_ws "TouchMap$Name" F_Name 5, goodWord w = true := by decide +kernel
theorem i_Name : ∀ w ∈ u_ws "TouchMap$Name" F_Name 5, w ∈ TT := fun w h => TT_t (i_Name0 w h) (i_Name1 w h)
def F_Ruler : u_T := fun k => match k with
  | 0 => ("TouchMap$Ruler", "one", "LTouchMap$Line;", true)
  | 1 => ("TouchMap$Ruler", "other", "LTouchMap$Line;", true)
  | 2 => ("TouchMap$Ruler", "least", "[I", true)
  | _ => ("TouchMap$Ruler", "next", "[I", true)
def t_Ruler : Nat → FieldType := fun k => match k with
  | 0 => (.object "TouchMap$Line")
  | 1 => (.object "TouchMap$Line")
  | 2 => (.array .int)
  | _ => (.array .int)
theorem n_Ruler : ∀ a, a < 4 → ∀ b, b < 4 → a ≠ b → (F_Ruler a).2.1 ≠ (F_Ruler b).2.1 := by decide +kernel
theorem t_Ruler_ok : ∀ k, k < 4 → parseFieldDescriptor (F_Ruler k).2.2.1 = some (t_Ruler k) := by decide +kernel
theorem i_Ruler0 : ∀ w ∈ u_ws "TouchMap$Ruler" F_Ruler 4, w ∈ tables_1 := by decide +kernel
theorem i_Ruler1 : ∀ w ∈ u_ws "TouchMap$Ruler" F_Ruler 4, goodWord w = true := by decide +kernel
theorem i_Ruler : ∀ w ∈ u_ws "TouchMap$Ruler" F_Ruler 4, w ∈ TT := fun w h => TT_t (i_Ruler0 w h) (i_Ruler1 w h)
def F_Setter : u_T := fun k => match k with
  | 0 => ("TouchMap$Setter", "chooser", "LTouchMap$Chooser;", true)
  | 1 => ("TouchMap$Setter", "line", "LTouchMap$Line;", true)
  | 2 => ("TouchMap$Setter", "lefts", "[I", true)
  | 3 => ("TouchMap$Setter", "lows", "[I", true)
  | 4 => ("TouchMap$Setter", "widths", "[I", true)
  | 5 => ("TouchMap$Setter", "spots", "[I", true)
  | _ => ("TouchMap$Setter", "usable", "I", false)
def t_Setter : Nat → FieldType := fun k => match k with
  | 0 => (.object "TouchMap$Chooser")
  | 1 => (.object "TouchMap$Line")
  | 2 => (.array .int)
  | 3 => (.array .int)
  | 4 => (.array .int)
  | 5 => (.array .int)
  | _ => .int
theorem n_Setter : ∀ a, a < 7 → ∀ b, b < 7 → a ≠ b → (F_Setter a).2.1 ≠ (F_Setter b).2.1 := by decide +kernel
theorem t_Setter_ok : ∀ k, k < 7 → parseFieldDescriptor (F_Setter k).2.2.1 = some (t_Setter k) := by decide +kernel
theorem i_Setter0 : ∀ w ∈ u_ws "TouchMap$Setter" F_Setter 7, w ∈ tables_1 := by decide +kernel
theorem i_Setter1 : ∀ w ∈ u_ws "TouchMap$Setter" F_Setter 7, goodWord w = true := by decide +kernel
theorem i_Setter : ∀ w ∈ u_ws "TouchMap$Setter" F_Setter 7, w ∈ TT := fun w h => TT_t (i_Setter0 w h) (i_Setter1 w h)
def F_Speller : u_T := fun k => match k with
  | 0 => ("TouchMap$Speller", "parts", "[LTouchMap$Word;", true)
  | 1 => ("TouchMap$Speller", "partCells", "[I", true)
  | 2 => ("TouchMap$Speller", "least", "[I", true)
  | 3 => ("TouchMap$Speller", "steps", "[I", true)
  | 4 => ("TouchMap$Speller", "firsts", "[I", true)
  | _ => ("TouchMap$Speller", "cells", "[I", true)
def t_Speller : Nat → FieldType := fun k => match k with
  | 0 => (.array (.object "TouchMap$Word"))
  | 1 => (.array .int)
  | 2 => (.array .int)
  | 3 => (.array .int)
  | 4 => (.array .int)
  | _ => (.array .int)
theorem n_Speller : ∀ a, a < 6 → ∀ b, b < 6 → a ≠ b → (F_Speller a).2.1 ≠ (F_Speller b).2.1 := by decide +kernel
theorem t_Speller_ok : ∀ k, k < 6 → parseFieldDescriptor (F_Speller k).2.2.1 = some (t_Speller k) := by decide +kernel
theorem i_Speller0 : ∀ w ∈ u_ws "TouchMap$Speller" F_Speller 6, w ∈ tables_1 := by decide +kernel
theorem i_Speller1 : ∀ w ∈ u_ws "TouchMap$Speller" F_Speller 6, goodWord w = true := by decide +kernel
theorem i_Speller : ∀ w ∈ u_ws "TouchMap$Speller" F_Speller 6, w ∈ TT := fun w h => TT_t (i_Speller0 w h) (i_Speller1 w h)
def F_Way : u_T := fun k => match k with
  | 0 => ("TouchMap$Way", "xs", "[I", true)
  | 1 => ("TouchMap$Way", "ys", "[I", true)
  | 2 => ("TouchMap$Way", "numbers", "[I", true)
  | 3 => ("TouchMap$Way", "count", "I", false)
  | 4 => ("TouchMap$Way", "shown", "I", false)
  | 5 => ("TouchMap$Way", "worth", "I", false)
  | 6 => ("TouchMap$Way", "isDanger", "Z", false)
  | _ => ("TouchMap$Way", "isBegun", "Z", false)
def t_Way : Nat → FieldType := fun k => match k with
  | 0 => (.array .int)
  | 1 => (.array .int)
  | 2 => (.array .int)
  | 3 => .int
  | 4 => .int
  | 5 => .int
  | 6 => .boolean
  | _ => .boolean
theorem n_Way : ∀ a, a < 8 → ∀ b, b < 8 → a ≠ b → (F_Way a).2.1 ≠ (F_Way b).2.1 := by decide +kernel
theorem t_Way_ok : ∀ k, k < 8 → parseFieldDescriptor (F_Way k).2.2.1 = some (t_Way k) := by decide +kernel
theorem i_Way0 : ∀ w ∈ u_ws "TouchMap$Way" F_Way 8, w ∈ tables_1 := by decide +kernel
theorem i_Way1 : ∀ w ∈ u_ws "TouchMap$Way" F_Way 8, goodWord w = true := by decide +kernel
theorem i_Way : ∀ w ∈ u_ws "TouchMap$Way" F_Way 8, w ∈ TT := fun w h => TT_t (i_Way0 w h) (i_Way1 w h)
def F_Word : u_T := fun k => match k with
  | 0 => ("TouchMap$Word", "letters", "[I", true)
  | _ => ("TouchMap$Word", "length", "I", false)
def t_Word : Nat → FieldType := fun k => match k with
  | 0 => (.array .int)
  | _ => .int
theorem n_Word : ∀ a, a < 2 → ∀ b, b < 2 → a ≠ b → (F_Word a).2.1 ≠ (F_Word b).2.1 := by decide +kernel
theorem t_Word_ok : ∀ k, k < 2 → parseFieldDescriptor (F_Word k).2.2.1 = some (t_Word k) := by decide +kernel
theorem i_Word0 : ∀ w ∈ u_ws "TouchMap$Word" F_Word 2, w ∈ tables_1 := by decide +kernel
theorem i_Word1 : ∀ w ∈ u_ws "TouchMap$Word" F_Word 2, goodWord w = true := by decide +kernel
theorem i_Word : ∀ w ∈ u_ws "TouchMap$Word" F_Word 2, w ∈ TT := fun w h => TT_t (i_Word0 w h) (i_Word1 w h)
def F_TM : u_T := fun k => match k with
  | 0 => ("TouchMap", "ways", "[LTouchMap$Way;", true)
  | 1 => ("TouchMap", "ruler", "LTouchMap$Ruler;", true)
  | 2 => ("TouchMap", "keeper", "LTouchMap$Keeper;", true)
  | 3 => ("TouchMap", "tape", "LTouchMap$Word;", true)
  | 4 => ("TouchMap", "speller", "LTouchMap$Speller;", true)
  | 5 => ("TouchMap", "names", "[LTouchMap$Name;", true)
  | 6 => ("TouchMap", "setter", "LTouchMap$Setter;", true)
  | 7 => ("TouchMap", "layer", "LTouchMap$Layer;", true)
  | _ => ("TouchMap", "leastGap", "I", false)
def t_TM : Nat → FieldType := fun k => match k with
  | 0 => (.array (.object "TouchMap$Way"))
  | 1 => (.object "TouchMap$Ruler")
  | 2 => (.object "TouchMap$Keeper")
  | 3 => (.object "TouchMap$Word")
  | 4 => (.object "TouchMap$Speller")
  | 5 => (.array (.object "TouchMap$Name"))
  | 6 => (.object "TouchMap$Setter")
  | 7 => (.object "TouchMap$Layer")
  | _ => .int
theorem n_TM : ∀ a, a < 9 → ∀ b, b < 9 → a ≠ b → (F_TM a).2.1 ≠ (F_TM b).2.1 := by decide +kernel
theorem t_TM_ok : ∀ k, k < 9 → parseFieldDescriptor (F_TM k).2.2.1 = some (t_TM k) := by decide +kernel
theorem i_TM0 : ∀ w ∈ u_ws "TouchMap" F_TM 9, w ∈ tables_1 := by decide +kernel
theorem i_TM1 : ∀ w ∈ u_ws "TouchMap" F_TM 9, goodWord w = true := by decide +kernel
theorem i_TM : ∀ w ∈ u_ws "TouchMap" F_TM 9, w ∈ TT := fun w h => TT_t (i_TM0 w h) (i_TM1 w h)
def F_MD : u_T := fun k => match k with
  | 0 => ("TouchMapModel", "isBegun", "[Z", true)
  | 1 => ("TouchMapModel", "worth", "[I", true)
  | 2 => ("TouchMapModel", "isDanger", "[Z", true)
  | 3 => ("TouchMapModel", "points", "[I", true)
  | 4 => ("TouchMapModel", "pointX", "[I", true)
  | 5 => ("TouchMapModel", "pointY", "[I", true)
  | 6 => ("TouchMapModel", "drawnMany", "[I", true)
  | 7 => ("TouchMapModel", "drawnBy", "[I", true)
  | 8 => ("TouchMapModel", "fewest", "[I", true)
  | 9 => ("TouchMapModel", "gap", "I", false)
  | 10 => ("TouchMapModel", "keptBits", "I", false)
  | 11 => ("TouchMapModel", "hasKept", "Z", false)
  | 12 => ("TouchMapModel", "nearBits", "[I", true)
  | 13 => ("TouchMapModel", "dots", "[I", true)
  | 14 => ("TouchMapModel", "tape", "[I", true)
  | 15 => ("TouchMapModel", "taped", "I", false)
  | 16 => ("TouchMapModel", "shortMany", "[I", true)
  | 17 => ("TouchMapModel", "shortLetter", "[I", true)
  | 18 => ("TouchMapModel", "shortCell", "[I", true)
  | 19 => ("TouchMapModel", "nameMany", "[I", true)
  | 20 => ("TouchMapModel", "nameLetter", "[I", true)
  | 21 => ("TouchMapModel", "nameX", "[I", true)
  | 22 => ("TouchMapModel", "nameY", "[I", true)
  | 23 => ("TouchMapModel", "nameWorth", "[I", true)
  | 24 => ("TouchMapModel", "cells", "[I", true)
  | 25 => ("TouchMapModel", "cellOf", "[I", true)
  | 26 => ("TouchMapModel", "boxX", "[I", true)
  | 27 => ("TouchMapModel", "boxY", "[I", true)
  | 28 => ("TouchMapModel", "boxWide", "[I", true)
  | 29 => ("TouchMapModel", "mayStand", "[Z", true)
  | 30 => ("TouchMapModel", "lap", "[Z", true)
  | 31 => ("TouchMapModel", "spotNow", "[I", true)
  | 32 => ("TouchMapModel", "spotFound", "[I", true)
  | 33 => ("TouchMapModel", "touches", "[Z", true)
  | 34 => ("TouchMapModel", "isApart", "[Z", true)
  | 35 => ("TouchMapModel", "laid", "I", false)
  | 36 => ("TouchMapModel", "now", "[I", true)
  | _ => ("TouchMapModel", "found", "[I", true)
def t_MD : Nat → FieldType := fun k => match k with
  | 0 => (.array .boolean)
  | 1 => (.array .int)
  | 2 => (.array .boolean)
  | 3 => (.array .int)
  | 4 => (.array .int)
  | 5 => (.array .int)
  | 6 => (.array .int)
  | 7 => (.array .int)
  | 8 => (.array .int)
  | 9 => .int
  | 10 => .int
  | 11 => .boolean
  | 12 => (.array .int)
  | 13 => (.array .int)
  | 14 => (.array .int)
  | 15 => .int
  | 16 => (.array .int)
  | 17 => (.array .int)
  | 18 => (.array .int)
  | 19 => (.array .int)
  | 20 => (.array .int)
  | 21 => (.array .int)
  | 22 => (.array .int)
  | 23 => (.array .int)
  | 24 => (.array .int)
  | 25 => (.array .int)
  | 26 => (.array .int)
  | 27 => (.array .int)
  | 28 => (.array .int)
  | 29 => (.array .boolean)
  | 30 => (.array .boolean)
  | 31 => (.array .int)
  | 32 => (.array .int)
  | 33 => (.array .boolean)
  | 34 => (.array .boolean)
  | 35 => .int
  | 36 => (.array .int)
  | _ => (.array .int)
theorem n_MD : ∀ a, a < 38 → ∀ b, b < 38 → a ≠ b → (F_MD a).2.1 ≠ (F_MD b).2.1 := by decide +kernel
theorem t_MD_ok : ∀ k, k < 38 → parseFieldDescriptor (F_MD k).2.2.1 = some (t_MD k) := by decide +kernel
theorem i_MD0 : ∀ w ∈ u_ws "TouchMapModel" F_MD 38, w ∈ tables_1 := by decide +kernel
theorem i_MD1 : ∀ w ∈ u_ws "TouchMapModel" F_MD 38, goodWord w = true := by decide +kernel
theorem i_MD : ∀ w ∈ u_ws "TouchMapModel" F_MD 38, w ∈ TT := fun w h => TT_t (i_MD0 w h) (i_MD1 w h)
def classes : List vw_C := [("TouchMap$Chooser", F_Chooser, 8), ("TouchMap$Keeper", F_Keeper, 2), ("TouchMap$Layer", F_Layer, 6), ("TouchMap$Line", F_Line, 4), ("TouchMap$Name", F_Name, 5), ("TouchMap$Ruler", F_Ruler, 4), ("TouchMap$Setter", F_Setter, 7), ("TouchMap$Speller", F_Speller, 6), ("TouchMap$Way", F_Way, 8), ("TouchMap$Word", F_Word, 2), ("TouchMap", F_TM, 9), ("TouchMapModel", F_MD, 38)]
/-- the fields' types of a class, by its number -/
def tyOf : Nat → Nat → FieldType := fun c => match c with
  | 0 => t_Chooser
  | 1 => t_Keeper
  | 2 => t_Layer
  | 3 => t_Line
  | 4 => t_Name
  | 5 => t_Ruler
  | 6 => t_Setter
  | 7 => t_Speller
  | 8 => t_Way
  | 9 => t_Word
  | 10 => t_TM
  | _ => t_MD
end
section
/-! the methods: own class, name, code, locals, return type, instructions -/
abbrev MI : Type := Nat × MethodName × ByteArray × Nat × Option FieldType × List (Nat × Instr × Nat)
abbrev MI.own (M : MI) : Nat := M.1
abbrev MI.y (M : MI) : MethodName := M.2.1
abbrev MI.bytes (M : MI) : ByteArray := M.2.2.1
abbrev MI.maxL (M : MI) : Nat := M.2.2.2.1
abbrev MI.ret (M : MI) : Option FieldType := M.2.2.2.2.1
abbrev MI.tab (M : MI) : List (Nat × Instr × Nat) := M.2.2.2.2.2
def OkM (M : MI) : Prop := (∀ e ∈ M.tab, decode M.bytes e.1 = .ok e.2) ∧ Cond.code M.y M.bytes M.maxL M.ret ∈ TT ∧ plainName M.y.cls = true ∧ M.y.cls = cn M.own ∧ Cond.initialized M.y.cls ∈ TT ∧ (M.y.cls ≠ "java/lang/invoke/MethodHandle" ∧ M.y.cls ≠ "java/lang/invoke/VarHandle")
def T_Chooser_price : List (Nat × Instr × Nat) := [(0, .aload_n 0, 1), (1, .getfield 20, 3), (4, .iload_n 1, 1), (5, .iload_n 2, 1), (6, .bipush 16, 2), (8, .imul, 1), (9, .iconst 1, 1), (10, .iadd, 1), (11, .iastore, 1), (12, .return_, 1)]
def M_Chooser_price : MI := (0, ⟨"TouchMap$Chooser", "price", "(II)V"⟩, prog_2_method_2_code, 3, none, T_Chooser_price)
theorem dk_Chooser_price : ∀ e ∈ T_Chooser_price, decode prog_2_method_2_code e.1 = .ok e.2 := by decide +kernel
set_option maxRecDepth 100000 in
theorem ok_Chooser_price : OkM M_Chooser_price := ⟨dk_Chooser_price, TT_t (List.mem_of_getElem? (i := 491) rfl) rfl, by decide +kernel, rfl, TT_t (List.mem_of_getElem? (i := 8) (by decide +kernel)) rfl, by decide +kernel, by decide +kernel⟩
def T_Chooser_clearClashes : List (Nat × Instr × Nat) := [(0, .iconst 0, 1), (1, .istore_n 1, 1), (2, .iload_n 1, 1), (3, .aload_n 0, 1), (4, .getfield 16, 3), (7, .arraylength, 1), (8, .if_icmp .ge 16, 3), (11, .aload_n 0, 1), (12, .getfield 16, 3), (15, .iload_n 1, 1), (16, .iconst 0, 1), (17, .iastore, 1), (18, .iinc 1 1, 3), (21, .goto (-19), 3), (24, .return_, 1)]
def M_Chooser_clearClashes : MI := (0, ⟨"TouchMap$Chooser", "clearClashes", "()V"⟩, prog_2_method_3_code, 2, none, T_Chooser_clearClashes)
theorem dk_Chooser_clearClashes : ∀ e ∈ T_Chooser_clearClashes, decode prog_2_method_3_code e.1 = .ok e.2 := by decide +kernel
set_option maxRecDepth 100000 in
theorem ok_Chooser_clearClashes : OkM M_Chooser_clearClashes := ⟨dk_Chooser_clearClashes, TT_t (List.mem_of_getElem? (i := 487) rfl) rfl, by decide +kernel, rfl, TT_t (List.mem_of_getElem? (i := 8) (by decide +kernel)) rfl, by decide +kernel, by decide +kernel⟩
def T_Chooser_choose : List (Nat × Instr × Nat) := [(0, .aload_n 0, 1), (1, .getfield 7, 3), (4, .iconst 1, 1), (5, .isub, 1), (6, .istore_n 2, 1), (7, .iload_n 2, 1), (8, .ifCond .lt 31, 3), (11, .aload_n 0, 1), (12, .iconst (-1), 1), (13, .putfield 32, 3), (16, .aload_n 0, 1), (17, .iload_n 2, 1), (18, .iload_n 1, 1), (19, .iconst 0, 1), (20, .invokestatic 35, 3), (23, .aload_n 0, 1), (24, .getfield 23, 3), (27, .iload_n 2, 1), (28, .aload_n 0, 1), (29, .getfield 32, 3), (32, .iastore, 1), (33, .iinc 2 (-1), 3), (36, .goto (-29), 3), (39, .aload_n 0, 1), (40, .getfield 32, 3), (43, .bipush 16, 2), (45, .idiv, 1), (46, .ireturn, 1)]
def M_Chooser_choose : MI := (0, ⟨"TouchMap$Chooser", "choose", "(I)I"⟩, prog_2_method_4_code, 3, (some .int), T_Chooser_choose)
theorem dk_Chooser_choose : ∀ e ∈ T_Chooser_choose, decode prog_2_method_4_code e.1 = .ok e.2 := by decide +kernel
set_option maxRecDepth 100000 in
theorem ok_Chooser_choose : OkM M_Chooser_choose := ⟨dk_Chooser_choose, TT_t (List.mem_of_getElem? (i := 502) rfl) rfl, by decide +kernel, rfl, TT_t (List.mem_of_getElem? (i := 8) (by decide +kernel)) rfl, by decide +kernel, by decide +kernel⟩
def T_Chooser_descend : List (Nat × Instr × Nat) := [(0, .iload_n 1, 1), (1, .aload_n 0, 1), (2, .getfield 7, 3), (5, .if_icmp .lt 26, 3), (8, .aload_n 0, 1), (9, .iload_n 3, 1), (10, .putfield 32, 3), (13, .aload_n 0, 1), (14, .getfield 26, 3), (17, .iconst 0, 1), (18, .aload_n 0, 1), (19, .getfield 29, 3), (22, .iconst 0, 1), (23, .aload_n 0, 1), (24, .getfield 7, 3), (27, .invokestatic 39, 3), (30, .return_, 1), (31, .aload_n 0, 1), (32, .getfield 23, 3), (35, .iload_n 1, 1), (36, .iconst 1, 1), (37, .iadd, 1), (38, .iaload, 1), (39, .istore 4, 2), (41, .iload_n 3, 1), (42, .aload_n 0, 1), (43, .getfield 20, 3), (46, .iload_n 1, 1), (47, .iaload, 1), (48, .iadd, 1), (49, .istore 5, 2), (51, .iconst 0, 1), (52, .istore 6, 2), (54, .iload 6, 2), (56, .aload_n 0, 1), (57, .getfield 13, 3), (60, .if_icmp .ge 70, 3), (63, .iload_n 1, 1), (64, .aload_n 0, 1), (65, .getfield 13, 3), (68, .imul, 1), (69, .iload 6, 2), (71, .iadd, 1), (72, .istore 7, 2), (74, .iload_n 2, 1), (75, .iload 7, 2), (77, .iushr, 1), (78, .iconst 1, 1), (79, .iand, 1), (80, .iconst 1, 1), (81, .if_icmp .ne 43, 3), (84, .iload 5, 2), (86, .iload 4, 2), (88, .iadd, 1), (89, .aload_n 0, 1), (90, .getfield 32, 3), (93, .if_icmp .le 31, 3), (96, .aload_n 0, 1), (97, .getfield 26, 3), (100, .iload_n 1, 1), (101, .iload 6, 2), (103, .iastore, 1), (104, .aload_n 0, 1), (105, .iload_n 1, 1), (106, .iconst 1, 1), (107, .iadd, 1), (108, .iload_n 2, 1), (109, .aload_n 0, 1), (110, .getfield 16, 3), (113, .iload 7, 2), (115, .iaload, 1), (116, .iconst (-1), 1), (117, .ixor, 1), (118, .iand, 1), (119, .iload 5, 2), (121, .invokestatic 35, 3), (124, .iinc 6 1, 3), (127, .goto (-73), 3), (130, .iload_n 3, 1), (131, .iload 4, 2), (133, .iadd, 1), (134, .aload_n 0, 1), (135, .getfield 32, 3), (138, .if_icmp .le 22, 3), (141, .aload_n 0, 1), (142, .getfield 26, 3), (145, .iload_n 1, 1), (146, .aload_n 0, 1), (147, .getfield 13, 3), (150, .iastore, 1), (151, .aload_n 0, 1), (152, .iload_n 1, 1), (153, .iconst 1, 1), (154, .iadd, 1), (155, .iload_n 2, 1), (156, .iload_n 3, 1), (157, .invokestatic 35, 3), (160, .return_, 1)]
def M_Chooser_descend : MI := (0, ⟨"TouchMap$Chooser", "descend", "(LTouchMap$Chooser;III)V"⟩, prog_2_method_5_code, 8, none, T_Chooser_descend)
theorem dk_Chooser_descend : ∀ e ∈ T_Chooser_descend, decode prog_2_method_5_code e.1 = .ok e.2 := by decide +kernel
set_option maxRecDepth 100000 in
theorem ok_Chooser_descend : OkM M_Chooser_descend := ⟨dk_Chooser_descend, TT_t (List.mem_of_getElem? (i := 505) rfl) rfl, by decide +kernel, rfl, TT_t (List.mem_of_getElem? (i := 8) (by decide +kernel)) rfl, by decide +kernel, by decide +kernel⟩
def T_Keeper_find : List (Nat × Instr × Nat) := [(0, .aload_n 0, 1), (1, .aload_n 1, 1), (2, .aload_n 2, 1), (3, .iload_n 3, 1), (4, .invokevirtual 20, 3), (7, .istore 4, 2), (9, .iconst 0, 1), (10, .istore 5, 2), (12, .iload 5, 2), (14, .bipush 12, 2), (16, .if_icmp .ge 36, 3), (19, .aload_n 1, 1), (20, .iload 5, 2), (22, .aaload, 1), (23, .invokestatic 24, 3), (26, .ifCond .eq 20, 3), (29, .iload 4, 2), (31, .aload_n 0, 1), (32, .getfield 14, 3), (35, .getfield 28, 3), (38, .iload 5, 2), (40, .iaload, 1), (41, .iconst (-1), 1), (42, .ixor, 1), (43, .iand, 1), (44, .istore 4, 2), (46, .iinc 5 1, 3), (49, .goto (-37), 3), (52, .iconst 0, 1), (53, .istore 5, 2), (55, .iload 5, 2), (57, .bipush 12, 2), (59, .if_icmp .ge 31, 3), (62, .aload_n 1, 1), (63, .iload 5, 2), (65, .aaload, 1), (66, .invokestatic 24, 3), (69, .ifCond .eq 15, 3), (72, .iload 4, 2), (74, .iload 5, 2), (76, .iushr, 1), (77, .iconst 1, 1), (78, .iand, 1), (79, .ifCond .ne 5, 3), (82, .iconst (-1), 1), (83, .ireturn, 1), (84, .iinc 5 1, 3), (87, .goto (-32), 3), (90, .aload_n 0, 1), (91, .iconst 1, 1), (92, .putfield 32, 3), (95, .aload_n 0, 1), (96, .getfield 14, 3), (99, .iload 4, 2), (101, .invokevirtual 36, 3), (104, .ireturn, 1)]
def M_Keeper_find : MI := (1, ⟨"TouchMap$Keeper", "find", "([LTouchMap$Way;LTouchMap$Ruler;I)I"⟩, prog_3_method_2_code, 6, (some .int), T_Keeper_find)
theorem dk_Keeper_find : ∀ e ∈ T_Keeper_find, decode prog_3_method_2_code e.1 = .ok e.2 := by decide +kernel
set_option maxRecDepth 100000 in
theorem ok_Keeper_find : OkM M_Keeper_find := ⟨dk_Keeper_find, TT_t (List.mem_of_getElem? (i := 479) rfl) rfl, by decide +kernel, rfl, TT_t (List.mem_of_getElem? (i := 7) (by decide +kernel)) rfl, by decide +kernel, by decide +kernel⟩
def T_Keeper_measure : List (Nat × Instr × Nat) := [(0, .iconst 0, 1), (1, .istore 4, 2), (3, .aload_n 0, 1), (4, .getfield 14, 3), (7, .invokevirtual 40, 3), (10, .iconst 0, 1), (11, .istore 5, 2), (13, .iload 5, 2), (15, .bipush 12, 2), (17, .if_icmp .ge 91, 3), (20, .aload_n 0, 1), (21, .getfield 14, 3), (24, .iload 5, 2), (26, .aload_n 1, 1), (27, .iload 5, 2), (29, .aaload, 1), (30, .getfield 43, 3), (33, .invokevirtual 49, 3), (36, .aload_n 1, 1), (37, .iload 5, 2), (39, .aaload, 1), (40, .getfield 52, 3), (43, .ifCond .le 12, 3), (46, .iload 4, 2), (48, .iconst 1, 1), (49, .iload 5, 2), (51, .ishl, 1), (52, .ior, 1), (53, .istore 4, 2), (55, .iconst 0, 1), (56, .istore 6, 2), (58, .iload 6, 2), (60, .iload 5, 2), (62, .if_icmp .ge 40, 3), (65, .aload_n 2, 1), (66, .aload_n 1, 1), (67, .iload 5, 2), (69, .aaload, 1), (70, .aload_n 1, 1), (71, .iload 6, 2), (73, .aaload, 1), (74, .iload_n 3, 1), (75, .invokevirtual 55, 3), (78, .ifCond .eq 18, 3), (81, .aload_n 0, 1), (82, .getfield 14, 3), (85, .getfield 28, 3), (88, .iload 5, 2), (90, .iload 6, 2), (92, .iconst 1, 1), (93, .invokestatic 61, 3), (96, .iinc 6 1, 3), (99, .goto (-41), 3), (102, .iinc 5 1, 3), (105, .goto (-92), 3), (108, .iload 4, 2), (110, .ireturn, 1)]
def M_Keeper_measure : MI := (1, ⟨"TouchMap$Keeper", "measure", "([LTouchMap$Way;LTouchMap$Ruler;I)I"⟩, prog_3_method_3_code, 7, (some .int), T_Keeper_measure)
theorem dk_Keeper_measure : ∀ e ∈ T_Keeper_measure, decode prog_3_method_3_code e.1 = .ok e.2 := by decide +kernel
set_option maxRecDepth 100000 in
theorem ok_Keeper_measure : OkM M_Keeper_measure := ⟨dk_Keeper_measure, TT_t (List.mem_of_getElem? (i := 483) rfl) rfl, by decide +kernel, rfl, TT_t (List.mem_of_getElem? (i := 7) (by decide +kernel)) rfl, by decide +kernel, by decide +kernel⟩
def T_Keeper_isDangerThere : List (Nat × Instr × Nat) := [(0, .aload_n 0, 1), (1, .getfield 65, 3), (4, .ifCond .eq 14, 3), (7, .aload_n 0, 1), (8, .getfield 52, 3), (11, .ifCond .le 7, 3), (14, .iconst 1, 1), (15, .goto 4, 3), (18, .iconst 0, 1), (19, .ireturn, 1)]
def M_Keeper_isDangerThere : MI := (1, ⟨"TouchMap$Keeper", "isDangerThere", "(LTouchMap$Way;)Z"⟩, prog_3_method_4_code, 1, (some .boolean), T_Keeper_isDangerThere)
theorem dk_Keeper_isDangerThere : ∀ e ∈ T_Keeper_isDangerThere, decode prog_3_method_4_code e.1 = .ok e.2 := by decide +kernel
set_option maxRecDepth 100000 in
theorem ok_Keeper_isDangerThere : OkM M_Keeper_isDangerThere := ⟨dk_Keeper_isDangerThere, TT_t (List.mem_of_getElem? (i := 498) rfl) rfl, by decide +kernel, rfl, TT_t (List.mem_of_getElem? (i := 7) (by decide +kernel)) rfl, by decide +kernel, by decide +kernel⟩
def T_Keeper_holds : List (Nat × Instr × Nat) := [(0, .aload_n 0, 1), (1, .getfield 32, 3), (4, .ifCond .eq 19, 3), (7, .aload_n 0, 1), (8, .getfield 14, 3), (11, .getfield 68, 3), (14, .iload_n 1, 1), (15, .iaload, 1), (16, .ifCond .ne 7, 3), (19, .iconst 1, 1), (20, .goto 4, 3), (23, .iconst 0, 1), (24, .ireturn, 1)]
def M_Keeper_holds : MI := (1, ⟨"TouchMap$Keeper", "holds", "(I)Z"⟩, prog_3_method_5_code, 2, (some .boolean), T_Keeper_holds)
theorem dk_Keeper_holds : ∀ e ∈ T_Keeper_holds, decode prog_3_method_5_code e.1 = .ok e.2 := by decide +kernel
set_option maxRecDepth 100000 in
theorem ok_Keeper_holds : OkM M_Keeper_holds := ⟨dk_Keeper_holds, TT_t (List.mem_of_getElem? (i := 516) rfl) rfl, by decide +kernel, rfl, TT_t (List.mem_of_getElem? (i := 7) (by decide +kernel)) rfl, by decide +kernel, by decide +kernel⟩
def T_Layer_find : List (Nat × Instr × Nat) := [(0, .iconst 0, 1), (1, .istore_n 2, 1), (2, .iload_n 2, 1), (3, .bipush 8, 2), (5, .if_icmp .ge 16, 3), (8, .aload_n 0, 1), (9, .getfield 24, 3), (12, .iload_n 2, 1), (13, .lconst 0, 1), (14, .lastore, 1), (15, .iinc 2 1, 3), (18, .goto (-16), 3), (21, .iconst 0, 1), (22, .istore_n 2, 1), (23, .iload_n 2, 1), (24, .iconst 5, 1), (25, .if_icmp .gt 25, 3), (28, .aload_n 0, 1), (29, .iload_n 1, 1), (30, .iload_n 2, 1), (31, .invokevirtual 28, 3), (34, .ifCond .eq 10, 3), (37, .aload_n 0, 1), (38, .iload_n 1, 1), (39, .putfield 32, 3), (42, .iload_n 2, 1), (43, .ireturn, 1), (44, .iinc 2 1, 3), (47, .goto (-24), 3), (50, .bipush (-2), 2), (52, .ireturn, 1)]
def M_Layer_find : MI := (2, ⟨"TouchMap$Layer", "find", "(I)I"⟩, prog_4_method_2_code, 3, (some .int), T_Layer_find)
theorem dk_Layer_find : ∀ e ∈ T_Layer_find, decode prog_4_method_2_code e.1 = .ok e.2 := by decide +kernel
set_option maxRecDepth 100000 in
theorem ok_Layer_find : OkM M_Layer_find := ⟨dk_Layer_find, TT_t (List.mem_of_getElem? (i := 649) rfl) rfl, by decide +kernel, rfl, TT_t (List.mem_of_getElem? (i := 11) (by decide +kernel)) rfl, by decide +kernel, by decide +kernel⟩
def T_Layer_findOfSize : List (Nat × Instr × Nat) := [(0, .iconst 0, 1), (1, .istore_n 3, 1), (2, .iconst 0, 1), (3, .istore 4, 2), (5, .iload 4, 2), (7, .bipush 31, 2), (9, .if_icmp .gt 61, 3), (12, .iload 4, 2), (14, .invokestatic 36, 3), (17, .iload_n 2, 1), (18, .if_icmp .ne 46, 3), (21, .aload_n 0, 1), (22, .iconst 0, 1), (23, .iload_n 1, 1), (24, .iload_n 1, 1), (25, .iload 4, 2), (27, .invokestatic 42, 3), (30, .invokestatic 46, 3), (33, .ifCond .eq 31, 3), (36, .iload_n 3, 1), (37, .ifCond .eq 11, 3), (40, .aload_n 0, 1), (41, .iload_n 1, 1), (42, .invokevirtual 50, 3), (45, .ifCond .eq 19, 3), (48, .aload_n 0, 1), (49, .getfield 18, 3), (52, .iconst 0, 1), (53, .aload_n 0, 1), (54, .getfield 21, 3), (57, .iconst 0, 1), (58, .iload_n 1, 1), (59, .invokestatic 54, 3), (62, .iconst 1, 1), (63, .istore_n 3, 1), (64, .iinc 4 1, 3), (67, .goto (-62), 3), (70, .iload_n 3, 1), (71, .ireturn, 1)]
def M_Layer_findOfSize : MI := (2, ⟨"TouchMap$Layer", "findOfSize", "(II)Z"⟩, prog_4_method_3_code, 5, (some .boolean), T_Layer_findOfSize)
theorem dk_Layer_findOfSize : ∀ e ∈ T_Layer_findOfSize, decode prog_4_method_3_code e.1 = .ok e.2 := by decide +kernel
set_option maxRecDepth 100000 in
theorem ok_Layer_findOfSize : OkM M_Layer_findOfSize := ⟨dk_Layer_findOfSize, TT_t (List.mem_of_getElem? (i := 653) rfl) rfl, by decide +kernel, rfl, TT_t (List.mem_of_getElem? (i := 11) (by decide +kernel)) rfl, by decide +kernel, by decide +kernel⟩
def T_Layer_isTrialLess : List (Nat × Instr × Nat) := [(0, .iconst 0, 1), (1, .istore_n 2, 1), (2, .iload_n 2, 1), (3, .iload_n 1, 1), (4, .if_icmp .ge 45, 3), (7, .aload_n 0, 1), (8, .getfield 18, 3), (11, .iload_n 2, 1), (12, .iaload, 1), (13, .aload_n 0, 1), (14, .getfield 21, 3), (17, .iload_n 2, 1), (18, .iaload, 1), (19, .if_icmp .eq 24, 3), (22, .aload_n 0, 1), (23, .getfield 18, 3), (26, .iload_n 2, 1), (27, .iaload, 1), (28, .aload_n 0, 1), (29, .getfield 21, 3), (32, .iload_n 2, 1), (33, .iaload, 1), (34, .if_icmp .ge 7, 3), (37, .iconst 1, 1), (38, .goto 4, 3), (41, .iconst 0, 1), (42, .ireturn, 1), (43, .iinc 2 1, 3), (46, .goto (-44), 3), (49, .iconst 0, 1), (50, .ireturn, 1)]
def M_Layer_isTrialLess : MI := (2, ⟨"TouchMap$Layer", "isTrialLess", "(I)Z"⟩, prog_4_method_4_code, 3, (some .boolean), T_Layer_isTrialLess)
theorem dk_Layer_isTrialLess : ∀ e ∈ T_Layer_isTrialLess, decode prog_4_method_4_code e.1 = .ok e.2 := by decide +kernel
set_option maxRecDepth 100000 in
theorem ok_Layer_isTrialLess : OkM M_Layer_isTrialLess := ⟨dk_Layer_isTrialLess, TT_t (List.mem_of_getElem? (i := 675) rfl) rfl, by decide +kernel, rfl, TT_t (List.mem_of_getElem? (i := 11) (by decide +kernel)) rfl, by decide +kernel, by decide +kernel⟩
def T_Layer_openAll : List (Nat × Instr × Nat) := [(0, .lconst 0, 1), (1, .lstore_n 2, 1), (2, .iconst 0, 1), (3, .istore 4, 2), (5, .iload 4, 2), (7, .iload_n 0, 1), (8, .if_icmp .ge 19, 3), (11, .lload_n 2, 1), (12, .iload_n 1, 1), (13, .i2l, 1), (14, .iload 4, 2), (16, .iconst 5, 1), (17, .imul, 1), (18, .lshl, 1), (19, .lor, 1), (20, .lstore_n 2, 1), (21, .iinc 4 1, 3), (24, .goto (-19), 3), (27, .lload_n 2, 1), (28, .lreturn, 1)]
def M_Layer_openAll : MI := (2, ⟨"TouchMap$Layer", "openAll", "(II)J"⟩, prog_4_method_5_code, 5, (some .long), T_Layer_openAll)
theorem dk_Layer_openAll : ∀ e ∈ T_Layer_openAll, decode prog_4_method_5_code e.1 = .ok e.2 := by decide +kernel
set_option maxRecDepth 100000 in
theorem ok_Layer_openAll : OkM M_Layer_openAll := ⟨dk_Layer_openAll, TT_t (List.mem_of_getElem? (i := 662) rfl) rfl, by decide +kernel, rfl, TT_t (List.mem_of_getElem? (i := 11) (by decide +kernel)) rfl, by decide +kernel, by decide +kernel⟩
def T_Layer_descend : List (Nat × Instr × Nat) := [(0, .iload_n 1, 1), (1, .iload_n 2, 1), (2, .if_icmp .lt 5, 3), (5, .iconst 1, 1), (6, .ireturn, 1), (7, .lload_n 3, 1), (8, .aload_n 0, 1), (9, .getfield 24, 3), (12, .iload_n 1, 1), (13, .laload, 1), (14, .ldc2_w 60, 3), (17, .lxor, 1), (18, .land, 1), (19, .lconst 0, 1), (20, .lcmp, 1), (21, .ifCond .ne 5, 3), (24, .iconst 0, 1), (25, .ireturn, 1), (26, .iconst 0, 1), (27, .istore 5, 2), (29, .iload 5, 2), (31, .iconst 5, 1), (32, .if_icmp .ge 54, 3), (35, .lload_n 3, 1), (36, .iload_n 1, 1), (37, .iconst 5, 1), (38, .imul, 1), (39, .iload 5, 2), (41, .iadd, 1), (42, .lushr, 1), (43, .lconst 1, 1), (44, .land, 1), (45, .lconst 1, 1), (46, .lcmp, 1), (47, .ifCond .ne 33, 3), (50, .aload_n 0, 1), (51, .getfield 18, 3), (54, .iload_n 1, 1), (55, .iload 5, 2), (57, .iastore, 1), (58, .aload_n 0, 1), (59, .iload_n 1, 1), (60, .iconst 1, 1), (61, .iadd, 1), (62, .iload_n 2, 1), (63, .aload_n 0, 1), (64, .iload_n 1, 1), (65, .iload 5, 2), (67, .iload_n 2, 1), (68, .lload_n 3, 1), (69, .invokevirtual 62, 3), (72, .invokestatic 46, 3), (75, .ifCond .eq 5, 3), (78, .iconst 1, 1), (79, .ireturn, 1), (80, .iinc 5 1, 3), (83, .goto (-54), 3), (86, .aload_n 0, 1), (87, .getfield 24, 3), (90, .iload_n 1, 1), (91, .lload_n 3, 1), (92, .lastore, 1), (93, .iconst 0, 1), (94, .ireturn, 1)]
def M_Layer_descend : MI := (2, ⟨"TouchMap$Layer", "descend", "(LTouchMap$Layer;IIJ)Z"⟩, prog_4_method_6_code, 6, (some .boolean), T_Layer_descend)
theorem dk_Layer_descend : ∀ e ∈ T_Layer_descend, decode prog_4_method_6_code e.1 = .ok e.2 := by decide +kernel
set_option maxRecDepth 100000 in
theorem ok_Layer_descend : OkM M_Layer_descend := ⟨dk_Layer_descend, TT_t (List.mem_of_getElem? (i := 665) rfl) rfl, by decide +kernel, rfl, TT_t (List.mem_of_getElem? (i := 11) (by decide +kernel)) rfl, by decide +kernel, by decide +kernel⟩
def T_Layer_narrow : List (Nat × Instr × Nat) := [(0, .lload 4, 2), (2, .ldc2_w 66, 3), (5, .iload_n 1, 1), (6, .iconst 5, 1), (7, .imul, 1), (8, .lshl, 1), (9, .ldc2_w 60, 3), (12, .lxor, 1), (13, .land, 1), (14, .lstore 6, 2), (16, .iload_n 1, 1), (17, .iconst 1, 1), (18, .iadd, 1), (19, .istore 8, 2), (21, .iload 8, 2), (23, .iload_n 3, 1), (24, .if_icmp .ge 50, 3), (27, .aload_n 0, 1), (28, .getfield 9, 3), (31, .iload_n 1, 1), (32, .iaload, 1), (33, .iload 8, 2), (35, .iushr, 1), (36, .iconst 1, 1), (37, .iand, 1), (38, .iconst 1, 1), (39, .if_icmp .ne 29, 3), (42, .lload 6, 2), (44, .bipush 31, 2), (46, .aload_n 0, 1), (47, .getfield 15, 3), (50, .iload_n 2, 1), (51, .iaload, 1), (52, .iconst (-1), 1), (53, .ixor, 1), (54, .iand, 1), (55, .i2l, 1), (56, .iload 8, 2), (58, .iconst 5, 1), (59, .imul, 1), (60, .lshl, 1), (61, .ldc2_w 60, 3), (64, .lxor, 1), (65, .land, 1), (66, .lstore 6, 2), (68, .iinc 8 1, 3), (71, .goto (-50), 3), (74, .lload 6, 2), (76, .lreturn, 1)]
def M_Layer_narrow : MI := (2, ⟨"TouchMap$Layer", "narrow", "(IIIJ)J"⟩, prog_4_method_7_code, 9, (some .long), T_Layer_narrow)
theorem dk_Layer_narrow : ∀ e ∈ T_Layer_narrow, decode prog_4_method_7_code e.1 = .ok e.2 := by decide +kernel
set_option maxRecDepth 100000 in
theorem ok_Layer_narrow : OkM M_Layer_narrow := ⟨dk_Layer_narrow, TT_t (List.mem_of_getElem? (i := 670) rfl) rfl, by decide +kernel, rfl, TT_t (List.mem_of_getElem? (i := 11) (by decide +kernel)) rfl, by decide +kernel, by decide +kernel⟩
def T_Line_side : List (Nat × Instr × Nat) := [(0, .aload_n 0, 1), (1, .getfield 7, 3), (4, .aload_n 0, 1), (5, .getfield 13, 3), (8, .isub, 1), (9, .iload_n 2, 1), (10, .aload_n 0, 1), (11, .getfield 16, 3), (14, .isub, 1), (15, .imul, 1), (16, .aload_n 0, 1), (17, .getfield 19, 3), (20, .aload_n 0, 1), (21, .getfield 16, 3), (24, .isub, 1), (25, .iload_n 1, 1), (26, .aload_n 0, 1), (27, .getfield 13, 3), (30, .isub, 1), (31, .imul, 1), (32, .isub, 1), (33, .ireturn, 1)]
def M_Line_side : MI := (3, ⟨"TouchMap$Line", "side", "(II)I"⟩, prog_5_method_2_code, 3, (some .int), T_Line_side)
theorem dk_Line_side : ∀ e ∈ T_Line_side, decode prog_5_method_2_code e.1 = .ok e.2 := by decide +kernel
set_option maxRecDepth 100000 in
theorem ok_Line_side : OkM M_Line_side := ⟨dk_Line_side, TT_t (List.mem_of_getElem? (i := 396) rfl) rfl, by decide +kernel, rfl, TT_t (List.mem_of_getElem? (i := 6) (by decide +kernel)) rfl, by decide +kernel, by decide +kernel⟩
def T_Line_along : List (Nat × Instr × Nat) := [(0, .aload_n 0, 1), (1, .getfield 7, 3), (4, .aload_n 0, 1), (5, .getfield 13, 3), (8, .isub, 1), (9, .iload_n 1, 1), (10, .aload_n 0, 1), (11, .getfield 13, 3), (14, .isub, 1), (15, .imul, 1), (16, .aload_n 0, 1), (17, .getfield 19, 3), (20, .aload_n 0, 1), (21, .getfield 16, 3), (24, .isub, 1), (25, .iload_n 2, 1), (26, .aload_n 0, 1), (27, .getfield 16, 3), (30, .isub, 1), (31, .imul, 1), (32, .iadd, 1), (33, .ireturn, 1)]
def M_Line_along : MI := (3, ⟨"TouchMap$Line", "along", "(II)I"⟩, prog_5_method_3_code, 3, (some .int), T_Line_along)
theorem dk_Line_along : ∀ e ∈ T_Line_along, decode prog_5_method_3_code e.1 = .ok e.2 := by decide +kernel
set_option maxRecDepth 100000 in
theorem ok_Line_along : OkM M_Line_along := ⟨dk_Line_along, TT_t (List.mem_of_getElem? (i := 386) rfl) rfl, by decide +kernel, rfl, TT_t (List.mem_of_getElem? (i := 6) (by decide +kernel)) rfl, by decide +kernel, by decide +kernel⟩
def T_Line_compareMiss : List (Nat × Instr × Nat) := [(0, .iload_n 3, 1), (1, .i2l, 1), (2, .iload_n 3, 1), (3, .i2l, 1), (4, .lmul, 1), (5, .lstore 4, 2), (7, .aload_n 0, 1), (8, .iload_n 1, 1), (9, .iload_n 2, 1), (10, .invokevirtual 22, 3), (13, .istore 6, 2), (15, .aload_n 0, 1), (16, .aload_n 0, 1), (17, .getfield 7, 3), (20, .aload_n 0, 1), (21, .getfield 19, 3), (24, .invokevirtual 22, 3), (27, .istore 7, 2), (29, .iload 6, 2), (31, .ifCond .gt 23, 3), (34, .iload_n 1, 1), (35, .iload_n 2, 1), (36, .aload_n 0, 1), (37, .getfield 13, 3), (40, .aload_n 0, 1), (41, .getfield 16, 3), (44, .invokestatic 26, 3), (47, .i2l, 1), (48, .lload 4, 2), (50, .invokestatic 30, 3), (53, .ireturn, 1), (54, .iload 6, 2), (56, .iload 7, 2), (58, .if_icmp .lt 23, 3), (61, .iload_n 1, 1), (62, .iload_n 2, 1), (63, .aload_n 0, 1), (64, .getfield 7, 3), (67, .aload_n 0, 1), (68, .getfield 19, 3), (71, .invokestatic 26, 3), (74, .i2l, 1), (75, .lload 4, 2), (77, .invokestatic 30, 3), (80, .ireturn, 1), (81, .aload_n 0, 1), (82, .iload_n 1, 1), (83, .iload_n 2, 1), (84, .invokevirtual 36, 3), (87, .i2l, 1), (88, .lstore 8, 2), (90, .lload 8, 2), (92, .lload 8, 2), (94, .lmul, 1), (95, .lload 4, 2), (97, .iload 7, 2), (99, .i2l, 1), (100, .lmul, 1), (101, .invokestatic 30, 3), (104, .ireturn, 1)]
def M_Line_compareMiss : MI := (3, ⟨"TouchMap$Line", "compareMiss", "(III)I"⟩, prog_5_method_4_code, 10, (some .int), T_Line_compareMiss)
theorem dk_Line_compareMiss : ∀ e ∈ T_Line_compareMiss, decode prog_5_method_4_code e.1 = .ok e.2 := by decide +kernel
set_option maxRecDepth 100000 in
theorem ok_Line_compareMiss : OkM M_Line_compareMiss := ⟨dk_Line_compareMiss, TT_t (List.mem_of_getElem? (i := 382) rfl) rfl, by decide +kernel, rfl, TT_t (List.mem_of_getElem? (i := 6) (by decide +kernel)) rfl, by decide +kernel, by decide +kernel⟩
def T_Line_squareBetween : List (Nat × Instr × Nat) := [(0, .iload_n 0, 1), (1, .iload_n 2, 1), (2, .isub, 1), (3, .iload_n 0, 1), (4, .iload_n 2, 1), (5, .isub, 1), (6, .imul, 1), (7, .iload_n 1, 1), (8, .iload_n 3, 1), (9, .isub, 1), (10, .iload_n 1, 1), (11, .iload_n 3, 1), (12, .isub, 1), (13, .imul, 1), (14, .iadd, 1), (15, .ireturn, 1)]
def M_Line_squareBetween : MI := (3, ⟨"TouchMap$Line", "squareBetween", "(IIII)I"⟩, prog_5_method_5_code, 4, (some .int), T_Line_squareBetween)
theorem dk_Line_squareBetween : ∀ e ∈ T_Line_squareBetween, decode prog_5_method_5_code e.1 = .ok e.2 := by decide +kernel
set_option maxRecDepth 100000 in
theorem ok_Line_squareBetween : OkM M_Line_squareBetween := ⟨dk_Line_squareBetween, TT_t (List.mem_of_getElem? (i := 389) rfl) rfl, by decide +kernel, rfl, TT_t (List.mem_of_getElem? (i := 6) (by decide +kernel)) rfl, by decide +kernel, by decide +kernel⟩
def T_Line_hasEnd : List (Nat × Instr × Nat) := [(0, .aload_n 0, 1), (1, .getfield 13, 3), (4, .iload_n 1, 1), (5, .if_icmp .ne 11, 3), (8, .aload_n 0, 1), (9, .getfield 16, 3), (12, .iload_n 2, 1), (13, .if_icmp .eq 19, 3), (16, .aload_n 0, 1), (17, .getfield 7, 3), (20, .iload_n 1, 1), (21, .if_icmp .ne 15, 3), (24, .aload_n 0, 1), (25, .getfield 19, 3), (28, .iload_n 2, 1), (29, .if_icmp .ne 7, 3), (32, .iconst 1, 1), (33, .goto 4, 3), (36, .iconst 0, 1), (37, .ireturn, 1)]
def M_Line_hasEnd : MI := (3, ⟨"TouchMap$Line", "hasEnd", "(II)Z"⟩, prog_5_method_6_code, 3, (some .boolean), T_Line_hasEnd)
theorem dk_Line_hasEnd : ∀ e ∈ T_Line_hasEnd, decode prog_5_method_6_code e.1 = .ok e.2 := by decide +kernel
set_option maxRecDepth 100000 in
theorem ok_Line_hasEnd : OkM M_Line_hasEnd := ⟨dk_Line_hasEnd, TT_t (List.mem_of_getElem? (i := 437) rfl) rfl, by decide +kernel, rfl, TT_t (List.mem_of_getElem? (i := 6) (by decide +kernel)) rfl, by decide +kernel, by decide +kernel⟩
def T_Line_sharesEnd : List (Nat × Instr × Nat) := [(0, .aload_n 0, 1), (1, .aload_n 1, 1), (2, .getfield 13, 3), (5, .aload_n 1, 1), (6, .getfield 16, 3), (9, .invokevirtual 39, 3), (12, .ifCond .ne 18, 3), (15, .aload_n 0, 1), (16, .aload_n 1, 1), (17, .getfield 7, 3), (20, .aload_n 1, 1), (21, .getfield 19, 3), (24, .invokevirtual 39, 3), (27, .ifCond .eq 7, 3), (30, .iconst 1, 1), (31, .goto 4, 3), (34, .iconst 0, 1), (35, .ireturn, 1)]
def M_Line_sharesEnd : MI := (3, ⟨"TouchMap$Line", "sharesEnd", "(LTouchMap$Line;)Z"⟩, prog_5_method_7_code, 2, (some .boolean), T_Line_sharesEnd)
theorem dk_Line_sharesEnd : ∀ e ∈ T_Line_sharesEnd, decode prog_5_method_7_code e.1 = .ok e.2 := by decide +kernel
set_option maxRecDepth 100000 in
theorem ok_Line_sharesEnd : OkM M_Line_sharesEnd := ⟨dk_Line_sharesEnd, TT_t (List.mem_of_getElem? (i := 433) rfl) rfl, by decide +kernel, rfl, TT_t (List.mem_of_getElem? (i := 6) (by decide +kernel)) rfl, by decide +kernel, by decide +kernel⟩
def T_Line_areOpposite : List (Nat × Instr × Nat) := [(0, .iload_n 0, 1), (1, .ifCond .ge 7, 3), (4, .iload_n 1, 1), (5, .ifCond .gt 11, 3), (8, .iload_n 0, 1), (9, .ifCond .le 11, 3), (12, .iload_n 1, 1), (13, .ifCond .ge 7, 3), (16, .iconst 1, 1), (17, .goto 4, 3), (20, .iconst 0, 1), (21, .ireturn, 1)]
def M_Line_areOpposite : MI := (3, ⟨"TouchMap$Line", "areOpposite", "(II)Z"⟩, prog_5_method_8_code, 2, (some .boolean), T_Line_areOpposite)
theorem dk_Line_areOpposite : ∀ e ∈ T_Line_areOpposite, decode prog_5_method_8_code e.1 = .ok e.2 := by decide +kernel
set_option maxRecDepth 100000 in
theorem ok_Line_areOpposite : OkM M_Line_areOpposite := ⟨dk_Line_areOpposite, TT_t (List.mem_of_getElem? (i := 448) rfl) rfl, by decide +kernel, rfl, TT_t (List.mem_of_getElem? (i := 6) (by decide +kernel)) rfl, by decide +kernel, by decide +kernel⟩
def T_Line_cuts : List (Nat × Instr × Nat) := [(0, .aload_n 0, 1), (1, .aload_n 1, 1), (2, .getfield 13, 3), (5, .aload_n 1, 1), (6, .getfield 16, 3), (9, .invokevirtual 36, 3), (12, .aload_n 0, 1), (13, .aload_n 1, 1), (14, .getfield 7, 3), (17, .aload_n 1, 1), (18, .getfield 19, 3), (21, .invokevirtual 36, 3), (24, .invokestatic 43, 3), (27, .ifCond .eq 37, 3), (30, .aload_n 1, 1), (31, .aload_n 0, 1), (32, .getfield 13, 3), (35, .aload_n 0, 1), (36, .getfield 16, 3), (39, .invokevirtual 36, 3), (42, .aload_n 1, 1), (43, .aload_n 0, 1), (44, .getfield 7, 3), (47, .aload_n 0, 1), (48, .getfield 19, 3), (51, .invokevirtual 36, 3), (54, .invokestatic 43, 3), (57, .ifCond .eq 7, 3), (60, .iconst 1, 1), (61, .goto 4, 3), (64, .iconst 0, 1), (65, .ireturn, 1)]
def M_Line_cuts : MI := (3, ⟨"TouchMap$Line", "cuts", "(LTouchMap$Line;)Z"⟩, prog_5_method_9_code, 2, (some .boolean), T_Line_cuts)
theorem dk_Line_cuts : ∀ e ∈ T_Line_cuts, decode prog_5_method_9_code e.1 = .ok e.2 := by decide +kernel
set_option maxRecDepth 100000 in
theorem ok_Line_cuts : OkM M_Line_cuts := ⟨dk_Line_cuts, TT_t (List.mem_of_getElem? (i := 445) rfl) rfl, by decide +kernel, rfl, TT_t (List.mem_of_getElem? (i := 6) (by decide +kernel)) rfl, by decide +kernel, by decide +kernel⟩
def T_Line_isNearer : List (Nat × Instr × Nat) := [(0, .iload_n 2, 1), (1, .ifCond .le 79, 3), (4, .aload_n 0, 1), (5, .aload_n 1, 1), (6, .invokevirtual 46, 3), (9, .ifCond .ne 67, 3), (12, .aload_n 0, 1), (13, .aload_n 1, 1), (14, .getfield 13, 3), (17, .aload_n 1, 1), (18, .getfield 16, 3), (21, .iload_n 2, 1), (22, .invokevirtual 50, 3), (25, .ifCond .lt 51, 3), (28, .aload_n 0, 1), (29, .aload_n 1, 1), (30, .getfield 7, 3), (33, .aload_n 1, 1), (34, .getfield 19, 3), (37, .iload_n 2, 1), (38, .invokevirtual 50, 3), (41, .ifCond .lt 35, 3), (44, .aload_n 1, 1), (45, .aload_n 0, 1), (46, .getfield 13, 3), (49, .aload_n 0, 1), (50, .getfield 16, 3), (53, .iload_n 2, 1), (54, .invokevirtual 50, 3), (57, .ifCond .lt 19, 3), (60, .aload_n 1, 1), (61, .aload_n 0, 1), (62, .getfield 7, 3), (65, .aload_n 0, 1), (66, .getfield 19, 3), (69, .iload_n 2, 1), (70, .invokevirtual 50, 3), (73, .ifCond .ge 7, 3), (76, .iconst 1, 1), (77, .goto 4, 3), (80, .iconst 0, 1), (81, .ireturn, 1)]
def M_Line_isNearer : MI := (3, ⟨"TouchMap$Line", "isNearer", "(LTouchMap$Line;I)Z"⟩, prog_5_method_10_code, 3, (some .boolean), T_Line_isNearer)
theorem dk_Line_isNearer : ∀ e ∈ T_Line_isNearer, decode prog_5_method_10_code e.1 = .ok e.2 := by decide +kernel
set_option maxRecDepth 100000 in
theorem ok_Line_isNearer : OkM M_Line_isNearer := ⟨dk_Line_isNearer, TT_t (List.mem_of_getElem? (i := 441) rfl) rfl, by decide +kernel, rfl, TT_t (List.mem_of_getElem? (i := 6) (by decide +kernel)) rfl, by decide +kernel, by decide +kernel⟩
def T_Line_overlaps : List (Nat × Instr × Nat) := [(0, .aload_n 0, 1), (1, .aload_n 1, 1), (2, .getfield 13, 3), (5, .aload_n 1, 1), (6, .getfield 16, 3), (9, .invokevirtual 36, 3), (12, .ifCond .ne 18, 3), (15, .aload_n 0, 1), (16, .aload_n 1, 1), (17, .getfield 7, 3), (20, .aload_n 1, 1), (21, .getfield 19, 3), (24, .invokevirtual 36, 3), (27, .ifCond .eq 5, 3), (30, .iconst 0, 1), (31, .ireturn, 1), (32, .aload_n 0, 1), (33, .aload_n 1, 1), (34, .getfield 13, 3), (37, .aload_n 1, 1), (38, .getfield 16, 3), (41, .invokevirtual 22, 3), (44, .istore_n 2, 1), (45, .aload_n 0, 1), (46, .aload_n 1, 1), (47, .getfield 7, 3), (50, .aload_n 1, 1), (51, .getfield 19, 3), (54, .invokevirtual 22, 3), (57, .istore_n 3, 1), (58, .iconst 0, 1), (59, .iload_n 2, 1), (60, .iload_n 3, 1), (61, .invokestatic 54, 3), (64, .invokestatic 59, 3), (67, .aload_n 0, 1), (68, .aload_n 0, 1), (69, .getfield 7, 3), (72, .aload_n 0, 1), (73, .getfield 19, 3), (76, .invokevirtual 22, 3), (79, .iload_n 2, 1), (80, .iload_n 3, 1), (81, .invokestatic 59, 3), (84, .invokestatic 54, 3), (87, .if_icmp .ge 7, 3), (90, .iconst 1, 1), (91, .goto 4, 3), (94, .iconst 0, 1), (95, .ireturn, 1)]
def M_Line_overlaps : MI := (3, ⟨"TouchMap$Line", "overlaps", "(LTouchMap$Line;)Z"⟩, prog_5_method_11_code, 4, (some .boolean), T_Line_overlaps)
theorem dk_Line_overlaps : ∀ e ∈ T_Line_overlaps, decode prog_5_method_11_code e.1 = .ok e.2 := by decide +kernel
set_option maxRecDepth 100000 in
theorem ok_Line_overlaps : OkM M_Line_overlaps := ⟨dk_Line_overlaps, TT_t (List.mem_of_getElem? (i := 465) rfl) rfl, by decide +kernel, rfl, TT_t (List.mem_of_getElem? (i := 6) (by decide +kernel)) rfl, by decide +kernel, by decide +kernel⟩
def T_Line_crosses : List (Nat × Instr × Nat) := [(0, .aload_n 0, 1), (1, .aload_n 1, 1), (2, .invokevirtual 46, 3), (5, .ifCond .ne 11, 3), (8, .aload_n 0, 1), (9, .aload_n 1, 1), (10, .invokevirtual 62, 3), (13, .ifCond .eq 7, 3), (16, .iconst 1, 1), (17, .goto 4, 3), (20, .iconst 0, 1), (21, .ireturn, 1)]
def M_Line_crosses : MI := (3, ⟨"TouchMap$Line", "crosses", "(LTouchMap$Line;)Z"⟩, prog_5_method_12_code, 2, (some .boolean), T_Line_crosses)
theorem dk_Line_crosses : ∀ e ∈ T_Line_crosses, decode prog_5_method_12_code e.1 = .ok e.2 := by decide +kernel
set_option maxRecDepth 100000 in
theorem ok_Line_crosses : OkM M_Line_crosses := ⟨dk_Line_crosses, TT_t (List.mem_of_getElem? (i := 461) rfl) rfl, by decide +kernel, rfl, TT_t (List.mem_of_getElem? (i := 6) (by decide +kernel)) rfl, by decide +kernel, by decide +kernel⟩
def T_Line_enters : List (Nat × Instr × Nat) := [(0, .aload_n 0, 1), (1, .getfield 13, 3), (4, .aload_n 0, 1), (5, .getfield 7, 3), (8, .invokestatic 59, 3), (11, .iload_n 1, 1), (12, .if_icmp .le 49, 3), (15, .aload_n 0, 1), (16, .getfield 13, 3), (19, .aload_n 0, 1), (20, .getfield 7, 3), (23, .invokestatic 54, 3), (26, .iload_n 3, 1), (27, .if_icmp .ge 34, 3), (30, .aload_n 0, 1), (31, .getfield 16, 3), (34, .aload_n 0, 1), (35, .getfield 19, 3), (38, .invokestatic 59, 3), (41, .iload_n 2, 1), (42, .if_icmp .le 19, 3), (45, .aload_n 0, 1), (46, .getfield 16, 3), (49, .aload_n 0, 1), (50, .getfield 19, 3), (53, .invokestatic 54, 3), (56, .iload 4, 2), (58, .if_icmp .lt 5, 3), (61, .iconst 0, 1), (62, .ireturn, 1), (63, .aload_n 0, 1), (64, .getfield 13, 3), (67, .aload_n 0, 1), (68, .getfield 7, 3), (71, .if_icmp .ne 16, 3), (74, .aload_n 0, 1), (75, .getfield 16, 3), (78, .aload_n 0, 1), (79, .getfield 19, 3), (82, .if_icmp .ne 5, 3), (85, .iconst 1, 1), (86, .ireturn, 1), (87, .aload_n 0, 1), (88, .iload_n 1, 1), (89, .iload_n 2, 1), (90, .invokevirtual 36, 3), (93, .istore 5, 2), (95, .aload_n 0, 1), (96, .iload_n 1, 1), (97, .iload 4, 2), (99, .invokevirtual 36, 3), (102, .istore 6, 2), (104, .aload_n 0, 1), (105, .iload_n 3, 1), (106, .iload_n 2, 1), (107, .invokevirtual 36, 3), (110, .istore 7, 2), (112, .aload_n 0, 1), (113, .iload_n 3, 1), (114, .iload 4, 2), (116, .invokevirtual 36, 3), (119, .istore 8, 2), (121, .iload 5, 2), (123, .iload 6, 2), (125, .invokestatic 54, 3), (128, .iload 7, 2), (130, .iload 8, 2), (132, .invokestatic 54, 3), (135, .invokestatic 54, 3), (138, .ifCond .ge 27, 3), (141, .iload 5, 2), (143, .iload 6, 2), (145, .invokestatic 59, 3), (148, .iload 7, 2), (150, .iload 8, 2), (152, .invokestatic 59, 3), (155, .invokestatic 59, 3), (158, .ifCond .le 7, 3), (161, .iconst 1, 1), (162, .goto 4, 3), (165, .iconst 0, 1), (166, .ireturn, 1)]
def M_Line_enters : MI := (3, ⟨"TouchMap$Line", "enters", "(IIII)Z"⟩, prog_5_method_13_code, 9, (some .boolean), T_Line_enters)
theorem dk_Line_enters : ∀ e ∈ T_Line_enters, decode prog_5_method_13_code e.1 = .ok e.2 := by decide +kernel
set_option maxRecDepth 100000 in
theorem ok_Line_enters : OkM M_Line_enters := ⟨dk_Line_enters, TT_t (List.mem_of_getElem? (i := 614) rfl) rfl, by decide +kernel, rfl, TT_t (List.mem_of_getElem? (i := 6) (by decide +kernel)) rfl, by decide +kernel, by decide +kernel⟩
def T_Name_begin : List (Nat × Instr × Nat) := [(0, .aload_n 0, 1), (1, .getfield 14, 3), (4, .aload_n 1, 1), (5, .invokevirtual 20, 3), (8, .aload_n 0, 1), (9, .iload_n 2, 1), (10, .putfield 24, 3), (13, .aload_n 0, 1), (14, .iload_n 3, 1), (15, .putfield 28, 3), (18, .aload_n 0, 1), (19, .iload 4, 2), (21, .putfield 31, 3), (24, .aload_n 0, 1), (25, .iconst 1, 1), (26, .putfield 34, 3), (29, .return_, 1)]
def M_Name_begin : MI := (4, ⟨"TouchMap$Name", "begin", "(LTouchMap$Word;III)V"⟩, prog_6_method_2_code, 5, none, T_Name_begin)
theorem dk_Name_begin : ∀ e ∈ T_Name_begin, decode prog_6_method_2_code e.1 = .ok e.2 := by decide +kernel
set_option maxRecDepth 100000 in
theorem ok_Name_begin : OkM M_Name_begin := ⟨dk_Name_begin, TT_t (List.mem_of_getElem? (i := 550) rfl) rfl, by decide +kernel, rfl, TT_t (List.mem_of_getElem? (i := 3) (by decide +kernel)) rfl, by decide +kernel, by decide +kernel⟩
def T_Ruler_thin : List (Nat × Instr × Nat) := [(0, .aload_n 1, 1), (1, .getfield 28, 3), (4, .iconst 1, 1), (5, .isub, 1), (6, .istore_n 3, 1), (7, .aload_n 0, 1), (8, .getfield 21, 3), (11, .iload_n 3, 1), (12, .iconst 1, 1), (13, .iastore, 1), (14, .iload_n 3, 1), (15, .iconst 1, 1), (16, .isub, 1), (17, .istore 4, 2), (19, .iload 4, 2), (21, .ifCond .lt 17, 3), (24, .aload_n 0, 1), (25, .aload_n 1, 1), (26, .iload 4, 2), (28, .iload_n 2, 1), (29, .invokevirtual 34, 3), (32, .iinc 4 (-1), 3), (35, .goto (-16), 3), (38, .iconst 0, 1), (39, .istore 4, 2), (41, .aload_n 1, 1), (42, .aload_n 0, 1), (43, .getfield 21, 3), (46, .iconst 0, 1), (47, .iaload, 1), (48, .putfield 38, 3), (51, .iconst 0, 1), (52, .istore 5, 2), (54, .iload 5, 2), (56, .aload_n 1, 1), (57, .getfield 38, 3), (60, .if_icmp .ge 27, 3), (63, .aload_n 1, 1), (64, .getfield 41, 3), (67, .iload 5, 2), (69, .iload 4, 2), (71, .iastore, 1), (72, .aload_n 0, 1), (73, .getfield 25, 3), (76, .iload 4, 2), (78, .iaload, 1), (79, .istore 4, 2), (81, .iinc 5 1, 3), (84, .goto (-30), 3), (87, .return_, 1)]
def M_Ruler_thin : MI := (5, ⟨"TouchMap$Ruler", "thin", "(LTouchMap$Way;I)V"⟩, prog_7_method_2_code, 6, none, T_Ruler_thin)
theorem dk_Ruler_thin : ∀ e ∈ T_Ruler_thin, decode prog_7_method_2_code e.1 = .ok e.2 := by decide +kernel
set_option maxRecDepth 100000 in
theorem ok_Ruler_thin : OkM M_Ruler_thin := ⟨dk_Ruler_thin, TT_t (List.mem_of_getElem? (i := 366) rfl) rfl, by decide +kernel, rfl, TT_t (List.mem_of_getElem? (i := 5) (by decide +kernel)) rfl, by decide +kernel, by decide +kernel⟩
def T_Ruler_findNext : List (Nat × Instr × Nat) := [(0, .aload_n 0, 1), (1, .getfield 21, 3), (4, .iload_n 2, 1), (5, .bipush 21, 2), (7, .iastore, 1), (8, .iload_n 2, 1), (9, .iconst 1, 1), (10, .iadd, 1), (11, .istore 4, 2), (13, .iload 4, 2), (15, .aload_n 1, 1), (16, .getfield 28, 3), (19, .if_icmp .ge 62, 3), (22, .aload_n 0, 1), (23, .getfield 21, 3), (26, .iload 4, 2), (28, .iaload, 1), (29, .iconst 1, 1), (30, .iadd, 1), (31, .aload_n 0, 1), (32, .getfield 21, 3), (35, .iload_n 2, 1), (36, .iaload, 1), (37, .if_icmp .gt 38, 3), (40, .aload_n 0, 1), (41, .aload_n 1, 1), (42, .iload_n 2, 1), (43, .iload 4, 2), (45, .iload_n 3, 1), (46, .invokevirtual 44, 3), (49, .ifCond .eq 26, 3), (52, .aload_n 0, 1), (53, .getfield 21, 3), (56, .iload_n 2, 1), (57, .aload_n 0, 1), (58, .getfield 21, 3), (61, .iload 4, 2), (63, .iaload, 1), (64, .iconst 1, 1), (65, .iadd, 1), (66, .iastore, 1), (67, .aload_n 0, 1), (68, .getfield 25, 3), (71, .iload_n 2, 1), (72, .iload 4, 2), (74, .iastore, 1), (75, .iinc 4 1, 3), (78, .goto (-65), 3), (81, .return_, 1)]
def M_Ruler_findNext : MI := (5, ⟨"TouchMap$Ruler", "findNext", "(LTouchMap$Way;II)V"⟩, prog_7_method_3_code, 5, none, T_Ruler_findNext)
theorem dk_Ruler_findNext : ∀ e ∈ T_Ruler_findNext, decode prog_7_method_3_code e.1 = .ok e.2 := by decide +kernel
set_option maxRecDepth 100000 in
theorem ok_Ruler_findNext : OkM M_Ruler_findNext := ⟨dk_Ruler_findNext, TT_t (List.mem_of_getElem? (i := 370) rfl) rfl, by decide +kernel, rfl, TT_t (List.mem_of_getElem? (i := 5) (by decide +kernel)) rfl, by decide +kernel, by decide +kernel⟩
def T_Ruler_spares : List (Nat × Instr × Nat) := [(0, .aload_n 1, 1), (1, .iload_n 2, 1), (2, .iload_n 3, 1), (3, .aload_n 0, 1), (4, .getfield 12, 3), (7, .invokevirtual 48, 3), (10, .iload_n 2, 1), (11, .iconst 1, 1), (12, .iadd, 1), (13, .istore 5, 2), (15, .iload 5, 2), (17, .iload_n 3, 1), (18, .if_icmp .ge 37, 3), (21, .aload_n 0, 1), (22, .getfield 12, 3), (25, .aload_n 1, 1), (26, .getfield 52, 3), (29, .iload 5, 2), (31, .iaload, 1), (32, .aload_n 1, 1), (33, .getfield 55, 3), (36, .iload 5, 2), (38, .iaload, 1), (39, .iload 4, 2), (41, .invokevirtual 58, 3), (44, .ifCond .le 5, 3), (47, .iconst 0, 1), (48, .ireturn, 1), (49, .iinc 5 1, 3), (52, .goto (-37), 3), (55, .iconst 1, 1), (56, .ireturn, 1)]
def M_Ruler_spares : MI := (5, ⟨"TouchMap$Ruler", "spares", "(LTouchMap$Way;III)Z"⟩, prog_7_method_4_code, 6, (some .boolean), T_Ruler_spares)
theorem dk_Ruler_spares : ∀ e ∈ T_Ruler_spares, decode prog_7_method_4_code e.1 = .ok e.2 := by decide +kernel
set_option maxRecDepth 100000 in
theorem ok_Ruler_spares : OkM M_Ruler_spares := ⟨dk_Ruler_spares, TT_t (List.mem_of_getElem? (i := 374) rfl) rfl, by decide +kernel, rfl, TT_t (List.mem_of_getElem? (i := 5) (by decide +kernel)) rfl, by decide +kernel, by decide +kernel⟩
def T_Ruler_areTooNear : List (Nat × Instr × Nat) := [(0, .iconst 0, 1), (1, .istore 4, 2), (3, .iload 4, 2), (5, .aload_n 1, 1), (6, .getfield 38, 3), (9, .iconst 1, 1), (10, .isub, 1), (11, .if_icmp .ge 80, 3), (14, .aload_n 1, 1), (15, .iload 4, 2), (17, .aload_n 0, 1), (18, .getfield 12, 3), (21, .invokevirtual 62, 3), (24, .iconst 0, 1), (25, .istore 5, 2), (27, .iload 5, 2), (29, .aload_n 2, 1), (30, .getfield 38, 3), (33, .iconst 1, 1), (34, .isub, 1), (35, .if_icmp .ge 50, 3), (38, .aload_n 2, 1), (39, .iload 5, 2), (41, .aload_n 0, 1), (42, .getfield 18, 3), (45, .invokevirtual 62, 3), (48, .aload_n 0, 1), (49, .getfield 12, 3), (52, .aload_n 0, 1), (53, .getfield 18, 3), (56, .invokevirtual 66, 3), (59, .ifCond .ne 20, 3), (62, .aload_n 0, 1), (63, .getfield 12, 3), (66, .aload_n 0, 1), (67, .getfield 18, 3), (70, .iload_n 3, 1), (71, .invokevirtual 70, 3), (74, .ifCond .eq 5, 3), (77, .iconst 1, 1), (78, .ireturn, 1), (79, .iinc 5 1, 3), (82, .goto (-55), 3), (85, .iinc 4 1, 3), (88, .goto (-85), 3), (91, .iconst 0, 1), (92, .ireturn, 1)]
def M_Ruler_areTooNear : MI := (5, ⟨"TouchMap$Ruler", "areTooNear", "(LTouchMap$Way;LTouchMap$Way;I)Z"⟩, prog_7_method_5_code, 6, (some .boolean), T_Ruler_areTooNear)
theorem dk_Ruler_areTooNear : ∀ e ∈ T_Ruler_areTooNear, decode prog_7_method_5_code e.1 = .ok e.2 := by decide +kernel
set_option maxRecDepth 100000 in
theorem ok_Ruler_areTooNear : OkM M_Ruler_areTooNear := ⟨dk_Ruler_areTooNear, TT_t (List.mem_of_getElem? (i := 424) rfl) rfl, by decide +kernel, rfl, TT_t (List.mem_of_getElem? (i := 5) (by decide +kernel)) rfl, by decide +kernel, by decide +kernel⟩
def T_Ruler_countCrossed : List (Nat × Instr × Nat) := [(0, .iconst 0, 1), (1, .istore_n 3, 1), (2, .iconst 0, 1), (3, .istore 4, 2), (5, .iload 4, 2), (7, .aload_n 1, 1), (8, .getfield 38, 3), (11, .iconst 1, 1), (12, .isub, 1), (13, .if_icmp .ge 66, 3), (16, .aload_n 1, 1), (17, .iload 4, 2), (19, .aload_n 0, 1), (20, .getfield 12, 3), (23, .invokevirtual 62, 3), (26, .iconst 0, 1), (27, .istore 5, 2), (29, .iload 5, 2), (31, .aload_n 2, 1), (32, .getfield 38, 3), (35, .iconst 1, 1), (36, .isub, 1), (37, .if_icmp .ge 36, 3), (40, .aload_n 2, 1), (41, .iload 5, 2), (43, .aload_n 0, 1), (44, .getfield 18, 3), (47, .invokevirtual 62, 3), (50, .aload_n 0, 1), (51, .getfield 12, 3), (54, .aload_n 0, 1), (55, .getfield 18, 3), (58, .invokevirtual 74, 3), (61, .ifCond .eq 6, 3), (64, .iinc 3 1, 3), (67, .iinc 5 1, 3), (70, .goto (-41), 3), (73, .iinc 4 1, 3), (76, .goto (-71), 3), (79, .iload_n 3, 1), (80, .ireturn, 1)]
def M_Ruler_countCrossed : MI := (5, ⟨"TouchMap$Ruler", "countCrossed", "(LTouchMap$Way;LTouchMap$Way;)I"⟩, prog_7_method_6_code, 6, (some .int), T_Ruler_countCrossed)
theorem dk_Ruler_countCrossed : ∀ e ∈ T_Ruler_countCrossed, decode prog_7_method_6_code e.1 = .ok e.2 := by decide +kernel
set_option maxRecDepth 100000 in
theorem ok_Ruler_countCrossed : OkM M_Ruler_countCrossed := ⟨dk_Ruler_countCrossed, TT_t (List.mem_of_getElem? (i := 457) rfl) rfl, by decide +kernel, rfl, TT_t (List.mem_of_getElem? (i := 5) (by decide +kernel)) rfl, by decide +kernel, by decide +kernel⟩
def T_Setter_measure : List (Nat × Instr × Nat) := [(0, .aload_n 0, 1), (1, .iconst 0, 1), (2, .putfield 40, 3), (5, .iconst 0, 1), (6, .istore_n 3, 1), (7, .iload_n 3, 1), (8, .bipush 8, 2), (10, .if_icmp .ge 150, 3), (13, .aload_n 1, 1), (14, .iload_n 3, 1), (15, .aaload, 1), (16, .getfield 44, 3), (19, .ifCond .eq 135, 3), (22, .bipush 6, 2), (24, .aload_n 2, 1), (25, .aload_n 1, 1), (26, .iload_n 3, 1), (27, .aaload, 1), (28, .getfield 50, 3), (31, .invokevirtual 54, 3), (34, .imul, 1), (35, .istore 4, 2), (37, .aload_n 1, 1), (38, .iload_n 3, 1), (39, .aaload, 1), (40, .getfield 60, 3), (43, .istore 5, 2), (45, .aload_n 1, 1), (46, .iload_n 3, 1), (47, .aaload, 1), (48, .getfield 63, 3), (51, .istore 6, 2), (53, .iload_n 3, 1), (54, .iconst 4, 1), (55, .imul, 1), (56, .istore 7, 2), (58, .aload_n 0, 1), (59, .iload 7, 2), (61, .iload 5, 2), (63, .iconst 4, 1), (64, .iadd, 1), (65, .iload 6, 2), (67, .iconst 5, 1), (68, .isub, 1), (69, .iload 4, 2), (71, .invokevirtual 66, 3), (74, .aload_n 0, 1), (75, .iload 7, 2), (77, .iconst 1, 1), (78, .iadd, 1), (79, .iload 5, 2), (81, .iconst 4, 1), (82, .isub, 1), (83, .iload 4, 2), (85, .isub, 1), (86, .iload 6, 2), (88, .iconst 5, 1), (89, .isub, 1), (90, .iload 4, 2), (92, .invokevirtual 66, 3), (95, .aload_n 0, 1), (96, .iload 7, 2), (98, .iconst 2, 1), (99, .iadd, 1), (100, .iload 5, 2), (102, .iload 4, 2), (104, .iconst 2, 1), (105, .idiv, 1), (106, .isub, 1), (107, .iload 6, 2), (109, .iconst 4, 1), (110, .iadd, 1), (111, .iload 4, 2), (113, .invokevirtual 66, 3), (116, .aload_n 0, 1), (117, .iload 7, 2), (119, .iconst 3, 1), (120, .iadd, 1), (121, .iload 5, 2), (123, .iload 4, 2), (125, .iconst 2, 1), (126, .idiv, 1), (127, .isub, 1), (128, .iload 6, 2), (130, .iconst 4, 1), (131, .isub, 1), (132, .bipush 10, 2), (134, .isub, 1), (135, .iload 4, 2), (137, .invokevirtual 66, 3), (140, .aload_n 0, 1), (141, .getfield 14, 3), (144, .iload_n 3, 1), (145, .aload_n 1, 1), (146, .iload_n 3, 1), (147, .aaload, 1), (148, .getfield 70, 3), (151, .invokevirtual 73, 3), (154, .iinc 3 1, 3), (157, .goto (-150), 3), (160, .return_, 1)]
def M_Setter_measure : MI := (6, ⟨"TouchMap$Setter", "measure", "([LTouchMap$Name;LTouchMap$Speller;)V"⟩, prog_8_method_2_code, 8, none, T_Setter_measure)
theorem dk_Setter_measure : ∀ e ∈ T_Setter_measure, decode prog_8_method_2_code e.1 = .ok e.2 := by decide +kernel
set_option maxRecDepth 100000 in
theorem ok_Setter_measure : OkM M_Setter_measure := ⟨dk_Setter_measure, TT_t (List.mem_of_getElem? (i := 589) rfl) rfl, by decide +kernel, rfl, TT_t (List.mem_of_getElem? (i := 10) (by decide +kernel)) rfl, by decide +kernel, by decide +kernel⟩
def T_Setter_putBox : List (Nat × Instr × Nat) := [(0, .aload_n 0, 1), (1, .getfield 27, 3), (4, .iload_n 1, 1), (5, .iload_n 2, 1), (6, .iastore, 1), (7, .aload_n 0, 1), (8, .getfield 31, 3), (11, .iload_n 1, 1), (12, .iload_n 3, 1), (13, .iastore, 1), (14, .aload_n 0, 1), (15, .getfield 34, 3), (18, .iload_n 1, 1), (19, .iload 4, 2), (21, .iastore, 1), (22, .iload_n 2, 1), (23, .iload_n 3, 1), (24, .invokestatic 76, 3), (27, .ifCond .eq 29, 3), (30, .iload_n 2, 1), (31, .iload 4, 2), (33, .iadd, 1), (34, .iload_n 3, 1), (35, .bipush 10, 2), (37, .iadd, 1), (38, .invokestatic 76, 3), (41, .ifCond .eq 15, 3), (44, .aload_n 0, 1), (45, .dup, 1), (46, .getfield 40, 3), (49, .iconst 1, 1), (50, .iload_n 1, 1), (51, .ishl, 1), (52, .ior, 1), (53, .putfield 40, 3), (56, .return_, 1)]
def M_Setter_putBox : MI := (6, ⟨"TouchMap$Setter", "putBox", "(IIII)V"⟩, prog_8_method_3_code, 5, none, T_Setter_putBox)
theorem dk_Setter_putBox : ∀ e ∈ T_Setter_putBox, decode prog_8_method_3_code e.1 = .ok e.2 := by decide +kernel
set_option maxRecDepth 100000 in
theorem ok_Setter_putBox : OkM M_Setter_putBox := ⟨dk_Setter_putBox, TT_t (List.mem_of_getElem? (i := 594) rfl) rfl, by decide +kernel, rfl, TT_t (List.mem_of_getElem? (i := 10) (by decide +kernel)) rfl, by decide +kernel, by decide +kernel⟩
def T_Setter_isUsable : List (Nat × Instr × Nat) := [(0, .aload_n 0, 1), (1, .getfield 40, 3), (4, .iload_n 1, 1), (5, .iushr, 1), (6, .iconst 1, 1), (7, .iand, 1), (8, .iconst 1, 1), (9, .if_icmp .ne 7, 3), (12, .iconst 1, 1), (13, .goto 4, 3), (16, .iconst 0, 1), (17, .ireturn, 1)]
def M_Setter_isUsable : MI := (6, ⟨"TouchMap$Setter", "isUsable", "(I)Z"⟩, prog_8_method_4_code, 2, (some .boolean), T_Setter_isUsable)
theorem dk_Setter_isUsable : ∀ e ∈ T_Setter_isUsable, decode prog_8_method_4_code e.1 = .ok e.2 := by decide +kernel
set_option maxRecDepth 100000 in
theorem ok_Setter_isUsable : OkM M_Setter_isUsable := ⟨dk_Setter_isUsable, TT_t (List.mem_of_getElem? (i := 610) rfl) rfl, by decide +kernel, rfl, TT_t (List.mem_of_getElem? (i := 10) (by decide +kernel)) rfl, by decide +kernel, by decide +kernel⟩
def T_Setter_avoid : List (Nat × Instr × Nat) := [(0, .iconst 0, 1), (1, .istore_n 3, 1), (2, .iload_n 3, 1), (3, .bipush 12, 2), (5, .if_icmp .ge 24, 3), (8, .aload_n 2, 1), (9, .iload_n 3, 1), (10, .invokevirtual 80, 3), (13, .ifCond .eq 10, 3), (16, .aload_n 0, 1), (17, .aload_n 1, 1), (18, .iload_n 3, 1), (19, .aaload, 1), (20, .invokevirtual 86, 3), (23, .iinc 3 1, 3), (26, .goto (-24), 3), (29, .return_, 1)]
def M_Setter_avoid : MI := (6, ⟨"TouchMap$Setter", "avoid", "([LTouchMap$Way;LTouchMap$Keeper;)V"⟩, prog_8_method_5_code, 4, none, T_Setter_avoid)
theorem dk_Setter_avoid : ∀ e ∈ T_Setter_avoid, decode prog_8_method_5_code e.1 = .ok e.2 := by decide +kernel
set_option maxRecDepth 100000 in
theorem ok_Setter_avoid : OkM M_Setter_avoid := ⟨dk_Setter_avoid, TT_t (List.mem_of_getElem? (i := 600) rfl) rfl, by decide +kernel, rfl, TT_t (List.mem_of_getElem? (i := 10) (by decide +kernel)) rfl, by decide +kernel, by decide +kernel⟩
def T_Setter_avoidWay : List (Nat × Instr × Nat) := [(0, .iconst 0, 1), (1, .istore_n 2, 1), (2, .iload_n 2, 1), (3, .aload_n 1, 1), (4, .getfield 90, 3), (7, .iconst 1, 1), (8, .isub, 1), (9, .if_icmp .ge 98, 3), (12, .aload_n 1, 1), (13, .iload_n 2, 1), (14, .aload_n 0, 1), (15, .getfield 23, 3), (18, .invokevirtual 95, 3), (21, .iconst 0, 1), (22, .istore_n 3, 1), (23, .iload_n 3, 1), (24, .bipush 32, 2), (26, .if_icmp .ge 75, 3), (29, .aload_n 0, 1), (30, .iload_n 3, 1), (31, .invokevirtual 99, 3), (34, .ifCond .eq 61, 3), (37, .aload_n 0, 1), (38, .getfield 23, 3), (41, .aload_n 0, 1), (42, .getfield 27, 3), (45, .iload_n 3, 1), (46, .iaload, 1), (47, .aload_n 0, 1), (48, .getfield 31, 3), (51, .iload_n 3, 1), (52, .iaload, 1), (53, .aload_n 0, 1), (54, .getfield 27, 3), (57, .iload_n 3, 1), (58, .iaload, 1), (59, .aload_n 0, 1), (60, .getfield 34, 3), (63, .iload_n 3, 1), (64, .iaload, 1), (65, .iadd, 1), (66, .aload_n 0, 1), (67, .getfield 31, 3), (70, .iload_n 3, 1), (71, .iaload, 1), (72, .bipush 10, 2), (74, .iadd, 1), (75, .invokevirtual 102, 3), (78, .ifCond .eq 17, 3), (81, .aload_n 0, 1), (82, .dup, 1), (83, .getfield 40, 3), (86, .iconst 1, 1), (87, .iload_n 3, 1), (88, .ishl, 1), (89, .iconst (-1), 1), (90, .ixor, 1), (91, .iand, 1), (92, .putfield 40, 3), (95, .iinc 3 1, 3), (98, .goto (-75), 3), (101, .iinc 2 1, 3), (104, .goto (-102), 3), (107, .return_, 1)]
def M_Setter_avoidWay : MI := (6, ⟨"TouchMap$Setter", "avoidWay", "(LTouchMap$Way;)V"⟩, prog_8_method_6_code, 4, none, T_Setter_avoidWay)
theorem dk_Setter_avoidWay : ∀ e ∈ T_Setter_avoidWay, decode prog_8_method_6_code e.1 = .ok e.2 := by decide +kernel
set_option maxRecDepth 100000 in
theorem ok_Setter_avoidWay : OkM M_Setter_avoidWay := ⟨dk_Setter_avoidWay, TT_t (List.mem_of_getElem? (i := 605) rfl) rfl, by decide +kernel, rfl, TT_t (List.mem_of_getElem? (i := 10) (by decide +kernel)) rfl, by decide +kernel, by decide +kernel⟩
def T_Setter_find : List (Nat × Instr × Nat) := [(0, .aload_n 0, 1), (1, .getfield 14, 3), (4, .invokevirtual 106, 3), (7, .iconst 0, 1), (8, .istore_n 2, 1), (9, .iload_n 2, 1), (10, .bipush 32, 2), (12, .if_icmp .ge 60, 3), (15, .iconst 0, 1), (16, .istore_n 3, 1), (17, .iload_n 3, 1), (18, .iload_n 2, 1), (19, .if_icmp .ge 47, 3), (22, .aload_n 0, 1), (23, .iload_n 2, 1), (24, .invokevirtual 99, 3), (27, .ifCond .eq 33, 3), (30, .aload_n 0, 1), (31, .iload_n 3, 1), (32, .invokevirtual 99, 3), (35, .ifCond .eq 25, 3), (38, .aload_n 0, 1), (39, .iload_n 2, 1), (40, .iload_n 3, 1), (41, .invokevirtual 109, 3), (44, .ifCond .eq 16, 3), (47, .aload_n 0, 1), (48, .getfield 14, 3), (51, .getfield 112, 3), (54, .iload_n 2, 1), (55, .iload_n 3, 1), (56, .iconst 1, 1), (57, .invokestatic 115, 3), (60, .iinc 3 1, 3), (63, .goto (-46), 3), (66, .iinc 2 1, 3), (69, .goto (-60), 3), (72, .aload_n 0, 1), (73, .getfield 14, 3), (76, .aload_n 0, 1), (77, .getfield 40, 3), (80, .invokevirtual 119, 3), (83, .istore_n 2, 1), (84, .iconst 0, 1), (85, .istore_n 3, 1), (86, .iload_n 3, 1), (87, .bipush 8, 2), (89, .if_icmp .ge 37, 3), (92, .aload_n 0, 1), (93, .getfield 37, 3), (96, .iload_n 3, 1), (97, .aload_n 1, 1), (98, .iload_n 3, 1), (99, .aaload, 1), (100, .getfield 44, 3), (103, .ifCond .eq 15, 3), (106, .aload_n 0, 1), (107, .getfield 14, 3), (110, .getfield 123, 3), (113, .iload_n 3, 1), (114, .iaload, 1), (115, .goto 4, 3), (118, .iconst (-1), 1), (119, .iastore, 1), (120, .iinc 3 1, 3), (123, .goto (-37), 3), (126, .iload_n 2, 1), (127, .ireturn, 1)]
def M_Setter_find : MI := (6, ⟨"TouchMap$Setter", "find", "([LTouchMap$Name;)I"⟩, prog_8_method_7_code, 4, (some .int), T_Setter_find)
theorem dk_Setter_find : ∀ e ∈ T_Setter_find, decode prog_8_method_7_code e.1 = .ok e.2 := by decide +kernel
set_option maxRecDepth 100000 in
theorem ok_Setter_find : OkM M_Setter_find := ⟨dk_Setter_find, TT_t (List.mem_of_getElem? (i := 618) rfl) rfl, by decide +kernel, rfl, TT_t (List.mem_of_getElem? (i := 10) (by decide +kernel)) rfl, by decide +kernel, by decide +kernel⟩
def T_Setter_overlap : List (Nat × Instr × Nat) := [(0, .aload_n 0, 1), (1, .getfield 27, 3), (4, .iload_n 1, 1), (5, .iaload, 1), (6, .aload_n 0, 1), (7, .getfield 27, 3), (10, .iload_n 2, 1), (11, .iaload, 1), (12, .aload_n 0, 1), (13, .getfield 34, 3), (16, .iload_n 2, 1), (17, .iaload, 1), (18, .iadd, 1), (19, .if_icmp .ge 65, 3), (22, .aload_n 0, 1), (23, .getfield 27, 3), (26, .iload_n 2, 1), (27, .iaload, 1), (28, .aload_n 0, 1), (29, .getfield 27, 3), (32, .iload_n 1, 1), (33, .iaload, 1), (34, .aload_n 0, 1), (35, .getfield 34, 3), (38, .iload_n 1, 1), (39, .iaload, 1), (40, .iadd, 1), (41, .if_icmp .ge 43, 3), (44, .aload_n 0, 1), (45, .getfield 31, 3), (48, .iload_n 1, 1), (49, .iaload, 1), (50, .aload_n 0, 1), (51, .getfield 31, 3), (54, .iload_n 2, 1), (55, .iaload, 1), (56, .bipush 10, 2), (58, .iadd, 1), (59, .if_icmp .ge 25, 3), (62, .aload_n 0, 1), (63, .getfield 31, 3), (66, .iload_n 2, 1), (67, .iaload, 1), (68, .aload_n 0, 1), (69, .getfield 31, 3), (72, .iload_n 1, 1), (73, .iaload, 1), (74, .bipush 10, 2), (76, .iadd, 1), (77, .if_icmp .ge 7, 3), (80, .iconst 1, 1), (81, .goto 4, 3), (84, .iconst 0, 1), (85, .ireturn, 1)]
def M_Setter_overlap : MI := (6, ⟨"TouchMap$Setter", "overlap", "(II)Z"⟩, prog_8_method_8_code, 3, (some .boolean), T_Setter_overlap)
theorem dk_Setter_overlap : ∀ e ∈ T_Setter_overlap, decode prog_8_method_8_code e.1 = .ok e.2 := by decide +kernel
set_option maxRecDepth 100000 in
theorem ok_Setter_overlap : OkM M_Setter_overlap := ⟨dk_Setter_overlap, TT_t (List.mem_of_getElem? (i := 623) rfl) rfl, by decide +kernel, rfl, TT_t (List.mem_of_getElem? (i := 10) (by decide +kernel)) rfl, by decide +kernel, by decide +kernel⟩
def T_Speller_shorten : List (Nat × Instr × Nat) := [(0, .aload_n 0, 1), (1, .getfield 11, 3), (4, .iload_n 1, 1), (5, .aaload, 1), (6, .aload_n 2, 1), (7, .invokevirtual 36, 3), (10, .aload_n 0, 1), (11, .getfield 17, 3), (14, .iload_n 1, 1), (15, .iload_n 3, 1), (16, .iastore, 1), (17, .return_, 1)]
def M_Speller_shorten : MI := (7, ⟨"TouchMap$Speller", "shorten", "(ILTouchMap$Word;I)V"⟩, prog_9_method_2_code, 4, none, T_Speller_shorten)
theorem dk_Speller_shorten : ∀ e ∈ T_Speller_shorten, decode prog_9_method_2_code e.1 = .ok e.2 := by decide +kernel
set_option maxRecDepth 100000 in
theorem ok_Speller_shorten : OkM M_Speller_shorten := ⟨dk_Speller_shorten, TT_t (List.mem_of_getElem? (i := 532) rfl) rfl, by decide +kernel, rfl, TT_t (List.mem_of_getElem? (i := 9) (by decide +kernel)) rfl, by decide +kernel, by decide +kernel⟩
def T_Speller_spell : List (Nat × Instr × Nat) := [(0, .aload_n 0, 1), (1, .getfield 21, 3), (4, .aload_n 1, 1), (5, .getfield 40, 3), (8, .iconst 0, 1), (9, .iastore, 1), (10, .aload_n 1, 1), (11, .getfield 40, 3), (14, .iconst 1, 1), (15, .isub, 1), (16, .istore_n 2, 1), (17, .iload_n 2, 1), (18, .ifCond .lt 15, 3), (21, .aload_n 0, 1), (22, .aload_n 1, 1), (23, .iload_n 2, 1), (24, .invokevirtual 44, 3), (27, .iinc 2 (-1), 3), (30, .goto (-13), 3), (33, .iconst 0, 1), (34, .istore_n 2, 1), (35, .iconst 0, 1), (36, .istore_n 3, 1), (37, .iload_n 3, 1), (38, .aload_n 0, 1), (39, .getfield 21, 3), (42, .iconst 0, 1), (43, .iaload, 1), (44, .if_icmp .ge 30, 3), (47, .aload_n 0, 1), (48, .getfield 30, 3), (51, .iload_n 3, 1), (52, .aload_n 0, 1), (53, .getfield 27, 3), (56, .iload_n 2, 1), (57, .iaload, 1), (58, .iastore, 1), (59, .iload_n 2, 1), (60, .aload_n 0, 1), (61, .getfield 24, 3), (64, .iload_n 2, 1), (65, .iaload, 1), (66, .iadd, 1), (67, .istore_n 2, 1), (68, .iinc 3 1, 3), (71, .goto (-34), 3), (74, .aload_n 0, 1), (75, .getfield 21, 3), (78, .iconst 0, 1), (79, .iaload, 1), (80, .ireturn, 1)]
def M_Speller_spell : MI := (7, ⟨"TouchMap$Speller", "spell", "(LTouchMap$Word;)I"⟩, prog_9_method_3_code, 4, (some .int), T_Speller_spell)
theorem dk_Speller_spell : ∀ e ∈ T_Speller_spell, decode prog_9_method_3_code e.1 = .ok e.2 := by decide +kernel
set_option maxRecDepth 100000 in
theorem ok_Speller_spell : OkM M_Speller_spell := ⟨dk_Speller_spell, TT_t (List.mem_of_getElem? (i := 555) rfl) rfl, by decide +kernel, rfl, TT_t (List.mem_of_getElem? (i := 9) (by decide +kernel)) rfl, by decide +kernel, by decide +kernel⟩
def T_Speller_findStep : List (Nat × Instr × Nat) := [(0, .aload_n 0, 1), (1, .getfield 21, 3), (4, .iload_n 2, 1), (5, .aload_n 0, 1), (6, .getfield 21, 3), (9, .iload_n 2, 1), (10, .iconst 1, 1), (11, .iadd, 1), (12, .iaload, 1), (13, .iconst 1, 1), (14, .iadd, 1), (15, .iastore, 1), (16, .aload_n 0, 1), (17, .getfield 24, 3), (20, .iload_n 2, 1), (21, .iconst 1, 1), (22, .iastore, 1), (23, .aload_n 0, 1), (24, .getfield 27, 3), (27, .iload_n 2, 1), (28, .getstatic 48, 3), (31, .aload_n 1, 1), (32, .getfield 51, 3), (35, .iload_n 2, 1), (36, .iaload, 1), (37, .bipush 97, 2), (39, .isub, 1), (40, .iaload, 1), (41, .iastore, 1), (42, .iconst 0, 1), (43, .istore_n 3, 1), (44, .iload_n 3, 1), (45, .bipush 10, 2), (47, .if_icmp .ge 52, 3), (50, .aload_n 0, 1), (51, .getfield 17, 3), (54, .iload_n 3, 1), (55, .iaload, 1), (56, .ifCond .eq 37, 3), (59, .aload_n 1, 1), (60, .iload_n 2, 1), (61, .aload_n 0, 1), (62, .getfield 11, 3), (65, .iload_n 3, 1), (66, .aaload, 1), (67, .invokevirtual 54, 3), (70, .ifCond .eq 23, 3), (73, .aload_n 0, 1), (74, .iload_n 2, 1), (75, .aload_n 0, 1), (76, .getfield 11, 3), (79, .iload_n 3, 1), (80, .aaload, 1), (81, .getfield 40, 3), (84, .aload_n 0, 1), (85, .getfield 17, 3), (88, .iload_n 3, 1), (89, .iaload, 1), (90, .invokevirtual 58, 3), (93, .iinc 3 1, 3), (96, .goto (-52), 3), (99, .return_, 1)]
def M_Speller_findStep : MI := (7, ⟨"TouchMap$Speller", "findStep", "(LTouchMap$Word;I)V"⟩, prog_9_method_4_code, 4, none, T_Speller_findStep)
theorem dk_Speller_findStep : ∀ e ∈ T_Speller_findStep, decode prog_9_method_4_code e.1 = .ok e.2 := by decide +kernel
set_option maxRecDepth 100000 in
theorem ok_Speller_findStep : OkM M_Speller_findStep := ⟨dk_Speller_findStep, TT_t (List.mem_of_getElem? (i := 559) rfl) rfl, by decide +kernel, rfl, TT_t (List.mem_of_getElem? (i := 9) (by decide +kernel)) rfl, by decide +kernel, by decide +kernel⟩
def T_Speller_offerStep : List (Nat × Instr × Nat) := [(0, .aload_n 0, 1), (1, .getfield 21, 3), (4, .iload_n 1, 1), (5, .iload_n 2, 1), (6, .iadd, 1), (7, .iaload, 1), (8, .iconst 1, 1), (9, .iadd, 1), (10, .istore 4, 2), (12, .iload 4, 2), (14, .aload_n 0, 1), (15, .getfield 21, 3), (18, .iload_n 1, 1), (19, .iaload, 1), (20, .if_icmp .lt 24, 3), (23, .iload 4, 2), (25, .aload_n 0, 1), (26, .getfield 21, 3), (29, .iload_n 1, 1), (30, .iaload, 1), (31, .if_icmp .ne 35, 3), (34, .iload_n 2, 1), (35, .aload_n 0, 1), (36, .getfield 24, 3), (39, .iload_n 1, 1), (40, .iaload, 1), (41, .if_icmp .le 25, 3), (44, .aload_n 0, 1), (45, .getfield 21, 3), (48, .iload_n 1, 1), (49, .iload 4, 2), (51, .iastore, 1), (52, .aload_n 0, 1), (53, .getfield 24, 3), (56, .iload_n 1, 1), (57, .iload_n 2, 1), (58, .iastore, 1), (59, .aload_n 0, 1), (60, .getfield 27, 3), (63, .iload_n 1, 1), (64, .iload_n 3, 1), (65, .iastore, 1), (66, .return_, 1)]
def M_Speller_offerStep : MI := (7, ⟨"TouchMap$Speller", "offerStep", "(III)V"⟩, prog_9_method_5_code, 5, none, T_Speller_offerStep)
theorem dk_Speller_offerStep : ∀ e ∈ T_Speller_offerStep, decode prog_9_method_5_code e.1 = .ok e.2 := by decide +kernel
set_option maxRecDepth 100000 in
theorem ok_Speller_offerStep : OkM M_Speller_offerStep := ⟨dk_Speller_offerStep, TT_t (List.mem_of_getElem? (i := 569) rfl) rfl, by decide +kernel, rfl, TT_t (List.mem_of_getElem? (i := 9) (by decide +kernel)) rfl, by decide +kernel, by decide +kernel⟩
def T_Way_begin : List (Nat × Instr × Nat) := [(0, .aload_n 0, 1), (1, .iload_n 1, 1), (2, .putfield 21, 3), (5, .aload_n 0, 1), (6, .iload_n 2, 1), (7, .putfield 25, 3), (10, .aload_n 0, 1), (11, .iconst 1, 1), (12, .putfield 29, 3), (15, .aload_n 0, 1), (16, .iconst 0, 1), (17, .putfield 32, 3), (20, .aload_n 0, 1), (21, .iconst 0, 1), (22, .putfield 35, 3), (25, .return_, 1)]
def M_Way_begin : MI := (8, ⟨"TouchMap$Way", "begin", "(IZ)V"⟩, prog_10_method_2_code, 3, none, T_Way_begin)
theorem dk_Way_begin : ∀ e ∈ T_Way_begin, decode prog_10_method_2_code e.1 = .ok e.2 := by decide +kernel
set_option maxRecDepth 100000 in
theorem ok_Way_begin : OkM M_Way_begin := ⟨dk_Way_begin, TT_t (List.mem_of_getElem? (i := 339) rfl) rfl, by decide +kernel, rfl, TT_t (List.mem_of_getElem? (i := 2) (by decide +kernel)) rfl, by decide +kernel, by decide +kernel⟩
def T_Way_takes : List (Nat × Instr × Nat) := [(0, .aload_n 0, 1), (1, .getfield 29, 3), (4, .ifCond .eq 12, 3), (7, .aload_n 0, 1), (8, .getfield 32, 3), (11, .bipush 20, 2), (13, .if_icmp .lt 5, 3), (16, .iconst 0, 1), (17, .ireturn, 1), (18, .aload_n 0, 1), (19, .getfield 32, 3), (22, .ifCond .eq 33, 3), (25, .aload_n 0, 1), (26, .getfield 9, 3), (29, .aload_n 0, 1), (30, .getfield 32, 3), (33, .iconst 1, 1), (34, .isub, 1), (35, .iaload, 1), (36, .iload_n 1, 1), (37, .if_icmp .ne 18, 3), (40, .aload_n 0, 1), (41, .getfield 15, 3), (44, .aload_n 0, 1), (45, .getfield 32, 3), (48, .iconst 1, 1), (49, .isub, 1), (50, .iaload, 1), (51, .iload_n 2, 1), (52, .if_icmp .eq 7, 3), (55, .iconst 1, 1), (56, .goto 4, 3), (59, .iconst 0, 1), (60, .ireturn, 1)]
def M_Way_takes : MI := (8, ⟨"TouchMap$Way", "takes", "(II)Z"⟩, prog_10_method_3_code, 3, (some .boolean), T_Way_takes)
theorem dk_Way_takes : ∀ e ∈ T_Way_takes, decode prog_10_method_3_code e.1 = .ok e.2 := by decide +kernel
set_option maxRecDepth 100000 in
theorem ok_Way_takes : OkM M_Way_takes := ⟨dk_Way_takes, TT_t (List.mem_of_getElem? (i := 350) rfl) rfl, by decide +kernel, rfl, TT_t (List.mem_of_getElem? (i := 2) (by decide +kernel)) rfl, by decide +kernel, by decide +kernel⟩
def T_Way_add : List (Nat × Instr × Nat) := [(0, .aload_n 0, 1), (1, .getfield 9, 3), (4, .aload_n 0, 1), (5, .getfield 32, 3), (8, .iload_n 1, 1), (9, .iastore, 1), (10, .aload_n 0, 1), (11, .getfield 15, 3), (14, .aload_n 0, 1), (15, .getfield 32, 3), (18, .iload_n 2, 1), (19, .iastore, 1), (20, .aload_n 0, 1), (21, .dup, 1), (22, .getfield 32, 3), (25, .iconst 1, 1), (26, .iadd, 1), (27, .putfield 32, 3), (30, .iconst 0, 1), (31, .istore_n 3, 1), (32, .iload_n 3, 1), (33, .aload_n 0, 1), (34, .getfield 32, 3), (37, .if_icmp .ge 16, 3), (40, .aload_n 0, 1), (41, .getfield 18, 3), (44, .iload_n 3, 1), (45, .iload_n 3, 1), (46, .iastore, 1), (47, .iinc 3 1, 3), (50, .goto (-18), 3), (53, .aload_n 0, 1), (54, .aload_n 0, 1), (55, .getfield 32, 3), (58, .putfield 35, 3), (61, .return_, 1)]
def M_Way_add : MI := (8, ⟨"TouchMap$Way", "add", "(II)V"⟩, prog_10_method_4_code, 4, none, T_Way_add)
theorem dk_Way_add : ∀ e ∈ T_Way_add, decode prog_10_method_4_code e.1 = .ok e.2 := by decide +kernel
set_option maxRecDepth 100000 in
theorem ok_Way_add : OkM M_Way_add := ⟨dk_Way_add, TT_t (List.mem_of_getElem? (i := 354) rfl) rfl, by decide +kernel, rfl, TT_t (List.mem_of_getElem? (i := 2) (by decide +kernel)) rfl, by decide +kernel, by decide +kernel⟩
def T_Way_bend : List (Nat × Instr × Nat) := [(0, .aload_n 0, 1), (1, .getfield 18, 3), (4, .iload_n 1, 1), (5, .iconst 1, 1), (6, .isub, 1), (7, .iaload, 1), (8, .istore_n 2, 1), (9, .aload_n 0, 1), (10, .getfield 18, 3), (13, .iload_n 1, 1), (14, .iaload, 1), (15, .istore_n 3, 1), (16, .aload_n 0, 1), (17, .getfield 18, 3), (20, .iload_n 1, 1), (21, .iconst 1, 1), (22, .iadd, 1), (23, .iaload, 1), (24, .istore 4, 2), (26, .aload_n 0, 1), (27, .getfield 9, 3), (30, .iload_n 3, 1), (31, .iaload, 1), (32, .aload_n 0, 1), (33, .getfield 9, 3), (36, .iload_n 2, 1), (37, .iaload, 1), (38, .isub, 1), (39, .aload_n 0, 1), (40, .getfield 15, 3), (43, .iload 4, 2), (45, .iaload, 1), (46, .aload_n 0, 1), (47, .getfield 15, 3), (50, .iload_n 3, 1), (51, .iaload, 1), (52, .isub, 1), (53, .imul, 1), (54, .aload_n 0, 1), (55, .getfield 15, 3), (58, .iload_n 3, 1), (59, .iaload, 1), (60, .aload_n 0, 1), (61, .getfield 15, 3), (64, .iload_n 2, 1), (65, .iaload, 1), (66, .isub, 1), (67, .aload_n 0, 1), (68, .getfield 9, 3), (71, .iload 4, 2), (73, .iaload, 1), (74, .aload_n 0, 1), (75, .getfield 9, 3), (78, .iload_n 3, 1), (79, .iaload, 1), (80, .isub, 1), (81, .imul, 1), (82, .isub, 1), (83, .istore 5, 2), (85, .iload 5, 2), (87, .ifCond .le 7, 3), (90, .iconst 1, 1), (91, .goto 13, 3), (94, .iload 5, 2), (96, .ifCond .ge 7, 3), (99, .iconst (-1), 1), (100, .goto 4, 3), (103, .iconst 0, 1), (104, .ireturn, 1)]
def M_Way_bend : MI := (8, ⟨"TouchMap$Way", "bend", "(I)I"⟩, prog_10_method_5_code, 6, (some .int), T_Way_bend)
theorem dk_Way_bend : ∀ e ∈ T_Way_bend, decode prog_10_method_5_code e.1 = .ok e.2 := by decide +kernel
set_option maxRecDepth 100000 in
theorem ok_Way_bend : OkM M_Way_bend := ⟨dk_Way_bend, TT_t (List.mem_of_getElem? (i := 408) rfl) rfl, by decide +kernel, rfl, TT_t (List.mem_of_getElem? (i := 2) (by decide +kernel)) rfl, by decide +kernel, by decide +kernel⟩
def T_Way_bringLine : List (Nat × Instr × Nat) := [(0, .aload_n 0, 1), (1, .aload_n 0, 1), (2, .getfield 18, 3), (5, .iload_n 1, 1), (6, .iaload, 1), (7, .aload_n 0, 1), (8, .getfield 18, 3), (11, .iload_n 1, 1), (12, .iconst 1, 1), (13, .iadd, 1), (14, .iaload, 1), (15, .aload_n 2, 1), (16, .invokevirtual 38, 3), (19, .return_, 1)]
def M_Way_bringLine : MI := (8, ⟨"TouchMap$Way", "bringLine", "(ILTouchMap$Line;)V"⟩, prog_10_method_6_code, 3, none, T_Way_bringLine)
theorem dk_Way_bringLine : ∀ e ∈ T_Way_bringLine, decode prog_10_method_6_code e.1 = .ok e.2 := by decide +kernel
set_option maxRecDepth 100000 in
theorem ok_Way_bringLine : OkM M_Way_bringLine := ⟨dk_Way_bringLine, TT_t (List.mem_of_getElem? (i := 428) rfl) rfl, by decide +kernel, rfl, TT_t (List.mem_of_getElem? (i := 2) (by decide +kernel)) rfl, by decide +kernel, by decide +kernel⟩
def T_Way_bringSpan : List (Nat × Instr × Nat) := [(0, .aload_n 3, 1), (1, .aload_n 0, 1), (2, .getfield 9, 3), (5, .iload_n 1, 1), (6, .iaload, 1), (7, .putfield 42, 3), (10, .aload_n 3, 1), (11, .aload_n 0, 1), (12, .getfield 15, 3), (15, .iload_n 1, 1), (16, .iaload, 1), (17, .putfield 47, 3), (20, .aload_n 3, 1), (21, .aload_n 0, 1), (22, .getfield 9, 3), (25, .iload_n 2, 1), (26, .iaload, 1), (27, .putfield 50, 3), (30, .aload_n 3, 1), (31, .aload_n 0, 1), (32, .getfield 15, 3), (35, .iload_n 2, 1), (36, .iaload, 1), (37, .putfield 53, 3), (40, .return_, 1)]
def M_Way_bringSpan : MI := (8, ⟨"TouchMap$Way", "bringSpan", "(IILTouchMap$Line;)V"⟩, prog_10_method_7_code, 4, none, T_Way_bringSpan)
theorem dk_Way_bringSpan : ∀ e ∈ T_Way_bringSpan, decode prog_10_method_7_code e.1 = .ok e.2 := by decide +kernel
set_option maxRecDepth 100000 in
theorem ok_Way_bringSpan : OkM M_Way_bringSpan := ⟨dk_Way_bringSpan, TT_t (List.mem_of_getElem? (i := 378) rfl) rfl, by decide +kernel, rfl, TT_t (List.mem_of_getElem? (i := 2) (by decide +kernel)) rfl, by decide +kernel, by decide +kernel⟩
def T_Word_clear : List (Nat × Instr × Nat) := [(0, .aload_n 0, 1), (1, .iconst 0, 1), (2, .putfield 13, 3), (5, .return_, 1)]
def M_Word_clear : MI := (9, ⟨"TouchMap$Word", "clear", "()V"⟩, prog_11_method_2_code, 1, none, T_Word_clear)
theorem dk_Word_clear : ∀ e ∈ T_Word_clear, decode prog_11_method_2_code e.1 = .ok e.2 := by decide +kernel
set_option maxRecDepth 100000 in
theorem ok_Word_clear : OkM M_Word_clear := ⟨dk_Word_clear, TT_t (List.mem_of_getElem? (i := 540) rfl) rfl, by decide +kernel, rfl, TT_t (List.mem_of_getElem? (i := 4) (by decide +kernel)) rfl, by decide +kernel, by decide +kernel⟩
def T_Word_append : List (Nat × Instr × Nat) := [(0, .aload_n 0, 1), (1, .getfield 13, 3), (4, .aload_n 0, 1), (5, .getfield 7, 3), (8, .arraylength, 1), (9, .if_icmp .ge 23, 3), (12, .aload_n 0, 1), (13, .getfield 7, 3), (16, .aload_n 0, 1), (17, .getfield 13, 3), (20, .iload_n 1, 1), (21, .iastore, 1), (22, .aload_n 0, 1), (23, .dup, 1), (24, .getfield 13, 3), (27, .iconst 1, 1), (28, .iadd, 1), (29, .putfield 13, 3), (32, .return_, 1)]
def M_Word_append : MI := (9, ⟨"TouchMap$Word", "append", "(I)V"⟩, prog_11_method_3_code, 2, none, T_Word_append)
theorem dk_Word_append : ∀ e ∈ T_Word_append, decode prog_11_method_3_code e.1 = .ok e.2 := by decide +kernel
set_option maxRecDepth 100000 in
theorem ok_Word_append : OkM M_Word_append := ⟨dk_Word_append, TT_t (List.mem_of_getElem? (i := 524) rfl) rfl, by decide +kernel, rfl, TT_t (List.mem_of_getElem? (i := 4) (by decide +kernel)) rfl, by decide +kernel, by decide +kernel⟩
def T_Word_copy : List (Nat × Instr × Nat) := [(0, .aload_n 0, 1), (1, .invokevirtual 17, 3), (4, .iconst 0, 1), (5, .istore_n 2, 1), (6, .iload_n 2, 1), (7, .aload_n 1, 1), (8, .getfield 13, 3), (11, .if_icmp .ge 19, 3), (14, .aload_n 0, 1), (15, .aload_n 1, 1), (16, .getfield 7, 3), (19, .iload_n 2, 1), (20, .iaload, 1), (21, .invokevirtual 20, 3), (24, .iinc 2 1, 3), (27, .goto (-21), 3), (30, .return_, 1)]
def M_Word_copy : MI := (9, ⟨"TouchMap$Word", "copy", "(LTouchMap$Word;)V"⟩, prog_11_method_4_code, 3, none, T_Word_copy)
theorem dk_Word_copy : ∀ e ∈ T_Word_copy, decode prog_11_method_4_code e.1 = .ok e.2 := by decide +kernel
set_option maxRecDepth 100000 in
theorem ok_Word_copy : OkM M_Word_copy := ⟨dk_Word_copy, TT_t (List.mem_of_getElem? (i := 536) rfl) rfl, by decide +kernel, rfl, TT_t (List.mem_of_getElem? (i := 4) (by decide +kernel)) rfl, by decide +kernel, by decide +kernel⟩
def T_Word_hasAt : List (Nat × Instr × Nat) := [(0, .iload_n 1, 1), (1, .aload_n 2, 1), (2, .getfield 13, 3), (5, .iadd, 1), (6, .aload_n 0, 1), (7, .getfield 13, 3), (10, .if_icmp .le 5, 3), (13, .iconst 0, 1), (14, .ireturn, 1), (15, .iconst 0, 1), (16, .istore_n 3, 1), (17, .iload_n 3, 1), (18, .aload_n 2, 1), (19, .getfield 13, 3), (22, .if_icmp .ge 28, 3), (25, .aload_n 0, 1), (26, .getfield 7, 3), (29, .iload_n 1, 1), (30, .iload_n 3, 1), (31, .iadd, 1), (32, .iaload, 1), (33, .aload_n 2, 1), (34, .getfield 7, 3), (37, .iload_n 3, 1), (38, .iaload, 1), (39, .if_icmp .eq 5, 3), (42, .iconst 0, 1), (43, .ireturn, 1), (44, .iinc 3 1, 3), (47, .goto (-30), 3), (50, .iconst 1, 1), (51, .ireturn, 1)]
def M_Word_hasAt : MI := (9, ⟨"TouchMap$Word", "hasAt", "(ILTouchMap$Word;)Z"⟩, prog_11_method_5_code, 4, (some .boolean), T_Word_hasAt)
theorem dk_Word_hasAt : ∀ e ∈ T_Word_hasAt, decode prog_11_method_5_code e.1 = .ok e.2 := by decide +kernel
set_option maxRecDepth 100000 in
theorem ok_Word_hasAt : OkM M_Word_hasAt := ⟨dk_Word_hasAt, TT_t (List.mem_of_getElem? (i := 565) rfl) rfl, by decide +kernel, rfl, TT_t (List.mem_of_getElem? (i := 4) (by decide +kernel)) rfl, by decide +kernel, by decide +kernel⟩
def T_TM_way : List (Nat × Instr × Nat) := [(0, .iload_n 1, 1), (1, .bipush 11, 2), (3, .invokestatic 71, 3), (6, .ifCond .eq 13, 3), (9, .iload_n 2, 1), (10, .sipush 1000, 3), (13, .invokestatic 71, 3), (16, .ifCond .ne 5, 3), (19, .iconst 0, 1), (20, .ireturn, 1), (21, .aload_n 0, 1), (22, .getfield 11, 3), (25, .iload_n 1, 1), (26, .aaload, 1), (27, .iload_n 2, 1), (28, .iload_n 3, 1), (29, .invokevirtual 75, 3), (32, .iconst 1, 1), (33, .ireturn, 1)]
def M_TM_way : MI := (10, ⟨"TouchMap", "way", "(IIZ)Z"⟩, prog_1_method_2_code, 4, (some .boolean), T_TM_way)
theorem dk_TM_way : ∀ e ∈ T_TM_way, decode prog_1_method_2_code e.1 = .ok e.2 := by decide +kernel
set_option maxRecDepth 100000 in
theorem ok_TM_way : OkM M_TM_way := ⟨dk_TM_way, TT_t (List.mem_of_getElem? (i := 332) rfl) rfl, by decide +kernel, rfl, TT_t (List.mem_of_getElem? (i := 1) (by decide +kernel)) rfl, by decide +kernel, by decide +kernel⟩
def T_TM_point : List (Nat × Instr × Nat) := [(0, .iload_n 1, 1), (1, .bipush 11, 2), (3, .invokestatic 71, 3), (6, .ifCond .eq 25, 3), (9, .iload_n 2, 1), (10, .iload_n 3, 1), (11, .invokestatic 79, 3), (14, .ifCond .eq 17, 3), (17, .aload_n 0, 1), (18, .getfield 11, 3), (21, .iload_n 1, 1), (22, .aaload, 1), (23, .iload_n 2, 1), (24, .iload_n 3, 1), (25, .invokevirtual 82, 3), (28, .ifCond .ne 5, 3), (31, .iconst (-1), 1), (32, .ireturn, 1), (33, .aload_n 0, 1), (34, .getfield 11, 3), (37, .iload_n 1, 1), (38, .aaload, 1), (39, .iload_n 2, 1), (40, .iload_n 3, 1), (41, .invokevirtual 85, 3), (44, .aload_n 0, 1), (45, .getfield 11, 3), (48, .iload_n 1, 1), (49, .aaload, 1), (50, .getfield 89, 3), (53, .ireturn, 1)]
def M_TM_point : MI := (10, ⟨"TouchMap", "point", "(III)I"⟩, prog_1_method_3_code, 4, (some .int), T_TM_point)
theorem dk_TM_point : ∀ e ∈ T_TM_point, decode prog_1_method_3_code e.1 = .ok e.2 := by decide +kernel
set_option maxRecDepth 100000 in
theorem ok_TM_point : OkM M_TM_point := ⟨dk_TM_point, TT_t (List.mem_of_getElem? (i := 343) rfl) rfl, by decide +kernel, rfl, TT_t (List.mem_of_getElem? (i := 1) (by decide +kernel)) rfl, by decide +kernel, by decide +kernel⟩
def T_TM_simple : List (Nat × Instr × Nat) := [(0, .aload_n 0, 1), (1, .iload_n 1, 1), (2, .invokevirtual 92, 3), (5, .ifCond .eq 12, 3), (8, .iload_n 2, 1), (9, .bipush 100, 2), (11, .invokestatic 71, 3), (14, .ifCond .ne 5, 3), (17, .iconst (-1), 1), (18, .ireturn, 1), (19, .aload_n 0, 1), (20, .getfield 26, 3), (23, .aload_n 0, 1), (24, .getfield 11, 3), (27, .iload_n 1, 1), (28, .aaload, 1), (29, .iload_n 2, 1), (30, .invokevirtual 96, 3), (33, .aload_n 0, 1), (34, .getfield 11, 3), (37, .iload_n 1, 1), (38, .aaload, 1), (39, .getfield 100, 3), (42, .ireturn, 1)]
def M_TM_simple : MI := (10, ⟨"TouchMap", "simple", "(II)I"⟩, prog_1_method_4_code, 3, (some .int), T_TM_simple)
theorem dk_TM_simple : ∀ e ∈ T_TM_simple, decode prog_1_method_4_code e.1 = .ok e.2 := by decide +kernel
set_option maxRecDepth 100000 in
theorem ok_TM_simple : OkM M_TM_simple := ⟨dk_TM_simple, TT_t (List.mem_of_getElem? (i := 358) rfl) rfl, by decide +kernel, rfl, TT_t (List.mem_of_getElem? (i := 1) (by decide +kernel)) rfl, by decide +kernel, by decide +kernel⟩
def T_TM_drawn : List (Nat × Instr × Nat) := [(0, .aload_n 0, 1), (1, .iload_n 1, 1), (2, .invokevirtual 92, 3), (5, .ifCond .eq 21, 3), (8, .iload_n 2, 1), (9, .aload_n 0, 1), (10, .getfield 11, 3), (13, .iload_n 1, 1), (14, .aaload, 1), (15, .getfield 100, 3), (18, .iconst 1, 1), (19, .isub, 1), (20, .invokestatic 71, 3), (23, .ifCond .ne 5, 3), (26, .iconst (-1), 1), (27, .ireturn, 1), (28, .aload_n 0, 1), (29, .getfield 11, 3), (32, .iload_n 1, 1), (33, .aaload, 1), (34, .getfield 103, 3), (37, .iload_n 2, 1), (38, .iaload, 1), (39, .ireturn, 1)]
def M_TM_drawn : MI := (10, ⟨"TouchMap", "drawn", "(II)I"⟩, prog_1_method_5_code, 3, (some .int), T_TM_drawn)
theorem dk_TM_drawn : ∀ e ∈ T_TM_drawn, decode prog_1_method_5_code e.1 = .ok e.2 := by decide +kernel
set_option maxRecDepth 100000 in
theorem ok_TM_drawn : OkM M_TM_drawn := ⟨dk_TM_drawn, TT_t (List.mem_of_getElem? (i := 400) rfl) rfl, by decide +kernel, rfl, TT_t (List.mem_of_getElem? (i := 1) (by decide +kernel)) rfl, by decide +kernel, by decide +kernel⟩
def T_TM_turn : List (Nat × Instr × Nat) := [(0, .aload_n 0, 1), (1, .iload_n 1, 1), (2, .invokevirtual 92, 3), (5, .ifCond .eq 26, 3), (8, .iload_n 2, 1), (9, .iconst 1, 1), (10, .if_icmp .lt 21, 3), (13, .iload_n 2, 1), (14, .aload_n 0, 1), (15, .getfield 11, 3), (18, .iload_n 1, 1), (19, .aaload, 1), (20, .getfield 100, 3), (23, .iconst 2, 1), (24, .isub, 1), (25, .invokestatic 71, 3), (28, .ifCond .ne 6, 3), (31, .bipush (-2), 2), (33, .ireturn, 1), (34, .aload_n 0, 1), (35, .getfield 11, 3), (38, .iload_n 1, 1), (39, .aaload, 1), (40, .iload_n 2, 1), (41, .invokevirtual 107, 3), (44, .ireturn, 1)]
def M_TM_turn : MI := (10, ⟨"TouchMap", "turn", "(II)I"⟩, prog_1_method_6_code, 3, (some .int), T_TM_turn)
theorem dk_TM_turn : ∀ e ∈ T_TM_turn, decode prog_1_method_6_code e.1 = .ok e.2 := by decide +kernel
set_option maxRecDepth 100000 in
theorem ok_TM_turn : OkM M_TM_turn := ⟨dk_TM_turn, TT_t (List.mem_of_getElem? (i := 404) rfl) rfl, by decide +kernel, rfl, TT_t (List.mem_of_getElem? (i := 1) (by decide +kernel)) rfl, by decide +kernel, by decide +kernel⟩
def T_TM_gap : List (Nat × Instr × Nat) := [(0, .iload_n 1, 1), (1, .bipush 100, 2), (3, .invokestatic 71, 3), (6, .ifCond .ne 5, 3), (9, .iconst (-1), 1), (10, .ireturn, 1), (11, .aload_n 0, 1), (12, .getfield 67, 3), (15, .istore_n 2, 1), (16, .aload_n 0, 1), (17, .iload_n 1, 1), (18, .putfield 67, 3), (21, .iload_n 2, 1), (22, .ireturn, 1)]
def M_TM_gap : MI := (10, ⟨"TouchMap", "gap", "(I)I"⟩, prog_1_method_7_code, 3, (some .int), T_TM_gap)
theorem dk_TM_gap : ∀ e ∈ T_TM_gap, decode prog_1_method_7_code e.1 = .ok e.2 := by decide +kernel
set_option maxRecDepth 100000 in
theorem ok_TM_gap : OkM M_TM_gap := ⟨dk_TM_gap, TT_t (List.mem_of_getElem? (i := 412) rfl) rfl, by decide +kernel, rfl, TT_t (List.mem_of_getElem? (i := 1) (by decide +kernel)) rfl, by decide +kernel, by decide +kernel⟩
def T_TM_near : List (Nat × Instr × Nat) := [(0, .aload_n 0, 1), (1, .iload_n 1, 1), (2, .iload_n 2, 1), (3, .invokevirtual 111, 3), (6, .ifCond .ne 5, 3), (9, .iconst (-1), 1), (10, .ireturn, 1), (11, .aload_n 0, 1), (12, .getfield 26, 3), (15, .aload_n 0, 1), (16, .getfield 11, 3), (19, .iload_n 1, 1), (20, .aaload, 1), (21, .aload_n 0, 1), (22, .getfield 11, 3), (25, .iload_n 2, 1), (26, .aaload, 1), (27, .aload_n 0, 1), (28, .getfield 67, 3), (31, .invokevirtual 114, 3), (34, .ifCond .eq 7, 3), (37, .iconst 1, 1), (38, .goto 4, 3), (41, .iconst 0, 1), (42, .ireturn, 1)]
def M_TM_near : MI := (10, ⟨"TouchMap", "near", "(II)I"⟩, prog_1_method_8_code, 3, (some .int), T_TM_near)
theorem dk_TM_near : ∀ e ∈ T_TM_near, decode prog_1_method_8_code e.1 = .ok e.2 := by decide +kernel
set_option maxRecDepth 100000 in
theorem ok_TM_near : OkM M_TM_near := ⟨dk_TM_near, TT_t (List.mem_of_getElem? (i := 416) rfl) rfl, by decide +kernel, rfl, TT_t (List.mem_of_getElem? (i := 1) (by decide +kernel)) rfl, by decide +kernel, by decide +kernel⟩
def T_TM_crossings : List (Nat × Instr × Nat) := [(0, .aload_n 0, 1), (1, .iload_n 1, 1), (2, .iload_n 2, 1), (3, .invokevirtual 111, 3), (6, .ifCond .ne 5, 3), (9, .iconst (-1), 1), (10, .ireturn, 1), (11, .aload_n 0, 1), (12, .getfield 26, 3), (15, .aload_n 0, 1), (16, .getfield 11, 3), (19, .iload_n 1, 1), (20, .aaload, 1), (21, .aload_n 0, 1), (22, .getfield 11, 3), (25, .iload_n 2, 1), (26, .aaload, 1), (27, .invokevirtual 118, 3), (30, .ireturn, 1)]
def M_TM_crossings : MI := (10, ⟨"TouchMap", "crossings", "(II)I"⟩, prog_1_method_9_code, 3, (some .int), T_TM_crossings)
theorem dk_TM_crossings : ∀ e ∈ T_TM_crossings, decode prog_1_method_9_code e.1 = .ok e.2 := by decide +kernel
set_option maxRecDepth 100000 in
theorem ok_TM_crossings : OkM M_TM_crossings := ⟨dk_TM_crossings, TT_t (List.mem_of_getElem? (i := 453) rfl) rfl, by decide +kernel, rfl, TT_t (List.mem_of_getElem? (i := 1) (by decide +kernel)) rfl, by decide +kernel, by decide +kernel⟩
def T_TM_keep : List (Nat × Instr × Nat) := [(0, .aload_n 0, 1), (1, .getfield 33, 3), (4, .aload_n 0, 1), (5, .getfield 11, 3), (8, .aload_n 0, 1), (9, .getfield 26, 3), (12, .aload_n 0, 1), (13, .getfield 67, 3), (16, .invokevirtual 122, 3), (19, .ireturn, 1)]
def M_TM_keep : MI := (10, ⟨"TouchMap", "keep", "()I"⟩, prog_1_method_10_code, 1, (some .int), T_TM_keep)
theorem dk_TM_keep : ∀ e ∈ T_TM_keep, decode prog_1_method_10_code e.1 = .ok e.2 := by decide +kernel
set_option maxRecDepth 100000 in
theorem ok_TM_keep : OkM M_TM_keep := ⟨dk_TM_keep, TT_t (List.mem_of_getElem? (i := 475) rfl) rfl, by decide +kernel, rfl, TT_t (List.mem_of_getElem? (i := 1) (by decide +kernel)) rfl, by decide +kernel, by decide +kernel⟩
def T_TM_kept : List (Nat × Instr × Nat) := [(0, .iload_n 1, 1), (1, .bipush 11, 2), (3, .invokestatic 71, 3), (6, .ifCond .eq 13, 3), (9, .aload_n 0, 1), (10, .getfield 33, 3), (13, .getfield 126, 3), (16, .ifCond .ne 5, 3), (19, .iconst (-1), 1), (20, .ireturn, 1), (21, .aload_n 0, 1), (22, .getfield 33, 3), (25, .iload_n 1, 1), (26, .invokevirtual 130, 3), (29, .ifCond .eq 7, 3), (32, .iconst 1, 1), (33, .goto 4, 3), (36, .iconst 0, 1), (37, .ireturn, 1)]
def M_TM_kept : MI := (10, ⟨"TouchMap", "kept", "(I)I"⟩, prog_1_method_11_code, 2, (some .int), T_TM_kept)
theorem dk_TM_kept : ∀ e ∈ T_TM_kept, decode prog_1_method_11_code e.1 = .ok e.2 := by decide +kernel
set_option maxRecDepth 100000 in
theorem ok_TM_kept : OkM M_TM_kept := ⟨dk_TM_kept, TT_t (List.mem_of_getElem? (i := 512) rfl) rfl, by decide +kernel, rfl, TT_t (List.mem_of_getElem? (i := 1) (by decide +kernel)) rfl, by decide +kernel, by decide +kernel⟩
def T_TM_letter : List (Nat × Instr × Nat) := [(0, .iload_n 1, 1), (1, .bipush 97, 2), (3, .if_icmp .lt 21, 3), (6, .iload_n 1, 1), (7, .bipush 122, 2), (9, .if_icmp .gt 15, 3), (12, .aload_n 0, 1), (13, .getfield 42, 3), (16, .getfield 133, 3), (19, .bipush 12, 2), (21, .if_icmp .lt 5, 3), (24, .iconst (-1), 1), (25, .ireturn, 1), (26, .aload_n 0, 1), (27, .getfield 42, 3), (30, .iload_n 1, 1), (31, .invokevirtual 136, 3), (34, .aload_n 0, 1), (35, .getfield 42, 3), (38, .getfield 133, 3), (41, .ireturn, 1)]
def M_TM_letter : MI := (10, ⟨"TouchMap", "letter", "(I)I"⟩, prog_1_method_12_code, 2, (some .int), T_TM_letter)
theorem dk_TM_letter : ∀ e ∈ T_TM_letter, decode prog_1_method_12_code e.1 = .ok e.2 := by decide +kernel
set_option maxRecDepth 100000 in
theorem ok_TM_letter : OkM M_TM_letter := ⟨dk_TM_letter, TT_t (List.mem_of_getElem? (i := 520) rfl) rfl, by decide +kernel, rfl, TT_t (List.mem_of_getElem? (i := 1) (by decide +kernel)) rfl, by decide +kernel, by decide +kernel⟩
def T_TM_contract : List (Nat × Instr × Nat) := [(0, .iload_n 1, 1), (1, .bipush 9, 2), (3, .invokestatic 71, 3), (6, .ifCond .eq 42, 3), (9, .iload_n 2, 1), (10, .bipush 63, 2), (12, .invokestatic 71, 3), (15, .ifCond .eq 33, 3), (18, .iload_n 2, 1), (19, .ifCond .eq 25, 3), (22, .aload_n 0, 1), (23, .getfield 42, 3), (26, .getfield 133, 3), (29, .iconst 2, 1), (30, .if_icmp .lt 18, 3), (33, .aload_n 0, 1), (34, .getfield 42, 3), (37, .getfield 133, 3), (40, .iconst 4, 1), (41, .if_icmp .gt 7, 3), (44, .iconst 1, 1), (45, .goto 4, 3), (48, .iconst 0, 1), (49, .istore_n 3, 1), (50, .iload_n 3, 1), (51, .ifCond .eq 16, 3), (54, .aload_n 0, 1), (55, .getfield 49, 3), (58, .iload_n 1, 1), (59, .aload_n 0, 1), (60, .getfield 42, 3), (63, .iload_n 2, 1), (64, .invokevirtual 139, 3), (67, .aload_n 0, 1), (68, .getfield 42, 3), (71, .invokevirtual 143, 3), (74, .iload_n 3, 1), (75, .ireturn, 1)]
def M_TM_contract : MI := (10, ⟨"TouchMap", "contract", "(II)Z"⟩, prog_1_method_13_code, 4, (some .boolean), T_TM_contract)
theorem dk_TM_contract : ∀ e ∈ T_TM_contract, decode prog_1_method_13_code e.1 = .ok e.2 := by decide +kernel
set_option maxRecDepth 100000 in
theorem ok_TM_contract : OkM M_TM_contract := ⟨dk_TM_contract, TT_t (List.mem_of_getElem? (i := 528) rfl) rfl, by decide +kernel, rfl, TT_t (List.mem_of_getElem? (i := 1) (by decide +kernel)) rfl, by decide +kernel, by decide +kernel⟩
def T_TM_name : List (Nat × Instr × Nat) := [(0, .iload_n 1, 1), (1, .bipush 7, 2), (3, .invokestatic 71, 3), (6, .ifCond .eq 36, 3), (9, .iload_n 2, 1), (10, .iload_n 3, 1), (11, .invokestatic 79, 3), (14, .ifCond .eq 28, 3), (17, .iload 4, 2), (19, .sipush 1000, 3), (22, .invokestatic 71, 3), (25, .ifCond .eq 17, 3), (28, .aload_n 0, 1), (29, .getfield 42, 3), (32, .getfield 133, 3), (35, .ifCond .le 7, 3), (38, .iconst 1, 1), (39, .goto 4, 3), (42, .iconst 0, 1), (43, .istore 5, 2), (45, .iconst (-1), 1), (46, .istore 6, 2), (48, .iload 5, 2), (50, .ifCond .eq 33, 3), (53, .aload_n 0, 1), (54, .getfield 18, 3), (57, .iload_n 1, 1), (58, .aaload, 1), (59, .aload_n 0, 1), (60, .getfield 42, 3), (63, .iload_n 2, 1), (64, .iload_n 3, 1), (65, .iload 4, 2), (67, .invokevirtual 146, 3), (70, .aload_n 0, 1), (71, .getfield 49, 3), (74, .aload_n 0, 1), (75, .getfield 42, 3), (78, .invokevirtual 149, 3), (81, .istore 6, 2), (83, .aload_n 0, 1), (84, .getfield 42, 3), (87, .invokevirtual 143, 3), (90, .iload 6, 2), (92, .ireturn, 1)]
def M_TM_name : MI := (10, ⟨"TouchMap", "name", "(IIII)I"⟩, prog_1_method_14_code, 7, (some .int), T_TM_name)
theorem dk_TM_name : ∀ e ∈ T_TM_name, decode prog_1_method_14_code e.1 = .ok e.2 := by decide +kernel
set_option maxRecDepth 100000 in
theorem ok_TM_name : OkM M_TM_name := ⟨dk_TM_name, TT_t (List.mem_of_getElem? (i := 546) rfl) rfl, by decide +kernel, rfl, TT_t (List.mem_of_getElem? (i := 1) (by decide +kernel)) rfl, by decide +kernel, by decide +kernel⟩
def T_TM_erase : List (Nat × Instr × Nat) := [(0, .aload_n 0, 1), (1, .iload_n 1, 1), (2, .invokevirtual 153, 3), (5, .ifCond .ne 5, 3), (8, .iconst 0, 1), (9, .ireturn, 1), (10, .aload_n 0, 1), (11, .getfield 18, 3), (14, .iload_n 1, 1), (15, .aaload, 1), (16, .iconst 0, 1), (17, .putfield 156, 3), (20, .iconst 1, 1), (21, .ireturn, 1)]
def M_TM_erase : MI := (10, ⟨"TouchMap", "erase", "(I)Z"⟩, prog_1_method_15_code, 2, (some .boolean), T_TM_erase)
theorem dk_TM_erase : ∀ e ∈ T_TM_erase, decode prog_1_method_15_code e.1 = .ok e.2 := by decide +kernel
set_option maxRecDepth 100000 in
theorem ok_TM_erase : OkM M_TM_erase := ⟨dk_TM_erase, TT_t (List.mem_of_getElem? (i := 573) rfl) rfl, by decide +kernel, rfl, TT_t (List.mem_of_getElem? (i := 1) (by decide +kernel)) rfl, by decide +kernel, by decide +kernel⟩
def T_TM_cell : List (Nat × Instr × Nat) := [(0, .aload_n 0, 1), (1, .iload_n 1, 1), (2, .invokevirtual 153, 3), (5, .ifCond .ne 5, 3), (8, .iconst (-1), 1), (9, .ireturn, 1), (10, .aload_n 0, 1), (11, .getfield 49, 3), (14, .aload_n 0, 1), (15, .getfield 18, 3), (18, .iload_n 1, 1), (19, .aaload, 1), (20, .getfield 159, 3), (23, .invokevirtual 149, 3), (26, .istore_n 3, 1), (27, .iload_n 2, 1), (28, .iload_n 3, 1), (29, .iconst 1, 1), (30, .isub, 1), (31, .invokestatic 71, 3), (34, .ifCond .eq 15, 3), (37, .aload_n 0, 1), (38, .getfield 49, 3), (41, .getfield 162, 3), (44, .iload_n 2, 1), (45, .iaload, 1), (46, .goto 4, 3), (49, .iconst (-1), 1), (50, .ireturn, 1)]
def M_TM_cell : MI := (10, ⟨"TouchMap", "cell", "(II)I"⟩, prog_1_method_16_code, 4, (some .int), T_TM_cell)
theorem dk_TM_cell : ∀ e ∈ T_TM_cell, decode prog_1_method_16_code e.1 = .ok e.2 := by decide +kernel
set_option maxRecDepth 100000 in
theorem ok_TM_cell : OkM M_TM_cell := ⟨dk_TM_cell, TT_t (List.mem_of_getElem? (i := 581) rfl) rfl, by decide +kernel, rfl, TT_t (List.mem_of_getElem? (i := 1) (by decide +kernel)) rfl, by decide +kernel, by decide +kernel⟩
def T_TM_set : List (Nat × Instr × Nat) := [(0, .aload_n 0, 1), (1, .getfield 56, 3), (4, .aload_n 0, 1), (5, .getfield 18, 3), (8, .aload_n 0, 1), (9, .getfield 49, 3), (12, .invokevirtual 165, 3), (15, .aload_n 0, 1), (16, .getfield 56, 3), (19, .aload_n 0, 1), (20, .getfield 11, 3), (23, .aload_n 0, 1), (24, .getfield 33, 3), (27, .invokevirtual 169, 3), (30, .aload_n 0, 1), (31, .getfield 56, 3), (34, .aload_n 0, 1), (35, .getfield 18, 3), (38, .invokevirtual 173, 3), (41, .ireturn, 1)]
def M_TM_set : MI := (10, ⟨"TouchMap", "set", "()I"⟩, prog_1_method_17_code, 1, (some .int), T_TM_set)
theorem dk_TM_set : ∀ e ∈ T_TM_set, decode prog_1_method_17_code e.1 = .ok e.2 := by decide +kernel
set_option maxRecDepth 100000 in
theorem ok_TM_set : OkM M_TM_set := ⟨dk_TM_set, TT_t (List.mem_of_getElem? (i := 585) rfl) rfl, by decide +kernel, rfl, TT_t (List.mem_of_getElem? (i := 1) (by decide +kernel)) rfl, by decide +kernel, by decide +kernel⟩
def T_TM_spot : List (Nat × Instr × Nat) := [(0, .iload_n 1, 1), (1, .bipush 7, 2), (3, .invokestatic 71, 3), (6, .ifCond .eq 15, 3), (9, .aload_n 0, 1), (10, .getfield 56, 3), (13, .getfield 176, 3), (16, .iload_n 1, 1), (17, .iaload, 1), (18, .goto 4, 3), (21, .iconst (-1), 1), (22, .ireturn, 1)]
def M_TM_spot : MI := (10, ⟨"TouchMap", "spot", "(I)I"⟩, prog_1_method_18_code, 2, (some .int), T_TM_spot)
theorem dk_TM_spot : ∀ e ∈ T_TM_spot, decode prog_1_method_18_code e.1 = .ok e.2 := by decide +kernel
set_option maxRecDepth 100000 in
theorem ok_TM_spot : OkM M_TM_spot := ⟨dk_TM_spot, TT_t (List.mem_of_getElem? (i := 629) rfl) rfl, by decide +kernel, rfl, TT_t (List.mem_of_getElem? (i := 1) (by decide +kernel)) rfl, by decide +kernel, by decide +kernel⟩
def T_TM_touch : List (Nat × Instr × Nat) := [(0, .iload_n 1, 1), (1, .iload_n 2, 1), (2, .bipush 8, 2), (4, .invokestatic 179, 3), (7, .ifCond .ne 5, 3), (10, .iconst 0, 1), (11, .ireturn, 1), (12, .aload_n 0, 1), (13, .getfield 63, 3), (16, .getfield 183, 3), (19, .iload_n 1, 1), (20, .iload_n 2, 1), (21, .iload_n 3, 1), (22, .invokestatic 186, 3), (25, .iconst 1, 1), (26, .ireturn, 1)]
def M_TM_touch : MI := (10, ⟨"TouchMap", "touch", "(IIZ)Z"⟩, prog_1_method_19_code, 4, (some .boolean), T_TM_touch)
theorem dk_TM_touch : ∀ e ∈ T_TM_touch, decode prog_1_method_19_code e.1 = .ok e.2 := by decide +kernel
set_option maxRecDepth 100000 in
theorem ok_TM_touch : OkM M_TM_touch := ⟨dk_TM_touch, TT_t (List.mem_of_getElem? (i := 633) rfl) rfl, by decide +kernel, rfl, TT_t (List.mem_of_getElem? (i := 1) (by decide +kernel)) rfl, by decide +kernel, by decide +kernel⟩
def T_TM_apart : List (Nat × Instr × Nat) := [(0, .iload_n 1, 1), (1, .iload_n 2, 1), (2, .iconst 5, 1), (3, .invokestatic 179, 3), (6, .ifCond .ne 5, 3), (9, .iconst 0, 1), (10, .ireturn, 1), (11, .aload_n 0, 1), (12, .getfield 63, 3), (15, .getfield 190, 3), (18, .iload_n 1, 1), (19, .iload_n 2, 1), (20, .iload_n 3, 1), (21, .invokestatic 186, 3), (24, .iconst 1, 1), (25, .ireturn, 1)]
def M_TM_apart : MI := (10, ⟨"TouchMap", "apart", "(IIZ)Z"⟩, prog_1_method_20_code, 4, (some .boolean), T_TM_apart)
theorem dk_TM_apart : ∀ e ∈ T_TM_apart, decode prog_1_method_20_code e.1 = .ok e.2 := by decide +kernel
set_option maxRecDepth 100000 in
theorem ok_TM_apart : OkM M_TM_apart := ⟨dk_TM_apart, TT_t (List.mem_of_getElem? (i := 641) rfl) rfl, by decide +kernel, rfl, TT_t (List.mem_of_getElem? (i := 1) (by decide +kernel)) rfl, by decide +kernel, by decide +kernel⟩
def T_TM_lay : List (Nat × Instr × Nat) := [(0, .iload_n 1, 1), (1, .bipush 8, 2), (3, .invokestatic 71, 3), (6, .ifCond .eq 14, 3), (9, .aload_n 0, 1), (10, .getfield 63, 3), (13, .iload_n 1, 1), (14, .invokevirtual 193, 3), (17, .goto 4, 3), (20, .iconst (-1), 1), (21, .ireturn, 1)]
def M_TM_lay : MI := (10, ⟨"TouchMap", "lay", "(I)I"⟩, prog_1_method_21_code, 2, (some .int), T_TM_lay)
theorem dk_TM_lay : ∀ e ∈ T_TM_lay, decode prog_1_method_21_code e.1 = .ok e.2 := by decide +kernel
set_option maxRecDepth 100000 in
theorem ok_TM_lay : OkM M_TM_lay := ⟨dk_TM_lay, TT_t (List.mem_of_getElem? (i := 645) rfl) rfl, by decide +kernel, rfl, TT_t (List.mem_of_getElem? (i := 1) (by decide +kernel)) rfl, by decide +kernel, by decide +kernel⟩
def T_TM_texture : List (Nat × Instr × Nat) := [(0, .iload_n 1, 1), (1, .aload_n 0, 1), (2, .getfield 63, 3), (5, .getfield 195, 3), (8, .iconst 1, 1), (9, .isub, 1), (10, .invokestatic 71, 3), (13, .ifCond .eq 15, 3), (16, .aload_n 0, 1), (17, .getfield 63, 3), (20, .getfield 198, 3), (23, .iload_n 1, 1), (24, .iaload, 1), (25, .goto 4, 3), (28, .iconst (-1), 1), (29, .ireturn, 1)]
def M_TM_texture : MI := (10, ⟨"TouchMap", "texture", "(I)I"⟩, prog_1_method_22_code, 2, (some .int), T_TM_texture)
theorem dk_TM_texture : ∀ e ∈ T_TM_texture, decode prog_1_method_22_code e.1 = .ok e.2 := by decide +kernel
set_option maxRecDepth 100000 in
theorem ok_TM_texture : OkM M_TM_texture := ⟨dk_TM_texture, TT_t (List.mem_of_getElem? (i := 680) rfl) rfl, by decide +kernel, rfl, TT_t (List.mem_of_getElem? (i := 1) (by decide +kernel)) rfl, by decide +kernel, by decide +kernel⟩
def T_TM_inRange : List (Nat × Instr × Nat) := [(0, .iload_n 0, 1), (1, .ifCond .lt 12, 3), (4, .iload_n 0, 1), (5, .iload_n 1, 1), (6, .if_icmp .gt 7, 3), (9, .iconst 1, 1), (10, .goto 4, 3), (13, .iconst 0, 1), (14, .ireturn, 1)]
def M_TM_inRange : MI := (10, ⟨"TouchMap", "inRange", "(II)Z"⟩, prog_1_method_23_code, 2, (some .boolean), T_TM_inRange)
theorem dk_TM_inRange : ∀ e ∈ T_TM_inRange, decode prog_1_method_23_code e.1 = .ok e.2 := by decide +kernel
set_option maxRecDepth 100000 in
theorem ok_TM_inRange : OkM M_TM_inRange := ⟨dk_TM_inRange, TT_t (List.mem_of_getElem? (i := 335) rfl) rfl, by decide +kernel, rfl, TT_t (List.mem_of_getElem? (i := 1) (by decide +kernel)) rfl, by decide +kernel, by decide +kernel⟩
def T_TM_isPlace : List (Nat × Instr × Nat) := [(0, .iload_n 0, 1), (1, .sipush 400, 3), (4, .invokestatic 71, 3), (7, .ifCond .eq 17, 3), (10, .iload_n 1, 1), (11, .sipush 400, 3), (14, .invokestatic 71, 3), (17, .ifCond .eq 7, 3), (20, .iconst 1, 1), (21, .goto 4, 3), (24, .iconst 0, 1), (25, .ireturn, 1)]
def M_TM_isPlace : MI := (10, ⟨"TouchMap", "isPlace", "(II)Z"⟩, prog_1_method_24_code, 2, (some .boolean), T_TM_isPlace)
theorem dk_TM_isPlace : ∀ e ∈ T_TM_isPlace, decode prog_1_method_24_code e.1 = .ok e.2 := by decide +kernel
set_option maxRecDepth 100000 in
theorem ok_TM_isPlace : OkM M_TM_isPlace := ⟨dk_TM_isPlace, TT_t (List.mem_of_getElem? (i := 346) rfl) rfl, by decide +kernel, rfl, TT_t (List.mem_of_getElem? (i := 1) (by decide +kernel)) rfl, by decide +kernel, by decide +kernel⟩
def T_TM_areTwo : List (Nat × Instr × Nat) := [(0, .iload_n 0, 1), (1, .iload_n 2, 1), (2, .iconst 1, 1), (3, .isub, 1), (4, .invokestatic 71, 3), (7, .ifCond .eq 22, 3), (10, .iload_n 1, 1), (11, .iload_n 2, 1), (12, .iconst 1, 1), (13, .isub, 1), (14, .invokestatic 71, 3), (17, .ifCond .eq 12, 3), (20, .iload_n 0, 1), (21, .iload_n 1, 1), (22, .if_icmp .eq 7, 3), (25, .iconst 1, 1), (26, .goto 4, 3), (29, .iconst 0, 1), (30, .ireturn, 1)]
def M_TM_areTwo : MI := (10, ⟨"TouchMap", "areTwo", "(III)Z"⟩, prog_1_method_25_code, 3, (some .boolean), T_TM_areTwo)
theorem dk_TM_areTwo : ∀ e ∈ T_TM_areTwo, decode prog_1_method_25_code e.1 = .ok e.2 := by decide +kernel
set_option maxRecDepth 100000 in
theorem ok_TM_areTwo : OkM M_TM_areTwo := ⟨dk_TM_areTwo, TT_t (List.mem_of_getElem? (i := 636) rfl) rfl, by decide +kernel, rfl, TT_t (List.mem_of_getElem? (i := 1) (by decide +kernel)) rfl, by decide +kernel, by decide +kernel⟩
def T_TM_join : List (Nat × Instr × Nat) := [(0, .aload_n 0, 1), (1, .iload_n 1, 1), (2, .iload_n 3, 1), (3, .ifCond .eq 13, 3), (6, .aload_n 0, 1), (7, .iload_n 1, 1), (8, .iaload, 1), (9, .iconst 1, 1), (10, .iload_n 2, 1), (11, .ishl, 1), (12, .ior, 1), (13, .goto 12, 3), (16, .aload_n 0, 1), (17, .iload_n 1, 1), (18, .iaload, 1), (19, .iconst 1, 1), (20, .iload_n 2, 1), (21, .ishl, 1), (22, .iconst (-1), 1), (23, .ixor, 1), (24, .iand, 1), (25, .iastore, 1), (26, .aload_n 0, 1), (27, .iload_n 2, 1), (28, .iload_n 3, 1), (29, .ifCond .eq 13, 3), (32, .aload_n 0, 1), (33, .iload_n 2, 1), (34, .iaload, 1), (35, .iconst 1, 1), (36, .iload_n 1, 1), (37, .ishl, 1), (38, .ior, 1), (39, .goto 12, 3), (42, .aload_n 0, 1), (43, .iload_n 2, 1), (44, .iaload, 1), (45, .iconst 1, 1), (46, .iload_n 1, 1), (47, .ishl, 1), (48, .iconst (-1), 1), (49, .ixor, 1), (50, .iand, 1), (51, .iastore, 1), (52, .return_, 1)]
def M_TM_join : MI := (10, ⟨"TouchMap", "join", "([IIIZ)V"⟩, prog_1_method_26_code, 4, none, T_TM_join)
theorem dk_TM_join : ∀ e ∈ T_TM_join, decode prog_1_method_26_code e.1 = .ok e.2 := by decide +kernel
set_option maxRecDepth 100000 in
theorem ok_TM_join : OkM M_TM_join := ⟨dk_TM_join, TT_t (List.mem_of_getElem? (i := 495) rfl) rfl, by decide +kernel, rfl, TT_t (List.mem_of_getElem? (i := 1) (by decide +kernel)) rfl, by decide +kernel, by decide +kernel⟩
def T_TM_hasPoints : List (Nat × Instr × Nat) := [(0, .iload_n 1, 1), (1, .bipush 11, 2), (3, .invokestatic 71, 3), (6, .ifCond .eq 19, 3), (9, .aload_n 0, 1), (10, .getfield 11, 3), (13, .iload_n 1, 1), (14, .aaload, 1), (15, .getfield 89, 3), (18, .ifCond .le 7, 3), (21, .iconst 1, 1), (22, .goto 4, 3), (25, .iconst 0, 1), (26, .ireturn, 1)]
def M_TM_hasPoints : MI := (10, ⟨"TouchMap", "hasPoints", "(I)Z"⟩, prog_1_method_27_code, 2, (some .boolean), T_TM_hasPoints)
theorem dk_TM_hasPoints : ∀ e ∈ T_TM_hasPoints, decode prog_1_method_27_code e.1 = .ok e.2 := by decide +kernel
set_option maxRecDepth 100000 in
theorem ok_TM_hasPoints : OkM M_TM_hasPoints := ⟨dk_TM_hasPoints, TT_t (List.mem_of_getElem? (i := 362) rfl) rfl, by decide +kernel, rfl, TT_t (List.mem_of_getElem? (i := 1) (by decide +kernel)) rfl, by decide +kernel, by decide +kernel⟩
def T_TM_areTwoWays : List (Nat × Instr × Nat) := [(0, .iload_n 1, 1), (1, .iload_n 2, 1), (2, .if_icmp .eq 23, 3), (5, .aload_n 0, 1), (6, .iload_n 1, 1), (7, .invokevirtual 92, 3), (10, .ifCond .eq 15, 3), (13, .aload_n 0, 1), (14, .iload_n 2, 1), (15, .invokevirtual 92, 3), (18, .ifCond .eq 7, 3), (21, .iconst 1, 1), (22, .goto 4, 3), (25, .iconst 0, 1), (26, .ireturn, 1)]
def M_TM_areTwoWays : MI := (10, ⟨"TouchMap", "areTwoWays", "(II)Z"⟩, prog_1_method_28_code, 3, (some .boolean), T_TM_areTwoWays)
theorem dk_TM_areTwoWays : ∀ e ∈ T_TM_areTwoWays, decode prog_1_method_28_code e.1 = .ok e.2 := by decide +kernel
set_option maxRecDepth 100000 in
theorem ok_TM_areTwoWays : OkM M_TM_areTwoWays := ⟨dk_TM_areTwoWays, TT_t (List.mem_of_getElem? (i := 420) rfl) rfl, by decide +kernel, rfl, TT_t (List.mem_of_getElem? (i := 1) (by decide +kernel)) rfl, by decide +kernel, by decide +kernel⟩
def T_TM_isName : List (Nat × Instr × Nat) := [(0, .iload_n 1, 1), (1, .bipush 7, 2), (3, .invokestatic 71, 3), (6, .ifCond .eq 19, 3), (9, .aload_n 0, 1), (10, .getfield 18, 3), (13, .iload_n 1, 1), (14, .aaload, 1), (15, .getfield 156, 3), (18, .ifCond .eq 7, 3), (21, .iconst 1, 1), (22, .goto 4, 3), (25, .iconst 0, 1), (26, .ireturn, 1)]
def M_TM_isName : MI := (10, ⟨"TouchMap", "isName", "(I)Z"⟩, prog_1_method_29_code, 2, (some .boolean), T_TM_isName)
theorem dk_TM_isName : ∀ e ∈ T_TM_isName, decode prog_1_method_29_code e.1 = .ok e.2 := by decide +kernel
set_option maxRecDepth 100000 in
theorem ok_TM_isName : OkM M_TM_isName := ⟨dk_TM_isName, TT_t (List.mem_of_getElem? (i := 577) rfl) rfl, by decide +kernel, rfl, TT_t (List.mem_of_getElem? (i := 1) (by decide +kernel)) rfl, by decide +kernel, by decide +kernel⟩
end
section
def T_MD_isIn : List (Nat × Instr × Nat) := [(0, .iload_n 0, 1), (1, .iload_n 1, 1), (2, .if_icmp .lt 12, 3), (5, .iload_n 0, 1), (6, .iload_n 2, 1), (7, .if_icmp .gt 7, 3), (10, .iconst 1, 1), (11, .goto 4, 3), (14, .iconst 0, 1), (15, .ireturn, 1)]
def M_MD_isIn : MI := (11, ⟨"TouchMapModel", "isIn", "(III)Z"⟩, prog_13_method_2_code, 3, (some .boolean), T_MD_isIn)
theorem dk_MD_isIn : ∀ e ∈ T_MD_isIn, decode prog_13_method_2_code e.1 = .ok e.2 := by decide +kernel
set_option maxRecDepth 100000 in
theorem ok_MD_isIn : OkM M_MD_isIn := ⟨dk_MD_isIn, TT_t (List.mem_of_getElem? (i := 809) rfl) rfl, by decide +kernel, rfl, TT_t (List.mem_of_getElem? (i := 12) (by decide +kernel)) rfl, by decide +kernel, by decide +kernel⟩
def T_MD_isWay : List (Nat × Instr × Nat) := [(0, .iload_n 1, 1), (1, .iconst 0, 1), (2, .bipush 11, 2), (4, .invokestatic 114, 3), (7, .ifCond .eq 16, 3), (10, .aload_n 0, 1), (11, .getfield 7, 3), (14, .iload_n 1, 1), (15, .baload, 1), (16, .ifCond .eq 7, 3), (19, .iconst 1, 1), (20, .goto 4, 3), (23, .iconst 0, 1), (24, .ireturn, 1)]
def M_MD_isWay : MI := (11, ⟨"TouchMapModel", "isWay", "(I)Z"⟩, prog_13_method_3_code, 2, (some .boolean), T_MD_isWay)
theorem dk_MD_isWay : ∀ e ∈ T_MD_isWay, decode prog_13_method_3_code e.1 = .ok e.2 := by decide +kernel
set_option maxRecDepth 100000 in
theorem ok_MD_isWay : OkM M_MD_isWay := ⟨dk_MD_isWay, TT_t (List.mem_of_getElem? (i := 817) rfl) rfl, by decide +kernel, rfl, TT_t (List.mem_of_getElem? (i := 12) (by decide +kernel)) rfl, by decide +kernel, by decide +kernel⟩
def T_MD_way : List (Nat × Instr × Nat) := [(0, .iload_n 1, 1), (1, .iconst 0, 1), (2, .bipush 11, 2), (4, .invokestatic 114, 3), (7, .ifCond .eq 14, 3), (10, .iload_n 2, 1), (11, .iconst 0, 1), (12, .sipush 1000, 3), (15, .invokestatic 114, 3), (18, .ifCond .ne 5, 3), (21, .iconst 0, 1), (22, .ireturn, 1), (23, .aload_n 0, 1), (24, .getfield 7, 3), (27, .iload_n 1, 1), (28, .iconst 1, 1), (29, .bastore, 1), (30, .aload_n 0, 1), (31, .getfield 13, 3), (34, .iload_n 1, 1), (35, .iload_n 2, 1), (36, .iastore, 1), (37, .aload_n 0, 1), (38, .getfield 17, 3), (41, .iload_n 1, 1), (42, .iload_n 3, 1), (43, .bastore, 1), (44, .aload_n 0, 1), (45, .getfield 20, 3), (48, .iload_n 1, 1), (49, .iconst 0, 1), (50, .iastore, 1), (51, .aload_n 0, 1), (52, .getfield 29, 3), (55, .iload_n 1, 1), (56, .iconst 0, 1), (57, .iastore, 1), (58, .iconst 1, 1), (59, .ireturn, 1)]
def M_MD_way : MI := (11, ⟨"TouchMapModel", "way", "(IIZ)Z"⟩, prog_13_method_4_code, 4, (some .boolean), T_MD_way)
theorem dk_MD_way : ∀ e ∈ T_MD_way, decode prog_13_method_4_code e.1 = .ok e.2 := by decide +kernel
set_option maxRecDepth 100000 in
theorem ok_MD_way : OkM M_MD_way := ⟨dk_MD_way, TT_t (List.mem_of_getElem? (i := 806) rfl) rfl, by decide +kernel, rfl, TT_t (List.mem_of_getElem? (i := 12) (by decide +kernel)) rfl, by decide +kernel, by decide +kernel⟩
def T_MD_point : List (Nat × Instr × Nat) := [(0, .aload_n 0, 1), (1, .iload_n 1, 1), (2, .invokevirtual 118, 3), (5, .ifCond .eq 36, 3), (8, .iload_n 2, 1), (9, .iconst 0, 1), (10, .sipush 400, 3), (13, .invokestatic 114, 3), (16, .ifCond .eq 25, 3), (19, .iload_n 3, 1), (20, .iconst 0, 1), (21, .sipush 400, 3), (24, .invokestatic 114, 3), (27, .ifCond .eq 14, 3), (30, .aload_n 0, 1), (31, .getfield 20, 3), (34, .iload_n 1, 1), (35, .iaload, 1), (36, .bipush 20, 2), (38, .if_icmp .ne 5, 3), (41, .iconst (-1), 1), (42, .ireturn, 1), (43, .bipush 20, 2), (45, .iload_n 1, 1), (46, .imul, 1), (47, .aload_n 0, 1), (48, .getfield 20, 3), (51, .iload_n 1, 1), (52, .iaload, 1), (53, .iadd, 1), (54, .istore 4, 2), (56, .aload_n 0, 1), (57, .getfield 20, 3), (60, .iload_n 1, 1), (61, .iaload, 1), (62, .ifCond .le 31, 3), (65, .aload_n 0, 1), (66, .getfield 23, 3), (69, .iload 4, 2), (71, .iconst 1, 1), (72, .isub, 1), (73, .iaload, 1), (74, .iload_n 2, 1), (75, .if_icmp .ne 18, 3), (78, .aload_n 0, 1), (79, .getfield 26, 3), (82, .iload 4, 2), (84, .iconst 1, 1), (85, .isub, 1), (86, .iaload, 1), (87, .iload_n 3, 1), (88, .if_icmp .ne 5, 3), (91, .iconst (-1), 1), (92, .ireturn, 1), (93, .aload_n 0, 1), (94, .getfield 23, 3), (97, .iload 4, 2), (99, .iload_n 2, 1), (100, .iastore, 1), (101, .aload_n 0, 1), (102, .getfield 26, 3), (105, .iload 4, 2), (107, .iload_n 3, 1), (108, .iastore, 1), (109, .aload_n 0, 1), (110, .getfield 20, 3), (113, .iload_n 1, 1), (114, .dup2, 1), (115, .iaload, 1), (116, .iconst 1, 1), (117, .iadd, 1), (118, .iastore, 1), (119, .iconst 0, 1), (120, .istore 5, 2), (122, .iload 5, 2), (124, .aload_n 0, 1), (125, .getfield 20, 3), (128, .iload_n 1, 1), (129, .iaload, 1), (130, .if_icmp .ge 23, 3), (133, .aload_n 0, 1), (134, .getfield 32, 3), (137, .bipush 20, 2), (139, .iload_n 1, 1), (140, .imul, 1), (141, .iload 5, 2), (143, .iadd, 1), (144, .iload 5, 2), (146, .iastore, 1), (147, .iinc 5 1, 3), (150, .goto (-28), 3), (153, .aload_n 0, 1), (154, .getfield 29, 3), (157, .iload_n 1, 1), (158, .aload_n 0, 1), (159, .getfield 20, 3), (162, .iload_n 1, 1), (163, .iaload, 1), (164, .iastore, 1), (165, .aload_n 0, 1), (166, .getfield 20, 3), (169, .iload_n 1, 1), (170, .iaload, 1), (171, .ireturn, 1)]
def M_MD_point : MI := (11, ⟨"TouchMapModel", "point", "(III)I"⟩, prog_13_method_5_code, 6, (some .int), T_MD_point)
theorem dk_MD_point : ∀ e ∈ T_MD_point, decode prog_13_method_5_code e.1 = .ok e.2 := by decide +kernel
set_option maxRecDepth 100000 in
theorem ok_MD_point : OkM M_MD_point := ⟨dk_MD_point, TT_t (List.mem_of_getElem? (i := 813) rfl) rfl, by decide +kernel, rfl, TT_t (List.mem_of_getElem? (i := 12) (by decide +kernel)) rfl, by decide +kernel, by decide +kernel⟩
def T_MD_square : List (Nat × Instr × Nat) := [(0, .lload_n 0, 1), (1, .lload_n 0, 1), (2, .lmul, 1), (3, .lreturn, 1)]
def M_MD_square : MI := (11, ⟨"TouchMapModel", "square", "(J)J"⟩, prog_13_method_6_code, 2, (some .long), T_MD_square)
theorem dk_MD_square : ∀ e ∈ T_MD_square, decode prog_13_method_6_code e.1 = .ok e.2 := by decide +kernel
set_option maxRecDepth 100000 in
theorem ok_MD_square : OkM M_MD_square := ⟨dk_MD_square, TT_t (List.mem_of_getElem? (i := 836) rfl) rfl, by decide +kernel, rfl, TT_t (List.mem_of_getElem? (i := 12) (by decide +kernel)) rfl, by decide +kernel, by decide +kernel⟩
def T_MD_signOf : List (Nat × Instr × Nat) := [(0, .lload_n 0, 1), (1, .lconst 0, 1), (2, .lcmp, 1), (3, .ifCond .le 7, 3), (6, .iconst 1, 1), (7, .goto 14, 3), (10, .lload_n 0, 1), (11, .lconst 0, 1), (12, .lcmp, 1), (13, .ifCond .ge 7, 3), (16, .iconst (-1), 1), (17, .goto 4, 3), (20, .iconst 0, 1), (21, .ireturn, 1)]
def M_MD_signOf : MI := (11, ⟨"TouchMapModel", "signOf", "(J)I"⟩, prog_13_method_7_code, 2, (some .int), T_MD_signOf)
theorem dk_MD_signOf : ∀ e ∈ T_MD_signOf, decode prog_13_method_7_code e.1 = .ok e.2 := by decide +kernel
set_option maxRecDepth 100000 in
theorem ok_MD_signOf : OkM M_MD_signOf := ⟨dk_MD_signOf, TT_t (List.mem_of_getElem? (i := 839) rfl) rfl, by decide +kernel, rfl, TT_t (List.mem_of_getElem? (i := 12) (by decide +kernel)) rfl, by decide +kernel, by decide +kernel⟩
def T_MD_cross : List (Nat × Instr × Nat) := [(0, .aload_n 0, 1), (1, .getfield 23, 3), (4, .iload_n 2, 1), (5, .iaload, 1), (6, .aload_n 0, 1), (7, .getfield 23, 3), (10, .iload_n 1, 1), (11, .iaload, 1), (12, .isub, 1), (13, .i2l, 1), (14, .aload_n 0, 1), (15, .getfield 26, 3), (18, .iload_n 3, 1), (19, .iaload, 1), (20, .aload_n 0, 1), (21, .getfield 26, 3), (24, .iload_n 1, 1), (25, .iaload, 1), (26, .isub, 1), (27, .i2l, 1), (28, .lmul, 1), (29, .aload_n 0, 1), (30, .getfield 26, 3), (33, .iload_n 2, 1), (34, .iaload, 1), (35, .aload_n 0, 1), (36, .getfield 26, 3), (39, .iload_n 1, 1), (40, .iaload, 1), (41, .isub, 1), (42, .i2l, 1), (43, .aload_n 0, 1), (44, .getfield 23, 3), (47, .iload_n 3, 1), (48, .iaload, 1), (49, .aload_n 0, 1), (50, .getfield 23, 3), (53, .iload_n 1, 1), (54, .iaload, 1), (55, .isub, 1), (56, .i2l, 1), (57, .lmul, 1), (58, .lsub, 1), (59, .lreturn, 1)]
def M_MD_cross : MI := (11, ⟨"TouchMapModel", "cross", "(III)J"⟩, prog_13_method_8_code, 4, (some .long), T_MD_cross)
theorem dk_MD_cross : ∀ e ∈ T_MD_cross, decode prog_13_method_8_code e.1 = .ok e.2 := by decide +kernel
set_option maxRecDepth 100000 in
theorem ok_MD_cross : OkM M_MD_cross := ⟨dk_MD_cross, TT_t (List.mem_of_getElem? (i := 843) rfl) rfl, by decide +kernel, rfl, TT_t (List.mem_of_getElem? (i := 12) (by decide +kernel)) rfl, by decide +kernel, by decide +kernel⟩
def T_MD_apart : List (Nat × Instr × Nat) := [(0, .aload_n 0, 1), (1, .getfield 23, 3), (4, .iload_n 1, 1), (5, .iaload, 1), (6, .aload_n 0, 1), (7, .getfield 23, 3), (10, .iload_n 2, 1), (11, .iaload, 1), (12, .isub, 1), (13, .i2l, 1), (14, .invokestatic 122, 3), (17, .aload_n 0, 1), (18, .getfield 26, 3), (21, .iload_n 1, 1), (22, .iaload, 1), (23, .aload_n 0, 1), (24, .getfield 26, 3), (27, .iload_n 2, 1), (28, .iaload, 1), (29, .isub, 1), (30, .i2l, 1), (31, .invokestatic 122, 3), (34, .ladd, 1), (35, .lreturn, 1)]
def M_MD_apart : MI := (11, ⟨"TouchMapModel", "apart", "(II)J"⟩, prog_13_method_9_code, 3, (some .long), T_MD_apart)
theorem dk_MD_apart : ∀ e ∈ T_MD_apart, decode prog_13_method_9_code e.1 = .ok e.2 := by decide +kernel
set_option maxRecDepth 100000 in
theorem ok_MD_apart : OkM M_MD_apart := ⟨dk_MD_apart, TT_t (List.mem_of_getElem? (i := 833) rfl) rfl, by decide +kernel, rfl, TT_t (List.mem_of_getElem? (i := 12) (by decide +kernel)) rfl, by decide +kernel, by decide +kernel⟩
def T_MD_far : List (Nat × Instr × Nat) := [(0, .aload_n 0, 1), (1, .iload_n 2, 1), (2, .iload_n 3, 1), (3, .invokevirtual 126, 3), (6, .lstore 5, 2), (8, .aload_n 0, 1), (9, .getfield 23, 3), (12, .iload_n 1, 1), (13, .iaload, 1), (14, .aload_n 0, 1), (15, .getfield 23, 3), (18, .iload_n 2, 1), (19, .iaload, 1), (20, .isub, 1), (21, .i2l, 1), (22, .aload_n 0, 1), (23, .getfield 23, 3), (26, .iload_n 3, 1), (27, .iaload, 1), (28, .aload_n 0, 1), (29, .getfield 23, 3), (32, .iload_n 2, 1), (33, .iaload, 1), (34, .isub, 1), (35, .i2l, 1), (36, .lmul, 1), (37, .aload_n 0, 1), (38, .getfield 26, 3), (41, .iload_n 1, 1), (42, .iaload, 1), (43, .aload_n 0, 1), (44, .getfield 26, 3), (47, .iload_n 2, 1), (48, .iaload, 1), (49, .isub, 1), (50, .i2l, 1), (51, .aload_n 0, 1), (52, .getfield 26, 3), (55, .iload_n 3, 1), (56, .iaload, 1), (57, .aload_n 0, 1), (58, .getfield 26, 3), (61, .iload_n 2, 1), (62, .iaload, 1), (63, .isub, 1), (64, .i2l, 1), (65, .lmul, 1), (66, .ladd, 1), (67, .lstore 7, 2), (69, .lload 5, 2), (71, .lconst 0, 1), (72, .lcmp, 1), (73, .ifCond .eq 10, 3), (76, .lload 7, 2), (78, .lconst 0, 1), (79, .lcmp, 1), (80, .ifCond .gt 20, 3), (83, .aload_n 0, 1), (84, .iload_n 1, 1), (85, .iload_n 2, 1), (86, .invokevirtual 126, 3), (89, .iload 4, 2), (91, .i2l, 1), (92, .invokestatic 122, 3), (95, .lsub, 1), (96, .invokestatic 130, 3), (99, .ireturn, 1), (100, .lload 7, 2), (102, .lload 5, 2), (104, .lcmp, 1), (105, .ifCond .lt 20, 3), (108, .aload_n 0, 1), (109, .iload_n 1, 1), (110, .iload_n 3, 1), (111, .invokevirtual 126, 3), (114, .iload 4, 2), (116, .i2l, 1), (117, .invokestatic 122, 3), (120, .lsub, 1), (121, .invokestatic 130, 3), (124, .ireturn, 1), (125, .aload_n 0, 1), (126, .iload_n 2, 1), (127, .iload_n 3, 1), (128, .iload_n 1, 1), (129, .invokevirtual 134, 3), (132, .invokestatic 122, 3), (135, .iload 4, 2), (137, .i2l, 1), (138, .invokestatic 122, 3), (141, .lload 5, 2), (143, .lmul, 1), (144, .lsub, 1), (145, .invokestatic 130, 3), (148, .ireturn, 1)]
def M_MD_far : MI := (11, ⟨"TouchMapModel", "far", "(IIII)I"⟩, prog_13_method_10_code, 9, (some .int), T_MD_far)
theorem dk_MD_far : ∀ e ∈ T_MD_far, decode prog_13_method_10_code e.1 = .ok e.2 := by decide +kernel
set_option maxRecDepth 100000 in
theorem ok_MD_far : OkM M_MD_far := ⟨dk_MD_far, TT_t (List.mem_of_getElem? (i := 829) rfl) rfl, by decide +kernel, rfl, TT_t (List.mem_of_getElem? (i := 12) (by decide +kernel)) rfl, by decide +kernel, by decide +kernel⟩
def T_MD_isNear : List (Nat × Instr × Nat) := [(0, .bipush 20, 2), (2, .iload_n 1, 1), (3, .imul, 1), (4, .istore 5, 2), (6, .iload_n 2, 1), (7, .iconst 1, 1), (8, .iadd, 1), (9, .istore 6, 2), (11, .iload 6, 2), (13, .iload_n 3, 1), (14, .if_icmp .ge 33, 3), (17, .aload_n 0, 1), (18, .iload 5, 2), (20, .iload 6, 2), (22, .iadd, 1), (23, .iload 5, 2), (25, .iload_n 2, 1), (26, .iadd, 1), (27, .iload 5, 2), (29, .iload_n 3, 1), (30, .iadd, 1), (31, .iload 4, 2), (33, .invokevirtual 138, 3), (36, .ifCond .le 5, 3), (39, .iconst 0, 1), (40, .ireturn, 1), (41, .iinc 6 1, 3), (44, .goto (-33), 3), (47, .iconst 1, 1), (48, .ireturn, 1)]
def M_MD_isNear : MI := (11, ⟨"TouchMapModel", "isNear", "(IIII)Z"⟩, prog_13_method_11_code, 7, (some .boolean), T_MD_isNear)
theorem dk_MD_isNear : ∀ e ∈ T_MD_isNear, decode prog_13_method_11_code e.1 = .ok e.2 := by decide +kernel
set_option maxRecDepth 100000 in
theorem ok_MD_isNear : OkM M_MD_isNear := ⟨dk_MD_isNear, TT_t (List.mem_of_getElem? (i := 825) rfl) rfl, by decide +kernel, rfl, TT_t (List.mem_of_getElem? (i := 12) (by decide +kernel)) rfl, by decide +kernel, by decide +kernel⟩
def T_MD_simple : List (Nat × Instr × Nat) := [(0, .aload_n 0, 1), (1, .iload_n 1, 1), (2, .invokevirtual 118, 3), (5, .ifCond .eq 22, 3), (8, .aload_n 0, 1), (9, .getfield 20, 3), (12, .iload_n 1, 1), (13, .iaload, 1), (14, .ifCond .eq 13, 3), (17, .iload_n 2, 1), (18, .iconst 0, 1), (19, .bipush 100, 2), (21, .invokestatic 114, 3), (24, .ifCond .ne 5, 3), (27, .iconst (-1), 1), (28, .ireturn, 1), (29, .aload_n 0, 1), (30, .getfield 20, 3), (33, .iload_n 1, 1), (34, .iaload, 1), (35, .istore_n 3, 1), (36, .aload_n 0, 1), (37, .getfield 35, 3), (40, .iload_n 3, 1), (41, .iconst 1, 1), (42, .isub, 1), (43, .iconst 1, 1), (44, .iastore, 1), (45, .iload_n 3, 1), (46, .iconst 2, 1), (47, .isub, 1), (48, .istore 4, 2), (50, .iload 4, 2), (52, .ifCond .lt 84, 3), (55, .aload_n 0, 1), (56, .getfield 35, 3), (59, .iload 4, 2), (61, .bipush 100, 2), (63, .iastore, 1), (64, .iload 4, 2), (66, .iconst 1, 1), (67, .iadd, 1), (68, .istore 5, 2), (70, .iload 5, 2), (72, .iload_n 3, 1), (73, .if_icmp .ge 57, 3), (76, .aload_n 0, 1), (77, .getfield 35, 3), (80, .iload 5, 2), (82, .iaload, 1), (83, .iconst 1, 1), (84, .iadd, 1), (85, .aload_n 0, 1), (86, .getfield 35, 3), (89, .iload 4, 2), (91, .iaload, 1), (92, .if_icmp .ge 32, 3), (95, .aload_n 0, 1), (96, .iload_n 1, 1), (97, .iload 4, 2), (99, .iload 5, 2), (101, .iload_n 2, 1), (102, .invokevirtual 142, 3), (105, .ifCond .eq 19, 3), (108, .aload_n 0, 1), (109, .getfield 35, 3), (112, .iload 4, 2), (114, .aload_n 0, 1), (115, .getfield 35, 3), (118, .iload 5, 2), (120, .iaload, 1), (121, .iconst 1, 1), (122, .iadd, 1), (123, .iastore, 1), (124, .iinc 5 1, 3), (127, .goto (-57), 3), (130, .iinc 4 (-1), 3), (133, .goto (-83), 3), (136, .iconst 0, 1), (137, .istore 4, 2), (139, .aload_n 0, 1), (140, .getfield 29, 3), (143, .iload_n 1, 1), (144, .iconst 0, 1), (145, .iastore, 1), (146, .iload 4, 2), (148, .iload_n 3, 1), (149, .iconst 1, 1), (150, .isub, 1), (151, .if_icmp .ge 60, 3), (154, .aload_n 0, 1), (155, .iload_n 1, 1), (156, .iload 4, 2), (158, .invokevirtual 146, 3), (161, .iload_n 3, 1), (162, .iconst 1, 1), (163, .isub, 1), (164, .istore 5, 2), (166, .aload_n 0, 1), (167, .getfield 35, 3), (170, .iload 5, 2), (172, .iaload, 1), (173, .iconst 1, 1), (174, .iadd, 1), (175, .aload_n 0, 1), (176, .getfield 35, 3), (179, .iload 4, 2), (181, .iaload, 1), (182, .if_icmp .ne 16, 3), (185, .aload_n 0, 1), (186, .iload_n 1, 1), (187, .iload 4, 2), (189, .iload 5, 2), (191, .iload_n 2, 1), (192, .invokevirtual 142, 3), (195, .ifCond .ne 9, 3), (198, .iinc 5 (-1), 3), (201, .goto (-35), 3), (204, .iload 5, 2), (206, .istore 4, 2), (208, .goto (-62), 3), (211, .aload_n 0, 1), (212, .iload_n 1, 1), (213, .iload_n 3, 1), (214, .iconst 1, 1), (215, .isub, 1), (216, .invokevirtual 146, 3), (219, .aload_n 0, 1), (220, .getfield 29, 3), (223, .iload_n 1, 1), (224, .iaload, 1), (225, .ireturn, 1)]
def M_MD_simple : MI := (11, ⟨"TouchMapModel", "simple", "(II)I"⟩, prog_13_method_12_code, 6, (some .int), T_MD_simple)
theorem dk_MD_simple : ∀ e ∈ T_MD_simple, decode prog_13_method_12_code e.1 = .ok e.2 := by decide +kernel
set_option maxRecDepth 100000 in
theorem ok_MD_simple : OkM M_MD_simple := ⟨dk_MD_simple, TT_t (List.mem_of_getElem? (i := 821) rfl) rfl, by decide +kernel, rfl, TT_t (List.mem_of_getElem? (i := 12) (by decide +kernel)) rfl, by decide +kernel, by decide +kernel⟩
def T_MD_puts : List (Nat × Instr × Nat) := [(0, .aload_n 0, 1), (1, .getfield 32, 3), (4, .bipush 20, 2), (6, .iload_n 1, 1), (7, .imul, 1), (8, .aload_n 0, 1), (9, .getfield 29, 3), (12, .iload_n 1, 1), (13, .iaload, 1), (14, .iadd, 1), (15, .iload_n 2, 1), (16, .iastore, 1), (17, .aload_n 0, 1), (18, .getfield 29, 3), (21, .iload_n 1, 1), (22, .dup2, 1), (23, .iaload, 1), (24, .iconst 1, 1), (25, .iadd, 1), (26, .iastore, 1), (27, .return_, 1)]
def M_MD_puts : MI := (11, ⟨"TouchMapModel", "puts", "(II)V"⟩, prog_13_method_13_code, 3, none, T_MD_puts)
theorem dk_MD_puts : ∀ e ∈ T_MD_puts, decode prog_13_method_13_code e.1 = .ok e.2 := by decide +kernel
set_option maxRecDepth 100000 in
theorem ok_MD_puts : OkM M_MD_puts := ⟨dk_MD_puts, TT_t (List.mem_of_getElem? (i := 847) rfl) rfl, by decide +kernel, rfl, TT_t (List.mem_of_getElem? (i := 12) (by decide +kernel)) rfl, by decide +kernel, by decide +kernel⟩
def T_MD_at : List (Nat × Instr × Nat) := [(0, .bipush 20, 2), (2, .iload_n 1, 1), (3, .imul, 1), (4, .aload_n 0, 1), (5, .getfield 32, 3), (8, .bipush 20, 2), (10, .iload_n 1, 1), (11, .imul, 1), (12, .iload_n 2, 1), (13, .iadd, 1), (14, .iaload, 1), (15, .iadd, 1), (16, .ireturn, 1)]
def M_MD_at : MI := (11, ⟨"TouchMapModel", "at", "(II)I"⟩, prog_13_method_14_code, 3, (some .int), T_MD_at)
theorem dk_MD_at : ∀ e ∈ T_MD_at, decode prog_13_method_14_code e.1 = .ok e.2 := by decide +kernel
set_option maxRecDepth 100000 in
theorem ok_MD_at : OkM M_MD_at := ⟨dk_MD_at, TT_t (List.mem_of_getElem? (i := 859) rfl) rfl, by decide +kernel, rfl, TT_t (List.mem_of_getElem? (i := 12) (by decide +kernel)) rfl, by decide +kernel, by decide +kernel⟩
def T_MD_drawn : List (Nat × Instr × Nat) := [(0, .aload_n 0, 1), (1, .iload_n 1, 1), (2, .invokevirtual 118, 3), (5, .ifCond .eq 31, 3), (8, .iload_n 2, 1), (9, .ifCond .lt 27, 3), (12, .iload_n 2, 1), (13, .aload_n 0, 1), (14, .getfield 29, 3), (17, .iload_n 1, 1), (18, .iaload, 1), (19, .if_icmp .ge 17, 3), (22, .aload_n 0, 1), (23, .getfield 32, 3), (26, .bipush 20, 2), (28, .iload_n 1, 1), (29, .imul, 1), (30, .iload_n 2, 1), (31, .iadd, 1), (32, .iaload, 1), (33, .goto 4, 3), (36, .iconst (-1), 1), (37, .ireturn, 1)]
def M_MD_drawn : MI := (11, ⟨"TouchMapModel", "drawn", "(II)I"⟩, prog_13_method_15_code, 3, (some .int), T_MD_drawn)
theorem dk_MD_drawn : ∀ e ∈ T_MD_drawn, decode prog_13_method_15_code e.1 = .ok e.2 := by decide +kernel
set_option maxRecDepth 100000 in
theorem ok_MD_drawn : OkM M_MD_drawn := ⟨dk_MD_drawn, TT_t (List.mem_of_getElem? (i := 851) rfl) rfl, by decide +kernel, rfl, TT_t (List.mem_of_getElem? (i := 12) (by decide +kernel)) rfl, by decide +kernel, by decide +kernel⟩
def T_MD_turn : List (Nat × Instr × Nat) := [(0, .aload_n 0, 1), (1, .iload_n 1, 1), (2, .invokevirtual 118, 3), (5, .ifCond .eq 20, 3), (8, .iload_n 2, 1), (9, .iconst 1, 1), (10, .if_icmp .lt 15, 3), (13, .iload_n 2, 1), (14, .aload_n 0, 1), (15, .getfield 29, 3), (18, .iload_n 1, 1), (19, .iaload, 1), (20, .iconst 2, 1), (21, .isub, 1), (22, .if_icmp .le 6, 3), (25, .bipush (-2), 2), (27, .ireturn, 1), (28, .aload_n 0, 1), (29, .aload_n 0, 1), (30, .iload_n 1, 1), (31, .iload_n 2, 1), (32, .iconst 1, 1), (33, .isub, 1), (34, .invokevirtual 150, 3), (37, .aload_n 0, 1), (38, .iload_n 1, 1), (39, .iload_n 2, 1), (40, .invokevirtual 150, 3), (43, .aload_n 0, 1), (44, .iload_n 1, 1), (45, .iload_n 2, 1), (46, .iconst 1, 1), (47, .iadd, 1), (48, .invokevirtual 150, 3), (51, .invokevirtual 134, 3), (54, .invokestatic 130, 3), (57, .ireturn, 1)]
def M_MD_turn : MI := (11, ⟨"TouchMapModel", "turn", "(II)I"⟩, prog_13_method_16_code, 3, (some .int), T_MD_turn)
theorem dk_MD_turn : ∀ e ∈ T_MD_turn, decode prog_13_method_16_code e.1 = .ok e.2 := by decide +kernel
set_option maxRecDepth 100000 in
theorem ok_MD_turn : OkM M_MD_turn := ⟨dk_MD_turn, TT_t (List.mem_of_getElem? (i := 855) rfl) rfl, by decide +kernel, rfl, TT_t (List.mem_of_getElem? (i := 12) (by decide +kernel)) rfl, by decide +kernel, by decide +kernel⟩
def T_MD_gap : List (Nat × Instr × Nat) := [(0, .iload_n 1, 1), (1, .iconst 0, 1), (2, .bipush 100, 2), (4, .invokestatic 114, 3), (7, .ifCond .ne 5, 3), (10, .iconst (-1), 1), (11, .ireturn, 1), (12, .aload_n 0, 1), (13, .getfield 38, 3), (16, .istore_n 2, 1), (17, .aload_n 0, 1), (18, .iload_n 1, 1), (19, .putfield 38, 3), (22, .iload_n 2, 1), (23, .ireturn, 1)]
def M_MD_gap : MI := (11, ⟨"TouchMapModel", "gap", "(I)I"⟩, prog_13_method_17_code, 3, (some .int), T_MD_gap)
theorem dk_MD_gap : ∀ e ∈ T_MD_gap, decode prog_13_method_17_code e.1 = .ok e.2 := by decide +kernel
set_option maxRecDepth 100000 in
theorem ok_MD_gap : OkM M_MD_gap := ⟨dk_MD_gap, TT_t (List.mem_of_getElem? (i := 863) rfl) rfl, by decide +kernel, rfl, TT_t (List.mem_of_getElem? (i := 12) (by decide +kernel)) rfl, by decide +kernel, by decide +kernel⟩
def T_MD_isSame : List (Nat × Instr × Nat) := [(0, .aload_n 0, 1), (1, .getfield 23, 3), (4, .iload_n 1, 1), (5, .iaload, 1), (6, .aload_n 0, 1), (7, .getfield 23, 3), (10, .iload_n 2, 1), (11, .iaload, 1), (12, .if_icmp .ne 22, 3), (15, .aload_n 0, 1), (16, .getfield 26, 3), (19, .iload_n 1, 1), (20, .iaload, 1), (21, .aload_n 0, 1), (22, .getfield 26, 3), (25, .iload_n 2, 1), (26, .iaload, 1), (27, .if_icmp .ne 7, 3), (30, .iconst 1, 1), (31, .goto 4, 3), (34, .iconst 0, 1), (35, .ireturn, 1)]
def M_MD_isSame : MI := (11, ⟨"TouchMapModel", "isSame", "(II)Z"⟩, prog_13_method_18_code, 3, (some .boolean), T_MD_isSame)
theorem dk_MD_isSame : ∀ e ∈ T_MD_isSame, decode prog_13_method_18_code e.1 = .ok e.2 := by decide +kernel
set_option maxRecDepth 100000 in
theorem ok_MD_isSame : OkM M_MD_isSame := ⟨dk_MD_isSame, TT_t (List.mem_of_getElem? (i := 883) rfl) rfl, by decide +kernel, rfl, TT_t (List.mem_of_getElem? (i := 12) (by decide +kernel)) rfl, by decide +kernel, by decide +kernel⟩
def T_MD_isOn : List (Nat × Instr × Nat) := [(0, .aload_n 0, 1), (1, .iload_n 1, 1), (2, .iload_n 2, 1), (3, .iload_n 3, 1), (4, .iconst 0, 1), (5, .invokevirtual 138, 3), (8, .ifCond .ne 7, 3), (11, .iconst 1, 1), (12, .goto 4, 3), (15, .iconst 0, 1), (16, .ireturn, 1)]
def M_MD_isOn : MI := (11, ⟨"TouchMapModel", "isOn", "(III)Z"⟩, prog_13_method_19_code, 4, (some .boolean), T_MD_isOn)
theorem dk_MD_isOn : ∀ e ∈ T_MD_isOn, decode prog_13_method_19_code e.1 = .ok e.2 := by decide +kernel
set_option maxRecDepth 100000 in
theorem ok_MD_isOn : OkM M_MD_isOn := ⟨dk_MD_isOn, TT_t (List.mem_of_getElem? (i := 891) rfl) rfl, by decide +kernel, rfl, TT_t (List.mem_of_getElem? (i := 12) (by decide +kernel)) rfl, by decide +kernel, by decide +kernel⟩
def T_MD_meets : List (Nat × Instr × Nat) := [(0, .aload_n 0, 1), (1, .iload_n 1, 1), (2, .iload_n 3, 1), (3, .iload 4, 2), (5, .invokevirtual 154, 3), (8, .ifCond .ne 35, 3), (11, .aload_n 0, 1), (12, .iload_n 2, 1), (13, .iload_n 3, 1), (14, .iload 4, 2), (16, .invokevirtual 154, 3), (19, .ifCond .ne 24, 3), (22, .aload_n 0, 1), (23, .iload_n 3, 1), (24, .iload_n 1, 1), (25, .iload_n 2, 1), (26, .invokevirtual 154, 3), (29, .ifCond .ne 14, 3), (32, .aload_n 0, 1), (33, .iload 4, 2), (35, .iload_n 1, 1), (36, .iload_n 2, 1), (37, .invokevirtual 154, 3), (40, .ifCond .eq 5, 3), (43, .iconst 1, 1), (44, .ireturn, 1), (45, .aload_n 0, 1), (46, .iload_n 1, 1), (47, .iload_n 2, 1), (48, .iload_n 3, 1), (49, .invokevirtual 134, 3), (52, .invokestatic 130, 3), (55, .aload_n 0, 1), (56, .iload_n 1, 1), (57, .iload_n 2, 1), (58, .iload 4, 2), (60, .invokevirtual 134, 3), (63, .invokestatic 130, 3), (66, .imul, 1), (67, .ifCond .ge 33, 3), (70, .aload_n 0, 1), (71, .iload_n 3, 1), (72, .iload 4, 2), (74, .iload_n 1, 1), (75, .invokevirtual 134, 3), (78, .invokestatic 130, 3), (81, .aload_n 0, 1), (82, .iload_n 3, 1), (83, .iload 4, 2), (85, .iload_n 2, 1), (86, .invokevirtual 134, 3), (89, .invokestatic 130, 3), (92, .imul, 1), (93, .ifCond .ge 7, 3), (96, .iconst 1, 1), (97, .goto 4, 3), (100, .iconst 0, 1), (101, .ireturn, 1)]
def M_MD_meets : MI := (11, ⟨"TouchMapModel", "meets", "(IIII)Z"⟩, prog_13_method_20_code, 5, (some .boolean), T_MD_meets)
theorem dk_MD_meets : ∀ e ∈ T_MD_meets, decode prog_13_method_20_code e.1 = .ok e.2 := by decide +kernel
set_option maxRecDepth 100000 in
theorem ok_MD_meets : OkM M_MD_meets := ⟨dk_MD_meets, TT_t (List.mem_of_getElem? (i := 887) rfl) rfl, by decide +kernel, rfl, TT_t (List.mem_of_getElem? (i := 12) (by decide +kernel)) rfl, by decide +kernel, by decide +kernel⟩
def T_MD_isClose : List (Nat × Instr × Nat) := [(0, .aload_n 0, 1), (1, .iload_n 1, 1), (2, .iload_n 3, 1), (3, .invokevirtual 157, 3), (6, .ifCond .ne 39, 3), (9, .aload_n 0, 1), (10, .iload_n 1, 1), (11, .iload 4, 2), (13, .invokevirtual 157, 3), (16, .ifCond .ne 29, 3), (19, .aload_n 0, 1), (20, .iload_n 2, 1), (21, .iload_n 3, 1), (22, .invokevirtual 157, 3), (25, .ifCond .ne 20, 3), (28, .aload_n 0, 1), (29, .iload_n 2, 1), (30, .iload 4, 2), (32, .invokevirtual 157, 3), (35, .ifCond .ne 10, 3), (38, .aload_n 0, 1), (39, .getfield 38, 3), (42, .ifCond .ne 5, 3), (45, .iconst 0, 1), (46, .ireturn, 1), (47, .aload_n 0, 1), (48, .iload_n 1, 1), (49, .iload_n 2, 1), (50, .iload_n 3, 1), (51, .iload 4, 2), (53, .invokevirtual 161, 3), (56, .ifCond .ne 62, 3), (59, .aload_n 0, 1), (60, .iload_n 1, 1), (61, .iload_n 3, 1), (62, .iload 4, 2), (64, .aload_n 0, 1), (65, .getfield 38, 3), (68, .invokevirtual 138, 3), (71, .ifCond .lt 47, 3), (74, .aload_n 0, 1), (75, .iload_n 2, 1), (76, .iload_n 3, 1), (77, .iload 4, 2), (79, .aload_n 0, 1), (80, .getfield 38, 3), (83, .invokevirtual 138, 3), (86, .ifCond .lt 32, 3), (89, .aload_n 0, 1), (90, .iload_n 3, 1), (91, .iload_n 1, 1), (92, .iload_n 2, 1), (93, .aload_n 0, 1), (94, .getfield 38, 3), (97, .invokevirtual 138, 3), (100, .ifCond .lt 18, 3), (103, .aload_n 0, 1), (104, .iload 4, 2), (106, .iload_n 1, 1), (107, .iload_n 2, 1), (108, .aload_n 0, 1), (109, .getfield 38, 3), (112, .invokevirtual 138, 3), (115, .ifCond .ge 7, 3), (118, .iconst 1, 1), (119, .goto 4, 3), (122, .iconst 0, 1), (123, .ireturn, 1)]
def M_MD_isClose : MI := (11, ⟨"TouchMapModel", "isClose", "(IIII)Z"⟩, prog_13_method_21_code, 5, (some .boolean), T_MD_isClose)
theorem dk_MD_isClose : ∀ e ∈ T_MD_isClose, decode prog_13_method_21_code e.1 = .ok e.2 := by decide +kernel
set_option maxRecDepth 100000 in
theorem ok_MD_isClose : OkM M_MD_isClose := ⟨dk_MD_isClose, TT_t (List.mem_of_getElem? (i := 879) rfl) rfl, by decide +kernel, rfl, TT_t (List.mem_of_getElem? (i := 12) (by decide +kernel)) rfl, by decide +kernel, by decide +kernel⟩
def T_MD_least : List (Nat × Instr × Nat) := [(0, .iload_n 0, 1), (1, .iload_n 1, 1), (2, .if_icmp .ge 7, 3), (5, .iload_n 0, 1), (6, .goto 4, 3), (9, .iload_n 1, 1), (10, .ireturn, 1)]
def M_MD_least : MI := (11, ⟨"TouchMapModel", "least", "(II)I"⟩, prog_13_method_22_code, 2, (some .int), T_MD_least)
theorem dk_MD_least : ∀ e ∈ T_MD_least, decode prog_13_method_22_code e.1 = .ok e.2 := by decide +kernel
set_option maxRecDepth 100000 in
theorem ok_MD_least : OkM M_MD_least := ⟨dk_MD_least, TT_t (List.mem_of_getElem? (i := 902) rfl) rfl, by decide +kernel, rfl, TT_t (List.mem_of_getElem? (i := 12) (by decide +kernel)) rfl, by decide +kernel, by decide +kernel⟩
def T_MD_most : List (Nat × Instr × Nat) := [(0, .iload_n 0, 1), (1, .iload_n 1, 1), (2, .if_icmp .le 7, 3), (5, .iload_n 0, 1), (6, .goto 4, 3), (9, .iload_n 1, 1), (10, .ireturn, 1)]
def M_MD_most : MI := (11, ⟨"TouchMapModel", "most", "(II)I"⟩, prog_13_method_23_code, 2, (some .int), T_MD_most)
theorem dk_MD_most : ∀ e ∈ T_MD_most, decode prog_13_method_23_code e.1 = .ok e.2 := by decide +kernel
set_option maxRecDepth 100000 in
theorem ok_MD_most : OkM M_MD_most := ⟨dk_MD_most, TT_t (List.mem_of_getElem? (i := 905) rfl) rfl, by decide +kernel, rfl, TT_t (List.mem_of_getElem? (i := 12) (by decide +kernel)) rfl, by decide +kernel, by decide +kernel⟩
def T_MD_crosses : List (Nat × Instr × Nat) := [(0, .aload_n 0, 1), (1, .iload_n 1, 1), (2, .iload_n 2, 1), (3, .iload_n 3, 1), (4, .invokevirtual 134, 3), (7, .invokestatic 130, 3), (10, .istore 5, 2), (12, .aload_n 0, 1), (13, .iload_n 1, 1), (14, .iload_n 2, 1), (15, .iload 4, 2), (17, .invokevirtual 134, 3), (20, .invokestatic 130, 3), (23, .istore 6, 2), (25, .aload_n 0, 1), (26, .iload_n 3, 1), (27, .iload 4, 2), (29, .iload_n 1, 1), (30, .invokevirtual 134, 3), (33, .invokestatic 130, 3), (36, .istore 7, 2), (38, .aload_n 0, 1), (39, .iload_n 3, 1), (40, .iload 4, 2), (42, .iload_n 2, 1), (43, .invokevirtual 134, 3), (46, .invokestatic 130, 3), (49, .istore 8, 2), (51, .iload 5, 2), (53, .iload 6, 2), (55, .imul, 1), (56, .ifCond .ge 13, 3), (59, .iload 7, 2), (61, .iload 8, 2), (63, .imul, 1), (64, .ifCond .ge 5, 3), (67, .iconst 1, 1), (68, .ireturn, 1), (69, .iload 5, 2), (71, .ifCond .ne 37, 3), (74, .iload 6, 2), (76, .ifCond .ne 32, 3), (79, .iload 7, 2), (81, .ifCond .ne 27, 3), (84, .iload 8, 2), (86, .ifCond .ne 22, 3), (89, .aload_n 0, 1), (90, .iload_n 1, 1), (91, .iload_n 2, 1), (92, .invokevirtual 157, 3), (95, .ifCond .ne 13, 3), (98, .aload_n 0, 1), (99, .iload_n 3, 1), (100, .iload 4, 2), (102, .invokevirtual 157, 3), (105, .ifCond .eq 5, 3), (108, .iconst 0, 1), (109, .ireturn, 1), (110, .aload_n 0, 1), (111, .getfield 23, 3), (114, .iload_n 1, 1), (115, .iaload, 1), (116, .aload_n 0, 1), (117, .getfield 23, 3), (120, .iload_n 2, 1), (121, .iaload, 1), (122, .if_icmp .eq 80, 3), (125, .aload_n 0, 1), (126, .getfield 23, 3), (129, .iload_n 1, 1), (130, .iaload, 1), (131, .aload_n 0, 1), (132, .getfield 23, 3), (135, .iload_n 2, 1), (136, .iaload, 1), (137, .invokestatic 164, 3), (140, .aload_n 0, 1), (141, .getfield 23, 3), (144, .iload_n 3, 1), (145, .iaload, 1), (146, .aload_n 0, 1), (147, .getfield 23, 3), (150, .iload 4, 2), (152, .iaload, 1), (153, .invokestatic 164, 3), (156, .invokestatic 167, 3), (159, .aload_n 0, 1), (160, .getfield 23, 3), (163, .iload_n 1, 1), (164, .iaload, 1), (165, .aload_n 0, 1), (166, .getfield 23, 3), (169, .iload_n 2, 1), (170, .iaload, 1), (171, .invokestatic 167, 3), (174, .aload_n 0, 1), (175, .getfield 23, 3), (178, .iload_n 3, 1), (179, .iaload, 1), (180, .aload_n 0, 1), (181, .getfield 23, 3), (184, .iload 4, 2), (186, .iaload, 1), (187, .invokestatic 167, 3), (190, .invokestatic 164, 3), (193, .if_icmp .ge 7, 3), (196, .iconst 1, 1), (197, .goto 4, 3), (200, .iconst 0, 1), (201, .ireturn, 1), (202, .aload_n 0, 1), (203, .getfield 26, 3), (206, .iload_n 1, 1), (207, .iaload, 1), (208, .aload_n 0, 1), (209, .getfield 26, 3), (212, .iload_n 2, 1), (213, .iaload, 1), (214, .invokestatic 164, 3), (217, .aload_n 0, 1), (218, .getfield 26, 3), (221, .iload_n 3, 1), (222, .iaload, 1), (223, .aload_n 0, 1), (224, .getfield 26, 3), (227, .iload 4, 2), (229, .iaload, 1), (230, .invokestatic 164, 3), (233, .invokestatic 167, 3), (236, .aload_n 0, 1), (237, .getfield 26, 3), (240, .iload_n 1, 1), (241, .iaload, 1), (242, .aload_n 0, 1), (243, .getfield 26, 3), (246, .iload_n 2, 1), (247, .iaload, 1), (248, .invokestatic 167, 3), (251, .aload_n 0, 1), (252, .getfield 26, 3), (255, .iload_n 3, 1), (256, .iaload, 1), (257, .aload_n 0, 1), (258, .getfield 26, 3), (261, .iload 4, 2), (263, .iaload, 1), (264, .invokestatic 167, 3), (267, .invokestatic 164, 3), (270, .if_icmp .ge 7, 3), (273, .iconst 1, 1), (274, .goto 4, 3), (277, .iconst 0, 1), (278, .ireturn, 1)]
def M_MD_crosses : MI := (11, ⟨"TouchMapModel", "crosses", "(IIII)Z"⟩, prog_13_method_24_code, 9, (some .boolean), T_MD_crosses)
theorem dk_MD_crosses : ∀ e ∈ T_MD_crosses, decode prog_13_method_24_code e.1 = .ok e.2 := by decide +kernel
set_option maxRecDepth 100000 in
theorem ok_MD_crosses : OkM M_MD_crosses := ⟨dk_MD_crosses, TT_t (List.mem_of_getElem? (i := 899) rfl) rfl, by decide +kernel, rfl, TT_t (List.mem_of_getElem? (i := 12) (by decide +kernel)) rfl, by decide +kernel, by decide +kernel⟩
def T_MD_isThere : List (Nat × Instr × Nat) := [(0, .aload_n 0, 1), (1, .iload_n 1, 1), (2, .invokevirtual 118, 3), (5, .ifCond .eq 16, 3), (8, .aload_n 0, 1), (9, .getfield 20, 3), (12, .iload_n 1, 1), (13, .iaload, 1), (14, .ifCond .le 7, 3), (17, .iconst 1, 1), (18, .goto 4, 3), (21, .iconst 0, 1), (22, .ireturn, 1)]
def M_MD_isThere : MI := (11, ⟨"TouchMapModel", "isThere", "(I)Z"⟩, prog_13_method_25_code, 2, (some .boolean), T_MD_isThere)
theorem dk_MD_isThere : ∀ e ∈ T_MD_isThere, decode prog_13_method_25_code e.1 = .ok e.2 := by decide +kernel
set_option maxRecDepth 100000 in
theorem ok_MD_isThere : OkM M_MD_isThere := ⟨dk_MD_isThere, TT_t (List.mem_of_getElem? (i := 871) rfl) rfl, by decide +kernel, rfl, TT_t (List.mem_of_getElem? (i := 12) (by decide +kernel)) rfl, by decide +kernel, by decide +kernel⟩
def T_MD_areNear : List (Nat × Instr × Nat) := [(0, .iconst 0, 1), (1, .istore_n 3, 1), (2, .iload_n 3, 1), (3, .iconst 1, 1), (4, .iadd, 1), (5, .aload_n 0, 1), (6, .getfield 29, 3), (9, .iload_n 1, 1), (10, .iaload, 1), (11, .if_icmp .ge 70, 3), (14, .iconst 0, 1), (15, .istore 4, 2), (17, .iload 4, 2), (19, .iconst 1, 1), (20, .iadd, 1), (21, .aload_n 0, 1), (22, .getfield 29, 3), (25, .iload_n 2, 1), (26, .iaload, 1), (27, .if_icmp .ge 48, 3), (30, .aload_n 0, 1), (31, .aload_n 0, 1), (32, .iload_n 1, 1), (33, .iload_n 3, 1), (34, .invokevirtual 150, 3), (37, .aload_n 0, 1), (38, .iload_n 1, 1), (39, .iload_n 3, 1), (40, .iconst 1, 1), (41, .iadd, 1), (42, .invokevirtual 150, 3), (45, .aload_n 0, 1), (46, .iload_n 2, 1), (47, .iload 4, 2), (49, .invokevirtual 150, 3), (52, .aload_n 0, 1), (53, .iload_n 2, 1), (54, .iload 4, 2), (56, .iconst 1, 1), (57, .iadd, 1), (58, .invokevirtual 150, 3), (61, .invokevirtual 170, 3), (64, .ifCond .eq 5, 3), (67, .iconst 1, 1), (68, .ireturn, 1), (69, .iinc 4 1, 3), (72, .goto (-55), 3), (75, .iinc 3 1, 3), (78, .goto (-76), 3), (81, .iconst 0, 1), (82, .ireturn, 1)]
def M_MD_areNear : MI := (11, ⟨"TouchMapModel", "areNear", "(II)Z"⟩, prog_13_method_26_code, 5, (some .boolean), T_MD_areNear)
theorem dk_MD_areNear : ∀ e ∈ T_MD_areNear, decode prog_13_method_26_code e.1 = .ok e.2 := by decide +kernel
set_option maxRecDepth 100000 in
theorem ok_MD_areNear : OkM M_MD_areNear := ⟨dk_MD_areNear, TT_t (List.mem_of_getElem? (i := 875) rfl) rfl, by decide +kernel, rfl, TT_t (List.mem_of_getElem? (i := 12) (by decide +kernel)) rfl, by decide +kernel, by decide +kernel⟩
def T_MD_near : List (Nat × Instr × Nat) := [(0, .aload_n 0, 1), (1, .iload_n 1, 1), (2, .invokevirtual 173, 3), (5, .ifCond .eq 16, 3), (8, .aload_n 0, 1), (9, .iload_n 2, 1), (10, .invokevirtual 173, 3), (13, .ifCond .eq 8, 3), (16, .iload_n 1, 1), (17, .iload_n 2, 1), (18, .if_icmp .ne 5, 3), (21, .iconst (-1), 1), (22, .ireturn, 1), (23, .aload_n 0, 1), (24, .iload_n 1, 1), (25, .iload_n 2, 1), (26, .invokevirtual 176, 3), (29, .ifCond .eq 7, 3), (32, .iconst 1, 1), (33, .goto 4, 3), (36, .iconst 0, 1), (37, .ireturn, 1)]
def M_MD_near : MI := (11, ⟨"TouchMapModel", "near", "(II)I"⟩, prog_13_method_27_code, 3, (some .int), T_MD_near)
theorem dk_MD_near : ∀ e ∈ T_MD_near, decode prog_13_method_27_code e.1 = .ok e.2 := by decide +kernel
set_option maxRecDepth 100000 in
theorem ok_MD_near : OkM M_MD_near := ⟨dk_MD_near, TT_t (List.mem_of_getElem? (i := 867) rfl) rfl, by decide +kernel, rfl, TT_t (List.mem_of_getElem? (i := 12) (by decide +kernel)) rfl, by decide +kernel, by decide +kernel⟩
def T_MD_crossings : List (Nat × Instr × Nat) := [(0, .aload_n 0, 1), (1, .iload_n 1, 1), (2, .invokevirtual 173, 3), (5, .ifCond .eq 16, 3), (8, .aload_n 0, 1), (9, .iload_n 2, 1), (10, .invokevirtual 173, 3), (13, .ifCond .eq 8, 3), (16, .iload_n 1, 1), (17, .iload_n 2, 1), (18, .if_icmp .ne 5, 3), (21, .iconst (-1), 1), (22, .ireturn, 1), (23, .iconst 0, 1), (24, .istore_n 3, 1), (25, .iconst 0, 1), (26, .istore 4, 2), (28, .iload 4, 2), (30, .iconst 1, 1), (31, .iadd, 1), (32, .aload_n 0, 1), (33, .getfield 29, 3), (36, .iload_n 1, 1), (37, .iaload, 1), (38, .if_icmp .ge 73, 3), (41, .iconst 0, 1), (42, .istore 5, 2), (44, .iload 5, 2), (46, .iconst 1, 1), (47, .iadd, 1), (48, .aload_n 0, 1), (49, .getfield 29, 3), (52, .iload_n 2, 1), (53, .iaload, 1), (54, .if_icmp .ge 51, 3), (57, .aload_n 0, 1), (58, .aload_n 0, 1), (59, .iload_n 1, 1), (60, .iload 4, 2), (62, .invokevirtual 150, 3), (65, .aload_n 0, 1), (66, .iload_n 1, 1), (67, .iload 4, 2), (69, .iconst 1, 1), (70, .iadd, 1), (71, .invokevirtual 150, 3), (74, .aload_n 0, 1), (75, .iload_n 2, 1), (76, .iload 5, 2), (78, .invokevirtual 150, 3), (81, .aload_n 0, 1), (82, .iload_n 2, 1), (83, .iload 5, 2), (85, .iconst 1, 1), (86, .iadd, 1), (87, .invokevirtual 150, 3), (90, .invokevirtual 179, 3), (93, .ifCond .eq 6, 3), (96, .iinc 3 1, 3), (99, .iinc 5 1, 3), (102, .goto (-58), 3), (105, .iinc 4 1, 3), (108, .goto (-80), 3), (111, .iload_n 3, 1), (112, .ireturn, 1)]
def M_MD_crossings : MI := (11, ⟨"TouchMapModel", "crossings", "(II)I"⟩, prog_13_method_28_code, 6, (some .int), T_MD_crossings)
theorem dk_MD_crossings : ∀ e ∈ T_MD_crossings, decode prog_13_method_28_code e.1 = .ok e.2 := by decide +kernel
set_option maxRecDepth 100000 in
theorem ok_MD_crossings : OkM M_MD_crossings := ⟨dk_MD_crossings, TT_t (List.mem_of_getElem? (i := 895) rfl) rfl, by decide +kernel, rfl, TT_t (List.mem_of_getElem? (i := 12) (by decide +kernel)) rfl, by decide +kernel, by decide +kernel⟩
def T_MD_ones : List (Nat × Instr × Nat) := [(0, .iconst 0, 1), (1, .istore_n 1, 1), (2, .iconst 0, 1), (3, .istore_n 2, 1), (4, .iload_n 2, 1), (5, .bipush 12, 2), (7, .if_icmp .ge 17, 3), (10, .iload_n 1, 1), (11, .iload_n 0, 1), (12, .iload_n 2, 1), (13, .ishr, 1), (14, .iconst 1, 1), (15, .iand, 1), (16, .iadd, 1), (17, .istore_n 1, 1), (18, .iinc 2 1, 3), (21, .goto (-17), 3), (24, .iload_n 1, 1), (25, .ireturn, 1)]
def M_MD_ones : MI := (11, ⟨"TouchMapModel", "ones", "(I)I"⟩, prog_13_method_29_code, 3, (some .int), T_MD_ones)
theorem dk_MD_ones : ∀ e ∈ T_MD_ones, decode prog_13_method_29_code e.1 = .ok e.2 := by decide +kernel
set_option maxRecDepth 100000 in
theorem ok_MD_ones : OkM M_MD_ones := ⟨dk_MD_ones, TT_t (List.mem_of_getElem? (i := 920) rfl) rfl, by decide +kernel, rfl, TT_t (List.mem_of_getElem? (i := 12) (by decide +kernel)) rfl, by decide +kernel, by decide +kernel⟩
def T_MD_isFirst : List (Nat × Instr × Nat) := [(0, .iload_n 0, 1), (1, .iload_n 1, 1), (2, .ixor, 1), (3, .istore_n 2, 1), (4, .iload_n 2, 1), (5, .iload_n 2, 1), (6, .ineg, 1), (7, .iand, 1), (8, .iload_n 0, 1), (9, .iand, 1), (10, .ifCond .eq 7, 3), (13, .iconst 1, 1), (14, .goto 4, 3), (17, .iconst 0, 1), (18, .ireturn, 1)]
def M_MD_isFirst : MI := (11, ⟨"TouchMapModel", "isFirst", "(II)Z"⟩, prog_13_method_30_code, 3, (some .boolean), T_MD_isFirst)
theorem dk_MD_isFirst : ∀ e ∈ T_MD_isFirst, decode prog_13_method_30_code e.1 = .ok e.2 := by decide +kernel
set_option maxRecDepth 100000 in
theorem ok_MD_isFirst : OkM M_MD_isFirst := ⟨dk_MD_isFirst, TT_t (List.mem_of_getElem? (i := 923) rfl) rfl, by decide +kernel, rfl, TT_t (List.mem_of_getElem? (i := 12) (by decide +kernel)) rfl, by decide +kernel, by decide +kernel⟩
def T_MD_mayBe : List (Nat × Instr × Nat) := [(0, .iconst 0, 1), (1, .istore_n 2, 1), (2, .iload_n 2, 1), (3, .bipush 12, 2), (5, .if_icmp .ge 31, 3), (8, .iload_n 1, 1), (9, .iload_n 2, 1), (10, .ishr, 1), (11, .iconst 1, 1), (12, .iand, 1), (13, .iconst 1, 1), (14, .if_icmp .ne 16, 3), (17, .aload_n 0, 1), (18, .getfield 42, 3), (21, .iload_n 2, 1), (22, .iaload, 1), (23, .iload_n 1, 1), (24, .iand, 1), (25, .ifCond .eq 5, 3), (28, .iconst 0, 1), (29, .ireturn, 1), (30, .iinc 2 1, 3), (33, .goto (-31), 3), (36, .iconst 1, 1), (37, .ireturn, 1)]
def M_MD_mayBe : MI := (11, ⟨"TouchMapModel", "mayBe", "(I)Z"⟩, prog_13_method_31_code, 3, (some .boolean), T_MD_mayBe)
theorem dk_MD_mayBe : ∀ e ∈ T_MD_mayBe, decode prog_13_method_31_code e.1 = .ok e.2 := by decide +kernel
set_option maxRecDepth 100000 in
theorem ok_MD_mayBe : OkM M_MD_mayBe := ⟨dk_MD_mayBe, TT_t (List.mem_of_getElem? (i := 913) rfl) rfl, by decide +kernel, rfl, TT_t (List.mem_of_getElem? (i := 12) (by decide +kernel)) rfl, by decide +kernel, by decide +kernel⟩
def T_MD_worthOf : List (Nat × Instr × Nat) := [(0, .iconst 0, 1), (1, .istore_n 2, 1), (2, .iconst 0, 1), (3, .istore_n 3, 1), (4, .iload_n 3, 1), (5, .bipush 12, 2), (7, .if_icmp .ge 27, 3), (10, .iload_n 1, 1), (11, .iload_n 3, 1), (12, .ishr, 1), (13, .iconst 1, 1), (14, .iand, 1), (15, .iconst 1, 1), (16, .if_icmp .ne 12, 3), (19, .iload_n 2, 1), (20, .aload_n 0, 1), (21, .getfield 13, 3), (24, .iload_n 3, 1), (25, .iaload, 1), (26, .iadd, 1), (27, .istore_n 2, 1), (28, .iinc 3 1, 3), (31, .goto (-27), 3), (34, .iload_n 2, 1), (35, .ireturn, 1)]
def M_MD_worthOf : MI := (11, ⟨"TouchMapModel", "worthOf", "(I)I"⟩, prog_13_method_32_code, 4, (some .int), T_MD_worthOf)
theorem dk_MD_worthOf : ∀ e ∈ T_MD_worthOf, decode prog_13_method_32_code e.1 = .ok e.2 := by decide +kernel
set_option maxRecDepth 100000 in
theorem ok_MD_worthOf : OkM M_MD_worthOf := ⟨dk_MD_worthOf, TT_t (List.mem_of_getElem? (i := 917) rfl) rfl, by decide +kernel, rfl, TT_t (List.mem_of_getElem? (i := 12) (by decide +kernel)) rfl, by decide +kernel, by decide +kernel⟩
def T_MD_keep : List (Nat × Instr × Nat) := [(0, .iconst 0, 1), (1, .istore_n 1, 1), (2, .iconst 0, 1), (3, .istore_n 2, 1), (4, .iconst 0, 1), (5, .istore_n 3, 1), (6, .iload_n 3, 1), (7, .bipush 12, 2), (9, .if_icmp .ge 102, 3), (12, .aload_n 0, 1), (13, .getfield 42, 3), (16, .iload_n 3, 1), (17, .iconst 0, 1), (18, .iastore, 1), (19, .aload_n 0, 1), (20, .iload_n 3, 1), (21, .invokevirtual 173, 3), (24, .ifCond .ne 6, 3), (27, .goto 78, 3), (30, .iload_n 1, 1), (31, .iconst 1, 1), (32, .iload_n 3, 1), (33, .ishl, 1), (34, .ior, 1), (35, .istore_n 1, 1), (36, .aload_n 0, 1), (37, .getfield 17, 3), (40, .iload_n 3, 1), (41, .baload, 1), (42, .ifCond .eq 9, 3), (45, .iload_n 2, 1), (46, .iconst 1, 1), (47, .iload_n 3, 1), (48, .ishl, 1), (49, .ior, 1), (50, .istore_n 2, 1), (51, .iconst 0, 1), (52, .istore 4, 2), (54, .iload 4, 2), (56, .bipush 12, 2), (58, .if_icmp .ge 47, 3), (61, .iload 4, 2), (63, .iload_n 3, 1), (64, .if_icmp .eq 35, 3), (67, .aload_n 0, 1), (68, .iload 4, 2), (70, .invokevirtual 173, 3), (73, .ifCond .eq 26, 3), (76, .aload_n 0, 1), (77, .iload 4, 2), (79, .iload_n 3, 1), (80, .invokevirtual 176, 3), (83, .ifCond .eq 16, 3), (86, .aload_n 0, 1), (87, .getfield 42, 3), (90, .iload_n 3, 1), (91, .dup2, 1), (92, .iaload, 1), (93, .iconst 1, 1), (94, .iload 4, 2), (96, .ishl, 1), (97, .ior, 1), (98, .iastore, 1), (99, .iinc 4 1, 3), (102, .goto (-48), 3), (105, .iinc 3 1, 3), (108, .goto (-102), 3), (111, .aload_n 0, 1), (112, .iload_n 2, 1), (113, .invokevirtual 182, 3), (116, .ifCond .ne 5, 3), (119, .iconst (-1), 1), (120, .ireturn, 1), (121, .iload_n 2, 1), (122, .istore_n 3, 1), (123, .iconst 0, 1), (124, .istore 4, 2), (126, .iload 4, 2), (128, .sipush 4096, 3), (131, .if_icmp .ge 92, 3), (134, .iload 4, 2), (136, .iload_n 1, 1), (137, .iconst (-1), 1), (138, .ixor, 1), (139, .iand, 1), (140, .ifCond .ne 77, 3), (143, .iload_n 2, 1), (144, .iload 4, 2), (146, .iconst (-1), 1), (147, .ixor, 1), (148, .iand, 1), (149, .ifCond .ne 68, 3), (152, .aload_n 0, 1), (153, .iload 4, 2), (155, .invokevirtual 182, 3), (158, .ifCond .ne 6, 3), (161, .goto 56, 3), (164, .aload_n 0, 1), (165, .iload 4, 2), (167, .invokevirtual 185, 3), (170, .aload_n 0, 1), (171, .iload_n 3, 1), (172, .invokevirtual 185, 3), (175, .isub, 1), (176, .istore 5, 2), (178, .iload 5, 2), (180, .ifCond .ne 15, 3), (183, .iload 4, 2), (185, .invokestatic 189, 3), (188, .iload_n 3, 1), (189, .invokestatic 189, 3), (192, .isub, 1), (193, .istore 5, 2), (195, .iload 5, 2), (197, .ifCond .gt 17, 3), (200, .iload 5, 2), (202, .ifCond .ne 15, 3), (205, .iload 4, 2), (207, .iload_n 3, 1), (208, .invokestatic 192, 3), (211, .ifCond .eq 6, 3), (214, .iload 4, 2), (216, .istore_n 3, 1), (217, .iinc 4 1, 3), (220, .goto (-94), 3), (223, .aload_n 0, 1), (224, .iload_n 3, 1), (225, .putfield 195, 3), (228, .aload_n 0, 1), (229, .iconst 1, 1), (230, .putfield 198, 3), (233, .aload_n 0, 1), (234, .iload_n 3, 1), (235, .invokevirtual 185, 3), (238, .ireturn, 1)]
def M_MD_keep : MI := (11, ⟨"TouchMapModel", "keep", "()I"⟩, prog_13_method_33_code, 6, (some .int), T_MD_keep)
theorem dk_MD_keep : ∀ e ∈ T_MD_keep, decode prog_13_method_33_code e.1 = .ok e.2 := by decide +kernel
set_option maxRecDepth 100000 in
theorem ok_MD_keep : OkM M_MD_keep := ⟨dk_MD_keep, TT_t (List.mem_of_getElem? (i := 909) rfl) rfl, by decide +kernel, rfl, TT_t (List.mem_of_getElem? (i := 12) (by decide +kernel)) rfl, by decide +kernel, by decide +kernel⟩
def T_MD_kept : List (Nat × Instr × Nat) := [(0, .aload_n 0, 1), (1, .getfield 198, 3), (4, .ifCond .eq 24, 3), (7, .iload_n 1, 1), (8, .iconst 0, 1), (9, .bipush 11, 2), (11, .invokestatic 114, 3), (14, .ifCond .eq 14, 3), (17, .aload_n 0, 1), (18, .getfield 195, 3), (21, .iload_n 1, 1), (22, .ishr, 1), (23, .iconst 1, 1), (24, .iand, 1), (25, .goto 4, 3), (28, .iconst (-1), 1), (29, .ireturn, 1)]
def M_MD_kept : MI := (11, ⟨"TouchMapModel", "kept", "(I)I"⟩, prog_13_method_34_code, 2, (some .int), T_MD_kept)
theorem dk_MD_kept : ∀ e ∈ T_MD_kept, decode prog_13_method_34_code e.1 = .ok e.2 := by decide +kernel
set_option maxRecDepth 100000 in
theorem ok_MD_kept : OkM M_MD_kept := ⟨dk_MD_kept, TT_t (List.mem_of_getElem? (i := 927) rfl) rfl, by decide +kernel, rfl, TT_t (List.mem_of_getElem? (i := 12) (by decide +kernel)) rfl, by decide +kernel, by decide +kernel⟩
def T_MD_letter : List (Nat × Instr × Nat) := [(0, .iload_n 1, 1), (1, .bipush 97, 2), (3, .if_icmp .lt 18, 3), (6, .iload_n 1, 1), (7, .bipush 122, 2), (9, .if_icmp .gt 12, 3), (12, .aload_n 0, 1), (13, .getfield 202, 3), (16, .bipush 12, 2), (18, .if_icmp .ne 5, 3), (21, .iconst (-1), 1), (22, .ireturn, 1), (23, .aload_n 0, 1), (24, .getfield 48, 3), (27, .aload_n 0, 1), (28, .getfield 202, 3), (31, .iload_n 1, 1), (32, .iastore, 1), (33, .aload_n 0, 1), (34, .dup, 1), (35, .getfield 202, 3), (38, .iconst 1, 1), (39, .iadd, 1), (40, .putfield 202, 3), (43, .aload_n 0, 1), (44, .getfield 202, 3), (47, .ireturn, 1)]
def M_MD_letter : MI := (11, ⟨"TouchMapModel", "letter", "(I)I"⟩, prog_13_method_35_code, 2, (some .int), T_MD_letter)
theorem dk_MD_letter : ∀ e ∈ T_MD_letter, decode prog_13_method_35_code e.1 = .ok e.2 := by decide +kernel
set_option maxRecDepth 100000 in
theorem ok_MD_letter : OkM M_MD_letter := ⟨dk_MD_letter, TT_t (List.mem_of_getElem? (i := 931) rfl) rfl, by decide +kernel, rfl, TT_t (List.mem_of_getElem? (i := 12) (by decide +kernel)) rfl, by decide +kernel, by decide +kernel⟩
def T_MD_contract : List (Nat × Instr × Nat) := [(0, .aload_n 0, 1), (1, .getfield 202, 3), (4, .istore_n 3, 1), (5, .aload_n 0, 1), (6, .iconst 0, 1), (7, .putfield 202, 3), (10, .iload_n 1, 1), (11, .iconst 0, 1), (12, .bipush 9, 2), (14, .invokestatic 114, 3), (17, .ifCond .eq 27, 3), (20, .iload_n 2, 1), (21, .ifCond .eq 25, 3), (24, .iload_n 2, 1), (25, .iconst 1, 1), (26, .bipush 63, 2), (28, .invokestatic 114, 3), (31, .ifCond .eq 13, 3), (34, .iload_n 3, 1), (35, .iconst 2, 1), (36, .if_icmp .lt 8, 3), (39, .iload_n 3, 1), (40, .iconst 4, 1), (41, .if_icmp .le 5, 3), (44, .iconst 0, 1), (45, .ireturn, 1), (46, .aload_n 0, 1), (47, .getfield 51, 3), (50, .iload_n 1, 1), (51, .iload_n 2, 1), (52, .ifCond .ne 7, 3), (55, .iconst 0, 1), (56, .goto 4, 3), (59, .iload_n 3, 1), (60, .iastore, 1), (61, .aload_n 0, 1), (62, .getfield 57, 3), (65, .iload_n 1, 1), (66, .iload_n 2, 1), (67, .iastore, 1), (68, .iconst 0, 1), (69, .istore 4, 2), (71, .iload 4, 2), (73, .iload_n 3, 1), (74, .if_icmp .ge 31, 3), (77, .iload_n 2, 1), (78, .ifCond .eq 27, 3), (81, .aload_n 0, 1), (82, .getfield 54, 3), (85, .iconst 4, 1), (86, .iload_n 1, 1), (87, .imul, 1), (88, .iload 4, 2), (90, .iadd, 1), (91, .aload_n 0, 1), (92, .getfield 48, 3), (95, .iload 4, 2), (97, .iaload, 1), (98, .iastore, 1), (99, .iinc 4 1, 3), (102, .goto (-31), 3), (105, .iconst 1, 1), (106, .ireturn, 1)]
def M_MD_contract : MI := (11, ⟨"TouchMapModel", "contract", "(II)Z"⟩, prog_13_method_36_code, 5, (some .boolean), T_MD_contract)
theorem dk_MD_contract : ∀ e ∈ T_MD_contract, decode prog_13_method_36_code e.1 = .ok e.2 := by decide +kernel
set_option maxRecDepth 100000 in
theorem ok_MD_contract : OkM M_MD_contract := ⟨dk_MD_contract, TT_t (List.mem_of_getElem? (i := 935) rfl) rfl, by decide +kernel, rfl, TT_t (List.mem_of_getElem? (i := 12) (by decide +kernel)) rfl, by decide +kernel, by decide +kernel⟩
def T_MD_stands : List (Nat × Instr × Nat) := [(0, .aload_n 0, 1), (1, .getfield 51, 3), (4, .iload_n 1, 1), (5, .iaload, 1), (6, .ifCond .eq 20, 3), (9, .iload_n 3, 1), (10, .aload_n 0, 1), (11, .getfield 51, 3), (14, .iload_n 1, 1), (15, .iaload, 1), (16, .iadd, 1), (17, .aload_n 0, 1), (18, .getfield 60, 3), (21, .iload_n 2, 1), (22, .iaload, 1), (23, .if_icmp .le 5, 3), (26, .iconst 0, 1), (27, .ireturn, 1), (28, .iconst 0, 1), (29, .istore 4, 2), (31, .iload 4, 2), (33, .aload_n 0, 1), (34, .getfield 51, 3), (37, .iload_n 1, 1), (38, .iaload, 1), (39, .if_icmp .ge 39, 3), (42, .aload_n 0, 1), (43, .getfield 63, 3), (46, .bipush 12, 2), (48, .iload_n 2, 1), (49, .imul, 1), (50, .iload_n 3, 1), (51, .iadd, 1), (52, .iload 4, 2), (54, .iadd, 1), (55, .iaload, 1), (56, .aload_n 0, 1), (57, .getfield 54, 3), (60, .iconst 4, 1), (61, .iload_n 1, 1), (62, .imul, 1), (63, .iload 4, 2), (65, .iadd, 1), (66, .iaload, 1), (67, .if_icmp .eq 5, 3), (70, .iconst 0, 1), (71, .ireturn, 1), (72, .iinc 4 1, 3), (75, .goto (-44), 3), (78, .iconst 1, 1), (79, .ireturn, 1)]
def M_MD_stands : MI := (11, ⟨"TouchMapModel", "stands", "(III)Z"⟩, prog_13_method_37_code, 5, (some .boolean), T_MD_stands)
theorem dk_MD_stands : ∀ e ∈ T_MD_stands, decode prog_13_method_37_code e.1 = .ok e.2 := by decide +kernel
set_option maxRecDepth 100000 in
theorem ok_MD_stands : OkM M_MD_stands := ⟨dk_MD_stands, TT_t (List.mem_of_getElem? (i := 947) rfl) rfl, by decide +kernel, rfl, TT_t (List.mem_of_getElem? (i := 12) (by decide +kernel)) rfl, by decide +kernel, by decide +kernel⟩
def T_MD_writes : List (Nat × Instr × Nat) := [(0, .aload_n 0, 1), (1, .getfield 60, 3), (4, .iload_n 1, 1), (5, .iaload, 1), (6, .istore_n 2, 1), (7, .aload_n 0, 1), (8, .getfield 75, 3), (11, .iload_n 2, 1), (12, .iconst 0, 1), (13, .iastore, 1), (14, .iload_n 2, 1), (15, .iconst 1, 1), (16, .isub, 1), (17, .istore_n 3, 1), (18, .iload_n 3, 1), (19, .ifCond .lt 99, 3), (22, .aload_n 0, 1), (23, .getfield 75, 3), (26, .iload_n 3, 1), (27, .aload_n 0, 1), (28, .getfield 75, 3), (31, .iload_n 3, 1), (32, .iconst 1, 1), (33, .iadd, 1), (34, .iaload, 1), (35, .iconst 1, 1), (36, .iadd, 1), (37, .iastore, 1), (38, .iconst 0, 1), (39, .istore 4, 2), (41, .iload 4, 2), (43, .bipush 10, 2), (45, .if_icmp .ge 67, 3), (48, .aload_n 0, 1), (49, .iload 4, 2), (51, .iload_n 1, 1), (52, .iload_n 3, 1), (53, .invokevirtual 205, 3), (56, .ifCond .eq 50, 3), (59, .aload_n 0, 1), (60, .getfield 75, 3), (63, .iload_n 3, 1), (64, .aload_n 0, 1), (65, .getfield 51, 3), (68, .iload 4, 2), (70, .iaload, 1), (71, .iadd, 1), (72, .iaload, 1), (73, .iconst 1, 1), (74, .iadd, 1), (75, .aload_n 0, 1), (76, .getfield 75, 3), (79, .iload_n 3, 1), (80, .iaload, 1), (81, .if_icmp .ge 25, 3), (84, .aload_n 0, 1), (85, .getfield 75, 3), (88, .iload_n 3, 1), (89, .aload_n 0, 1), (90, .getfield 75, 3), (93, .iload_n 3, 1), (94, .aload_n 0, 1), (95, .getfield 51, 3), (98, .iload 4, 2), (100, .iaload, 1), (101, .iadd, 1), (102, .iaload, 1), (103, .iconst 1, 1), (104, .iadd, 1), (105, .iastore, 1), (106, .iinc 4 1, 3), (109, .goto (-68), 3), (112, .iinc 3 (-1), 3), (115, .goto (-97), 3), (118, .iconst 0, 1), (119, .istore_n 3, 1), (120, .iconst 0, 1), (121, .istore 4, 2), (123, .iload_n 3, 1), (124, .iload_n 2, 1), (125, .if_icmp .ge 133, 3), (128, .iconst 1, 1), (129, .istore 5, 2), (131, .aload_n 0, 1), (132, .getfield 78, 3), (135, .iload 4, 2), (137, .aload_n 0, 1), (138, .getfield 45, 3), (141, .aload_n 0, 1), (142, .getfield 63, 3), (145, .bipush 12, 2), (147, .iload_n 1, 1), (148, .imul, 1), (149, .iload_n 3, 1), (150, .iadd, 1), (151, .iaload, 1), (152, .bipush 97, 2), (154, .isub, 1), (155, .iaload, 1), (156, .iastore, 1), (157, .iconst 0, 1), (158, .istore 6, 2), (160, .iload 6, 2), (162, .bipush 10, 2), (164, .if_icmp .ge 83, 3), (167, .aload_n 0, 1), (168, .iload 6, 2), (170, .iload_n 1, 1), (171, .iload_n 3, 1), (172, .invokevirtual 205, 3), (175, .ifCond .eq 66, 3), (178, .aload_n 0, 1), (179, .getfield 75, 3), (182, .iload_n 3, 1), (183, .aload_n 0, 1), (184, .getfield 51, 3), (187, .iload 6, 2), (189, .iaload, 1), (190, .iadd, 1), (191, .iaload, 1), (192, .iconst 1, 1), (193, .iadd, 1), (194, .aload_n 0, 1), (195, .getfield 75, 3), (198, .iload_n 3, 1), (199, .iaload, 1), (200, .if_icmp .ne 41, 3), (203, .aload_n 0, 1), (204, .getfield 51, 3), (207, .iload 6, 2), (209, .iaload, 1), (210, .iload 5, 2), (212, .if_icmp .gt 6, 3), (215, .goto 26, 3), (218, .aload_n 0, 1), (219, .getfield 51, 3), (222, .iload 6, 2), (224, .iaload, 1), (225, .istore 5, 2), (227, .aload_n 0, 1), (228, .getfield 78, 3), (231, .iload 4, 2), (233, .aload_n 0, 1), (234, .getfield 57, 3), (237, .iload 6, 2), (239, .iaload, 1), (240, .iastore, 1), (241, .iinc 6 1, 3), (244, .goto (-84), 3), (247, .iload_n 3, 1), (248, .iload 5, 2), (250, .iadd, 1), (251, .istore_n 3, 1), (252, .iinc 4 1, 3), (255, .goto (-132), 3), (258, .aload_n 0, 1), (259, .getfield 75, 3), (262, .iconst 0, 1), (263, .iaload, 1), (264, .ireturn, 1)]
def M_MD_writes : MI := (11, ⟨"TouchMapModel", "writes", "(I)I"⟩, prog_13_method_38_code, 7, (some .int), T_MD_writes)
theorem dk_MD_writes : ∀ e ∈ T_MD_writes, decode prog_13_method_38_code e.1 = .ok e.2 := by decide +kernel
set_option maxRecDepth 100000 in
theorem ok_MD_writes : OkM M_MD_writes := ⟨dk_MD_writes, TT_t (List.mem_of_getElem? (i := 943) rfl) rfl, by decide +kernel, rfl, TT_t (List.mem_of_getElem? (i := 12) (by decide +kernel)) rfl, by decide +kernel, by decide +kernel⟩
def T_MD_isName : List (Nat × Instr × Nat) := [(0, .iload_n 1, 1), (1, .iconst 0, 1), (2, .bipush 7, 2), (4, .invokestatic 114, 3), (7, .ifCond .eq 16, 3), (10, .aload_n 0, 1), (11, .getfield 60, 3), (14, .iload_n 1, 1), (15, .iaload, 1), (16, .ifCond .le 7, 3), (19, .iconst 1, 1), (20, .goto 4, 3), (23, .iconst 0, 1), (24, .ireturn, 1)]
def M_MD_isName : MI := (11, ⟨"TouchMapModel", "isName", "(I)Z"⟩, prog_13_method_39_code, 2, (some .boolean), T_MD_isName)
theorem dk_MD_isName : ∀ e ∈ T_MD_isName, decode prog_13_method_39_code e.1 = .ok e.2 := by decide +kernel
set_option maxRecDepth 100000 in
theorem ok_MD_isName : OkM M_MD_isName := ⟨dk_MD_isName, TT_t (List.mem_of_getElem? (i := 955) rfl) rfl, by decide +kernel, rfl, TT_t (List.mem_of_getElem? (i := 12) (by decide +kernel)) rfl, by decide +kernel, by decide +kernel⟩
def T_MD_name : List (Nat × Instr × Nat) := [(0, .aload_n 0, 1), (1, .getfield 202, 3), (4, .istore 5, 2), (6, .aload_n 0, 1), (7, .iconst 0, 1), (8, .putfield 202, 3), (11, .iload_n 1, 1), (12, .iconst 0, 1), (13, .bipush 7, 2), (15, .invokestatic 114, 3), (18, .ifCond .eq 42, 3), (21, .iload 5, 2), (23, .ifCond .eq 37, 3), (26, .iload_n 2, 1), (27, .iconst 0, 1), (28, .sipush 400, 3), (31, .invokestatic 114, 3), (34, .ifCond .eq 26, 3), (37, .iload_n 3, 1), (38, .iconst 0, 1), (39, .sipush 400, 3), (42, .invokestatic 114, 3), (45, .ifCond .eq 15, 3), (48, .iload 4, 2), (50, .iconst 0, 1), (51, .sipush 1000, 3), (54, .invokestatic 114, 3), (57, .ifCond .ne 5, 3), (60, .iconst (-1), 1), (61, .ireturn, 1), (62, .aload_n 0, 1), (63, .getfield 60, 3), (66, .iload_n 1, 1), (67, .iload 5, 2), (69, .iastore, 1), (70, .iconst 0, 1), (71, .istore 6, 2), (73, .iload 6, 2), (75, .iload 5, 2), (77, .if_icmp .ge 28, 3), (80, .aload_n 0, 1), (81, .getfield 63, 3), (84, .bipush 12, 2), (86, .iload_n 1, 1), (87, .imul, 1), (88, .iload 6, 2), (90, .iadd, 1), (91, .aload_n 0, 1), (92, .getfield 48, 3), (95, .iload 6, 2), (97, .iaload, 1), (98, .iastore, 1), (99, .iinc 6 1, 3), (102, .goto (-29), 3), (105, .aload_n 0, 1), (106, .getfield 66, 3), (109, .iload_n 1, 1), (110, .iload_n 2, 1), (111, .iastore, 1), (112, .aload_n 0, 1), (113, .getfield 69, 3), (116, .iload_n 1, 1), (117, .iload_n 3, 1), (118, .iastore, 1), (119, .aload_n 0, 1), (120, .getfield 72, 3), (123, .iload_n 1, 1), (124, .iload 4, 2), (126, .iastore, 1), (127, .aload_n 0, 1), (128, .iload_n 1, 1), (129, .invokevirtual 208, 3), (132, .ireturn, 1)]
def M_MD_name : MI := (11, ⟨"TouchMapModel", "name", "(IIII)I"⟩, prog_13_method_40_code, 7, (some .int), T_MD_name)
theorem dk_MD_name : ∀ e ∈ T_MD_name, decode prog_13_method_40_code e.1 = .ok e.2 := by decide +kernel
set_option maxRecDepth 100000 in
theorem ok_MD_name : OkM M_MD_name := ⟨dk_MD_name, TT_t (List.mem_of_getElem? (i := 939) rfl) rfl, by decide +kernel, rfl, TT_t (List.mem_of_getElem? (i := 12) (by decide +kernel)) rfl, by decide +kernel, by decide +kernel⟩
def T_MD_erase : List (Nat × Instr × Nat) := [(0, .aload_n 0, 1), (1, .iload_n 1, 1), (2, .invokevirtual 211, 3), (5, .ifCond .ne 5, 3), (8, .iconst 0, 1), (9, .ireturn, 1), (10, .aload_n 0, 1), (11, .getfield 60, 3), (14, .iload_n 1, 1), (15, .iconst 0, 1), (16, .iastore, 1), (17, .iconst 1, 1), (18, .ireturn, 1)]
def M_MD_erase : MI := (11, ⟨"TouchMapModel", "erase", "(I)Z"⟩, prog_13_method_41_code, 2, (some .boolean), T_MD_erase)
theorem dk_MD_erase : ∀ e ∈ T_MD_erase, decode prog_13_method_41_code e.1 = .ok e.2 := by decide +kernel
set_option maxRecDepth 100000 in
theorem ok_MD_erase : OkM M_MD_erase := ⟨dk_MD_erase, TT_t (List.mem_of_getElem? (i := 951) rfl) rfl, by decide +kernel, rfl, TT_t (List.mem_of_getElem? (i := 12) (by decide +kernel)) rfl, by decide +kernel, by decide +kernel⟩
def T_MD_cell : List (Nat × Instr × Nat) := [(0, .aload_n 0, 1), (1, .iload_n 1, 1), (2, .invokevirtual 211, 3), (5, .ifCond .eq 25, 3), (8, .iload_n 2, 1), (9, .ifCond .lt 21, 3), (12, .iload_n 2, 1), (13, .aload_n 0, 1), (14, .iload_n 1, 1), (15, .invokevirtual 208, 3), (18, .if_icmp .ge 12, 3), (21, .aload_n 0, 1), (22, .getfield 78, 3), (25, .iload_n 2, 1), (26, .iaload, 1), (27, .goto 4, 3), (30, .iconst (-1), 1), (31, .ireturn, 1)]
def M_MD_cell : MI := (11, ⟨"TouchMapModel", "cell", "(II)I"⟩, prog_13_method_42_code, 3, (some .int), T_MD_cell)
theorem dk_MD_cell : ∀ e ∈ T_MD_cell, decode prog_13_method_42_code e.1 = .ok e.2 := by decide +kernel
set_option maxRecDepth 100000 in
theorem ok_MD_cell : OkM M_MD_cell := ⟨dk_MD_cell, TT_t (List.mem_of_getElem? (i := 959) rfl) rfl, by decide +kernel, rfl, TT_t (List.mem_of_getElem? (i := 12) (by decide +kernel)) rfl, by decide +kernel, by decide +kernel⟩
def T_MD_isThrough : List (Nat × Instr × Nat) := [(0, .aload_n 0, 1), (1, .getfield 23, 3), (4, .iload_n 2, 1), (5, .iaload, 1), (6, .aload_n 0, 1), (7, .getfield 23, 3), (10, .iload_n 1, 1), (11, .iaload, 1), (12, .isub, 1), (13, .i2l, 1), (14, .lstore 4, 2), (16, .aload_n 0, 1), (17, .getfield 26, 3), (20, .iload_n 2, 1), (21, .iaload, 1), (22, .aload_n 0, 1), (23, .getfield 26, 3), (26, .iload_n 1, 1), (27, .iaload, 1), (28, .isub, 1), (29, .i2l, 1), (30, .lstore 6, 2), (32, .aload_n 0, 1), (33, .getfield 81, 3), (36, .iload_n 3, 1), (37, .iaload, 1), (38, .aload_n 0, 1), (39, .getfield 23, 3), (42, .iload_n 1, 1), (43, .iaload, 1), (44, .isub, 1), (45, .i2l, 1), (46, .lstore 8, 2), (48, .lload 8, 2), (50, .aload_n 0, 1), (51, .getfield 87, 3), (54, .iload_n 3, 1), (55, .iaload, 1), (56, .i2l, 1), (57, .ladd, 1), (58, .lstore 10, 2), (60, .aload_n 0, 1), (61, .getfield 84, 3), (64, .iload_n 3, 1), (65, .iaload, 1), (66, .aload_n 0, 1), (67, .getfield 26, 3), (70, .iload_n 1, 1), (71, .iaload, 1), (72, .isub, 1), (73, .i2l, 1), (74, .lstore 12, 2), (76, .lload 12, 2), (78, .ldc2_w 214, 3), (81, .ladd, 1), (82, .lstore 14, 2), (84, .lload 4, 2), (86, .lconst 0, 1), (87, .lcmp, 1), (88, .ifCond .ne 17, 3), (91, .lload 8, 2), (93, .lconst 0, 1), (94, .lcmp, 1), (95, .ifCond .ge 31, 3), (98, .lload 10, 2), (100, .lconst 0, 1), (101, .lcmp, 1), (102, .ifCond .le 24, 3), (105, .lload 6, 2), (107, .lconst 0, 1), (108, .lcmp, 1), (109, .ifCond .ne 19, 3), (112, .lload 12, 2), (114, .lconst 0, 1), (115, .lcmp, 1), (116, .ifCond .ge 10, 3), (119, .lload 14, 2), (121, .lconst 0, 1), (122, .lcmp, 1), (123, .ifCond .gt 5, 3), (126, .iconst 0, 1), (127, .ireturn, 1), (128, .lload 4, 2), (130, .lconst 0, 1), (131, .lcmp, 1), (132, .ifCond .le 8, 3), (135, .lload 8, 2), (137, .goto 6, 3), (140, .lload 10, 2), (142, .lneg, 1), (143, .lstore 16, 2), (145, .lload 4, 2), (147, .lconst 0, 1), (148, .lcmp, 1), (149, .ifCond .le 8, 3), (152, .lload 10, 2), (154, .goto 6, 3), (157, .lload 8, 2), (159, .lneg, 1), (160, .lstore 18, 2), (162, .lload 4, 2), (164, .lconst 0, 1), (165, .lcmp, 1), (166, .ifCond .le 8, 3), (169, .lload 4, 2), (171, .goto 6, 3), (174, .lload 4, 2), (176, .lneg, 1), (177, .lstore 20, 2), (179, .lload 6, 2), (181, .lconst 0, 1), (182, .lcmp, 1), (183, .ifCond .le 8, 3), (186, .lload 12, 2), (188, .goto 6, 3), (191, .lload 14, 2), (193, .lneg, 1), (194, .lstore 22, 2), (196, .lload 6, 2), (198, .lconst 0, 1), (199, .lcmp, 1), (200, .ifCond .le 8, 3), (203, .lload 14, 2), (205, .goto 6, 3), (208, .lload 12, 2), (210, .lneg, 1), (211, .lstore 24, 2), (213, .lload 6, 2), (215, .lconst 0, 1), (216, .lcmp, 1), (217, .ifCond .le 8, 3), (220, .lload 6, 2), (222, .goto 6, 3), (225, .lload 6, 2), (227, .lneg, 1), (228, .lstore 26, 2), (230, .lload 4, 2), (232, .lconst 0, 1), (233, .lcmp, 1), (234, .ifCond .eq 18, 3), (237, .lload 16, 2), (239, .lload 20, 2), (241, .lcmp, 1), (242, .ifCond .ge 32, 3), (245, .lload 18, 2), (247, .lconst 0, 1), (248, .lcmp, 1), (249, .ifCond .le 25, 3), (252, .lload 6, 2), (254, .lconst 0, 1), (255, .lcmp, 1), (256, .ifCond .eq 20, 3), (259, .lload 22, 2), (261, .lload 26, 2), (263, .lcmp, 1), (264, .ifCond .ge 10, 3), (267, .lload 24, 2), (269, .lconst 0, 1), (270, .lcmp, 1), (271, .ifCond .gt 5, 3), (274, .iconst 0, 1), (275, .ireturn, 1), (276, .lload 4, 2), (278, .lconst 0, 1), (279, .lcmp, 1), (280, .ifCond .eq 38, 3), (283, .lload 6, 2), (285, .lconst 0, 1), (286, .lcmp, 1), (287, .ifCond .eq 31, 3), (290, .lload 16, 2), (292, .lload 26, 2), (294, .lmul, 1), (295, .lload 24, 2), (297, .lload 20, 2), (299, .lmul, 1), (300, .lcmp, 1), (301, .ifCond .ge 21, 3), (304, .lload 22, 2), (306, .lload 20, 2), (308, .lmul, 1), (309, .lload 18, 2), (311, .lload 26, 2), (313, .lmul, 1), (314, .lcmp, 1), (315, .ifCond .ge 7, 3), (318, .iconst 1, 1), (319, .goto 4, 3), (322, .iconst 0, 1), (323, .ireturn, 1)]
def M_MD_isThrough : MI := (11, ⟨"TouchMapModel", "isThrough", "(III)Z"⟩, prog_13_method_43_code, 28, (some .boolean), T_MD_isThrough)
theorem dk_MD_isThrough : ∀ e ∈ T_MD_isThrough, decode prog_13_method_43_code e.1 = .ok e.2 := by decide +kernel
set_option maxRecDepth 100000 in
theorem ok_MD_isThrough : OkM M_MD_isThrough := ⟨dk_MD_isThrough, TT_t (List.mem_of_getElem? (i := 975) rfl) rfl, by decide +kernel, rfl, TT_t (List.mem_of_getElem? (i := 12) (by decide +kernel)) rfl, by decide +kernel, by decide +kernel⟩
def T_MD_isFree : List (Nat × Instr × Nat) := [(0, .aload_n 0, 1), (1, .getfield 81, 3), (4, .iload_n 1, 1), (5, .iaload, 1), (6, .ifCond .lt 46, 3), (9, .aload_n 0, 1), (10, .getfield 84, 3), (13, .iload_n 1, 1), (14, .iaload, 1), (15, .ifCond .lt 37, 3), (18, .aload_n 0, 1), (19, .getfield 81, 3), (22, .iload_n 1, 1), (23, .iaload, 1), (24, .aload_n 0, 1), (25, .getfield 87, 3), (28, .iload_n 1, 1), (29, .iaload, 1), (30, .iadd, 1), (31, .sipush 400, 3), (34, .if_icmp .gt 18, 3), (37, .aload_n 0, 1), (38, .getfield 84, 3), (41, .iload_n 1, 1), (42, .iaload, 1), (43, .bipush 10, 2), (45, .iadd, 1), (46, .sipush 400, 3), (49, .if_icmp .le 5, 3), (52, .iconst 0, 1), (53, .ireturn, 1), (54, .iconst 0, 1), (55, .istore_n 2, 1), (56, .iload_n 2, 1), (57, .bipush 12, 2), (59, .if_icmp .ge 75, 3), (62, .aload_n 0, 1), (63, .iload_n 2, 1), (64, .invokevirtual 118, 3), (67, .ifCond .eq 61, 3), (70, .aload_n 0, 1), (71, .getfield 195, 3), (74, .iload_n 2, 1), (75, .ishr, 1), (76, .iconst 1, 1), (77, .iand, 1), (78, .ifCond .ne 6, 3), (81, .goto 47, 3), (84, .iconst 0, 1), (85, .istore_n 3, 1), (86, .iload_n 3, 1), (87, .iconst 1, 1), (88, .iadd, 1), (89, .aload_n 0, 1), (90, .getfield 29, 3), (93, .iload_n 2, 1), (94, .iaload, 1), (95, .if_icmp .ge 33, 3), (98, .aload_n 0, 1), (99, .aload_n 0, 1), (100, .iload_n 2, 1), (101, .iload_n 3, 1), (102, .invokevirtual 150, 3), (105, .aload_n 0, 1), (106, .iload_n 2, 1), (107, .iload_n 3, 1), (108, .iconst 1, 1), (109, .iadd, 1), (110, .invokevirtual 150, 3), (113, .iload_n 1, 1), (114, .invokevirtual 216, 3), (117, .ifCond .eq 5, 3), (120, .iconst 0, 1), (121, .ireturn, 1), (122, .iinc 3 1, 3), (125, .goto (-39), 3), (128, .iinc 2 1, 3), (131, .goto (-75), 3), (134, .iconst 1, 1), (135, .ireturn, 1)]
def M_MD_isFree : MI := (11, ⟨"TouchMapModel", "isFree", "(I)Z"⟩, prog_13_method_44_code, 4, (some .boolean), T_MD_isFree)
theorem dk_MD_isFree : ∀ e ∈ T_MD_isFree, decode prog_13_method_44_code e.1 = .ok e.2 := by decide +kernel
set_option maxRecDepth 100000 in
theorem ok_MD_isFree : OkM M_MD_isFree := ⟨dk_MD_isFree, TT_t (List.mem_of_getElem? (i := 971) rfl) rfl, by decide +kernel, rfl, TT_t (List.mem_of_getElem? (i := 12) (by decide +kernel)) rfl, by decide +kernel, by decide +kernel⟩
def T_MD_boxes : List (Nat × Instr × Nat) := [(0, .iconst 0, 1), (1, .istore_n 1, 1), (2, .iload_n 1, 1), (3, .bipush 8, 2), (5, .if_icmp .ge 176, 3), (8, .iconst 0, 1), (9, .istore_n 2, 1), (10, .iload_n 2, 1), (11, .iconst 4, 1), (12, .if_icmp .ge 163, 3), (15, .iconst 4, 1), (16, .iload_n 1, 1), (17, .imul, 1), (18, .iload_n 2, 1), (19, .iadd, 1), (20, .istore_n 3, 1), (21, .aload_n 0, 1), (22, .getfield 90, 3), (25, .iload_n 3, 1), (26, .iconst 0, 1), (27, .bastore, 1), (28, .aload_n 0, 1), (29, .iload_n 1, 1), (30, .invokevirtual 211, 3), (33, .ifCond .ne 6, 3), (36, .goto 133, 3), (39, .aload_n 0, 1), (40, .iload_n 1, 1), (41, .invokevirtual 208, 3), (44, .istore 4, 2), (46, .aload_n 0, 1), (47, .getfield 87, 3), (50, .iload_n 3, 1), (51, .bipush 6, 2), (53, .iload 4, 2), (55, .imul, 1), (56, .iastore, 1), (57, .aload_n 0, 1), (58, .getfield 81, 3), (61, .iload_n 3, 1), (62, .iload_n 2, 1), (63, .ifCond .ne 14, 3), (66, .aload_n 0, 1), (67, .getfield 66, 3), (70, .iload_n 1, 1), (71, .iaload, 1), (72, .iconst 4, 1), (73, .iadd, 1), (74, .goto 36, 3), (77, .iload_n 2, 1), (78, .iconst 1, 1), (79, .if_icmp .ne 20, 3), (82, .aload_n 0, 1), (83, .getfield 66, 3), (86, .iload_n 1, 1), (87, .iaload, 1), (88, .iconst 4, 1), (89, .isub, 1), (90, .bipush 6, 2), (92, .iload 4, 2), (94, .imul, 1), (95, .isub, 1), (96, .goto 14, 3), (99, .aload_n 0, 1), (100, .getfield 66, 3), (103, .iload_n 1, 1), (104, .iaload, 1), (105, .iconst 3, 1), (106, .iload 4, 2), (108, .imul, 1), (109, .isub, 1), (110, .iastore, 1), (111, .aload_n 0, 1), (112, .getfield 84, 3), (115, .iload_n 3, 1), (116, .iload_n 2, 1), (117, .iconst 2, 1), (118, .if_icmp .ge 14, 3), (121, .aload_n 0, 1), (122, .getfield 69, 3), (125, .iload_n 1, 1), (126, .iaload, 1), (127, .iconst 5, 1), (128, .isub, 1), (129, .goto 28, 3), (132, .iload_n 2, 1), (133, .iconst 2, 1), (134, .if_icmp .ne 14, 3), (137, .aload_n 0, 1), (138, .getfield 69, 3), (141, .iload_n 1, 1), (142, .iaload, 1), (143, .iconst 4, 1), (144, .iadd, 1), (145, .goto 12, 3), (148, .aload_n 0, 1), (149, .getfield 69, 3), (152, .iload_n 1, 1), (153, .iaload, 1), (154, .bipush 14, 2), (156, .isub, 1), (157, .iastore, 1), (158, .aload_n 0, 1), (159, .getfield 90, 3), (162, .iload_n 3, 1), (163, .aload_n 0, 1), (164, .iload_n 3, 1), (165, .invokevirtual 219, 3), (168, .bastore, 1), (169, .iinc 2 1, 3), (172, .goto (-162), 3), (175, .iinc 1 1, 3), (178, .goto (-176), 3), (181, .iconst 0, 1), (182, .istore_n 1, 1), (183, .iload_n 1, 1), (184, .bipush 32, 2), (186, .if_icmp .ge 119, 3), (189, .iconst 0, 1), (190, .istore_n 2, 1), (191, .iload_n 2, 1), (192, .bipush 32, 2), (194, .if_icmp .ge 105, 3), (197, .aload_n 0, 1), (198, .getfield 93, 3), (201, .bipush 32, 2), (203, .iload_n 1, 1), (204, .imul, 1), (205, .iload_n 2, 1), (206, .iadd, 1), (207, .aload_n 0, 1), (208, .getfield 81, 3), (211, .iload_n 1, 1), (212, .iaload, 1), (213, .aload_n 0, 1), (214, .getfield 81, 3), (217, .iload_n 2, 1), (218, .iaload, 1), (219, .aload_n 0, 1), (220, .getfield 87, 3), (223, .iload_n 2, 1), (224, .iaload, 1), (225, .iadd, 1), (226, .if_icmp .ge 65, 3), (229, .aload_n 0, 1), (230, .getfield 81, 3), (233, .iload_n 2, 1), (234, .iaload, 1), (235, .aload_n 0, 1), (236, .getfield 81, 3), (239, .iload_n 1, 1), (240, .iaload, 1), (241, .aload_n 0, 1), (242, .getfield 87, 3), (245, .iload_n 1, 1), (246, .iaload, 1), (247, .iadd, 1), (248, .if_icmp .ge 43, 3), (251, .aload_n 0, 1), (252, .getfield 84, 3), (255, .iload_n 1, 1), (256, .iaload, 1), (257, .aload_n 0, 1), (258, .getfield 84, 3), (261, .iload_n 2, 1), (262, .iaload, 1), (263, .bipush 10, 2), (265, .iadd, 1), (266, .if_icmp .ge 25, 3), (269, .aload_n 0, 1), (270, .getfield 84, 3), (273, .iload_n 2, 1), (274, .iaload, 1), (275, .aload_n 0, 1), (276, .getfield 84, 3), (279, .iload_n 1, 1), (280, .iaload, 1), (281, .bipush 10, 2), (283, .iadd, 1), (284, .if_icmp .ge 7, 3), (287, .iconst 1, 1), (288, .goto 4, 3), (291, .iconst 0, 1), (292, .bastore, 1), (293, .iinc 2 1, 3), (296, .goto (-105), 3), (299, .iinc 1 1, 3), (302, .goto (-119), 3), (305, .return_, 1)]
def M_MD_boxes : MI := (11, ⟨"TouchMapModel", "boxes", "()V"⟩, prog_13_method_45_code, 5, none, T_MD_boxes)
theorem dk_MD_boxes : ∀ e ∈ T_MD_boxes, decode prog_13_method_45_code e.1 = .ok e.2 := by decide +kernel
set_option maxRecDepth 100000 in
theorem ok_MD_boxes : OkM M_MD_boxes := ⟨dk_MD_boxes, TT_t (List.mem_of_getElem? (i := 967) rfl) rfl, by decide +kernel, rfl, TT_t (List.mem_of_getElem? (i := 12) (by decide +kernel)) rfl, by decide +kernel, by decide +kernel⟩
def T_MD_mayCome : List (Nat × Instr × Nat) := [(0, .aload_n 0, 1), (1, .getfield 96, 3), (4, .iload_n 1, 1), (5, .iaload, 1), (6, .iconst 4, 1), (7, .if_icmp .ne 5, 3), (10, .iconst 1, 1), (11, .ireturn, 1), (12, .iconst 4, 1), (13, .iload_n 1, 1), (14, .imul, 1), (15, .aload_n 0, 1), (16, .getfield 96, 3), (19, .iload_n 1, 1), (20, .iaload, 1), (21, .iadd, 1), (22, .istore_n 2, 1), (23, .aload_n 0, 1), (24, .getfield 90, 3), (27, .iload_n 2, 1), (28, .baload, 1), (29, .ifCond .ne 5, 3), (32, .iconst 0, 1), (33, .ireturn, 1), (34, .iconst 0, 1), (35, .istore_n 3, 1), (36, .iload_n 3, 1), (37, .iload_n 1, 1), (38, .if_icmp .ge 44, 3), (41, .aload_n 0, 1), (42, .getfield 96, 3), (45, .iload_n 3, 1), (46, .iaload, 1), (47, .iconst 4, 1), (48, .if_icmp .ge 28, 3), (51, .aload_n 0, 1), (52, .getfield 93, 3), (55, .bipush 32, 2), (57, .iload_n 2, 1), (58, .imul, 1), (59, .iconst 4, 1), (60, .iload_n 3, 1), (61, .imul, 1), (62, .iadd, 1), (63, .aload_n 0, 1), (64, .getfield 96, 3), (67, .iload_n 3, 1), (68, .iaload, 1), (69, .iadd, 1), (70, .baload, 1), (71, .ifCond .eq 5, 3), (74, .iconst 0, 1), (75, .ireturn, 1), (76, .iinc 3 1, 3), (79, .goto (-43), 3), (82, .iconst 1, 1), (83, .ireturn, 1)]
def M_MD_mayCome : MI := (11, ⟨"TouchMapModel", "mayCome", "(I)Z"⟩, prog_13_method_46_code, 4, (some .boolean), T_MD_mayCome)
theorem dk_MD_mayCome : ∀ e ∈ T_MD_mayCome, decode prog_13_method_46_code e.1 = .ok e.2 := by decide +kernel
set_option maxRecDepth 100000 in
theorem ok_MD_mayCome : OkM M_MD_mayCome := ⟨dk_MD_mayCome, TT_t (List.mem_of_getElem? (i := 980) rfl) rfl, by decide +kernel, rfl, TT_t (List.mem_of_getElem? (i := 12) (by decide +kernel)) rfl, by decide +kernel, by decide +kernel⟩
def T_MD_set : List (Nat × Instr × Nat) := [(0, .aload_n 0, 1), (1, .invokevirtual 222, 3), (4, .iconst (-1), 1), (5, .istore_n 1, 1), (6, .iconst (-1), 1), (7, .istore_n 2, 1), (8, .iconst 0, 1), (9, .istore_n 3, 1), (10, .aload_n 0, 1), (11, .getfield 96, 3), (14, .iconst 0, 1), (15, .aload_n 0, 1), (16, .iconst 0, 1), (17, .invokevirtual 211, 3), (20, .ifCond .eq 7, 3), (23, .iconst (-1), 1), (24, .goto 4, 3), (27, .iconst 3, 1), (28, .iastore, 1), (29, .iload_n 3, 1), (30, .ifCond .lt 195, 3), (33, .aload_n 0, 1), (34, .getfield 96, 3), (37, .iload_n 3, 1), (38, .dup2, 1), (39, .iaload, 1), (40, .iconst 1, 1), (41, .iadd, 1), (42, .iastore, 1), (43, .aload_n 0, 1), (44, .getfield 96, 3), (47, .iload_n 3, 1), (48, .iaload, 1), (49, .iconst 4, 1), (50, .if_icmp .le 9, 3), (53, .iinc 3 (-1), 3), (56, .goto (-27), 3), (59, .aload_n 0, 1), (60, .iload_n 3, 1), (61, .invokevirtual 225, 3), (64, .ifCond .ne 6, 3), (67, .goto (-38), 3), (70, .iload_n 3, 1), (71, .bipush 7, 2), (73, .if_icmp .ge 28, 3), (76, .iinc 3 1, 3), (79, .aload_n 0, 1), (80, .getfield 96, 3), (83, .iload_n 3, 1), (84, .aload_n 0, 1), (85, .iload_n 3, 1), (86, .invokevirtual 211, 3), (89, .ifCond .eq 7, 3), (92, .iconst (-1), 1), (93, .goto 4, 3), (96, .iconst 3, 1), (97, .iastore, 1), (98, .goto (-69), 3), (101, .iconst 0, 1), (102, .istore 4, 2), (104, .iconst 0, 1), (105, .istore 5, 2), (107, .iconst 0, 1), (108, .istore 6, 2), (110, .iload 6, 2), (112, .bipush 8, 2), (114, .if_icmp .ge 38, 3), (117, .aload_n 0, 1), (118, .getfield 96, 3), (121, .iload 6, 2), (123, .iaload, 1), (124, .iconst 4, 1), (125, .if_icmp .ne 6, 3), (128, .goto 18, 3), (131, .iload 4, 2), (133, .aload_n 0, 1), (134, .getfield 72, 3), (137, .iload 6, 2), (139, .iaload, 1), (140, .iadd, 1), (141, .istore 4, 2), (143, .iinc 5 1, 3), (146, .iinc 6 1, 3), (149, .goto (-39), 3), (152, .iload 4, 2), (154, .iload_n 1, 1), (155, .if_icmp .lt (-126), 3), (158, .iload 4, 2), (160, .iload_n 1, 1), (161, .if_icmp .ne 12, 3), (164, .iload 5, 2), (166, .iload_n 2, 1), (167, .if_icmp .gt 6, 3), (170, .goto (-141), 3), (173, .iload 4, 2), (175, .istore_n 1, 1), (176, .iload 5, 2), (178, .istore_n 2, 1), (179, .iconst 0, 1), (180, .istore 6, 2), (182, .iload 6, 2), (184, .bipush 8, 2), (186, .if_icmp .ge 36, 3), (189, .aload_n 0, 1), (190, .getfield 99, 3), (193, .iload 6, 2), (195, .aload_n 0, 1), (196, .iload 6, 2), (198, .invokevirtual 211, 3), (201, .ifCond .eq 13, 3), (204, .aload_n 0, 1), (205, .getfield 96, 3), (208, .iload 6, 2), (210, .iaload, 1), (211, .goto 4, 3), (214, .iconst (-1), 1), (215, .iastore, 1), (216, .iinc 6 1, 3), (219, .goto (-37), 3), (222, .goto (-193), 3), (225, .iload_n 1, 1), (226, .ireturn, 1)]
def M_MD_set : MI := (11, ⟨"TouchMapModel", "set", "()I"⟩, prog_13_method_47_code, 7, (some .int), T_MD_set)
theorem dk_MD_set : ∀ e ∈ T_MD_set, decode prog_13_method_47_code e.1 = .ok e.2 := by decide +kernel
set_option maxRecDepth 100000 in
theorem ok_MD_set : OkM M_MD_set := ⟨dk_MD_set, TT_t (List.mem_of_getElem? (i := 963) rfl) rfl, by decide +kernel, rfl, TT_t (List.mem_of_getElem? (i := 12) (by decide +kernel)) rfl, by decide +kernel, by decide +kernel⟩
def T_MD_spot : List (Nat × Instr × Nat) := [(0, .iload_n 1, 1), (1, .iconst 0, 1), (2, .bipush 7, 2), (4, .invokestatic 114, 3), (7, .ifCond .eq 12, 3), (10, .aload_n 0, 1), (11, .getfield 99, 3), (14, .iload_n 1, 1), (15, .iaload, 1), (16, .goto 4, 3), (19, .iconst (-1), 1), (20, .ireturn, 1)]
def M_MD_spot : MI := (11, ⟨"TouchMapModel", "spot", "(I)I"⟩, prog_13_method_48_code, 2, (some .int), T_MD_spot)
theorem dk_MD_spot : ∀ e ∈ T_MD_spot, decode prog_13_method_48_code e.1 = .ok e.2 := by decide +kernel
set_option maxRecDepth 100000 in
theorem ok_MD_spot : OkM M_MD_spot := ⟨dk_MD_spot, TT_t (List.mem_of_getElem? (i := 984) rfl) rfl, by decide +kernel, rfl, TT_t (List.mem_of_getElem? (i := 12) (by decide +kernel)) rfl, by decide +kernel, by decide +kernel⟩
def T_MD_touch : List (Nat × Instr × Nat) := [(0, .iload_n 1, 1), (1, .iconst 0, 1), (2, .bipush 7, 2), (4, .invokestatic 114, 3), (7, .ifCond .eq 18, 3), (10, .iload_n 2, 1), (11, .iconst 0, 1), (12, .bipush 7, 2), (14, .invokestatic 114, 3), (17, .ifCond .eq 8, 3), (20, .iload_n 1, 1), (21, .iload_n 2, 1), (22, .if_icmp .ne 5, 3), (25, .iconst 0, 1), (26, .ireturn, 1), (27, .aload_n 0, 1), (28, .getfield 102, 3), (31, .bipush 8, 2), (33, .iload_n 1, 1), (34, .imul, 1), (35, .iload_n 2, 1), (36, .iadd, 1), (37, .iload_n 3, 1), (38, .bastore, 1), (39, .aload_n 0, 1), (40, .getfield 102, 3), (43, .bipush 8, 2), (45, .iload_n 2, 1), (46, .imul, 1), (47, .iload_n 1, 1), (48, .iadd, 1), (49, .iload_n 3, 1), (50, .bastore, 1), (51, .iconst 1, 1), (52, .ireturn, 1)]
def M_MD_touch : MI := (11, ⟨"TouchMapModel", "touch", "(IIZ)Z"⟩, prog_13_method_49_code, 4, (some .boolean), T_MD_touch)
theorem dk_MD_touch : ∀ e ∈ T_MD_touch, decode prog_13_method_49_code e.1 = .ok e.2 := by decide +kernel
set_option maxRecDepth 100000 in
theorem ok_MD_touch : OkM M_MD_touch := ⟨dk_MD_touch, TT_t (List.mem_of_getElem? (i := 988) rfl) rfl, by decide +kernel, rfl, TT_t (List.mem_of_getElem? (i := 12) (by decide +kernel)) rfl, by decide +kernel, by decide +kernel⟩
def T_MD_apart_ : List (Nat × Instr × Nat) := [(0, .iload_n 1, 1), (1, .iconst 0, 1), (2, .iconst 4, 1), (3, .invokestatic 114, 3), (6, .ifCond .eq 17, 3), (9, .iload_n 2, 1), (10, .iconst 0, 1), (11, .iconst 4, 1), (12, .invokestatic 114, 3), (15, .ifCond .eq 8, 3), (18, .iload_n 1, 1), (19, .iload_n 2, 1), (20, .if_icmp .ne 5, 3), (23, .iconst 0, 1), (24, .ireturn, 1), (25, .aload_n 0, 1), (26, .getfield 105, 3), (29, .iconst 5, 1), (30, .iload_n 1, 1), (31, .imul, 1), (32, .iload_n 2, 1), (33, .iadd, 1), (34, .iload_n 3, 1), (35, .bastore, 1), (36, .aload_n 0, 1), (37, .getfield 105, 3), (40, .iconst 5, 1), (41, .iload_n 2, 1), (42, .imul, 1), (43, .iload_n 1, 1), (44, .iadd, 1), (45, .iload_n 3, 1), (46, .bastore, 1), (47, .iconst 1, 1), (48, .ireturn, 1)]
def M_MD_apart_ : MI := (11, ⟨"TouchMapModel", "apart", "(IIZ)Z"⟩, prog_13_method_50_code, 4, (some .boolean), T_MD_apart_)
theorem dk_MD_apart_ : ∀ e ∈ T_MD_apart_, decode prog_13_method_50_code e.1 = .ok e.2 := by decide +kernel
set_option maxRecDepth 100000 in
theorem ok_MD_apart_ : OkM M_MD_apart_ := ⟨dk_MD_apart_, TT_t (List.mem_of_getElem? (i := 992) rfl) rfl, by decide +kernel, rfl, TT_t (List.mem_of_getElem? (i := 12) (by decide +kernel)) rfl, by decide +kernel, by decide +kernel⟩
def T_MD_mayHave : List (Nat × Instr × Nat) := [(0, .iconst 0, 1), (1, .istore_n 2, 1), (2, .iload_n 2, 1), (3, .iload_n 1, 1), (4, .if_icmp .ge 63, 3), (7, .aload_n 0, 1), (8, .getfield 102, 3), (11, .bipush 8, 2), (13, .iload_n 1, 1), (14, .imul, 1), (15, .iload_n 2, 1), (16, .iadd, 1), (17, .baload, 1), (18, .ifCond .eq 43, 3), (21, .aload_n 0, 1), (22, .getfield 108, 3), (25, .iload_n 1, 1), (26, .iaload, 1), (27, .aload_n 0, 1), (28, .getfield 108, 3), (31, .iload_n 2, 1), (32, .iaload, 1), (33, .if_icmp .eq 26, 3), (36, .aload_n 0, 1), (37, .getfield 105, 3), (40, .iconst 5, 1), (41, .aload_n 0, 1), (42, .getfield 108, 3), (45, .iload_n 1, 1), (46, .iaload, 1), (47, .imul, 1), (48, .aload_n 0, 1), (49, .getfield 108, 3), (52, .iload_n 2, 1), (53, .iaload, 1), (54, .iadd, 1), (55, .baload, 1), (56, .ifCond .ne 5, 3), (59, .iconst 0, 1), (60, .ireturn, 1), (61, .iinc 2 1, 3), (64, .goto (-62), 3), (67, .iconst 1, 1), (68, .ireturn, 1)]
def M_MD_mayHave : MI := (11, ⟨"TouchMapModel", "mayHave", "(I)Z"⟩, prog_13_method_51_code, 3, (some .boolean), T_MD_mayHave)
theorem dk_MD_mayHave : ∀ e ∈ T_MD_mayHave, decode prog_13_method_51_code e.1 = .ok e.2 := by decide +kernel
set_option maxRecDepth 100000 in
theorem ok_MD_mayHave : OkM M_MD_mayHave := ⟨dk_MD_mayHave, TT_t (List.mem_of_getElem? (i := 1000) rfl) rfl, by decide +kernel, rfl, TT_t (List.mem_of_getElem? (i := 12) (by decide +kernel)) rfl, by decide +kernel, by decide +kernel⟩
def T_MD_lay : List (Nat × Instr × Nat) := [(0, .iload_n 1, 1), (1, .iconst 0, 1), (2, .bipush 8, 2), (4, .invokestatic 114, 3), (7, .ifCond .ne 5, 3), (10, .iconst (-1), 1), (11, .ireturn, 1), (12, .iload_n 1, 1), (13, .ifCond .ne 7, 3), (16, .iconst 0, 1), (17, .goto 5, 3), (20, .bipush 100, 2), (22, .istore_n 2, 1), (23, .iconst 0, 1), (24, .istore_n 3, 1), (25, .aload_n 0, 1), (26, .getfield 108, 3), (29, .iconst 0, 1), (30, .iconst (-1), 1), (31, .iastore, 1), (32, .iload_n 3, 1), (33, .ifCond .lt 146, 3), (36, .iload_n 1, 1), (37, .ifCond .le 142, 3), (40, .aload_n 0, 1), (41, .getfield 108, 3), (44, .iload_n 3, 1), (45, .dup2, 1), (46, .iaload, 1), (47, .iconst 1, 1), (48, .iadd, 1), (49, .iastore, 1), (50, .aload_n 0, 1), (51, .getfield 108, 3), (54, .iload_n 3, 1), (55, .iaload, 1), (56, .iconst 5, 1), (57, .if_icmp .ne 9, 3), (60, .iinc 3 (-1), 3), (63, .goto (-31), 3), (66, .aload_n 0, 1), (67, .iload_n 3, 1), (68, .invokevirtual 228, 3), (71, .ifCond .ne 6, 3), (74, .goto (-42), 3), (77, .iload_n 3, 1), (78, .iload_n 1, 1), (79, .iconst 1, 1), (80, .isub, 1), (81, .if_icmp .ge 16, 3), (84, .iinc 3 1, 3), (87, .aload_n 0, 1), (88, .getfield 108, 3), (91, .iload_n 3, 1), (92, .iconst (-1), 1), (93, .iastore, 1), (94, .goto (-62), 3), (97, .iconst 0, 1), (98, .istore 4, 2), (100, .iconst 0, 1), (101, .istore 5, 2), (103, .iload 5, 2), (105, .iload_n 1, 1), (106, .if_icmp .ge 23, 3), (109, .iload 4, 2), (111, .iconst 1, 1), (112, .aload_n 0, 1), (113, .getfield 108, 3), (116, .iload 5, 2), (118, .iaload, 1), (119, .ishl, 1), (120, .ior, 1), (121, .istore 4, 2), (123, .iinc 5 1, 3), (126, .goto (-23), 3), (129, .iload 4, 2), (131, .invokestatic 189, 3), (134, .iload_n 2, 1), (135, .if_icmp .lt 6, 3), (138, .goto (-106), 3), (141, .iload 4, 2), (143, .invokestatic 189, 3), (146, .istore_n 2, 1), (147, .iconst 0, 1), (148, .istore 5, 2), (150, .iload 5, 2), (152, .iload_n 1, 1), (153, .if_icmp .ge 23, 3), (156, .aload_n 0, 1), (157, .getfield 111, 3), (160, .iload 5, 2), (162, .aload_n 0, 1), (163, .getfield 108, 3), (166, .iload 5, 2), (168, .iaload, 1), (169, .iastore, 1), (170, .iinc 5 1, 3), (173, .goto (-23), 3), (176, .goto (-144), 3), (179, .iload_n 2, 1), (180, .bipush 100, 2), (182, .if_icmp .ne 6, 3), (185, .bipush (-2), 2), (187, .ireturn, 1), (188, .aload_n 0, 1), (189, .iload_n 1, 1), (190, .putfield 231, 3), (193, .iload_n 2, 1), (194, .ireturn, 1)]
def M_MD_lay : MI := (11, ⟨"TouchMapModel", "lay", "(I)I"⟩, prog_13_method_52_code, 6, (some .int), T_MD_lay)
theorem dk_MD_lay : ∀ e ∈ T_MD_lay, decode prog_13_method_52_code e.1 = .ok e.2 := by decide +kernel
set_option maxRecDepth 100000 in
theorem ok_MD_lay : OkM M_MD_lay := ⟨dk_MD_lay, TT_t (List.mem_of_getElem? (i := 996) rfl) rfl, by decide +kernel, rfl, TT_t (List.mem_of_getElem? (i := 12) (by decide +kernel)) rfl, by decide +kernel, by decide +kernel⟩
def T_MD_texture : List (Nat × Instr × Nat) := [(0, .iload_n 1, 1), (1, .ifCond .lt 20, 3), (4, .iload_n 1, 1), (5, .aload_n 0, 1), (6, .getfield 231, 3), (9, .if_icmp .ge 12, 3), (12, .aload_n 0, 1), (13, .getfield 111, 3), (16, .iload_n 1, 1), (17, .iaload, 1), (18, .goto 4, 3), (21, .iconst (-1), 1), (22, .ireturn, 1)]
def M_MD_texture : MI := (11, ⟨"TouchMapModel", "texture", "(I)I"⟩, prog_13_method_53_code, 2, (some .int), T_MD_texture)
theorem dk_MD_texture : ∀ e ∈ T_MD_texture, decode prog_13_method_53_code e.1 = .ok e.2 := by decide +kernel
set_option maxRecDepth 100000 in
theorem ok_MD_texture : OkM M_MD_texture := ⟨dk_MD_texture, TT_t (List.mem_of_getElem? (i := 1004) rfl) rfl, by decide +kernel, rfl, TT_t (List.mem_of_getElem? (i := 12) (by decide +kernel)) rfl, by decide +kernel, by decide +kernel⟩
def T_JInt_bitCount : List (Nat × Instr × Nat) := [(0, .iload_n 0, 1), (1, .iload_n 0, 1), (2, .iconst 1, 1), (3, .iushr, 1), (4, .ldc_w 265, 3), (7, .iand, 1), (8, .isub, 1), (9, .istore_n 0, 1), (10, .iload_n 0, 1), (11, .ldc_w 266, 3), (14, .iand, 1), (15, .iload_n 0, 1), (16, .iconst 2, 1), (17, .iushr, 1), (18, .ldc_w 266, 3), (21, .iand, 1), (22, .iadd, 1), (23, .istore_n 0, 1), (24, .iload_n 0, 1), (25, .iload_n 0, 1), (26, .iconst 4, 1), (27, .iushr, 1), (28, .iadd, 1), (29, .ldc_w 267, 3), (32, .iand, 1), (33, .istore_n 0, 1), (34, .iload_n 0, 1), (35, .iload_n 0, 1), (36, .bipush 8, 2), (38, .iushr, 1), (39, .iadd, 1), (40, .istore_n 0, 1), (41, .iload_n 0, 1), (42, .iload_n 0, 1), (43, .bipush 16, 2), (45, .iushr, 1), (46, .iadd, 1), (47, .istore_n 0, 1), (48, .iload_n 0, 1), (49, .bipush 63, 2), (51, .iand, 1), (52, .ireturn, 1)]
def M_JInt_bitCount : MI := (13, ⟨"java/lang/Integer", "bitCount", "(I)I"⟩, prog_14_method_49_code, 1, (some .int), T_JInt_bitCount)
theorem dk_JInt_bitCount : ∀ e ∈ T_JInt_bitCount, decode prog_14_method_49_code e.1 = .ok e.2 := by decide +kernel
set_option maxRecDepth 100000 in
theorem ok_JInt_bitCount : OkM M_JInt_bitCount := ⟨dk_JInt_bitCount, TT_t (List.mem_of_getElem? (i := 656) rfl) rfl, by decide +kernel, rfl, TT_t (List.mem_of_getElem? (i := 16) (by decide +kernel)) rfl, by decide +kernel, by decide +kernel⟩
def T_JLong_compare : List (Nat × Instr × Nat) := [(0, .lload_n 0, 1), (1, .lload_n 2, 1), (2, .lcmp, 1), (3, .ifCond .ge 7, 3), (6, .iconst (-1), 1), (7, .goto 14, 3), (10, .lload_n 0, 1), (11, .lload_n 2, 1), (12, .lcmp, 1), (13, .ifCond .ne 7, 3), (16, .iconst 0, 1), (17, .goto 4, 3), (20, .iconst 1, 1), (21, .ireturn, 1)]
def M_JLong_compare : MI := (14, ⟨"java/lang/Long", "compare", "(JJ)I"⟩, prog_15_method_42_code, 4, (some .int), T_JLong_compare)
theorem dk_JLong_compare : ∀ e ∈ T_JLong_compare, decode prog_15_method_42_code e.1 = .ok e.2 := by decide +kernel
set_option maxRecDepth 100000 in
theorem ok_JLong_compare : OkM M_JLong_compare := ⟨dk_JLong_compare, TT_t (List.mem_of_getElem? (i := 392) rfl) rfl, by decide +kernel, rfl, TT_t (List.mem_of_getElem? (i := 13) (by decide +kernel)) rfl, by decide +kernel, by decide +kernel⟩
end
section
/-! the abstract machine: values, memory, the layout of the cells, one step -/
abbrev AV : Type := Int32 ⊕ Int64 ⊕ (Nat × Nat) ⊕ Unit
abbrev vI (x : Int32) : AV := .inl x
abbrev vJ (x : Int64) : AV := .inr (.inl x)
abbrev vR (k i : Nat) : AV := .inr (.inr (.inl (k, i)))
abbrev vU : AV := .inr (.inr (.inr ()))
abbrev Mem : Type := (Nat → Nat → Nat → Int32) × (Nat → Nat → Nat → Int64)
def gI (s : Mem) (k i j : Nat) : Int32 := s.1 k i j
def gJ (s : Mem) (k i j : Nat) : Int64 := s.2 k i j
def pI (s : Mem) (k i j : Nat) (x : Int32) : Mem := (fun a b c => if a = k ∧ b = i ∧ c = j then x else s.1 a b c, s.2)
def pJ (s : Mem) (k i j : Nat) (x : Int64) : Mem := (s.1, fun a b c => if a = k ∧ b = i ∧ c = j then x else s.2 a b c)
/-- System.arraycopy between two rows of ints -/
def pC (s : Mem) (k i k2 i2 sp dp n : Nat) : Mem := (fun a b c => if a = k2 ∧ b = i2 ∧ dp ≤ c ∧ c < dp + n then s.1 k i (sp + (c - dp)) else s.1 a b c, s.2)
theorem gI_pI (s : Mem) (k i j : Nat) (x : Int32) (a b c : Nat) : gI (pI s k i j x) a b c = if a = k ∧ b = i ∧ c = j then x else gI s a b c := rfl
theorem gJ_pI (s : Mem) (k i j : Nat) (x : Int32) (a b c : Nat) : gJ (pI s k i j x) a b c = gJ s a b c := rfl
theorem gI_pJ (s : Mem) (k i j : Nat) (x : Int64) (a b c : Nat) : gI (pJ s k i j x) a b c = gI s a b c := rfl
theorem gJ_pJ (s : Mem) (k i j : Nat) (x : Int64) (a b c : Nat) : gJ (pJ s k i j x) a b c = if a = k ∧ b = i ∧ c = j then x else gJ s a b c := rfl
theorem gI_pC (s : Mem) (k i k2 i2 sp dp n a b c : Nat) : gI (pC s k i k2 i2 sp dp n) a b c = if a = k2 ∧ b = i2 ∧ dp ≤ c ∧ c < dp + n then gI s k i (sp + (c - dp)) else gI s a b c := rfl
theorem gJ_pC (s : Mem) (k i k2 i2 sp dp n a b c : Nat) : gJ (pC s k i k2 i2 sp dp n) a b c = gJ s a b c := rfl
/-- the kinds of cells: how many; an object (its class, its fields: a kind that it refers to, of the same number, or an int) or an array (type, length, the kind that it refers to) -/
abbrev LE : Type := Nat × ((Nat × List (Option Nat)) ⊕ (Nat × Nat × Nat))
def LT : List LE := [(1, .inl (10, [some 1, some 10, some 15, some 22, some 24, some 6, some 33, some 45, none])), (1, .inr (3, 12, 2)), (12, .inl (8, [some 3, some 4, some 5, none, none, none, none, none])), (12, .inr (0, 20, 0)), (12, .inr (0, 20, 0)), (12, .inr (0, 20, 0)), (1, .inr (4, 8, 7)), (8, .inl (4, [some 8, none, none, none, none])), (8, .inl (9, [some 9, none])), (8, .inr (0, 12, 0)), (1, .inl (5, [some 11, some 12, some 13, some 14])), (1, .inl (3, [none, none, none, none])), (1, .inl (3, [none, none, none, none])), (1, .inr (0, 20, 0)), (1, .inr (0, 20, 0)), (1, .inl (1, [some 16, none])), (1, .inl (0, [none, none, some 17, some 18, some 19, some 20, some 21, none])), (1, .inr (0, 12, 0)), (1, .inr (0, 12, 0)), (1, .inr (0, 13, 0)), (1, .inr (0, 12, 0)), (1, .inr (0, 12, 0)), (1, .inl (9, [some 23, none])), (1, .inr (0, 12, 0)), (1, .inl (7, [some 25, some 26, some 27, some 28, some 29, some 30])), (1, .inr (5, 10, 31)), (1, .inr (0, 10, 0)), (1, .inr (0, 13, 0)), (1, .inr (0, 12, 0)), (1, .inr (0, 12, 0)), (1, .inr (0, 12, 0)), (10, .inl (9, [some 32, none])), (10, .inr (0, 4, 0)), (1, .inl (6, [some 34, some 40, some 41, some 42, some 43, some 44, none])), (1, .inl (0, [none, none, some 35, some 36, some 37, some 38, some 39, none])), (1, .inr (0, 32, 0)), (1, .inr (0, 8, 0)), (1, .inr (0, 9, 0)), (1, .inr (0, 8, 0)), (1, .inr (0, 8, 0)), (1, .inl (3, [none, none, none, none])), (1, .inr (0, 32, 0)), (1, .inr (0, 32, 0)), (1, .inr (0, 32, 0)), (1, .inr (0, 8, 0)), (1, .inl (2, [some 46, some 47, some 48, some 49, some 50, none])), (1, .inr (0, 8, 0)), (1, .inr (0, 5, 0)), (1, .inr (0, 8, 0)), (1, .inr (0, 8, 0)), (1, .inr (2, 8, 0)), (1, .inl (11, [some 52, some 53, some 54, some 55, some 56, some 57, some 58, some 59, some 60, none, none, none, some 61, some 62, some 63, none, some 64, some 65, some 66, some 67, some 68, some 69, some 70, some 71, some 72, some 73, some 74, some 75, some 76, some 77, some 78, some 79, some 80, some 81, some 82, none, some 83, some 84])), (1, .inr (1, 12, 0)), (1, .inr (0, 12, 0)), (1, .inr (1, 12, 0)), (1, .inr (0, 12, 0)), (1, .inr (0, 240, 0)), (1, .inr (0, 240, 0)), (1, .inr (0, 12, 0)), (1, .inr (0, 240, 0)), (1, .inr (0, 20, 0)), (1, .inr (0, 12, 0)), (1, .inr (0, 26, 0)), (1, .inr (0, 12, 0)), (1, .inr (0, 10, 0)), (1, .inr (0, 40, 0)), (1, .inr (0, 10, 0)), (1, .inr (0, 8, 0)), (1, .inr (0, 96, 0)), (1, .inr (0, 8, 0)), (1, .inr (0, 8, 0)), (1, .inr (0, 8, 0)), (1, .inr (0, 13, 0)), (1, .inr (0, 12, 0)), (1, .inr (0, 32, 0)), (1, .inr (0, 32, 0)), (1, .inr (0, 32, 0)), (1, .inr (1, 32, 0)), (1, .inr (1, 1024, 0)), (1, .inr (0, 8, 0)), (1, .inr (0, 8, 0)), (1, .inr (1, 64, 0)), (1, .inr (1, 25, 0)), (1, .inr (0, 8, 0)), (1, .inr (0, 8, 0)), (1, .inr (0, 26, 0))]
def cnt (k : Nat) : Nat := match LT[k]? with
  | some e => e.1
  | none => 0
def PR : List (Nat × Nat) := [(0, 0), (1, 0), (2, 0), (2, 1), (2, 2), (2, 3), (2, 4), (2, 5), (2, 6), (2, 7), (2, 8), (2, 9), (2, 10), (2, 11), (3, 0), (3, 1), (3, 2), (3, 3), (3, 4), (3, 5), (3, 6), (3, 7), (3, 8), (3, 9), (3, 10), (3, 11), (4, 0), (4, 1), (4, 2), (4, 3), (4, 4), (4, 5), (4, 6), (4, 7), (4, 8), (4, 9), (4, 10), (4, 11), (5, 0), (5, 1), (5, 2), (5, 3), (5, 4), (5, 5), (5, 6), (5, 7), (5, 8), (5, 9), (5, 10), (5, 11), (6, 0), (7, 0), (7, 1), (7, 2), (7, 3), (7, 4), (7, 5), (7, 6), (7, 7), (8, 0), (8, 1), (8, 2), (8, 3), (8, 4), (8, 5), (8, 6), (8, 7), (9, 0), (9, 1), (9, 2), (9, 3), (9, 4), (9, 5), (9, 6), (9, 7), (10, 0), (11, 0), (12, 0), (13, 0), (14, 0), (15, 0), (16, 0), (17, 0), (18, 0), (19, 0), (20, 0), (21, 0), (22, 0), (23, 0), (24, 0), (25, 0), (26, 0), (27, 0), (28, 0), (29, 0), (30, 0), (31, 0), (31, 1), (31, 2), (31, 3), (31, 4), (31, 5), (31, 6), (31, 7), (31, 8), (31, 9), (32, 0), (32, 1), (32, 2), (32, 3), (32, 4), (32, 5), (32, 6), (32, 7), (32, 8), (32, 9), (33, 0), (34, 0), (35, 0), (36, 0), (37, 0), (38, 0), (39, 0), (40, 0), (41, 0), (42, 0), (43, 0), (44, 0), (45, 0), (46, 0), (47, 0), (48, 0), (49, 0), (50, 0), (51, 0), (52, 0), (53, 0), (54, 0), (55, 0), (56, 0), (57, 0), (58, 0), (59, 0), (60, 0), (61, 0), (62, 0), (63, 0), (64, 0), (65, 0), (66, 0), (67, 0), (68, 0), (69, 0), (70, 0), (71, 0), (72, 0), (73, 0), (74, 0), (75, 0), (76, 0), (77, 0), (78, 0), (79, 0), (80, 0), (81, 0), (82, 0), (83, 0), (84, 0)]
def okR (k i : Nat) : Prop := (k < 85 ∧ i < cnt k) ∨ (k = 85 ∧ i = 0) ∨ (k = 86 ∧ i = 0)
/-- the constant pools: a class's entry for a field: the class of the field, its slot, whether it is a nest mate's -/
def FA : Nat → List (Nat × Nat × Nat × Nat × Bool) := fun c => match c with
  | 0 => [(7, 0, 0, 2, false), (13, 0, 1, 2, false), (16, 0, 2, 2, false), (20, 0, 3, 2, false), (23, 0, 4, 2, false), (26, 0, 5, 2, false), (29, 0, 6, 2, false), (32, 0, 7, 0, false)]
  | 1 => [(52, 8, 3, 0, true), (43, 8, 5, 0, true), (65, 8, 6, 1, true), (28, 0, 2, 2, true), (68, 0, 6, 2, true), (14, 1, 0, 2, false), (32, 1, 1, 1, false)]
  | 2 => [(9, 2, 0, 2, false), (15, 2, 1, 2, false), (18, 2, 2, 2, false), (21, 2, 3, 2, false), (24, 2, 4, 2, false), (32, 2, 5, 0, false)]
  | 3 => [(13, 3, 0, 0, false), (16, 3, 1, 0, false), (7, 3, 2, 0, false), (19, 3, 3, 0, false)]
  | 4 => [(14, 4, 0, 2, false), (24, 4, 1, 0, false), (28, 4, 2, 0, false), (31, 4, 3, 0, false), (34, 4, 4, 1, false)]
  | 5 => [(52, 8, 0, 2, true), (55, 8, 1, 2, true), (41, 8, 2, 2, true), (28, 8, 3, 0, true), (38, 8, 4, 0, true), (12, 5, 0, 2, false), (18, 5, 1, 2, false), (21, 5, 2, 2, false), (25, 5, 3, 2, false)]
  | 6 => [(90, 8, 4, 0, true), (50, 4, 0, 2, true), (60, 4, 1, 0, true), (63, 4, 2, 0, true), (70, 4, 3, 0, true), (44, 4, 4, 1, true), (112, 0, 2, 2, true), (123, 0, 6, 2, true), (14, 6, 0, 2, false), (23, 6, 1, 2, false), (27, 6, 2, 2, false), (31, 6, 3, 2, false), (34, 6, 4, 2, false), (37, 6, 5, 2, false), (40, 6, 6, 0, false)]
  | 7 => [(51, 9, 0, 2, true), (40, 9, 1, 0, true), (11, 7, 0, 2, false), (17, 7, 1, 2, false), (21, 7, 2, 2, false), (24, 7, 3, 2, false), (27, 7, 4, 2, false), (30, 7, 5, 2, false)]
  | 8 => [(9, 8, 0, 2, false), (15, 8, 1, 2, false), (18, 8, 2, 2, false), (32, 8, 3, 0, false), (35, 8, 4, 0, false), (21, 8, 5, 0, false), (25, 8, 6, 1, false), (29, 8, 7, 1, false), (42, 3, 0, 0, true), (47, 3, 1, 0, true), (50, 3, 2, 0, true), (53, 3, 3, 0, true)]
  | 9 => [(7, 9, 0, 2, false), (13, 9, 1, 0, false)]
  | 10 => [(103, 8, 2, 2, true), (89, 8, 3, 0, true), (100, 8, 4, 0, true), (133, 9, 1, 0, true), (159, 4, 0, 2, true), (156, 4, 4, 1, true), (126, 1, 1, 1, true), (162, 7, 5, 2, true), (176, 6, 5, 2, true), (183, 2, 0, 2, true), (190, 2, 1, 2, true), (198, 2, 3, 2, true), (195, 2, 5, 0, true), (11, 10, 0, 2, false), (26, 10, 1, 2, false), (33, 10, 2, 2, false), (42, 10, 3, 2, false), (49, 10, 4, 2, false), (18, 10, 5, 2, false), (56, 10, 6, 2, false), (63, 10, 7, 2, false), (67, 10, 8, 0, false)]
  | 11 => [(7, 11, 0, 2, false), (13, 11, 1, 2, false), (17, 11, 2, 2, false), (20, 11, 3, 2, false), (23, 11, 4, 2, false), (26, 11, 5, 2, false), (29, 11, 6, 2, false), (32, 11, 7, 2, false), (35, 11, 8, 2, false), (38, 11, 9, 0, false), (195, 11, 10, 0, false), (198, 11, 11, 1, false), (42, 11, 12, 2, false), (45, 11, 13, 2, false), (48, 11, 14, 2, false), (202, 11, 15, 0, false), (51, 11, 16, 2, false), (54, 11, 17, 2, false), (57, 11, 18, 2, false), (60, 11, 19, 2, false), (63, 11, 20, 2, false), (66, 11, 21, 2, false), (69, 11, 22, 2, false), (72, 11, 23, 2, false), (75, 11, 24, 2, false), (78, 11, 25, 2, false), (81, 11, 26, 2, false), (84, 11, 27, 2, false), (87, 11, 28, 2, false), (90, 11, 29, 2, false), (93, 11, 30, 2, false), (96, 11, 31, 2, false), (99, 11, 32, 2, false), (102, 11, 33, 2, false), (105, 11, 34, 2, false), (231, 11, 35, 0, false), (108, 11, 36, 2, false), (111, 11, 37, 2, false)]
  | _ => []
def fre (l : List (Nat × Nat × Nat × Nat × Bool)) (idx : Nat) : Option (Nat × Nat × Nat) := match l with
  | [] => none
  | e :: t => bif e.1 == idx then some (e.2.1, e.2.2.1, e.2.2.2.1) else fre t idx
def fet (l : List (Nat × Instr × Nat)) (pc : Nat) : Option (Instr × Nat) := match l with
  | [] => none
  | e :: t => bif e.1 == pc then some e.2 else fet t pc
/-- long and int constants -/
def lcon (own idx : Nat) : Option Int64 := match own, idx with
  | 2, 60 => some (-1)
  | 2, 66 => some 31
  | 11, 214 => some 10
  | _, _ => none
def icon (own idx : Nat) : Option Int32 := match own, idx with
  | 13, 265 => some 1431655765
  | 13, 266 => some 858993459
  | 13, 267 => some 252645135
  | _, _ => none
def clr (L : List AV) (k : Nat) : List AV := match k with
  | 0 => L
  | k' + 1 => match L[k']? with
    | some (.inr (.inl _)) => L.set k' vU
    | _ => L
abbrev St : Type := Nat × List AV × List AV × Mem
def tgt (pc : Nat) (off : Int) : Nat := ((pc : Int) + off).toNat
def okT (pc : Nat) (off : Int) : Bool := decide (0 ≤ (pc : Int) + off)
def iLd (L S : List AV) (k pc n : Nat) (s : Mem) : Option (List Prop × St) := match L[k]? with
  | some (.inl x) => some ([], pc + n, L, vI x :: S, s)
  | _ => none
def lLd (L S : List AV) (k pc n : Nat) (s : Mem) : Option (List Prop × St) := match L[k]? with
  | some (.inr (.inl x)) => some ([], pc + n, L, vJ x :: S, s)
  | _ => none
def aLd (L S : List AV) (k pc n : Nat) (s : Mem) : Option (List Prop × St) := match L[k]? with
  | some (.inr (.inr (.inl (a, b)))) => some ([], pc + n, L, vR a b :: S, s)
  | _ => none
def iSt (L S : List AV) (k pc n : Nat) (s : Mem) : Option (List Prop × St) := match S, L[k]? with
  | .inl x :: S, some _ => some ([], pc + n, (clr L k).set k (vI x), S, s)
  | _, _ => none
def lSt (L S : List AV) (k pc n : Nat) (s : Mem) : Option (List Prop × St) := match S, L[k + 1]? with
  | .inr (.inl x) :: S, some _ => some ([], pc + n, ((clr L k).set k (vJ x)).set (k + 1) vU, S, s)
  | _, _ => none
def aSt (L S : List AV) (k pc n : Nat) (s : Mem) : Option (List Prop × St) := match S, L[k]? with
  | .inr (.inr (.inl (a, b))) :: S, some _ => some ([], pc + n, (clr L k).set k (vR a b), S, s)
  | _, _ => none
def i2 (f : Int32 → Int32 → Int32) (L S : List AV) (pc n : Nat) (s : Mem) : Option (List Prop × St) := match S with
  | .inl y :: .inl x :: S => some ([], pc + n, L, vI (f x y) :: S, s)
  | _ => none
def l2 (f : Int64 → Int64 → Int64) (L S : List AV) (pc n : Nat) (s : Mem) : Option (List Prop × St) := match S with
  | .inr (.inl y) :: .inr (.inl x) :: S => some ([], pc + n, L, vJ (f x y) :: S, s)
  | _ => none
def li2 (f : Int64 → Int32 → Int64) (L S : List AV) (pc n : Nat) (s : Mem) : Option (List Prop × St) := match S with
  | .inl y :: .inr (.inl x) :: S => some ([], pc + n, L, vJ (f x y) :: S, s)
  | _ => none
/-- a step that goes on in one way: what it needs, and the next state -/
def nxt (own : Nat) (i : Instr) (n pc : Nat) (L S : List AV) (s : Mem) : Option (List Prop × St) := match i with
  | .iconst v => some ([], pc + n, L, vI (Int32.ofInt v) :: S, s)
  | .bipush v => some ([], pc + n, L, vI (Int8.ofInt v).toInt32 :: S, s)
  | .sipush v => some ([], pc + n, L, vI (Int16.ofInt v).toInt32 :: S, s)
  | .lconst v => some ([], pc + n, L, vJ (Int64.ofNat v.val) :: S, s)
  | .ldc2_w k => match lcon own k with
    | some v => some ([], pc + n, L, vJ v :: S, s)
    | none => none
  | .ldc_w k => match icon own k with
    | some v => some ([], pc + n, L, vI v :: S, s)
    | none => none
  | .iload_n k => iLd L S k.val pc n s
  | .iload k => iLd L S k pc n s
  | .lload_n k => lLd L S k.val pc n s
  | .lload k => lLd L S k pc n s
  | .aload_n k => aLd L S k.val pc n s
  | .aload k => aLd L S k pc n s
  | .istore_n k => iSt L S k.val pc n s
  | .istore k => iSt L S k pc n s
  | .lstore_n k => lSt L S k.val pc n s
  | .lstore k => lSt L S k pc n s
  | .astore_n k => aSt L S k.val pc n s
  | .astore k => aSt L S k pc n s
  | .iinc k v => match L[k]? with
    | some (.inl x) => some ([], pc + n, (clr L k).set k (vI (x + Int32.ofInt v)), S, s)
    | _ => none
  | .iadd => i2 (fun x y => x + y) L S pc n s
  | .isub => i2 (fun x y => x - y) L S pc n s
  | .imul => i2 (fun x y => x * y) L S pc n s
  | .iand => i2 (fun x y => x &&& y) L S pc n s
  | .ior => i2 (fun x y => x ||| y) L S pc n s
  | .ixor => i2 (fun x y => x ^^^ y) L S pc n s
  | .ishl => i2 (fun x y => x <<< (y &&& 31)) L S pc n s
  | .ishr => i2 (fun x y => x >>> (y &&& 31)) L S pc n s
  | .iushr => i2 (fun x y => (x.toUInt32 >>> (y.toUInt32 &&& Int32.toUInt32 31)).toInt32) L S pc n s
  | .ladd => l2 (fun x y => x + y) L S pc n s
  | .lsub => l2 (fun x y => x - y) L S pc n s
  | .lmul => l2 (fun x y => x * y) L S pc n s
  | .land => l2 (fun x y => x &&& y) L S pc n s
  | .lor => l2 (fun x y => x ||| y) L S pc n s
  | .lxor => l2 (fun x y => x ^^^ y) L S pc n s
  | .lshl => li2 (fun x y => x <<< (y.toInt64 &&& 63)) L S pc n s
  | .lushr => li2 (fun x y => (x.toUInt64 >>> (y.toInt64.toUInt64 &&& Int64.toUInt64 63)).toInt64) L S pc n s
  | .ineg => match S with
    | .inl x :: S => some ([], pc + n, L, vI (-x) :: S, s)
    | _ => none
  | .lneg => match S with
    | .inr (.inl x) :: S => some ([], pc + n, L, vJ (-x) :: S, s)
    | _ => none
  | .i2l => match S with
    | .inl x :: S => some ([], pc + n, L, vJ x.toInt64 :: S, s)
    | _ => none
  | .lcmp => match S with
    | .inr (.inl y) :: .inr (.inl x) :: S => some ([], pc + n, L, vI (lg_cmp x y) :: S, s)
    | _ => none
  | .idiv => match S with
    | .inl y :: .inl x :: S => some ([¬ y = 0], pc + n, L, vI (x / y) :: S, s)
    | _ => none
  | .dup => match S with
    | .inl x :: S => some ([], pc + n, L, vI x :: vI x :: S, s)
    | .inr (.inr (.inl (a, b))) :: S => some ([], pc + n, L, vR a b :: vR a b :: S, s)
    | _ => none
  | .dup2 => match S with
    | .inl x :: .inr (.inr (.inl (a, b))) :: S => some ([], pc + n, L, vI x :: vR a b :: vI x :: vR a b :: S, s)
    | _ => none
  | .goto o => match okT pc o with
    | true => some ([], tgt pc o, L, S, s)
    | false => none
  | .getfield idx => match S with
    | .inr (.inr (.inl (k, i))) :: S => match fre (FA own) idx, LT[k]? with
      | some (c, j, _), some (_, .inl (c2, fs)) => match c == c2, fs[j]? with
        | true, some (some k2) => some ([], pc + n, L, vR k2 i :: S, s)
        | true, some none => some ([], pc + n, L, vI (gI s k i j) :: S, s)
        | _, _ => none
      | _, _ => none
    | _ => none
  | .putfield idx => match S with
    | .inl x :: .inr (.inr (.inl (k, i))) :: S => match fre (FA own) idx, LT[k]? with
      | some (c, j, ty), some (_, .inl (c2, fs)) => match c == c2, fs[j]? with
        | true, some none => match ty with
          | 0 => some ([], pc + n, L, S, pI s k i j x)
          | 1 => some ([x = 0 ∨ x = 1], pc + n, L, S, pI s k i j x)
          | _ => none
        | _, _ => none
      | _, _ => none
    | _ => none
  | .iaload => match S with
    | .inl j :: .inr (.inr (.inl (k, i))) :: S => match k == 86 with
      | true => some ([vp_in j (gI s 87 0 0).toNatClampNeg], pc + n, L, vI (gI s k i j.toNatClampNeg) :: S, s)
      | false => match LT[k]? with
        | some (_, .inr (0, m, _)) => some ([vp_in j m], pc + n, L, vI (gI s k i j.toNatClampNeg) :: S, s)
        | _ => none
    | _ => none
  | .baload => match S with
    | .inl j :: .inr (.inr (.inl (k, i))) :: S => match LT[k]? with
      | some (_, .inr (1, m, _)) => some ([vp_in j m], pc + n, L, vI (gI s k i j.toNatClampNeg) :: S, s)
      | _ => none
    | _ => none
  | .laload => match S with
    | .inl j :: .inr (.inr (.inl (k, i))) :: S => match LT[k]? with
      | some (_, .inr (2, m, _)) => some ([vp_in j m], pc + n, L, vJ (gJ s k i j.toNatClampNeg) :: S, s)
      | _ => none
    | _ => none
  | .aaload => match S with
    | .inl j :: .inr (.inr (.inl (k, _))) :: S => match LT[k]? with
      | some (_, .inr (t + 3, m, k2)) => match t < 3, m == cnt k2, decide (k2 < 85) with
        | _, true, true => some ([vp_in j m], pc + n, L, vR k2 j.toNatClampNeg :: S, s)
        | _, _, _ => none
      | _ => none
    | _ => none
  | .iastore => match S with
    | .inl x :: .inl j :: .inr (.inr (.inl (k, i))) :: S => match LT[k]?, decide (k < 85) with
      | some (_, .inr (0, m, _)), true => some ([vp_in j m], pc + n, L, S, pI s k i j.toNatClampNeg x)
      | _, _ => none
    | _ => none
  | .bastore => match S with
    | .inl x :: .inl j :: .inr (.inr (.inl (k, i))) :: S => match LT[k]?, decide (k < 85) with
      | some (_, .inr (1, m, _)), true => some ([vp_in j m, x = 0 ∨ x = 1], pc + n, L, S, pI s k i j.toNatClampNeg x)
      | _, _ => none
    | _ => none
  | .lastore => match S with
    | .inr (.inl x) :: .inl j :: .inr (.inr (.inl (k, i))) :: S => match LT[k]?, decide (k < 85) with
      | some (_, .inr (2, m, _)), true => some ([vp_in j m], pc + n, L, S, pJ s k i j.toNatClampNeg x)
      | _, _ => none
    | _ => none
  | .arraylength => match S with
    | .inr (.inr (.inl (k, i))) :: S => match k == 86 with
      | true => some ([], pc + n, L, vI (gI s 87 0 0) :: S, s)
      | false => match LT[k]? with
        | some (_, .inr (0, m, _)) => some ([], pc + n, L, vI (Int32.ofNat m) :: S, s)
        | _ => none
    | _ => none
  | .getstatic idx => match own, idx with
    | 7, 48 => some ([], pc + n, L, vR 85 0 :: S, s)
    | _, _ => none
  | _ => none
def ilen : Instr → Nat
  | .bipush _ | .iload _ | .lload _ | .aload _ | .istore _ | .lstore _ | .astore _ => 2
  | .sipush _ | .ldc2_w _ | .ldc_w _ | .iinc _ _ | .goto _ | .getfield _ | .putfield _ | .getstatic _ | .ifCond _ _ | .if_icmp _ _ => 3
  | _ => 1
def allP : List Prop → Prop
  | [] => True
  | c :: cs => c ∧ allP cs
/-- k steps -/
def runN (M : MI) : Nat → St → Option (List Prop × St)
  | 0, st => some ([], st)
  | k + 1, (pc, L, S, s) => match fet M.tab pc with
    | some (i, n) => match n == ilen i, nxt M.own i n pc L S s with
      | true, some (C, st) => match runN M k st with
        | some (C2, st2) => some (C ++ C2, st2)
        | none => none
      | _, _ => none
    | none => none
/-- a branch: its condition, where it goes if it holds, if not -/
def brn (i : Instr) (n pc : Nat) (S : List AV) : Option (Prop × Nat × Nat × List AV) := match i with
  | .ifCond c o => match S, okT pc o with
    | .inl x :: S, true => match c with
      | .eq => some (x = 0, tgt pc o, pc + n, S)
      | .ne => some (x = 0, pc + n, tgt pc o, S)
      | .lt => some (x < 0, tgt pc o, pc + n, S)
      | .ge => some (0 ≤ x, tgt pc o, pc + n, S)
      | .gt => some (0 < x, tgt pc o, pc + n, S)
      | .le => some (x ≤ 0, tgt pc o, pc + n, S)
    | _, _ => none
  | .if_icmp c o => match S, okT pc o with
    | .inl y :: .inl x :: S, true => match c with
      | .eq => some (x = y, tgt pc o, pc + n, S)
      | .ne => some (x = y, pc + n, tgt pc o, S)
      | .lt => some (x < y, tgt pc o, pc + n, S)
      | .ge => some (y ≤ x, tgt pc o, pc + n, S)
      | .gt => some (y < x, tgt pc o, pc + n, S)
      | .le => some (x ≤ y, tgt pc o, pc + n, S)
    | _, _ => none
  | _ => none
end
section
/-! soundness of the abstract machine over the Java machine -/
theorem fet_mem {l : List (Nat × Instr × Nat)} {pc : Nat} {x : Instr × Nat} (h : fet l pc = some x) : (pc, x) ∈ l := by
  induction l with
  | nil => simp [fet] at h
  | cons e t ih =>
    unfold fet at h
    cases hq : (e.1 == pc) with
    | true =>
      rw [hq] at h
      simp only [cond_true, Option.some.injEq] at h
      have h2 : e.1 = pc := by simpa using hq
      have : e = (pc, x) := by rw [← h2, ← h]
      rw [this]
      exact List.mem_cons_self
    | false =>
      rw [hq] at h
      simp only [cond_false] at h
      exact List.mem_cons_of_mem _ (ih h)
theorem fre_mem {l : List (Nat × Nat × Nat × Nat × Bool)} {idx : Nat} {x : Nat × Nat × Nat} (h : fre l idx = some x) : ∃ b : Bool, (idx, x.1, x.2.1, x.2.2, b) ∈ l := by
  induction l with
  | nil => simp [fre] at h
  | cons e t ih =>
    unfold fre at h
    cases hq : (e.1 == idx) with
    | true =>
      rw [hq] at h
      simp only [cond_true, Option.some.injEq] at h
      have h2 : e.1 = idx := by simpa using hq
      refine ⟨e.2.2.2.2, ?_⟩
      have : e = (idx, x.1, x.2.1, x.2.2, e.2.2.2.2) := by rw [← h2, ← h]
      rw [← this]
      exact List.mem_cons_self
    | false =>
      rw [hq] at h
      simp only [cond_false] at h
      obtain ⟨b, hb⟩ := ih h
      exact ⟨b, List.mem_cons_of_mem _ hb⟩
abbrev GX : Type := va_G × (Nat → Nat → Nat) × (Nat → ClassId) × (Nat → Int32) × (Nat → Int32) × Nat
abbrev GX.D (G : GX) : va_G := G.1
abbrev GX.ad (G : GX) : Nat → Nat → Nat := G.2.1
abbrev GX.ca (G : GX) : Nat → ClassId := G.2.2.1
abbrev GX.al (G : GX) : Nat → Int32 := G.2.2.2.1
abbrev GX.xs (G : GX) : Nat → Int32 := G.2.2.2.2.1
abbrev GX.len (G : GX) : Nat := G.2.2.2.2.2
def cv (G : GX) : AV → Value
  | .inl x => .int x
  | .inr (.inl x) => .long x
  | .inr (.inr (.inl (k, i))) => .ref (G.ad k i)
  | .inr (.inr (.inr _)) => .null
def tys (G : GX) : List (ClassId × FieldType) := [(G.ca 0, .int), (G.ca 1, .boolean), (G.ca 2, .long), (G.ca 3, .object "TouchMap$Way"), (G.ca 4, .object "TouchMap$Name"), (G.ca 5, .object "TouchMap$Word")]
def fvs (G : GX) (s : Mem) (k i : Nat) : Nat → List (Option Nat) → List Value
  | _, [] => []
  | j, some k2 :: fs => .ref (G.ad k2 i) :: fvs G s k i (j + 1) fs
  | j, none :: fs => .int (gI s k i j) :: fvs G s k i (j + 1) fs
def cel (G : GX) (s : Mem) (k i : Nat) : va_E := match LT[k]? with
  | some (_, .inl (c, fs)) => .inr (c, fvs G s k i 0 fs)
  | some (_, .inr (0, m, _)) => .inl (G.ca 0, m, .inl (gI s k i))
  | some (_, .inr (1, m, _)) => .inl (G.ca 1, m, .inl (gI s k i))
  | some (_, .inr (2, m, _)) => .inl (G.ca 2, m, .inr (.inl (gJ s k i)))
  | some (_, .inr (t + 3, m, k2)) => .inl (G.ca (t + 3), m, .inr (.inr (.inr (.inr (fun j => some (G.ad k2 j))))))
  | none => .inr (0, [])
def wsW (G : GX) (s : Mem) : va_W := PR.map (fun p => (G.ad p.1 p.2, cel G s p.1 p.2))
theorem fvs_get (G : GX) (s : Mem) (k i : Nat) (fs : List (Option Nat)) : ∀ (j0 j : Nat), (fvs G s k i j0 fs)[j]? = (match fs[j]? with
    | some (some k2) => some (.ref (G.ad k2 i))
    | some none => some (.int (gI s k i (j0 + j)))
    | none => none) := by
  induction fs with
  | nil => intro j0 j; simp [fvs]
  | cons f fs ih =>
    intro j0 j
    cases f with
    | none =>
      cases j with
      | zero => simp [fvs]
      | succ j => simp only [fvs, List.getElem?_cons_succ, ih]; rw [show j0 + 1 + j = j0 + (j + 1) by omega]
    | some q =>
      cases j with
      | zero => simp [fvs]
      | succ j => simp only [fvs, List.getElem?_cons_succ, ih]; rw [show j0 + 1 + j = j0 + (j + 1) by omega]
theorem fvs_congr {G : GX} {s t : Mem} {k i : Nat} (h : ∀ j, gI t k i j = gI s k i j) (fs : List (Option Nat)) : ∀ j0, fvs G t k i j0 fs = fvs G s k i j0 fs := by
  induction fs with
  | nil => intro j0; rfl
  | cons f fs ih =>
    intro j0
    cases f with
    | none => simp only [fvs, ih, h]
    | some q => simp only [fvs, ih]
theorem fvs_set {G : GX} {s : Mem} {k i : Nat} {x : Int32} (fs : List (Option Nat)) : ∀ (j0 j : Nat), fs[j]? = some none → fvs G (pI s k i (j0 + j) x) k i j0 fs = (fvs G s k i j0 fs).set j (.int x) := by
  intro j0 j h
  apply List.ext_getElem?
  intro n
  rw [fvs_get, List.getElem?_set, fvs_get]
  by_cases hn : j = n
  · subst hn
    have hl : j < (fvs G s k i j0 fs).length := by
      have h2 := fvs_get G s k i fs j0 j
      rw [h] at h2
      exact (List.getElem?_eq_some_iff.mp h2).1
    simp [h, hl, gI_pI]
  · rw [if_neg hn]
    cases hf : fs[n]? with
    | none => rfl
    | some f =>
      cases f with
      | some q => rfl
      | none => simp only [gI_pI]; rw [if_neg]; omega
theorem cel_congr {G : GX} {s t : Mem} {k i : Nat} (h : ∀ j, gI t k i j = gI s k i j) (h2 : ∀ j, gJ t k i j = gJ s k i j) : cel G t k i = cel G s k i := by
  have e1 : gI t k i = gI s k i := funext h
  have e2 : gJ t k i = gJ s k i := funext h2
  unfold cel
  rw [e1, e2]
  cases LT[k]? with
  | none => rfl
  | some e =>
    obtain ⟨n, ⟨c, fs⟩ | ⟨tc, m, k2⟩⟩ := e
    · simp only [fvs_congr h]
    · rcases tc with _ | _ | _ | tc <;> rfl
theorem PR_nodup : PR.Nodup := by decide +kernel
theorem PR_all : ∀ k, k < 85 → ∀ i, i < cnt k → (k, i) ∈ PR := by decide +kernel
theorem PR_ok : ∀ p ∈ PR, p.1 < 85 ∧ p.2 < cnt p.1 := by decide +kernel
theorem ws_get (G : GX) (s : Mem) {k i : Nat} (hk : k < 85) (hi : i < cnt k)   : ∃ n : Nat, PR[n]? = some (k, i) ∧ (wsW G s)[n]? = some (G.ad k i, cel G s k i) := by
  obtain ⟨n, hn, e⟩ := List.mem_iff_getElem.mp (PR_all k hk i hi)
  have e2 : PR[n]? = some (k, i) := by rw [List.getElem?_eq_getElem hn, e]
  exact ⟨n, e2, by simp [wsW, e2]⟩
theorem ws_set {G : GX} {s t : Mem} {k i n : Nat} (hn : PR[n]? = some (k, i)) {e : va_E} (he : cel G t k i = e) (h : ∀ a b, ¬ (a = k ∧ b = i) → cel G t a b = cel G s a b) : (wsW G s).set n (G.ad k i, e) = wsW G t := by
  apply List.ext_getElem?
  intro j
  rw [List.getElem?_set]
  have hl0 : n < PR.length := (List.getElem?_eq_some_iff.mp hn).1
  have hl : n < (wsW G s).length := by
    rw [wsW, List.length_map]
    exact hl0
  by_cases hj : n = j
  · subst hj
    have e0 : (wsW G t)[n]? = some (G.ad k i, cel G t k i) := by simp only [wsW, List.getElem?_map, hn, Option.map_some]
    rw [if_pos rfl, if_pos hl, e0, he]
  · rw [if_neg hj]
    simp only [wsW, List.getElem?_map]
    cases hp : PR[j]? with
    | none => rfl
    | some p =>
      simp only [Option.map_some, Option.some.injEq, Prod.mk.injEq, true_and]
      refine (h p.1 p.2 fun hq => hj ?_).symm
      have e1 : p = (k, i) := Prod.ext hq.1 hq.2
      have l1 := (List.getElem?_eq_some_iff.mp hn)
      have l2 := (List.getElem?_eq_some_iff.mp hp)
      obtain ⟨a1, b1⟩ := l1
      obtain ⟨a2, b2⟩ := l2
      exact (List.getElem_inj PR_nodup (h₀ := a1) (h₁ := a2)).mp (by rw [b1, b2, e1])
end
section
/-! the judgement WS, and its rules -/
theorem NN_shape {w : Cond} (h : w ∈ NN) : (∃ a i x y, w = .methodLinkNest a i x y) ∨ ∃ a i b n d y, w = .fieldLinkNest a i b n d y := by
  have h2 := (List.mem_filter.mp h).2
  cases w <;> first | exact Or.inl ⟨_, _, _, _, rfl⟩ | exact Or.inr ⟨_, _, _, _, _, _, rfl⟩ | (simp [isNest] at h2)
def SX (G : GX) (A : Nat → Prop) (U : State) : Prop :=
  va_K G.D classes (tys G) U ∧ (∀ w ∈ NN, va_Nw w U) ∧ (∀ s : Mem, va_D A (wsW G s)) ∧ va_Z "TouchMap" "ALPHABET" "[I" (.ref (G.ad 85 0)) A U U.heap ∧ va_T .int (G.ad 85 0) 26 (fun j => .int (G.al j)) A U U.heap ∧ (va_X (G.ad 86 0) G.len G.xs U U.heap ∧ G.ad 86 0 < U.heap.size ∧ ¬ A (G.ad 86 0)) ∧ G.len < 2 ^ 31
def ROM (G : GX) (s : Mem) : Prop := (∀ j, gI s 85 0 j = G.al j) ∧ (∀ j, gI s 86 0 j = G.xs j) ∧ gI s 87 0 0 = Int32.ofNat G.len
theorem ROM.pI {G : GX} {s : Mem} (h : ROM G s) {k i j : Nat} {x : Int32} (hk : k < 85) : ROM G (pI s k i j x) := by
  refine ⟨fun q => ?_, fun q => ?_, ?_⟩
  · rw [gI_pI, if_neg (by omega)]; exact h.1 q
  · rw [gI_pI, if_neg (by omega)]; exact h.2.1 q
  · rw [gI_pI, if_neg (by omega)]; exact h.2.2
theorem ROM.pC {G : GX} {s : Mem} (h : ROM G s) {k i k2 i2 sp dp n : Nat} (hk : k2 < 85) : ROM G (pC s k i k2 i2 sp dp n) := by
  refine ⟨fun q => ?_, fun q => ?_, ?_⟩
  · rw [gI_pC, if_neg (by omega)]; exact h.1 q
  · rw [gI_pC, if_neg (by omega)]; exact h.2.1 q
  · rw [gI_pC, if_neg (by omega)]; exact h.2.2
theorem SX.go {G : GX} {A : Nat → Prop} {s U : State} {H : Heap} {locs : List Loc} (h : SX G A s) (hS : va_S A s.heap H locs) (hU : U.heap = H) (hW : s.WarmedH U.vm) : SX G A U := by
  obtain ⟨h1, h2, h3, h4, h5, ⟨h6, h7, h8⟩, h9⟩ := h
  refine ⟨va_K.moved hW.alike h1, fun w hw => ?_, h3, ?_, ?_, ⟨?_, ?_, h8⟩, h9⟩
  · rcases NN_shape hw with ⟨a, i, x, y, rfl⟩ | ⟨a, i, b, n, d, y, rfl⟩
    · exact va_Nw.warmM hW (h2 _ hw)
    · exact va_Nw.warmF hW (h2 _ hw)
  · rw [hU]; exact (va_Z.moved hW.alike h4).kept (fun a q1 q2 => hS.2.1 a q1 q2)
  · rw [hU]; exact (va_T.moved hW.alike h5).kept (fun a q1 q2 => hS.2.1 a q1 q2)
  · rw [hU]; exact (va_X.moved hW.alike h6).kept (hS.2.1 _ h7 h8)
  · rw [hU]; exact Nat.lt_of_lt_of_le h7 hS.1
theorem SX.blind {G : GX} {A : Nat → Prop} {U : State} {g : JFrame} {mk : MethodId} {a : Array Value} (h : SX G A U) : SX G A (U.calling g mk a) := by
  obtain ⟨h1, h2, h3, h4, h5, ⟨h6, h7, h8⟩, h9⟩ := h
  refine ⟨va_K.moved (u := U) (U := U.calling g mk a) (Vm.Alike.refl U.vm) h1, fun w hw => ?_, h3, va_Z.moved (u := U) (U := U.calling g mk a) (Vm.Alike.refl U.vm) h4, va_T.moved (u := U) (U := U.calling g mk a) (Vm.Alike.refl U.vm) h5, ⟨va_X.moved (u := U) (U := U.calling g mk a) (Vm.Alike.refl U.vm) h6, h7, h8⟩, h9⟩
  rcases NN_shape hw with ⟨a, i, x, y, rfl⟩ | ⟨a, i, b, n, d, y, rfl⟩
  · exact va_Nw.same rfl (u := U) rfl (h2 _ hw)
  · exact va_Nw.same rfl (u := U) rfl (h2 _ hw)
def lvl (G : GX) : Nat → List AV → List (Nat × Value)
  | _, [] => []
  | i, .inr (.inr (.inr _)) :: vs => lvl G (i + 1) vs
  | i, .inl x :: vs => (i, .int x) :: lvl G (i + 1) vs
  | i, .inr (.inl x) :: vs => (i, .long x) :: lvl G (i + 1) vs
  | i, .inr (.inr (.inl (a, b))) :: vs => (i, .ref (G.ad a b)) :: lvl G (i + 1) vs
theorem lvl_mem {G : GX} {L : List AV} : ∀ {i a : Nat} {w : Value}, (a, w) ∈ lvl G i L ↔ ∃ (j : Nat) (v : AV), L[j]? = some v ∧ a = i + j ∧ v ≠ vU ∧ w = cv G v := by
  induction L with
  | nil => intro i a w; simp [lvl]
  | cons v vs ih =>
    intro i a w
    have step : (∃ (j : Nat) (v' : AV), (v :: vs)[j]? = some v' ∧ a = i + j ∧ v' ≠ vU ∧ w = cv G v') ↔ (a = i ∧ v ≠ vU ∧ w = cv G v) ∨ ∃ (j : Nat) (v' : AV), vs[j]? = some v' ∧ a = i + 1 + j ∧ v' ≠ vU ∧ w = cv G v' := by
      constructor
      · rintro ⟨j, v', h1, h2, h3, h4⟩
        cases j with
        | zero =>
          simp only [List.getElem?_cons_zero, Option.some.injEq] at h1
          subst h1
          exact Or.inl ⟨by omega, h3, h4⟩
        | succ j => exact Or.inr ⟨j, v', by simpa using h1, by omega, h3, h4⟩
      · rintro (⟨h1, h2, h3⟩ | ⟨j, v', h1, h2, h3, h4⟩)
        · exact ⟨0, v, by simp, by omega, h2, h3⟩
        · exact ⟨j + 1, v', by simpa using h1, by omega, h3, h4⟩
    rw [step, ← ih]
    obtain x | x | ⟨p, q⟩ | x := v
    · simp [lvl, cv]
    · simp [lvl, cv]
    · simp [lvl, cv]
    · simp [lvl]
def LH (G : GX) (ls : Array Slot) (n : Nat) (L : List AV) : Prop := L.length = n ∧ lv_has ls n (lvl G 0 L)
theorem LH.get {G : GX} {ls : Array Slot} {n k : Nat} {L : List AV} {v : AV} (h : LH G ls n L) (hv : L[k]? = some v) (hu : v ≠ vU) : ls[k]? = some (.val (cv G v)) := h.2.2.2 (k, cv G v) (lvl_mem.mpr ⟨k, v, hv, by omega, hu, rfl⟩)
theorem clr_succ (L : List AV) (k : Nat) : clr L (k + 1) = (match L[k]? with
    | some (.inr (.inl _)) => L.set k vU
    | _ => L) := rfl
theorem clr_len (L : List AV) (k : Nat) : (clr L k).length = L.length := by
  cases k with
  | zero => rfl
  | succ k =>
    rw [clr_succ]
    split <;> simp
theorem clr_get {L : List AV} {k j : Nat} {v : AV} (h : (clr L k)[j]? = some v) (hu : v ≠ vU) : L[j]? = some v ∧ ¬ (j + 1 = k ∧ ∃ x, v = vJ x) := by
  cases k with
  | zero => exact ⟨h, by omega⟩
  | succ k =>
    rw [clr_succ] at h
    split at h
    · next x hx =>
      rw [List.getElem?_set] at h
      by_cases hj : k = j
      · rw [if_pos hj] at h
        split at h
        · simp only [Option.some.injEq] at h; exact absurd h.symm hu
        · cases h
      · rw [if_neg hj] at h
        exact ⟨h, by omega⟩
    · next hx =>
      refine ⟨h, fun ⟨hj, x, hv⟩ => ?_⟩
      have : j = k := by omega
      subst this
      exact hx x (by rw [h, hv])
theorem cv_cat2 {G : GX} {v : AV} (hu : v ≠ vU) (h : (cv G v).category = 2) : ∃ x, v = vJ x := by
  obtain x | x | ⟨p, q⟩ | x := v
  · simp [cv, Value.category] at h
  · exact ⟨x, rfl⟩
  · simp [cv, Value.category] at h
  · exact absurd rfl hu
theorem LH.st1 {G : GX} {ls ls' : Array Slot} {n k : Nat} {L : List AV} {v : AV} (h : LH G ls n L) (h2 : lv_has ls' n ((k, cv G v) :: (lvl G 0 L).filter (fun q => !(q.1 == k) && !(q.1 + 1 == k && q.2.category == 2)))) : LH G ls' n ((clr L k).set k v) := by
  refine ⟨by rw [List.length_set, clr_len]; exact h.1, h2.1, h2.2.1, fun q hq => ?_⟩
  obtain ⟨a, w⟩ := q
  obtain ⟨j, u, e1, e2, e3, e4⟩ := lvl_mem.mp hq
  have ej : a = j := by omega
  subst ej
  rw [List.getElem?_set] at e1
  by_cases hk : k = a
  · rw [if_pos hk] at e1
    split at e1
    · simp only [Option.some.injEq] at e1
      subst e1
      rw [e4, ← hk]
      exact h2.2.2 _ List.mem_cons_self
    · cases e1
  · rw [if_neg hk] at e1
    obtain ⟨e5, e6⟩ := clr_get e1 e3
    refine h2.2.2 _ (List.mem_cons_of_mem _ (List.mem_filter.mpr ⟨lvl_mem.mpr ⟨a, u, e5, by omega, e3, e4⟩, ?_⟩))
    simp only [Bool.and_eq_true, Bool.not_eq_true', beq_eq_false_iff_ne, ne_eq, Bool.and_eq_false_iff]
    refine ⟨fun z => hk z.symm, ?_⟩
    by_cases h7 : a + 1 = k
    · right
      intro h8
      exact e6 ⟨h7, cv_cat2 e3 (by rw [← e4]; exact h8)⟩
    · exact Or.inl h7
theorem LH.st2 {G : GX} {ls ls' : Array Slot} {n k : Nat} {L : List AV} {v : AV} (h : LH G ls n L) (h2 : lv_has ls' n ((k, cv G v) :: (lvl G 0 L).filter (fun q => !(q.1 == k) && (!(q.1 == k + 1) && !(q.1 + 1 == k && q.2.category == 2))))) : LH G ls' n (((clr L k).set k v).set (k + 1) vU) := by
  refine ⟨by rw [List.length_set, List.length_set, clr_len]; exact h.1, h2.1, h2.2.1, fun q hq => ?_⟩
  obtain ⟨a, w⟩ := q
  obtain ⟨j, u, e1, e2, e3, e4⟩ := lvl_mem.mp hq
  have ej : a = j := by omega
  subst ej
  rw [List.getElem?_set] at e1
  by_cases hk1 : k + 1 = a
  · rw [if_pos hk1] at e1
    split at e1
    · simp only [Option.some.injEq] at e1
      exact absurd e1.symm e3
    · cases e1
  rw [if_neg hk1, List.getElem?_set] at e1
  by_cases hk : k = a
  · rw [if_pos hk] at e1
    split at e1
    · simp only [Option.some.injEq] at e1
      subst e1
      rw [e4, ← hk]
      exact h2.2.2 _ List.mem_cons_self
    · cases e1
  · rw [if_neg hk] at e1
    obtain ⟨e5, e6⟩ := clr_get e1 e3
    refine h2.2.2 _ (List.mem_cons_of_mem _ (List.mem_filter.mpr ⟨lvl_mem.mpr ⟨a, u, e5, by omega, e3, e4⟩, ?_⟩))
    simp only [Bool.and_eq_true, Bool.not_eq_true', beq_eq_false_iff_ne, ne_eq, Bool.and_eq_false_iff]
    refine ⟨fun z => hk z.symm, fun z => hk1 z.symm, ?_⟩
    by_cases h7 : a + 1 = k
    · right
      intro h8
      exact e6 ⟨h7, cv_cat2 e3 (by rw [← e4]; exact h8)⟩
    · exact Or.inl h7
def okV (v : AV) : Prop := match v with
  | .inr (.inr (.inl (k, i))) => okR k i
  | _ => True
def okRet (M : MI) (pc : Nat) (v : Option AV) : Prop := match v with
  | some (.inl x) => ∃ ty, M.ret = some ty ∧ ty ≠ .long ∧ narrow ty (.int x) = .int x ∧ decode M.bytes pc = .ok (.ireturn, 1)
  | some (.inr (.inl _)) => M.ret = some .long ∧ decode M.bytes pc = .ok (.lreturn, 1)
  | none => M.ret = none ∧ decode M.bytes pc = .ok (.return_, 1)
  | _ => False
def CX (M : MI) (d : Nat) (G : GX) (A : Nat → Prop) (p : Program) (R : Room) (s : State) (m : MethodId) (args : Array Value) (c : Code) (cells slots : Nat) : Prop :=
  OkM M ∧ p.tables.exec = Jvm.exec ∧ c.code = M.bytes ∧ c.maxLocals = M.maxL ∧ s.vm.findClass (cn M.own) = some m.cls ∧ (∀ w ∈ TT, w.before args s = true) ∧ SX G A s ∧ d ≤ R.frames ∧ 60 * d ≤ R.locals ∧ cells ≤ R.cells ∧ slots ≤ R.slots
/-- from this state of the abstract machine every machine that stands so comes to its return, with Post -/
def WS (d : Nat) (M : MI) (pc : Nat) (L S : List AV) (σ : Mem) (Post : Option AV → Mem → Prop) : Prop :=
  ∀ (G : GX) (A : Nat → Prop) (p : Program) (l : Launch) (e : Env) (R : Room) (s : State) (m : MethodId) (args : Array Value) (below : List Frame) (meth : Method) (c : Code) (H : Heap) (locs : List Loc) (cells slots : Nat) (ls : Array Slot) (Q : State → Prop),
    CX M d G A p R s m args c cells slots → va_P G.D classes (wsW G σ) H → ROM G σ → va_S A s.heap H locs → LH G ls M.maxL L → (∀ v ∈ L, okV v) → (∀ v ∈ S, okV v) →
    (∀ (H' : Heap) (locs' : List Loc) (ls' : Array Slot) (pc' : Nat) (v : Option AV) (σ' : Mem), Post v σ' → okRet M pc' v → va_P G.D classes (wsW G σ') H' → ROM G σ' → va_S A s.heap H' locs' → W p l e R s m args below meth c H' locs' cells slots Q (F0 m pc' ls' (v.toList.map (cv G)))) →
    W p l e R s m args below meth c H locs cells slots Q (F0 m pc ls (S.map (cv G)))
theorem okV_set {L : List AV} {k : Nat} {v : AV} (h : ∀ w ∈ L, okV w) (hv : okV v) : ∀ w ∈ (clr L k).set k v, okV w := by
  have hc : ∀ w ∈ clr L k, okV w := by
    cases k with
    | zero => exact h
    | succ k =>
      rw [clr_succ]
      split
      · intro w hw
        rcases List.mem_or_eq_of_mem_set hw with hw | hw
        · exact h w hw
        · rw [hw]; trivial
      · exact h
  intro w hw
  rcases List.mem_or_eq_of_mem_set hw with hw | hw
  · exact hc w hw
  · rw [hw]; exact hv
end
section
/-! one step of the abstract machine is one of the Java machine -/
def okF (own : Nat) (e : Nat × Nat × Nat × Nat × Bool) : Bool := match classes[e.2.1]? with
  | none => false
  | some q => decide (e.2.2.1 < q.2.2) && (bif e.2.2.2.2 then decide (Cond.fieldLinkNest (cn own) e.1 (q.2.1 e.2.2.1).1 (q.2.1 e.2.2.1).2.1 (q.2.1 e.2.2.1).2.2.1 "TouchMap" ∈ NN) else decide (Cond.fieldLink (cn own) e.1 (q.2.1 e.2.2.1).1 (q.2.1 e.2.2.1).2.1 (q.2.1 e.2.2.1).2.2.1 ∈ tables_1)) && (match e.2.2.2.1 with
    | 0 => decide ((q.2.1 e.2.2.1).2.2.1 = "I" ∧ (q.2.1 e.2.2.1).2.2.2 = false)
    | 1 => decide ((q.2.1 e.2.2.1).2.2.1 = "Z" ∧ (q.2.1 e.2.2.1).2.2.2 = false)
    | _ => true)
theorem FA_ok : (List.range 12).all (fun own => (FA own).all (okF own)) = true := by decide +kernel
theorem FA_out {own : Nat} (h : 12 ≤ own) : FA own = [] := by
  match own, h with
  | own + 12, _ => rfl
theorem FA_use {own idx c j ty : Nat} (h : fre (FA own) idx = some (c, j, ty)) : ∃ q, classes[c]? = some q ∧ j < q.2.2 ∧ (Cond.fieldLinkNest (cn own) idx (q.2.1 j).1 (q.2.1 j).2.1 (q.2.1 j).2.2.1 "TouchMap" ∈ NN ∨ Cond.fieldLink (cn own) idx (q.2.1 j).1 (q.2.1 j).2.1 (q.2.1 j).2.2.1 ∈ TT) ∧ (ty = 0 → (q.2.1 j).2.2.1 = "I" ∧ (q.2.1 j).2.2.2 = false) ∧ (ty = 1 → (q.2.1 j).2.2.1 = "Z" ∧ (q.2.1 j).2.2.2 = false) := by
  obtain ⟨b, hb⟩ := fre_mem h
  by_cases ho : own < 12
  · have h1 := List.all_eq_true.mp (List.all_eq_true.mp FA_ok own (List.mem_range.mpr ho)) _ hb
    unfold okF at h1
    cases hq : classes[c]? with
    | none => simp only [hq] at h1; cases h1
    | some q =>
      simp only [hq, Bool.and_eq_true, decide_eq_true_eq] at h1
      refine ⟨q, rfl, h1.1.1, ?_, ?_, ?_⟩
      · cases b with
        | true => exact Or.inl (by simpa using h1.1.2)
        | false => exact Or.inr (TT_t (by simpa using h1.1.2) rfl)
      · intro e
        subst e
        simpa using h1.2
      · intro e
        subst e
        simpa using h1.2
  · rw [FA_out (by omega)] at hb
    cases hb
theorem cl_in {c : Nat} {q : vw_C} (h : classes[c]? = some q) : (∀ w ∈ u_ws q.1 q.2.1 q.2.2, w ∈ TT) ∧ (∀ k, k < q.2.2 → parseFieldDescriptor (q.2.1 k).2.2.1 = some (tyOf c k)) ∧ (∀ a, a < q.2.2 → ∀ b, b < q.2.2 → a ≠ b → (q.2.1 a).2.1 ≠ (q.2.1 b).2.1) := by
  match c, h with
  | 0, h => cases h; exact ⟨i_Chooser, t_Chooser_ok, n_Chooser⟩
  | 1, h => cases h; exact ⟨i_Keeper, t_Keeper_ok, n_Keeper⟩
  | 2, h => cases h; exact ⟨i_Layer, t_Layer_ok, n_Layer⟩
  | 3, h => cases h; exact ⟨i_Line, t_Line_ok, n_Line⟩
  | 4, h => cases h; exact ⟨i_Name, t_Name_ok, n_Name⟩
  | 5, h => cases h; exact ⟨i_Ruler, t_Ruler_ok, n_Ruler⟩
  | 6, h => cases h; exact ⟨i_Setter, t_Setter_ok, n_Setter⟩
  | 7, h => cases h; exact ⟨i_Speller, t_Speller_ok, n_Speller⟩
  | 8, h => cases h; exact ⟨i_Way, t_Way_ok, n_Way⟩
  | 9, h => cases h; exact ⟨i_Word, t_Word_ok, n_Word⟩
  | 10, h => cases h; exact ⟨i_TM, t_TM_ok, n_TM⟩
  | 11, h => cases h; exact ⟨i_MD, t_MD_ok, n_MD⟩
  | k + 12, h => cases h
theorem lcon_w {own q : Nat} {v : Int64} (h : lcon own q = some v) : Cond.constantLong (cn own) q v ∈ TT := by
  unfold lcon at h
  split at h <;> first | (cases h; exact TT_t (by decide +kernel) rfl) | cases h
theorem icon_w {own q : Nat} {v : Int32} (h : icon own q = some v) : Cond.constant (cn own) q v ∈ TT := by
  unfold icon at h
  split at h <;> first | (cases h; exact TT_t (by decide +kernel) rfl) | cases h
theorem va_D1 {A : Nat → Prop} {a : Nat} {e : va_E} (h : A a) : va_D A [(a, e)] := by
  refine ⟨fun i j p q h1 h2 _ => ?_, fun k q hq => ?_⟩
  · have l1 := (List.getElem?_eq_some_iff.mp h1).1
    have l2 := (List.getElem?_eq_some_iff.mp h2).1
    simp only [List.length_cons, List.length_nil] at l1 l2
    omega
  · have l1 := (List.getElem?_eq_some_iff.mp hq).1
    simp only [List.length_cons, List.length_nil] at l1
    have : k = 0 := by omega
    subst this
    cases hq
    exact h
def Sim (i : Instr) : Prop := ∀ (d : Nat) (M : MI) (pc pc' : Nat) (L S L' S' : List AV) (σ σ' : Mem) (Post : Option AV → Mem → Prop) (C : List Prop), (OkM M → decode M.bytes pc = .ok (i, ilen i)) → nxt M.own i (ilen i) pc L S σ = some (C, pc', L', S', σ') → allP C → WS d M pc' L' S' σ' Post → WS d M pc L S σ Post
set_option maxHeartbeats 1000000 in
theorem sim_iconst (v : Int) : Sim (.iconst v) := by
  intro d M pc pc2 L S L2 S2 σ σ2 Post C hdg0 hs hC k G A p l e R s m args below meth c H locs cells slots ls Q hCX hP hR hS hL hoL hoS hQ
  have go := fun (H1 : Heap) (locs1 : List Loc) (ls1 : Array Slot) => k G A p l e R s m args below meth c H1 locs1 cells slots ls1 Q hCX
  obtain ⟨hM, hx, hb, hml, hown, hts, hSX, hd1, hd2, hc1, hc2⟩ := hCX
  have hdg := hdg0 hM
  cases hs
  exact lv_iconst hx hb hdg rfl (go H locs ls hP hR hS hL hoL (fun v hv => by rcases List.mem_cons.mp hv with rfl | hv <;> first | trivial | exact hoS v hv) hQ)
set_option maxHeartbeats 1000000 in
theorem sim_bipush (v : Int) : Sim (.bipush v) := by
  intro d M pc pc2 L S L2 S2 σ σ2 Post C hdg0 hs hC k G A p l e R s m args below meth c H locs cells slots ls Q hCX hP hR hS hL hoL hoS hQ
  have go := fun (H1 : Heap) (locs1 : List Loc) (ls1 : Array Slot) => k G A p l e R s m args below meth c H1 locs1 cells slots ls1 Q hCX
  obtain ⟨hM, hx, hb, hml, hown, hts, hSX, hd1, hd2, hc1, hc2⟩ := hCX
  have hdg := hdg0 hM
  cases hs
  exact lv_bipush hx hb hdg rfl (go H locs ls hP hR hS hL hoL (fun v hv => by rcases List.mem_cons.mp hv with rfl | hv <;> first | trivial | exact hoS v hv) hQ)
set_option maxHeartbeats 1000000 in
theorem sim_sipush (v : Int) : Sim (.sipush v) := by
  intro d M pc pc2 L S L2 S2 σ σ2 Post C hdg0 hs hC k G A p l e R s m args below meth c H locs cells slots ls Q hCX hP hR hS hL hoL hoS hQ
  have go := fun (H1 : Heap) (locs1 : List Loc) (ls1 : Array Slot) => k G A p l e R s m args below meth c H1 locs1 cells slots ls1 Q hCX
  obtain ⟨hM, hx, hb, hml, hown, hts, hSX, hd1, hd2, hc1, hc2⟩ := hCX
  have hdg := hdg0 hM
  cases hs
  exact lv_sipush hx hb hdg rfl (go H locs ls hP hR hS hL hoL (fun v hv => by rcases List.mem_cons.mp hv with rfl | hv <;> first | trivial | exact hoS v hv) hQ)
set_option maxHeartbeats 1000000 in
theorem sim_lconst (v : Fin 2) : Sim (.lconst v) := by
  intro d M pc pc2 L S L2 S2 σ σ2 Post C hdg0 hs hC k G A p l e R s m args below meth c H locs cells slots ls Q hCX hP hR hS hL hoL hoS hQ
  have go := fun (H1 : Heap) (locs1 : List Loc) (ls1 : Array Slot) => k G A p l e R s m args below meth c H1 locs1 cells slots ls1 Q hCX
  obtain ⟨hM, hx, hb, hml, hown, hts, hSX, hd1, hd2, hc1, hc2⟩ := hCX
  have hdg := hdg0 hM
  cases hs
  exact lv_lconst hx hb hdg rfl (go H locs ls hP hR hS hL hoL (fun v hv => by rcases List.mem_cons.mp hv with rfl | hv <;> first | trivial | exact hoS v hv) hQ)
set_option maxHeartbeats 1000000 in
theorem sim_iload_n (q : Fin 4) : Sim (.iload_n q) := by
  intro d M pc pc2 L S L2 S2 σ σ2 Post C hdg0 hs hC k G A p l e R s m args below meth c H locs cells slots ls Q hCX hP hR hS hL hoL hoS hQ
  have go := fun (H1 : Heap) (locs1 : List Loc) (ls1 : Array Slot) => k G A p l e R s m args below meth c H1 locs1 cells slots ls1 Q hCX
  obtain ⟨hM, hx, hb, hml, hown, hts, hSX, hd1, hd2, hc1, hc2⟩ := hCX
  have hdg := hdg0 hM
  simp only [nxt, iLd] at hs
  split at hs
  · next x hv =>
    cases hs
    refine lv_iload_n hx hb hdg rfl (hL.get hv (by simp)) (go H locs ls hP hR hS hL hoL ?_ hQ)
    intro v hw
    rcases List.mem_cons.mp hw with rfl | hw
    · exact trivial
    · exact hoS v hw
  · cases hs
set_option maxHeartbeats 1000000 in
theorem sim_iload (q : Nat) : Sim (.iload q) := by
  intro d M pc pc2 L S L2 S2 σ σ2 Post C hdg0 hs hC k G A p l e R s m args below meth c H locs cells slots ls Q hCX hP hR hS hL hoL hoS hQ
  have go := fun (H1 : Heap) (locs1 : List Loc) (ls1 : Array Slot) => k G A p l e R s m args below meth c H1 locs1 cells slots ls1 Q hCX
  obtain ⟨hM, hx, hb, hml, hown, hts, hSX, hd1, hd2, hc1, hc2⟩ := hCX
  have hdg := hdg0 hM
  simp only [nxt, iLd] at hs
  split at hs
  · next x hv =>
    cases hs
    refine lv_iload hx hb hdg (hL.get hv (by simp)) (go H locs ls hP hR hS hL hoL ?_ hQ)
    intro v hw
    rcases List.mem_cons.mp hw with rfl | hw
    · exact trivial
    · exact hoS v hw
  · cases hs
set_option maxHeartbeats 1000000 in
theorem sim_lload_n (q : Fin 4) : Sim (.lload_n q) := by
  intro d M pc pc2 L S L2 S2 σ σ2 Post C hdg0 hs hC k G A p l e R s m args below meth c H locs cells slots ls Q hCX hP hR hS hL hoL hoS hQ
  have go := fun (H1 : Heap) (locs1 : List Loc) (ls1 : Array Slot) => k G A p l e R s m args below meth c H1 locs1 cells slots ls1 Q hCX
  obtain ⟨hM, hx, hb, hml, hown, hts, hSX, hd1, hd2, hc1, hc2⟩ := hCX
  have hdg := hdg0 hM
  simp only [nxt, lLd] at hs
  split at hs
  · next x hv =>
    cases hs
    refine lv_lload_n hx hb hdg rfl (hL.get hv (by simp)) (go H locs ls hP hR hS hL hoL ?_ hQ)
    intro v hw
    rcases List.mem_cons.mp hw with rfl | hw
    · exact trivial
    · exact hoS v hw
  · cases hs
set_option maxHeartbeats 1000000 in
theorem sim_lload (q : Nat) : Sim (.lload q) := by
  intro d M pc pc2 L S L2 S2 σ σ2 Post C hdg0 hs hC k G A p l e R s m args below meth c H locs cells slots ls Q hCX hP hR hS hL hoL hoS hQ
  have go := fun (H1 : Heap) (locs1 : List Loc) (ls1 : Array Slot) => k G A p l e R s m args below meth c H1 locs1 cells slots ls1 Q hCX
  obtain ⟨hM, hx, hb, hml, hown, hts, hSX, hd1, hd2, hc1, hc2⟩ := hCX
  have hdg := hdg0 hM
  simp only [nxt, lLd] at hs
  split at hs
  · next x hv =>
    cases hs
    refine lv_lload hx hb hdg (hL.get hv (by simp)) (go H locs ls hP hR hS hL hoL ?_ hQ)
    intro v hw
    rcases List.mem_cons.mp hw with rfl | hw
    · exact trivial
    · exact hoS v hw
  · cases hs
set_option maxHeartbeats 1000000 in
theorem sim_aload_n (q : Fin 4) : Sim (.aload_n q) := by
  intro d M pc pc2 L S L2 S2 σ σ2 Post C hdg0 hs hC k G A p l e R s m args below meth c H locs cells slots ls Q hCX hP hR hS hL hoL hoS hQ
  have go := fun (H1 : Heap) (locs1 : List Loc) (ls1 : Array Slot) => k G A p l e R s m args below meth c H1 locs1 cells slots ls1 Q hCX
  obtain ⟨hM, hx, hb, hml, hown, hts, hSX, hd1, hd2, hc1, hc2⟩ := hCX
  have hdg := hdg0 hM
  simp only [nxt, aLd] at hs
  split at hs
  · next a b hv =>
    cases hs
    refine lv_aload_n hx hb hdg rfl (hL.get hv (by simp)) (go H locs ls hP hR hS hL hoL ?_ hQ)
    intro v hw
    rcases List.mem_cons.mp hw with rfl | hw
    · exact (hoL _ (List.mem_of_getElem? hv))
    · exact hoS v hw
  · cases hs
set_option maxHeartbeats 1000000 in
theorem sim_aload (q : Nat) : Sim (.aload q) := by
  intro d M pc pc2 L S L2 S2 σ σ2 Post C hdg0 hs hC k G A p l e R s m args below meth c H locs cells slots ls Q hCX hP hR hS hL hoL hoS hQ
  have go := fun (H1 : Heap) (locs1 : List Loc) (ls1 : Array Slot) => k G A p l e R s m args below meth c H1 locs1 cells slots ls1 Q hCX
  obtain ⟨hM, hx, hb, hml, hown, hts, hSX, hd1, hd2, hc1, hc2⟩ := hCX
  have hdg := hdg0 hM
  simp only [nxt, aLd] at hs
  split at hs
  · next a b hv =>
    cases hs
    refine lv_aload hx hb hdg (hL.get hv (by simp)) (go H locs ls hP hR hS hL hoL ?_ hQ)
    intro v hw
    rcases List.mem_cons.mp hw with rfl | hw
    · exact (hoL _ (List.mem_of_getElem? hv))
    · exact hoS v hw
  · cases hs
set_option maxHeartbeats 1000000 in
theorem sim_istore_n (q : Fin 4) : Sim (.istore_n q) := by
  intro d M pc pc2 L S L2 S2 σ σ2 Post C hdg0 hs hC k G A p l e R s m args below meth c H locs cells slots ls Q hCX hP hR hS hL hoL hoS hQ
  have go := fun (H1 : Heap) (locs1 : List Loc) (ls1 : Array Slot) => k G A p l e R s m args below meth c H1 locs1 cells slots ls1 Q hCX
  obtain ⟨hM, hx, hb, hml, hown, hts, hSX, hd1, hd2, hc1, hc2⟩ := hCX
  have hdg := hdg0 hM
  simp only [nxt, iSt] at hs
  split at hs
  · next hv =>
    cases hs
    exact lv_istore_n hx hb hdg rfl hL.2 (by rw [← hL.1]; exact (List.getElem?_eq_some_iff.mp hv).1) rfl (fun ls1 h1 => go H locs ls1 hP hR hS (hL.st1 h1) (okV_set hoL (hoS _ List.mem_cons_self)) (fun v hw => hoS v (List.mem_cons_of_mem _ hw)) hQ)
  · cases hs
set_option maxHeartbeats 1000000 in
theorem sim_istore (q : Nat) : Sim (.istore q) := by
  intro d M pc pc2 L S L2 S2 σ σ2 Post C hdg0 hs hC k G A p l e R s m args below meth c H locs cells slots ls Q hCX hP hR hS hL hoL hoS hQ
  have go := fun (H1 : Heap) (locs1 : List Loc) (ls1 : Array Slot) => k G A p l e R s m args below meth c H1 locs1 cells slots ls1 Q hCX
  obtain ⟨hM, hx, hb, hml, hown, hts, hSX, hd1, hd2, hc1, hc2⟩ := hCX
  have hdg := hdg0 hM
  simp only [nxt, iSt] at hs
  split at hs
  · next hv =>
    cases hs
    exact lv_istore hx hb hdg hL.2 (by rw [← hL.1]; exact (List.getElem?_eq_some_iff.mp hv).1) rfl (fun ls1 h1 => go H locs ls1 hP hR hS (hL.st1 h1) (okV_set hoL (hoS _ List.mem_cons_self)) (fun v hw => hoS v (List.mem_cons_of_mem _ hw)) hQ)
  · cases hs
set_option maxHeartbeats 1000000 in
theorem sim_lstore_n (q : Fin 4) : Sim (.lstore_n q) := by
  intro d M pc pc2 L S L2 S2 σ σ2 Post C hdg0 hs hC k G A p l e R s m args below meth c H locs cells slots ls Q hCX hP hR hS hL hoL hoS hQ
  have go := fun (H1 : Heap) (locs1 : List Loc) (ls1 : Array Slot) => k G A p l e R s m args below meth c H1 locs1 cells slots ls1 Q hCX
  obtain ⟨hM, hx, hb, hml, hown, hts, hSX, hd1, hd2, hc1, hc2⟩ := hCX
  have hdg := hdg0 hM
  simp only [nxt, lSt] at hs
  split at hs
  · next hv =>
    cases hs
    refine lv_lstore_n hx hb hdg rfl hL.2 (by rw [← hL.1]; exact (List.getElem?_eq_some_iff.mp hv).1) rfl (fun ls1 h1 => go H locs ls1 hP hR hS (hL.st2 h1) ?_ (fun v hw => hoS v (List.mem_cons_of_mem _ hw)) hQ)
    intro w hw
    rcases List.mem_or_eq_of_mem_set hw with hw | hw
    · exact okV_set hoL (hoS _ List.mem_cons_self) w hw
    · rw [hw]; trivial
  · cases hs
set_option maxHeartbeats 1000000 in
theorem sim_lstore (q : Nat) : Sim (.lstore q) := by
  intro d M pc pc2 L S L2 S2 σ σ2 Post C hdg0 hs hC k G A p l e R s m args below meth c H locs cells slots ls Q hCX hP hR hS hL hoL hoS hQ
  have go := fun (H1 : Heap) (locs1 : List Loc) (ls1 : Array Slot) => k G A p l e R s m args below meth c H1 locs1 cells slots ls1 Q hCX
  obtain ⟨hM, hx, hb, hml, hown, hts, hSX, hd1, hd2, hc1, hc2⟩ := hCX
  have hdg := hdg0 hM
  simp only [nxt, lSt] at hs
  split at hs
  · next hv =>
    cases hs
    refine lv_lstore hx hb hdg hL.2 (by rw [← hL.1]; exact (List.getElem?_eq_some_iff.mp hv).1) rfl (fun ls1 h1 => go H locs ls1 hP hR hS (hL.st2 h1) ?_ (fun v hw => hoS v (List.mem_cons_of_mem _ hw)) hQ)
    intro w hw
    rcases List.mem_or_eq_of_mem_set hw with hw | hw
    · exact okV_set hoL (hoS _ List.mem_cons_self) w hw
    · rw [hw]; trivial
  · cases hs
set_option maxHeartbeats 1000000 in
theorem sim_astore_n (q : Fin 4) : Sim (.astore_n q) := by
  intro d M pc pc2 L S L2 S2 σ σ2 Post C hdg0 hs hC k G A p l e R s m args below meth c H locs cells slots ls Q hCX hP hR hS hL hoL hoS hQ
  have go := fun (H1 : Heap) (locs1 : List Loc) (ls1 : Array Slot) => k G A p l e R s m args below meth c H1 locs1 cells slots ls1 Q hCX
  obtain ⟨hM, hx, hb, hml, hown, hts, hSX, hd1, hd2, hc1, hc2⟩ := hCX
  have hdg := hdg0 hM
  simp only [nxt, aSt] at hs
  split at hs
  · next hv =>
    cases hs
    exact lv_astore_n hx hb hdg rfl hL.2 (by rw [← hL.1]; exact (List.getElem?_eq_some_iff.mp hv).1) rfl (fun ls1 h1 => go H locs ls1 hP hR hS (hL.st1 h1) (okV_set hoL (hoS _ List.mem_cons_self)) (fun v hw => hoS v (List.mem_cons_of_mem _ hw)) hQ)
  · cases hs
set_option maxHeartbeats 1000000 in
theorem sim_astore (q : Nat) : Sim (.astore q) := by
  intro d M pc pc2 L S L2 S2 σ σ2 Post C hdg0 hs hC k G A p l e R s m args below meth c H locs cells slots ls Q hCX hP hR hS hL hoL hoS hQ
  have go := fun (H1 : Heap) (locs1 : List Loc) (ls1 : Array Slot) => k G A p l e R s m args below meth c H1 locs1 cells slots ls1 Q hCX
  obtain ⟨hM, hx, hb, hml, hown, hts, hSX, hd1, hd2, hc1, hc2⟩ := hCX
  have hdg := hdg0 hM
  simp only [nxt, aSt] at hs
  split at hs
  · next hv =>
    cases hs
    exact lv_astore hx hb hdg hL.2 (by rw [← hL.1]; exact (List.getElem?_eq_some_iff.mp hv).1) rfl (fun ls1 h1 => go H locs ls1 hP hR hS (hL.st1 h1) (okV_set hoL (hoS _ List.mem_cons_self)) (fun v hw => hoS v (List.mem_cons_of_mem _ hw)) hQ)
  · cases hs
set_option maxHeartbeats 1000000 in
theorem sim_iinc (q : Nat) (w : Int) : Sim (.iinc q w) := by
  intro d M pc pc2 L S L2 S2 σ σ2 Post C hdg0 hs hC k G A p l e R s m args below meth c H locs cells slots ls Q hCX hP hR hS hL hoL hoS hQ
  have go := fun (H1 : Heap) (locs1 : List Loc) (ls1 : Array Slot) => k G A p l e R s m args below meth c H1 locs1 cells slots ls1 Q hCX
  obtain ⟨hM, hx, hb, hml, hown, hts, hSX, hd1, hd2, hc1, hc2⟩ := hCX
  have hdg := hdg0 hM
  simp only [nxt] at hs
  split at hs
  · next x hv =>
    cases hs
    obtain ⟨j, hj⟩ := List.mem_iff_getElem?.mp (lvl_mem.mpr ⟨q, vI x, hv, (Nat.zero_add q).symm, by simp, rfl⟩ : (q, Value.int x) ∈ lvl G 0 L)
    exact lv_iinc hx hb hdg hL.2 hj rfl (by rw [← hL.1]; exact (List.getElem?_eq_some_iff.mp hv).1) rfl (fun ls1 h1 => go H locs ls1 hP hR hS (hL.st1 h1) (okV_set hoL trivial) hoS hQ)
  · cases hs
set_option maxHeartbeats 1000000 in
theorem sim_iadd  : Sim (.iadd) := by
  intro d M pc pc2 L S L2 S2 σ σ2 Post C hdg0 hs hC k G A p l e R s m args below meth c H locs cells slots ls Q hCX hP hR hS hL hoL hoS hQ
  have go := fun (H1 : Heap) (locs1 : List Loc) (ls1 : Array Slot) => k G A p l e R s m args below meth c H1 locs1 cells slots ls1 Q hCX
  obtain ⟨hM, hx, hb, hml, hown, hts, hSX, hd1, hd2, hc1, hc2⟩ := hCX
  have hdg := hdg0 hM
  simp only [nxt, i2] at hs
  split at hs
  · cases hs
    exact lv_iadd hx hb hdg (go H locs ls hP hR hS hL hoL (fun v hw => by rcases List.mem_cons.mp hw with rfl | hw <;> first | trivial | exact hoS v (List.mem_cons_of_mem _ (List.mem_cons_of_mem _ hw))) hQ)
  · cases hs
set_option maxHeartbeats 1000000 in
theorem sim_isub  : Sim (.isub) := by
  intro d M pc pc2 L S L2 S2 σ σ2 Post C hdg0 hs hC k G A p l e R s m args below meth c H locs cells slots ls Q hCX hP hR hS hL hoL hoS hQ
  have go := fun (H1 : Heap) (locs1 : List Loc) (ls1 : Array Slot) => k G A p l e R s m args below meth c H1 locs1 cells slots ls1 Q hCX
  obtain ⟨hM, hx, hb, hml, hown, hts, hSX, hd1, hd2, hc1, hc2⟩ := hCX
  have hdg := hdg0 hM
  simp only [nxt, i2] at hs
  split at hs
  · cases hs
    exact lv_isub hx hb hdg (go H locs ls hP hR hS hL hoL (fun v hw => by rcases List.mem_cons.mp hw with rfl | hw <;> first | trivial | exact hoS v (List.mem_cons_of_mem _ (List.mem_cons_of_mem _ hw))) hQ)
  · cases hs
set_option maxHeartbeats 1000000 in
theorem sim_imul  : Sim (.imul) := by
  intro d M pc pc2 L S L2 S2 σ σ2 Post C hdg0 hs hC k G A p l e R s m args below meth c H locs cells slots ls Q hCX hP hR hS hL hoL hoS hQ
  have go := fun (H1 : Heap) (locs1 : List Loc) (ls1 : Array Slot) => k G A p l e R s m args below meth c H1 locs1 cells slots ls1 Q hCX
  obtain ⟨hM, hx, hb, hml, hown, hts, hSX, hd1, hd2, hc1, hc2⟩ := hCX
  have hdg := hdg0 hM
  simp only [nxt, i2] at hs
  split at hs
  · cases hs
    exact lv_imul hx hb hdg (go H locs ls hP hR hS hL hoL (fun v hw => by rcases List.mem_cons.mp hw with rfl | hw <;> first | trivial | exact hoS v (List.mem_cons_of_mem _ (List.mem_cons_of_mem _ hw))) hQ)
  · cases hs
set_option maxHeartbeats 1000000 in
theorem sim_iand  : Sim (.iand) := by
  intro d M pc pc2 L S L2 S2 σ σ2 Post C hdg0 hs hC k G A p l e R s m args below meth c H locs cells slots ls Q hCX hP hR hS hL hoL hoS hQ
  have go := fun (H1 : Heap) (locs1 : List Loc) (ls1 : Array Slot) => k G A p l e R s m args below meth c H1 locs1 cells slots ls1 Q hCX
  obtain ⟨hM, hx, hb, hml, hown, hts, hSX, hd1, hd2, hc1, hc2⟩ := hCX
  have hdg := hdg0 hM
  simp only [nxt, i2] at hs
  split at hs
  · cases hs
    exact lv_iand hx hb hdg (go H locs ls hP hR hS hL hoL (fun v hw => by rcases List.mem_cons.mp hw with rfl | hw <;> first | trivial | exact hoS v (List.mem_cons_of_mem _ (List.mem_cons_of_mem _ hw))) hQ)
  · cases hs
set_option maxHeartbeats 1000000 in
theorem sim_ior  : Sim (.ior) := by
  intro d M pc pc2 L S L2 S2 σ σ2 Post C hdg0 hs hC k G A p l e R s m args below meth c H locs cells slots ls Q hCX hP hR hS hL hoL hoS hQ
  have go := fun (H1 : Heap) (locs1 : List Loc) (ls1 : Array Slot) => k G A p l e R s m args below meth c H1 locs1 cells slots ls1 Q hCX
  obtain ⟨hM, hx, hb, hml, hown, hts, hSX, hd1, hd2, hc1, hc2⟩ := hCX
  have hdg := hdg0 hM
  simp only [nxt, i2] at hs
  split at hs
  · cases hs
    exact lv_ior hx hb hdg (go H locs ls hP hR hS hL hoL (fun v hw => by rcases List.mem_cons.mp hw with rfl | hw <;> first | trivial | exact hoS v (List.mem_cons_of_mem _ (List.mem_cons_of_mem _ hw))) hQ)
  · cases hs
set_option maxHeartbeats 1000000 in
theorem sim_ixor  : Sim (.ixor) := by
  intro d M pc pc2 L S L2 S2 σ σ2 Post C hdg0 hs hC k G A p l e R s m args below meth c H locs cells slots ls Q hCX hP hR hS hL hoL hoS hQ
  have go := fun (H1 : Heap) (locs1 : List Loc) (ls1 : Array Slot) => k G A p l e R s m args below meth c H1 locs1 cells slots ls1 Q hCX
  obtain ⟨hM, hx, hb, hml, hown, hts, hSX, hd1, hd2, hc1, hc2⟩ := hCX
  have hdg := hdg0 hM
  simp only [nxt, i2] at hs
  split at hs
  · cases hs
    exact lv_ixor hx hb hdg (go H locs ls hP hR hS hL hoL (fun v hw => by rcases List.mem_cons.mp hw with rfl | hw <;> first | trivial | exact hoS v (List.mem_cons_of_mem _ (List.mem_cons_of_mem _ hw))) hQ)
  · cases hs
set_option maxHeartbeats 1000000 in
theorem sim_ishl  : Sim (.ishl) := by
  intro d M pc pc2 L S L2 S2 σ σ2 Post C hdg0 hs hC k G A p l e R s m args below meth c H locs cells slots ls Q hCX hP hR hS hL hoL hoS hQ
  have go := fun (H1 : Heap) (locs1 : List Loc) (ls1 : Array Slot) => k G A p l e R s m args below meth c H1 locs1 cells slots ls1 Q hCX
  obtain ⟨hM, hx, hb, hml, hown, hts, hSX, hd1, hd2, hc1, hc2⟩ := hCX
  have hdg := hdg0 hM
  simp only [nxt, i2] at hs
  split at hs
  · cases hs
    exact lv_ishl hx hb hdg (go H locs ls hP hR hS hL hoL (fun v hw => by rcases List.mem_cons.mp hw with rfl | hw <;> first | trivial | exact hoS v (List.mem_cons_of_mem _ (List.mem_cons_of_mem _ hw))) hQ)
  · cases hs
set_option maxHeartbeats 1000000 in
theorem sim_ishr  : Sim (.ishr) := by
  intro d M pc pc2 L S L2 S2 σ σ2 Post C hdg0 hs hC k G A p l e R s m args below meth c H locs cells slots ls Q hCX hP hR hS hL hoL hoS hQ
  have go := fun (H1 : Heap) (locs1 : List Loc) (ls1 : Array Slot) => k G A p l e R s m args below meth c H1 locs1 cells slots ls1 Q hCX
  obtain ⟨hM, hx, hb, hml, hown, hts, hSX, hd1, hd2, hc1, hc2⟩ := hCX
  have hdg := hdg0 hM
  simp only [nxt, i2] at hs
  split at hs
  · cases hs
    exact lv_ishr hx hb hdg (go H locs ls hP hR hS hL hoL (fun v hw => by rcases List.mem_cons.mp hw with rfl | hw <;> first | trivial | exact hoS v (List.mem_cons_of_mem _ (List.mem_cons_of_mem _ hw))) hQ)
  · cases hs
set_option maxHeartbeats 1000000 in
theorem sim_iushr  : Sim (.iushr) := by
  intro d M pc pc2 L S L2 S2 σ σ2 Post C hdg0 hs hC k G A p l e R s m args below meth c H locs cells slots ls Q hCX hP hR hS hL hoL hoS hQ
  have go := fun (H1 : Heap) (locs1 : List Loc) (ls1 : Array Slot) => k G A p l e R s m args below meth c H1 locs1 cells slots ls1 Q hCX
  obtain ⟨hM, hx, hb, hml, hown, hts, hSX, hd1, hd2, hc1, hc2⟩ := hCX
  have hdg := hdg0 hM
  simp only [nxt, i2] at hs
  split at hs
  · cases hs
    exact lv_iushr hx hb hdg rfl (go H locs ls hP hR hS hL hoL (fun v hw => by rcases List.mem_cons.mp hw with rfl | hw <;> first | trivial | exact hoS v (List.mem_cons_of_mem _ (List.mem_cons_of_mem _ hw))) hQ)
  · cases hs
set_option maxHeartbeats 1000000 in
theorem sim_ladd  : Sim (.ladd) := by
  intro d M pc pc2 L S L2 S2 σ σ2 Post C hdg0 hs hC k G A p l e R s m args below meth c H locs cells slots ls Q hCX hP hR hS hL hoL hoS hQ
  have go := fun (H1 : Heap) (locs1 : List Loc) (ls1 : Array Slot) => k G A p l e R s m args below meth c H1 locs1 cells slots ls1 Q hCX
  obtain ⟨hM, hx, hb, hml, hown, hts, hSX, hd1, hd2, hc1, hc2⟩ := hCX
  have hdg := hdg0 hM
  simp only [nxt, l2] at hs
  split at hs
  · cases hs
    exact lv_ladd hx hb hdg (go H locs ls hP hR hS hL hoL (fun v hw => by rcases List.mem_cons.mp hw with rfl | hw <;> first | trivial | exact hoS v (List.mem_cons_of_mem _ (List.mem_cons_of_mem _ hw))) hQ)
  · cases hs
set_option maxHeartbeats 1000000 in
theorem sim_lsub  : Sim (.lsub) := by
  intro d M pc pc2 L S L2 S2 σ σ2 Post C hdg0 hs hC k G A p l e R s m args below meth c H locs cells slots ls Q hCX hP hR hS hL hoL hoS hQ
  have go := fun (H1 : Heap) (locs1 : List Loc) (ls1 : Array Slot) => k G A p l e R s m args below meth c H1 locs1 cells slots ls1 Q hCX
  obtain ⟨hM, hx, hb, hml, hown, hts, hSX, hd1, hd2, hc1, hc2⟩ := hCX
  have hdg := hdg0 hM
  simp only [nxt, l2] at hs
  split at hs
  · cases hs
    exact lv_lsub hx hb hdg (go H locs ls hP hR hS hL hoL (fun v hw => by rcases List.mem_cons.mp hw with rfl | hw <;> first | trivial | exact hoS v (List.mem_cons_of_mem _ (List.mem_cons_of_mem _ hw))) hQ)
  · cases hs
set_option maxHeartbeats 1000000 in
theorem sim_lmul  : Sim (.lmul) := by
  intro d M pc pc2 L S L2 S2 σ σ2 Post C hdg0 hs hC k G A p l e R s m args below meth c H locs cells slots ls Q hCX hP hR hS hL hoL hoS hQ
  have go := fun (H1 : Heap) (locs1 : List Loc) (ls1 : Array Slot) => k G A p l e R s m args below meth c H1 locs1 cells slots ls1 Q hCX
  obtain ⟨hM, hx, hb, hml, hown, hts, hSX, hd1, hd2, hc1, hc2⟩ := hCX
  have hdg := hdg0 hM
  simp only [nxt, l2] at hs
  split at hs
  · cases hs
    exact lv_lmul hx hb hdg (go H locs ls hP hR hS hL hoL (fun v hw => by rcases List.mem_cons.mp hw with rfl | hw <;> first | trivial | exact hoS v (List.mem_cons_of_mem _ (List.mem_cons_of_mem _ hw))) hQ)
  · cases hs
set_option maxHeartbeats 1000000 in
theorem sim_land  : Sim (.land) := by
  intro d M pc pc2 L S L2 S2 σ σ2 Post C hdg0 hs hC k G A p l e R s m args below meth c H locs cells slots ls Q hCX hP hR hS hL hoL hoS hQ
  have go := fun (H1 : Heap) (locs1 : List Loc) (ls1 : Array Slot) => k G A p l e R s m args below meth c H1 locs1 cells slots ls1 Q hCX
  obtain ⟨hM, hx, hb, hml, hown, hts, hSX, hd1, hd2, hc1, hc2⟩ := hCX
  have hdg := hdg0 hM
  simp only [nxt, l2] at hs
  split at hs
  · cases hs
    exact lv_land hx hb hdg (go H locs ls hP hR hS hL hoL (fun v hw => by rcases List.mem_cons.mp hw with rfl | hw <;> first | trivial | exact hoS v (List.mem_cons_of_mem _ (List.mem_cons_of_mem _ hw))) hQ)
  · cases hs
set_option maxHeartbeats 1000000 in
theorem sim_lor  : Sim (.lor) := by
  intro d M pc pc2 L S L2 S2 σ σ2 Post C hdg0 hs hC k G A p l e R s m args below meth c H locs cells slots ls Q hCX hP hR hS hL hoL hoS hQ
  have go := fun (H1 : Heap) (locs1 : List Loc) (ls1 : Array Slot) => k G A p l e R s m args below meth c H1 locs1 cells slots ls1 Q hCX
  obtain ⟨hM, hx, hb, hml, hown, hts, hSX, hd1, hd2, hc1, hc2⟩ := hCX
  have hdg := hdg0 hM
  simp only [nxt, l2] at hs
  split at hs
  · cases hs
    exact lv_lor hx hb hdg (go H locs ls hP hR hS hL hoL (fun v hw => by rcases List.mem_cons.mp hw with rfl | hw <;> first | trivial | exact hoS v (List.mem_cons_of_mem _ (List.mem_cons_of_mem _ hw))) hQ)
  · cases hs
set_option maxHeartbeats 1000000 in
theorem sim_lxor  : Sim (.lxor) := by
  intro d M pc pc2 L S L2 S2 σ σ2 Post C hdg0 hs hC k G A p l e R s m args below meth c H locs cells slots ls Q hCX hP hR hS hL hoL hoS hQ
  have go := fun (H1 : Heap) (locs1 : List Loc) (ls1 : Array Slot) => k G A p l e R s m args below meth c H1 locs1 cells slots ls1 Q hCX
  obtain ⟨hM, hx, hb, hml, hown, hts, hSX, hd1, hd2, hc1, hc2⟩ := hCX
  have hdg := hdg0 hM
  simp only [nxt, l2] at hs
  split at hs
  · cases hs
    exact lv_lxor hx hb hdg (go H locs ls hP hR hS hL hoL (fun v hw => by rcases List.mem_cons.mp hw with rfl | hw <;> first | trivial | exact hoS v (List.mem_cons_of_mem _ (List.mem_cons_of_mem _ hw))) hQ)
  · cases hs
set_option maxHeartbeats 1000000 in
theorem sim_lshl  : Sim (.lshl) := by
  intro d M pc pc2 L S L2 S2 σ σ2 Post C hdg0 hs hC k G A p l e R s m args below meth c H locs cells slots ls Q hCX hP hR hS hL hoL hoS hQ
  have go := fun (H1 : Heap) (locs1 : List Loc) (ls1 : Array Slot) => k G A p l e R s m args below meth c H1 locs1 cells slots ls1 Q hCX
  obtain ⟨hM, hx, hb, hml, hown, hts, hSX, hd1, hd2, hc1, hc2⟩ := hCX
  have hdg := hdg0 hM
  simp only [nxt, li2] at hs
  split at hs
  · cases hs
    exact lv_lshl hx hb hdg rfl (go H locs ls hP hR hS hL hoL (fun v hw => by rcases List.mem_cons.mp hw with rfl | hw <;> first | trivial | exact hoS v (List.mem_cons_of_mem _ (List.mem_cons_of_mem _ hw))) hQ)
  · cases hs
set_option maxHeartbeats 1000000 in
theorem sim_lushr  : Sim (.lushr) := by
  intro d M pc pc2 L S L2 S2 σ σ2 Post C hdg0 hs hC k G A p l e R s m args below meth c H locs cells slots ls Q hCX hP hR hS hL hoL hoS hQ
  have go := fun (H1 : Heap) (locs1 : List Loc) (ls1 : Array Slot) => k G A p l e R s m args below meth c H1 locs1 cells slots ls1 Q hCX
  obtain ⟨hM, hx, hb, hml, hown, hts, hSX, hd1, hd2, hc1, hc2⟩ := hCX
  have hdg := hdg0 hM
  simp only [nxt, li2] at hs
  split at hs
  · cases hs
    exact lv_lushr hx hb hdg rfl (go H locs ls hP hR hS hL hoL (fun v hw => by rcases List.mem_cons.mp hw with rfl | hw <;> first | trivial | exact hoS v (List.mem_cons_of_mem _ (List.mem_cons_of_mem _ hw))) hQ)
  · cases hs
set_option maxHeartbeats 1000000 in
theorem sim_ineg  : Sim (.ineg) := by
  intro d M pc pc2 L S L2 S2 σ σ2 Post C hdg0 hs hC k G A p l e R s m args below meth c H locs cells slots ls Q hCX hP hR hS hL hoL hoS hQ
  have go := fun (H1 : Heap) (locs1 : List Loc) (ls1 : Array Slot) => k G A p l e R s m args below meth c H1 locs1 cells slots ls1 Q hCX
  obtain ⟨hM, hx, hb, hml, hown, hts, hSX, hd1, hd2, hc1, hc2⟩ := hCX
  have hdg := hdg0 hM
  simp only [nxt] at hs
  split at hs
  · cases hs
    exact lv_ineg hx hb hdg (go H locs ls hP hR hS hL hoL (fun v hw => by rcases List.mem_cons.mp hw with rfl | hw <;> first | trivial | exact hoS v (List.mem_cons_of_mem _ hw)) hQ)
  · cases hs
set_option maxHeartbeats 1000000 in
theorem sim_lneg  : Sim (.lneg) := by
  intro d M pc pc2 L S L2 S2 σ σ2 Post C hdg0 hs hC k G A p l e R s m args below meth c H locs cells slots ls Q hCX hP hR hS hL hoL hoS hQ
  have go := fun (H1 : Heap) (locs1 : List Loc) (ls1 : Array Slot) => k G A p l e R s m args below meth c H1 locs1 cells slots ls1 Q hCX
  obtain ⟨hM, hx, hb, hml, hown, hts, hSX, hd1, hd2, hc1, hc2⟩ := hCX
  have hdg := hdg0 hM
  simp only [nxt] at hs
  split at hs
  · cases hs
    exact lv_lneg hx hb hdg (go H locs ls hP hR hS hL hoL (fun v hw => by rcases List.mem_cons.mp hw with rfl | hw <;> first | trivial | exact hoS v (List.mem_cons_of_mem _ hw)) hQ)
  · cases hs
set_option maxHeartbeats 1000000 in
theorem sim_i2l  : Sim (.i2l) := by
  intro d M pc pc2 L S L2 S2 σ σ2 Post C hdg0 hs hC k G A p l e R s m args below meth c H locs cells slots ls Q hCX hP hR hS hL hoL hoS hQ
  have go := fun (H1 : Heap) (locs1 : List Loc) (ls1 : Array Slot) => k G A p l e R s m args below meth c H1 locs1 cells slots ls1 Q hCX
  obtain ⟨hM, hx, hb, hml, hown, hts, hSX, hd1, hd2, hc1, hc2⟩ := hCX
  have hdg := hdg0 hM
  simp only [nxt] at hs
  split at hs
  · cases hs
    exact lv_i2l hx hb hdg rfl (go H locs ls hP hR hS hL hoL (fun v hw => by rcases List.mem_cons.mp hw with rfl | hw <;> first | trivial | exact hoS v (List.mem_cons_of_mem _ hw)) hQ)
  · cases hs
set_option maxHeartbeats 1000000 in
theorem sim_lcmp  : Sim (.lcmp) := by
  intro d M pc pc2 L S L2 S2 σ σ2 Post C hdg0 hs hC k G A p l e R s m args below meth c H locs cells slots ls Q hCX hP hR hS hL hoL hoS hQ
  have go := fun (H1 : Heap) (locs1 : List Loc) (ls1 : Array Slot) => k G A p l e R s m args below meth c H1 locs1 cells slots ls1 Q hCX
  obtain ⟨hM, hx, hb, hml, hown, hts, hSX, hd1, hd2, hc1, hc2⟩ := hCX
  have hdg := hdg0 hM
  simp only [nxt] at hs
  split at hs
  · cases hs
    exact W.lcmp hx hb hdg (go H locs ls hP hR hS hL hoL (fun v hw => by rcases List.mem_cons.mp hw with rfl | hw <;> first | trivial | exact hoS v (List.mem_cons_of_mem _ (List.mem_cons_of_mem _ hw))) hQ)
  · cases hs
set_option maxHeartbeats 1000000 in
theorem sim_idiv  : Sim (.idiv) := by
  intro d M pc pc2 L S L2 S2 σ σ2 Post C hdg0 hs hC k G A p l e R s m args below meth c H locs cells slots ls Q hCX hP hR hS hL hoL hoS hQ
  have go := fun (H1 : Heap) (locs1 : List Loc) (ls1 : Array Slot) => k G A p l e R s m args below meth c H1 locs1 cells slots ls1 Q hCX
  obtain ⟨hM, hx, hb, hml, hown, hts, hSX, hd1, hd2, hc1, hc2⟩ := hCX
  have hdg := hdg0 hM
  simp only [nxt] at hs
  split at hs
  · cases hs
    exact lv_idiv hx hb hdg hC.1 (go H locs ls hP hR hS hL hoL (fun v hw => by rcases List.mem_cons.mp hw with rfl | hw <;> first | trivial | exact hoS v (List.mem_cons_of_mem _ (List.mem_cons_of_mem _ hw))) hQ)
  · cases hs
set_option maxHeartbeats 1000000 in
theorem sim_dup  : Sim (.dup) := by
  intro d M pc pc2 L S L2 S2 σ σ2 Post C hdg0 hs hC k G A p l e R s m args below meth c H locs cells slots ls Q hCX hP hR hS hL hoL hoS hQ
  have go := fun (H1 : Heap) (locs1 : List Loc) (ls1 : Array Slot) => k G A p l e R s m args below meth c H1 locs1 cells slots ls1 Q hCX
  obtain ⟨hM, hx, hb, hml, hown, hts, hSX, hd1, hd2, hc1, hc2⟩ := hCX
  have hdg := hdg0 hM
  simp only [nxt] at hs
  split at hs
  · cases hs
    exact lv_dup hx hb hdg rfl (go H locs ls hP hR hS hL hoL (fun v hw => by rcases List.mem_cons.mp hw with rfl | hw <;> first | trivial | exact hoS v hw) hQ)
  · cases hs
    exact lv_dup hx hb hdg rfl (go H locs ls hP hR hS hL hoL (fun v hw => by rcases List.mem_cons.mp hw with rfl | hw <;> first | exact hoS _ List.mem_cons_self | exact hoS v hw) hQ)
  · cases hs
set_option maxHeartbeats 1000000 in
theorem sim_dup2  : Sim (.dup2) := by
  intro d M pc pc2 L S L2 S2 σ σ2 Post C hdg0 hs hC k G A p l e R s m args below meth c H locs cells slots ls Q hCX hP hR hS hL hoL hoS hQ
  have go := fun (H1 : Heap) (locs1 : List Loc) (ls1 : Array Slot) => k G A p l e R s m args below meth c H1 locs1 cells slots ls1 Q hCX
  obtain ⟨hM, hx, hb, hml, hown, hts, hSX, hd1, hd2, hc1, hc2⟩ := hCX
  have hdg := hdg0 hM
  simp only [nxt] at hs
  split at hs
  · cases hs
    refine lv_dup2_11 hx hb hdg rfl rfl (go H locs ls hP hR hS hL hoL (fun v hw => ?_) hQ)
    rcases List.mem_cons.mp hw with rfl | hw
    · trivial
    rcases List.mem_cons.mp hw with rfl | hw
    · exact hoS _ (List.mem_cons_of_mem _ List.mem_cons_self)
    exact hoS v hw
  · cases hs
set_option maxHeartbeats 1000000 in
theorem sim_goto (o : Int) : Sim (.goto o) := by
  intro d M pc pc2 L S L2 S2 σ σ2 Post C hdg0 hs hC k G A p l e R s m args below meth c H locs cells slots ls Q hCX hP hR hS hL hoL hoS hQ
  have go := fun (H1 : Heap) (locs1 : List Loc) (ls1 : Array Slot) => k G A p l e R s m args below meth c H1 locs1 cells slots ls1 Q hCX
  obtain ⟨hM, hx, hb, hml, hown, hts, hSX, hd1, hd2, hc1, hc2⟩ := hCX
  have hdg := hdg0 hM
  simp only [nxt] at hs
  split at hs
  · next ho =>
    cases hs
    have h0 : (0 : Int) ≤ (pc : Int) + o := by simpa [okT] using ho
    exact lv_goto hx hb hdg (show (pc : Int) + o = ((tgt pc o : Nat) : Int) by unfold tgt; omega) (go H locs ls hP hR hS hL hoL hoS hQ)
  · cases hs
set_option maxHeartbeats 1000000 in
theorem sim_ldc2_w (q : Nat) : Sim (.ldc2_w q) := by
  intro d M pc pc2 L S L2 S2 σ σ2 Post C hdg0 hs hC k G A p l e R s m args below meth c H locs cells slots ls Q hCX hP hR hS hL hoL hoS hQ
  have go := fun (H1 : Heap) (locs1 : List Loc) (ls1 : Array Slot) => k G A p l e R s m args below meth c H1 locs1 cells slots ls1 Q hCX
  obtain ⟨hM, hx, hb, hml, hown, hts, hSX, hd1, hd2, hc1, hc2⟩ := hCX
  have hdg := hdg0 hM
  simp only [nxt] at hs
  split at hs
  · next v hv =>
    cases hs
    have hw : Cond.constantLong (cn M.own) q v ∈ TT := lcon_w hv
    exact lv_ldc2 hx hb hown (hts _ hw) hdg (go H locs ls hP hR hS hL hoL (fun v hv => by rcases List.mem_cons.mp hv with rfl | hv <;> first | trivial | exact hoS v hv) hQ)
  · cases hs
set_option maxHeartbeats 1000000 in
theorem sim_ldc_w (q : Nat) : Sim (.ldc_w q) := by
  intro d M pc pc2 L S L2 S2 σ σ2 Post C hdg0 hs hC k G A p l e R s m args below meth c H locs cells slots ls Q hCX hP hR hS hL hoL hoS hQ
  have go := fun (H1 : Heap) (locs1 : List Loc) (ls1 : Array Slot) => k G A p l e R s m args below meth c H1 locs1 cells slots ls1 Q hCX
  obtain ⟨hM, hx, hb, hml, hown, hts, hSX, hd1, hd2, hc1, hc2⟩ := hCX
  have hdg := hdg0 hM
  simp only [nxt] at hs
  split at hs
  · next v hv =>
    cases hs
    have hw : Cond.constant (cn M.own) q v ∈ TT := icon_w hv
    exact lv_ldcw hx hb hown (hts _ hw) hdg (go H locs ls hP hR hS hL hoL (fun v hv => by rcases List.mem_cons.mp hv with rfl | hv <;> first | trivial | exact hoS v hv) hQ)
  · cases hs
end
section
/-! fields and arrays -/
theorem pfd_I : parseFieldDescriptor "I" = some .int := by decide +kernel
theorem pfd_Z : parseFieldDescriptor "Z" = some .boolean := by decide +kernel
theorem okR_lt {k i : Nat} (h : okR k i) (hk : k < 85) : i < cnt k := by
  rcases h with h | h | h
  · exact h.2
  · omega
  · omega
theorem LT_85 : LT[85]? = some (1, .inr (0, 26, 0)) := rfl
theorem LT_len : LT.length = 86 := rfl
theorem LT_lt {k : Nat} {e : LE} (h : LT[k]? = some e) : k < 86 := by
  have := (List.getElem?_eq_some_iff.mp h).1
  rw [LT_len] at this
  exact this
theorem LT_obj {k n c : Nat} {fs : List (Option Nat)} (h : LT[k]? = some (n, .inl (c, fs))) : k < 85 := by
  have h1 := LT_lt h
  rcases Nat.lt_or_ge k 85 with q | q
  · exact q
  · have : k = 85 := by omega
    subst this
    rw [LT_85] at h
    cases h
/-- a field that refers, refers to a cell that is there -/
def okL (e : LE) : Bool := match e with
  | (n, .inl (_, fs)) => fs.all (fun f => match f with
    | some k2 => decide (k2 < 85) && (cnt k2 == n)
    | none => true)
  | _ => true
theorem LT_ok : LT.all okL = true := by decide +kernel
theorem LT_ref {k n c j k2 : Nat} {fs : List (Option Nat)} (h : LT[k]? = some (n, .inl (c, fs))) (hj : fs[j]? = some (some k2)) : k2 < 85 ∧ cnt k2 = n := by
  have h1 := List.all_eq_true.mp LT_ok _ (List.mem_of_getElem? h)
  have h2 := List.all_eq_true.mp h1 _ (List.mem_of_getElem? hj)
  simpa using h2
theorem cnt_of {k : Nat} {e : LE} (h : LT[k]? = some e) : cnt k = e.1 := by unfold cnt; rw [h]
theorem cel_obj {G : GX} {s : Mem} {k i n c : Nat} {fs : List (Option Nat)} (h : LT[k]? = some (n, .inl (c, fs))) : cel G s k i = .inr (c, fvs G s k i 0 fs) := by unfold cel; rw [h]
theorem cel_int {G : GX} {s : Mem} {k i n m q : Nat} (h : LT[k]? = some (n, .inr (0, m, q))) : cel G s k i = .inl (G.ca 0, m, .inl (gI s k i)) := by unfold cel; rw [h]
theorem cel_boo {G : GX} {s : Mem} {k i n m q : Nat} (h : LT[k]? = some (n, .inr (1, m, q))) : cel G s k i = .inl (G.ca 1, m, .inl (gI s k i)) := by unfold cel; rw [h]
theorem cel_lon {G : GX} {s : Mem} {k i n m q : Nat} (h : LT[k]? = some (n, .inr (2, m, q))) : cel G s k i = .inl (G.ca 2, m, .inr (.inl (gJ s k i))) := by unfold cel; rw [h]
theorem cel_ref {G : GX} {s : Mem} {k i n t m q : Nat} (h : LT[k]? = some (n, .inr (t + 3, m, q))) : cel G s k i = .inl (G.ca (t + 3), m, .inr (.inr (.inr (.inr (fun j => some (G.ad q j)))))) := by unfold cel; rw [h]
theorem LT_tc : LT.all (fun e => match e with
    | (_, .inr (t + 3, _, _)) => decide (t < 3)
    | _ => true) = true := by decide +kernel
theorem vp_lt {i : Int32} {n : Nat} (h : vp_in i n) : i.toNatClampNeg < n := Nat.not_le.mp fun q => h (Or.inr q)
theorem pI_out {G : GX} {s : Mem} {k i j : Nat} {x : Int32} : ∀ a b, ¬ (a = k ∧ b = i) → cel G (pI s k i j x) a b = cel G s a b := by
  intro a b h
  refine cel_congr (fun q => ?_) (fun q => rfl)
  rw [gI_pI, if_neg]
  intro hq
  exact h ⟨hq.1, hq.2.1⟩
theorem pI_in {s : Mem} {k i j : Nat} {x : Int32} : gI (pI s k i j x) k i = upd (gI s k i) j x := by
  funext q
  rw [gI_pI]
  unfold upd
  by_cases h : q = j
  · rw [if_pos ⟨rfl, rfl, h⟩, if_pos h]
  · rw [if_neg (fun z => h z.2.2), if_neg h]
set_option maxHeartbeats 2000000 in
theorem sim_getfield (idx : Nat) : Sim (.getfield idx) := by
  intro d M pc pc2 L S L2 S2 σ σ2 Post C hdg0 hs hC k G A p l e R s m args below meth c H locs cells slots ls Q hCX hP hR hS hL hoL hoS hQ
  have go := fun (H1 : Heap) (locs1 : List Loc) (ls1 : Array Slot) => k G A p l e R s m args below meth c H1 locs1 cells slots ls1 Q hCX
  obtain ⟨hM, hx, hb, hml, hown, hts, hSX, hd1, hd2, hc1, hc2⟩ := hCX
  have hdg := hdg0 hM
  simp only [nxt] at hs
  split at hs
  · next kk i S1 =>
    split at hs
    · next cc j ty nn c2 fs hf hl =>
      have hko := hoS _ List.mem_cons_self
      have hk : kk < 85 := LT_obj hl
      have hi : i < cnt kk := okR_lt hko hk
      obtain ⟨n, hn1, hn2⟩ := ws_get G σ hk hi
      rw [cel_obj hl] at hn2
      obtain ⟨q, hq, hj, hlink, hty0, hty1⟩ := FA_use hf
      split at hs
      · next k2 hce hfj =>
        cases hs
        have ec : cc = c2 := by simpa using hce
        subst ec
        have hv : (fvs G σ kk i 0 fs)[j]? = some (.ref (G.ad k2 i)) := by rw [fvs_get, hfj]
        have hr := LT_ref hl hfj
        have hgo := go H locs ls hP hR hS hL hoL (fun v hv => by
          rcases List.mem_cons.mp hv with rfl | hv
          · exact Or.inl ⟨hr.1, hr.2.trans (cnt_of hl).symm ▸ hi⟩
          · exact hoS v (List.mem_cons_of_mem _ hv)) hQ
        rcases hlink with hlink | hlink
        · exact va_getN hx hb hts (cl_in hq).1 hown hSX.1 hP n hn2 hq j hj (va_Nw.use rfl (hSX.2.1 _ hlink)) (fun _ h9 => h9) hv hdg hgo
        · exact va_get hx hb hts (cl_in hq).1 hown hSX.1 hP n hn2 hq j hj (hts _ hlink) (fun _ h9 => h9) hv hdg hgo
      · next hce hfj =>
        cases hs
        have ec : cc = c2 := by simpa using hce
        subst ec
        have hv : (fvs G σ kk i 0 fs)[j]? = some (.int (gI σ kk i j)) := by rw [fvs_get, hfj]; simp
        have hgo := go H locs ls hP hR hS hL hoL (fun v hv => by
          rcases List.mem_cons.mp hv with rfl | hv
          · trivial
          · exact hoS v (List.mem_cons_of_mem _ hv)) hQ
        rcases hlink with hlink | hlink
        · exact va_getN hx hb hts (cl_in hq).1 hown hSX.1 hP n hn2 hq j hj (va_Nw.use rfl (hSX.2.1 _ hlink)) (fun _ h9 => h9) hv hdg hgo
        · exact va_get hx hb hts (cl_in hq).1 hown hSX.1 hP n hn2 hq j hj (hts _ hlink) (fun _ h9 => h9) hv hdg hgo
      · cases hs
    · cases hs
  · cases hs
set_option maxHeartbeats 2000000 in
theorem sim_putfield (idx : Nat) : Sim (.putfield idx) := by
  intro d M pc pc2 L S L2 S2 σ σ2 Post C hdg0 hs hC k G A p l e R s m args below meth c H locs cells slots ls Q hCX hP hR hS hL hoL hoS hQ
  have go := fun (H1 : Heap) (locs1 : List Loc) (ls1 : Array Slot) => k G A p l e R s m args below meth c H1 locs1 cells slots ls1 Q hCX
  obtain ⟨hM, hx, hb, hml, hown, hts, hSX, hd1, hd2, hc1, hc2⟩ := hCX
  have hdg := hdg0 hM
  simp only [nxt] at hs
  split at hs
  · next x kk i S1 =>
    split at hs
    · next cc j ty nn c2 fs hf hl =>
      have hko := hoS _ (List.mem_cons_of_mem _ List.mem_cons_self)
      have hk : kk < 85 := LT_obj hl
      have hi : i < cnt kk := okR_lt hko hk
      obtain ⟨n, hn1, hn2⟩ := ws_get G σ hk hi
      rw [cel_obj hl] at hn2
      obtain ⟨q, hq, hj, hlink, hty0, hty1⟩ := FA_use hf
      split at hs
      · next hce hfj =>
        have ec : cc = c2 := by simpa using hce
        subst ec
        have hj2 : j < (fvs G σ kk i 0 fs).length := by
          have h2 := fvs_get G σ kk i fs 0 j
          rw [hfj] at h2
          exact (List.getElem?_eq_some_iff.mp h2).1
        have hset : (wsW G σ).set n (G.ad kk i, .inr (cc, (fvs G σ kk i 0 fs).set j (.int x))) = wsW G (pI σ kk i j x) := by
          refine ws_set hn1 ?_ pI_out
          rw [cel_obj hl]
          have h3 := fvs_set (G := G) (s := σ) (k := kk) (i := i) (x := x) fs 0 j hfj
          rw [Nat.zero_add] at h3
          rw [h3]
        have key : ∀ ty : FieldType, (q.2.1 j).2.2.2 = false → parseFieldDescriptor (q.2.1 j).2.2.1 = some ty → narrow ty (.int x) = .int x → fits ty (.int x) = true → WS d M (pc + 3) L S1 (pI σ kk i j x) Post → W p l e R s m args below meth c H locs cells slots Q (F0 m pc ls ((vI x :: vR kk i :: S1).map (cv G))) := by
          intro ty h1 h2 h3 h4 k
          have hgo := fun (H1 : Heap) (locs1 : List Loc) (h5 : va_P G.D classes ((wsW G σ).set n (G.ad kk i, .inr (cc, (fvs G σ kk i 0 fs).set j (.int x)))) H1) (h6 : va_D A ((wsW G σ).set n (G.ad kk i, .inr (cc, (fvs G σ kk i 0 fs).set j (.int x))))) (h7 : va_S A s.heap H1 locs1) => k G A p l e R s m args below meth c H1 locs1 cells slots ls Q ⟨hM, hx, hb, hml, hown, hts, hSX, hd1, hd2, hc1, hc2⟩ (by rw [← hset]; exact h5) (hR.pI hk) h7 hL hoL (fun v hv => hoS v (List.mem_cons_of_mem _ (List.mem_cons_of_mem _ hv))) hQ
          rcases hlink with hlink | hlink
          · exact va_putN hx hb hts (cl_in hq).1 (tyOf cc) (cl_in hq).2.1 (cl_in hq).2.2 hown hSX.1 hP (hSX.2.2.1 σ) hS n hn2 hq j hj (va_Nw.use rfl (hSX.2.1 _ hlink)) (fun _ h9 => h9) h1 h2 h3 h4 hj2 hdg hgo
          · exact va_put hx hb hts (cl_in hq).1 (tyOf cc) (cl_in hq).2.1 (cl_in hq).2.2 hown hSX.1 hP (hSX.2.2.1 σ) hS n hn2 hq j hj (hts _ hlink) (fun _ h9 => h9) h1 h2 h3 h4 hj2 hdg hgo
        split at hs
        · cases hs
          exact key .int (hty0 rfl).2 (by rw [(hty0 rfl).1]; exact pfd_I) rfl rfl k
        · cases hs
          refine key .boolean (hty1 rfl).2 (by rw [(hty1 rfl).1]; exact pfd_Z) ?_ ?_ k
          · rcases hC.1 with h | h <;> rw [h] <;> rfl
          · rcases hC.1 with h | h <;> rw [h] <;> rfl
        · cases hs
      · cases hs
    · cases hs
  · cases hs
set_option maxHeartbeats 2000000 in
theorem sim_baload  : Sim (.baload) := by
  intro d M pc pc2 L S L2 S2 σ σ2 Post C hdg0 hs hC k G A p l e R s m args below meth c H locs cells slots ls Q hCX hP hR hS hL hoL hoS hQ
  have go := fun (H1 : Heap) (locs1 : List Loc) (ls1 : Array Slot) => k G A p l e R s m args below meth c H1 locs1 cells slots ls1 Q hCX
  obtain ⟨hM, hx, hb, hml, hown, hts, hSX, hd1, hd2, hc1, hc2⟩ := hCX
  have hdg := hdg0 hM
  simp only [nxt] at hs
  split at hs
  · next j kk i S1 =>
    split at hs
    · next nn mm qq hl =>
      cases hs
      have hko := hoS _ (List.mem_cons_of_mem _ List.mem_cons_self)
      have hk : kk < 85 := by
        have h1 := LT_lt hl
        rcases Nat.lt_or_ge kk 85 with q | q
        · exact q
        · have : kk = 85 := by omega
          subst this
          rw [LT_85] at hl
          cases hl
      have hi : i < cnt kk := okR_lt hko hk
      obtain ⟨n, hn1, hn2⟩ := ws_get G σ hk hi
      rw [cel_boo hl] at hn2
      exact va_zald hx hb hSX.1 hP n 1 hn2 rfl hC.1 hdg (go H locs ls hP hR hS hL hoL (fun v hv => by
        rcases List.mem_cons.mp hv with rfl | hv
        · trivial
        · exact hoS v (List.mem_cons_of_mem _ (List.mem_cons_of_mem _ hv))) hQ)
    · cases hs
  · cases hs
set_option maxHeartbeats 2000000 in
theorem sim_laload  : Sim (.laload) := by
  intro d M pc pc2 L S L2 S2 σ σ2 Post C hdg0 hs hC k G A p l e R s m args below meth c H locs cells slots ls Q hCX hP hR hS hL hoL hoS hQ
  have go := fun (H1 : Heap) (locs1 : List Loc) (ls1 : Array Slot) => k G A p l e R s m args below meth c H1 locs1 cells slots ls1 Q hCX
  obtain ⟨hM, hx, hb, hml, hown, hts, hSX, hd1, hd2, hc1, hc2⟩ := hCX
  have hdg := hdg0 hM
  simp only [nxt] at hs
  split at hs
  · next j kk i S1 =>
    split at hs
    · next nn mm qq hl =>
      cases hs
      have hko := hoS _ (List.mem_cons_of_mem _ List.mem_cons_self)
      have hk : kk < 85 := by
        have h1 := LT_lt hl
        rcases Nat.lt_or_ge kk 85 with q | q
        · exact q
        · have : kk = 85 := by omega
          subst this
          rw [LT_85] at hl
          cases hl
      have hi : i < cnt kk := okR_lt hko hk
      obtain ⟨n, hn1, hn2⟩ := ws_get G σ hk hi
      rw [cel_lon hl] at hn2
      exact va_lald hx hb hSX.1 hP n 2 hn2 rfl hC.1 hdg (go H locs ls hP hR hS hL hoL (fun v hv => by
        rcases List.mem_cons.mp hv with rfl | hv
        · trivial
        · exact hoS v (List.mem_cons_of_mem _ (List.mem_cons_of_mem _ hv))) hQ)
    · cases hs
  · cases hs
set_option maxHeartbeats 2000000 in
theorem sim_iaload  : Sim (.iaload) := by
  intro d M pc pc2 L S L2 S2 σ σ2 Post C hdg0 hs hC k G A p l e R s m args below meth c H locs cells slots ls Q hCX hP hR hS hL hoL hoS hQ
  have go := fun (H1 : Heap) (locs1 : List Loc) (ls1 : Array Slot) => k G A p l e R s m args below meth c H1 locs1 cells slots ls1 Q hCX
  obtain ⟨hM, hx, hb, hml, hown, hts, hSX, hd1, hd2, hc1, hc2⟩ := hCX
  have hdg := hdg0 hM
  simp only [nxt] at hs
  split at hs
  · next j kk i S1 =>
    have hko := hoS _ (List.mem_cons_of_mem _ List.mem_cons_self)
    split at hs
    · next hkk =>
      cases hs
      have ek : kk = 86 := by simpa using hkk
      subst ek
      have ei : i = 0 := by
        rcases hko with h | h | h
        · omega
        · omega
        · exact h.2
      subst ei
      have hz : (gI σ 87 0 0).toNatClampNeg = G.len := by rw [hR.2.2]; exact nI_clamp hSX.2.2.2.2.2.2
      have hin := hC.1
      rw [hz] at hin
      have e1 : gI σ 86 0 j.toNatClampNeg = G.xs j.toNatClampNeg := hR.2.1 _
      refine va_sld hx hb hSX.2.2.2.2.2.1.1 hSX.2.2.2.2.2.1.2.1 hSX.2.2.2.2.2.1.2.2 hS hin hdg ?_
      have hgo := go H locs ls hP hR hS hL hoL (fun v hv => by
        rcases List.mem_cons.mp hv with rfl | hv
        · trivial
        · exact hoS v (List.mem_cons_of_mem _ (List.mem_cons_of_mem _ hv))) hQ
      rw [← e1]
      exact hgo
    · next hkk =>
      split at hs
      · next nn mm qq hl =>
        cases hs
        have hgo := go H locs ls hP hR hS hL hoL (fun v hv => by
          rcases List.mem_cons.mp hv with rfl | hv
          · trivial
          · exact hoS v (List.mem_cons_of_mem _ (List.mem_cons_of_mem _ hv))) hQ
        rcases Nat.lt_or_ge kk 85 with hk | hk
        · have hi : i < cnt kk := okR_lt hko hk
          obtain ⟨n, hn1, hn2⟩ := ws_get G σ hk hi
          rw [cel_int hl] at hn2
          exact va_iald hx hb hSX.1 hP n 0 hn2 rfl hC.1 hdg hgo
        · have ek : kk = 85 := by have := LT_lt hl; omega
          subst ek
          have ei : i = 0 := by
            rcases hko with h | h | h
            · omega
            · exact h.2
            · exact h.2
          subst ei
          rw [LT_85] at hl
          cases hl
          exact va_ti hx hb hSX.2.2.2.2.1 hS hC.1 (by rw [hR.1]; rfl) hdg hgo
      · cases hs
  · cases hs
set_option maxHeartbeats 2000000 in
theorem sim_aaload  : Sim (.aaload) := by
  intro d M pc pc2 L S L2 S2 σ σ2 Post C hdg0 hs hC k G A p l e R s m args below meth c H locs cells slots ls Q hCX hP hR hS hL hoL hoS hQ
  have go := fun (H1 : Heap) (locs1 : List Loc) (ls1 : Array Slot) => k G A p l e R s m args below meth c H1 locs1 cells slots ls1 Q hCX
  obtain ⟨hM, hx, hb, hml, hown, hts, hSX, hd1, hd2, hc1, hc2⟩ := hCX
  have hdg := hdg0 hM
  simp only [nxt] at hs
  split at hs
  · next j kk i S1 =>
    have hko := hoS _ (List.mem_cons_of_mem _ List.mem_cons_self)
    split at hs
    · next nn tt mm k2 hl =>
      split at hs
      · next hm hk2 =>
        cases hs
        have hk : kk < 85 := by
          have h1 := LT_lt hl
          rcases Nat.lt_or_ge kk 85 with q | q
          · exact q
          · have : kk = 85 := by omega
            subst this
            rw [LT_85] at hl
            cases hl
        have hi : i < cnt kk := okR_lt hko hk
        obtain ⟨n, hn1, hn2⟩ := ws_get G σ hk hi
        rw [cel_ref hl] at hn2
        have ht := List.all_eq_true.mp LT_tc _ (List.mem_of_getElem? hl)
        simp only [decide_eq_true_eq] at ht
        have em : mm = cnt k2 := by simpa using hm
        have hgo := go H locs ls hP hR hS hL hoL (fun v hv => by
          rcases List.mem_cons.mp hv with rfl | hv
          · exact Or.inl ⟨by simpa using hk2, by rw [← em]; exact vp_lt hC.1⟩
          · exact hoS v (List.mem_cons_of_mem _ (List.mem_cons_of_mem _ hv))) hQ
        match tt, ht, hn2 with
        | 0, _, hn2 => exact va_aldq hx hb hSX.1 hP n 3 hn2 rfl hC.1 hdg hgo
        | 1, _, hn2 => exact va_aldq hx hb hSX.1 hP n 4 hn2 rfl hC.1 hdg hgo
        | 2, _, hn2 => exact va_aldq hx hb hSX.1 hP n 5 hn2 rfl hC.1 hdg hgo
      · cases hs
    · cases hs
  · cases hs
set_option maxHeartbeats 2000000 in
theorem sim_iastore  : Sim (.iastore) := by
  intro d M pc pc2 L S L2 S2 σ σ2 Post C hdg0 hs hC k G A p l e R s m args below meth c H locs cells slots ls Q hCX hP hR hS hL hoL hoS hQ
  have go := fun (H1 : Heap) (locs1 : List Loc) (ls1 : Array Slot) => k G A p l e R s m args below meth c H1 locs1 cells slots ls1 Q hCX
  obtain ⟨hM, hx, hb, hml, hown, hts, hSX, hd1, hd2, hc1, hc2⟩ := hCX
  have hdg := hdg0 hM
  simp only [nxt] at hs
  split at hs
  · next x j kk i S1 =>
    have hko := hoS _ (List.mem_cons_of_mem _ (List.mem_cons_of_mem _ List.mem_cons_self))
    split at hs
    · next nn mm qq hl hkd =>
      cases hs
      have hk : kk < 85 := by simpa using hkd
      have hi : i < cnt kk := okR_lt hko hk
      obtain ⟨n, hn1, hn2⟩ := ws_get G σ hk hi
      rw [cel_int hl] at hn2
      have hset : (wsW G σ).set n (G.ad kk i, .inl (G.ca 0, mm, .inl (upd (gI σ kk i) j.toNatClampNeg x))) = wsW G (pI σ kk i j.toNatClampNeg x) := by
        refine ws_set hn1 ?_ pI_out
        rw [cel_int hl, pI_in]
      refine va_iast hx hb hSX.1 hP (hSX.2.2.1 σ) hS n 0 hn2 rfl hC.1 hdg (fun H1 locs1 h5 h6 h7 => ?_)
      rw [hset] at h5
      exact go H1 locs1 ls h5 (hR.pI hk) h7 hL hoL (fun v hv => hoS v (List.mem_cons_of_mem _ (List.mem_cons_of_mem _ (List.mem_cons_of_mem _ hv)))) hQ
    · cases hs
  · cases hs
set_option maxHeartbeats 2000000 in
theorem sim_bastore  : Sim (.bastore) := by
  intro d M pc pc2 L S L2 S2 σ σ2 Post C hdg0 hs hC k G A p l e R s m args below meth c H locs cells slots ls Q hCX hP hR hS hL hoL hoS hQ
  have go := fun (H1 : Heap) (locs1 : List Loc) (ls1 : Array Slot) => k G A p l e R s m args below meth c H1 locs1 cells slots ls1 Q hCX
  obtain ⟨hM, hx, hb, hml, hown, hts, hSX, hd1, hd2, hc1, hc2⟩ := hCX
  have hdg := hdg0 hM
  simp only [nxt] at hs
  split at hs
  · next x j kk i S1 =>
    have hko := hoS _ (List.mem_cons_of_mem _ (List.mem_cons_of_mem _ List.mem_cons_self))
    split at hs
    · next nn mm qq hl hkd =>
      cases hs
      have hk : kk < 85 := by simpa using hkd
      have hi : i < cnt kk := okR_lt hko hk
      obtain ⟨n, hn1, hn2⟩ := ws_get G σ hk hi
      rw [cel_boo hl] at hn2
      have hnar : vp_nar .boolean x = x := by rcases hC.2.1 with h | h <;> rw [h] <;> rfl
      have hset : (wsW G σ).set n (G.ad kk i, .inl (G.ca 1, mm, .inl (upd (gI σ kk i) j.toNatClampNeg x))) = wsW G (pI σ kk i j.toNatClampNeg x) := by
        refine ws_set hn1 ?_ pI_out
        rw [cel_boo hl, pI_in]
      refine va_zast hx hb hSX.1 hP (hSX.2.2.1 σ) hS n 1 hn2 rfl hC.1 hdg (fun H1 locs1 h5 h6 h7 => ?_)
      rw [hnar, hset] at h5
      exact go H1 locs1 ls h5 (hR.pI hk) h7 hL hoL (fun v hv => hoS v (List.mem_cons_of_mem _ (List.mem_cons_of_mem _ (List.mem_cons_of_mem _ hv)))) hQ
    · cases hs
  · cases hs
set_option maxHeartbeats 2000000 in
theorem sim_lastore  : Sim (.lastore) := by
  intro d M pc pc2 L S L2 S2 σ σ2 Post C hdg0 hs hC k G A p l e R s m args below meth c H locs cells slots ls Q hCX hP hR hS hL hoL hoS hQ
  have go := fun (H1 : Heap) (locs1 : List Loc) (ls1 : Array Slot) => k G A p l e R s m args below meth c H1 locs1 cells slots ls1 Q hCX
  obtain ⟨hM, hx, hb, hml, hown, hts, hSX, hd1, hd2, hc1, hc2⟩ := hCX
  have hdg := hdg0 hM
  simp only [nxt] at hs
  split at hs
  · next x j kk i S1 =>
    have hko := hoS _ (List.mem_cons_of_mem _ (List.mem_cons_of_mem _ List.mem_cons_self))
    split at hs
    · next nn mm qq hl hkd =>
      cases hs
      have hk : kk < 85 := by simpa using hkd
      have hi : i < cnt kk := okR_lt hko hk
      obtain ⟨n, hn1, hn2⟩ := ws_get G σ hk hi
      rw [cel_lon hl] at hn2
      have hset : (wsW G σ).set n (G.ad kk i, .inl (G.ca 2, mm, .inr (.inl (vp_updL (gJ σ kk i) j.toNatClampNeg x)))) = wsW G (pJ σ kk i j.toNatClampNeg x) := by
        refine ws_set hn1 ?_ (fun a b h => cel_congr (fun q => rfl) (fun q => ?_))
        · rw [cel_lon hl]
          refine congrArg (fun f => (Sum.inl (G.ca 2, mm, Sum.inr (Sum.inl f)) : va_E)) ?_
          funext q
          rw [gJ_pJ]
          unfold vp_updL
          by_cases h : q = j.toNatClampNeg
          · rw [if_pos ⟨rfl, rfl, h⟩, if_pos h]
          · rw [if_neg (fun z => h z.2.2), if_neg h]
        · rw [gJ_pJ, if_neg (fun z => h ⟨z.1, z.2.1⟩)]
      refine va_last hx hb hSX.1 hP (hSX.2.2.1 σ) hS n 2 hn2 rfl hC.1 hdg (fun H1 locs1 h5 h6 h7 => ?_)
      rw [hset] at h5
      exact go H1 locs1 ls h5 hR h7 hL hoL (fun v hv => hoS v (List.mem_cons_of_mem _ (List.mem_cons_of_mem _ (List.mem_cons_of_mem _ hv)))) hQ
    · cases hs
  · cases hs
set_option maxHeartbeats 2000000 in
theorem sim_arraylength  : Sim (.arraylength) := by
  intro d M pc pc2 L S L2 S2 σ σ2 Post C hdg0 hs hC k G A p l e R s m args below meth c H locs cells slots ls Q hCX hP hR hS hL hoL hoS hQ
  have go := fun (H1 : Heap) (locs1 : List Loc) (ls1 : Array Slot) => k G A p l e R s m args below meth c H1 locs1 cells slots ls1 Q hCX
  obtain ⟨hM, hx, hb, hml, hown, hts, hSX, hd1, hd2, hc1, hc2⟩ := hCX
  have hdg := hdg0 hM
  simp only [nxt] at hs
  split at hs
  · next kk i S1 =>
    have hko := hoS _ List.mem_cons_self
    have hoS' : ∀ x : Int32, ∀ v ∈ (vI x :: S1), okV v := fun x v hv => by
      rcases List.mem_cons.mp hv with rfl | hv
      · trivial
      · exact hoS v (List.mem_cons_of_mem _ hv)
    split at hs
    · next hkk =>
      cases hs
      have ek : kk = 86 := by simpa using hkk
      subst ek
      have ei : i = 0 := by
        rcases hko with h | h | h
        · omega
        · omega
        · exact h.2
      subst ei
      have hgo := go H locs ls hP hR hS hL hoL (hoS' _) hQ
      rw [hR.2.2] at hgo
      exact va_slen hx hb hSX.2.2.2.2.2.1.1 hSX.2.2.2.2.2.1.2.1 hSX.2.2.2.2.2.1.2.2 hS hdg hgo
    · next hkk =>
      split at hs
      · next nn mm qq hl =>
        cases hs
        have hgo := go H locs ls hP hR hS hL hoL (hoS' _) hQ
        rcases Nat.lt_or_ge kk 85 with hk | hk
        · have hi : i < cnt kk := okR_lt hko hk
          obtain ⟨n, hn1, hn2⟩ := ws_get G σ hk hi
          rw [cel_int hl] at hn2
          exact va_alen hx hb hSX.1 hP n 0 hn2 rfl rfl hdg hgo
        · have ek : kk = 85 := by have := LT_lt hl; omega
          subst ek
          have ei : i = 0 := by
            rcases hko with h | h | h
            · omega
            · exact h.2
            · exact h.2
          subst ei
          rw [LT_85] at hl
          cases hl
          exact va_tlen hx hb hSX.2.2.2.2.1 hS rfl hdg hgo
      · cases hs
  · cases hs
set_option maxHeartbeats 2000000 in
theorem sim_getstatic (idx : Nat) : Sim (.getstatic idx) := by
  intro d M pc pc2 L S L2 S2 σ σ2 Post C hdg0 hs hC k G A p l e R s m args below meth c H locs cells slots ls Q hCX hP hR hS hL hoL hoS hQ
  have go := fun (H1 : Heap) (locs1 : List Loc) (ls1 : Array Slot) => k G A p l e R s m args below meth c H1 locs1 cells slots ls1 Q hCX
  obtain ⟨hM, hx, hb, hml, hown, hts, hSX, hd1, hd2, hc1, hc2⟩ := hCX
  have hdg := hdg0 hM
  simp only [nxt] at hs
  split at hs
  · next h1 =>
    cases hs
    have hl : Cond.fieldLinkNest (cn 7) 48 "TouchMap" "ALPHABET" "[I" "TouchMap" ∈ NN := by decide +kernel
    rw [h1] at hown
    exact va_getsN hx hb hSX.2.2.2.1 hS hown (va_Nw.use rfl (hSX.2.1 _ hl)) (fun _ h9 => h9) hdg (go H locs ls hP hR hS hL hoL (fun v hv => by
      rcases List.mem_cons.mp hv with rfl | hv
      · exact Or.inr (Or.inl ⟨rfl, rfl⟩)
      · exact hoS v hv) hQ)
  · cases hs
end
section
/-! blocks, branches, returns, calls -/
theorem OkM.dec {M : MI} (hM : OkM M) {pc n : Nat} {i : Instr} (h : fet M.tab pc = some (i, n)) : decode M.bytes pc = .ok (i, n) := hM.1 (pc, i, n) (fet_mem h)
set_option maxHeartbeats 400000 in
theorem WS.nx {d : Nat} {M : MI} {pc pc' n : Nat} {L S L' S' : List AV} {σ σ' : Mem} {Post : Option AV → Mem → Prop} {i : Instr} {C : List Prop} (hf : fet M.tab pc = some (i, n)) (hn : n = ilen i) (hs : nxt M.own i n pc L S σ = some (C, pc', L', S', σ')) (hC : allP C) (k : WS d M pc' L' S' σ' Post) : WS d M pc L S σ Post := by
  subst hn
  have hdg : OkM M → decode M.bytes pc = .ok (i, ilen i) := fun hM => hM.dec hf
  cases i with
  | iconst v1 => exact sim_iconst v1 d M pc pc' L S L' S' σ σ' Post C hdg hs hC k
  | bipush v1 => exact sim_bipush v1 d M pc pc' L S L' S' σ σ' Post C hdg hs hC k
  | sipush v1 => exact sim_sipush v1 d M pc pc' L S L' S' σ σ' Post C hdg hs hC k
  | lconst v1 => exact sim_lconst v1 d M pc pc' L S L' S' σ σ' Post C hdg hs hC k
  | iload_n q1 => exact sim_iload_n q1 d M pc pc' L S L' S' σ σ' Post C hdg hs hC k
  | iload q1 => exact sim_iload q1 d M pc pc' L S L' S' σ σ' Post C hdg hs hC k
  | lload_n q1 => exact sim_lload_n q1 d M pc pc' L S L' S' σ σ' Post C hdg hs hC k
  | lload q1 => exact sim_lload q1 d M pc pc' L S L' S' σ σ' Post C hdg hs hC k
  | aload_n q1 => exact sim_aload_n q1 d M pc pc' L S L' S' σ σ' Post C hdg hs hC k
  | aload q1 => exact sim_aload q1 d M pc pc' L S L' S' σ σ' Post C hdg hs hC k
  | istore_n q1 => exact sim_istore_n q1 d M pc pc' L S L' S' σ σ' Post C hdg hs hC k
  | istore q1 => exact sim_istore q1 d M pc pc' L S L' S' σ σ' Post C hdg hs hC k
  | lstore_n q1 => exact sim_lstore_n q1 d M pc pc' L S L' S' σ σ' Post C hdg hs hC k
  | lstore q1 => exact sim_lstore q1 d M pc pc' L S L' S' σ σ' Post C hdg hs hC k
  | astore_n q1 => exact sim_astore_n q1 d M pc pc' L S L' S' σ σ' Post C hdg hs hC k
  | astore q1 => exact sim_astore q1 d M pc pc' L S L' S' σ σ' Post C hdg hs hC k
  | iinc q1 w1 => exact sim_iinc q1 w1 d M pc pc' L S L' S' σ σ' Post C hdg hs hC k
  | iadd => exact sim_iadd d M pc pc' L S L' S' σ σ' Post C hdg hs hC k
  | isub => exact sim_isub d M pc pc' L S L' S' σ σ' Post C hdg hs hC k
  | imul => exact sim_imul d M pc pc' L S L' S' σ σ' Post C hdg hs hC k
  | iand => exact sim_iand d M pc pc' L S L' S' σ σ' Post C hdg hs hC k
  | ior => exact sim_ior d M pc pc' L S L' S' σ σ' Post C hdg hs hC k
  | ixor => exact sim_ixor d M pc pc' L S L' S' σ σ' Post C hdg hs hC k
  | ishl => exact sim_ishl d M pc pc' L S L' S' σ σ' Post C hdg hs hC k
  | ishr => exact sim_ishr d M pc pc' L S L' S' σ σ' Post C hdg hs hC k
  | iushr => exact sim_iushr d M pc pc' L S L' S' σ σ' Post C hdg hs hC k
  | ladd => exact sim_ladd d M pc pc' L S L' S' σ σ' Post C hdg hs hC k
  | lsub => exact sim_lsub d M pc pc' L S L' S' σ σ' Post C hdg hs hC k
  | lmul => exact sim_lmul d M pc pc' L S L' S' σ σ' Post C hdg hs hC k
  | land => exact sim_land d M pc pc' L S L' S' σ σ' Post C hdg hs hC k
  | lor => exact sim_lor d M pc pc' L S L' S' σ σ' Post C hdg hs hC k
  | lxor => exact sim_lxor d M pc pc' L S L' S' σ σ' Post C hdg hs hC k
  | lshl => exact sim_lshl d M pc pc' L S L' S' σ σ' Post C hdg hs hC k
  | lushr => exact sim_lushr d M pc pc' L S L' S' σ σ' Post C hdg hs hC k
  | ineg => exact sim_ineg d M pc pc' L S L' S' σ σ' Post C hdg hs hC k
  | lneg => exact sim_lneg d M pc pc' L S L' S' σ σ' Post C hdg hs hC k
  | i2l => exact sim_i2l d M pc pc' L S L' S' σ σ' Post C hdg hs hC k
  | lcmp => exact sim_lcmp d M pc pc' L S L' S' σ σ' Post C hdg hs hC k
  | idiv => exact sim_idiv d M pc pc' L S L' S' σ σ' Post C hdg hs hC k
  | dup => exact sim_dup d M pc pc' L S L' S' σ σ' Post C hdg hs hC k
  | dup2 => exact sim_dup2 d M pc pc' L S L' S' σ σ' Post C hdg hs hC k
  | goto o1 => exact sim_goto o1 d M pc pc' L S L' S' σ σ' Post C hdg hs hC k
  | ldc2_w q1 => exact sim_ldc2_w q1 d M pc pc' L S L' S' σ σ' Post C hdg hs hC k
  | ldc_w q1 => exact sim_ldc_w q1 d M pc pc' L S L' S' σ σ' Post C hdg hs hC k
  | getfield idx1 => exact sim_getfield idx1 d M pc pc' L S L' S' σ σ' Post C hdg hs hC k
  | putfield idx1 => exact sim_putfield idx1 d M pc pc' L S L' S' σ σ' Post C hdg hs hC k
  | baload => exact sim_baload d M pc pc' L S L' S' σ σ' Post C hdg hs hC k
  | laload => exact sim_laload d M pc pc' L S L' S' σ σ' Post C hdg hs hC k
  | iaload => exact sim_iaload d M pc pc' L S L' S' σ σ' Post C hdg hs hC k
  | aaload => exact sim_aaload d M pc pc' L S L' S' σ σ' Post C hdg hs hC k
  | iastore => exact sim_iastore d M pc pc' L S L' S' σ σ' Post C hdg hs hC k
  | bastore => exact sim_bastore d M pc pc' L S L' S' σ σ' Post C hdg hs hC k
  | lastore => exact sim_lastore d M pc pc' L S L' S' σ σ' Post C hdg hs hC k
  | arraylength => exact sim_arraylength d M pc pc' L S L' S' σ σ' Post C hdg hs hC k
  | getstatic idx1 => exact sim_getstatic idx1 d M pc pc' L S L' S' σ σ' Post C hdg hs hC k
  | _ => cases (show (none : Option (List Prop × St)) = some (C, pc', L', S', σ') from hs)
theorem allP_app {C D : List Prop} (h : allP (C ++ D)) : allP C ∧ allP D := by
  induction C with
  | nil => exact ⟨trivial, h⟩
  | cons c C ih => exact ⟨⟨h.1, (ih h.2).1⟩, (ih h.2).2⟩
theorem WS.runS {d : Nat} {M : MI} {Post : Option AV → Mem → Prop} : ∀ (n : Nat) (st st' : St) (C : List Prop), runN M n st = some (C, st') → allP C → WS d M st'.1 st'.2.1 st'.2.2.1 st'.2.2.2 Post → WS d M st.1 st.2.1 st.2.2.1 st.2.2.2 Post := by
  intro n
  induction n with
  | zero =>
    intro st st' C h hC k
    cases h
    exact k
  | succ n ih =>
    intro st st' C h hC k
    obtain ⟨pc, L, S, σ⟩ := st
    simp only [runN] at h
    split at h
    · next i len hf =>
      split at h
      · next C1 st1 he hn =>
        split at h
        · next C2 st2 h2 =>
          cases h
          obtain ⟨pc1, L1, S1, σ1⟩ := st1
          exact WS.nx hf (by simpa using he) hn (allP_app hC).1 (ih _ _ _ h2 (allP_app hC).2 k)
        · cases h
      · cases h
    · cases h
/-- a block -/
theorem WS.run {d : Nat} {M : MI} {pc pc' : Nat} {L S L' S' : List AV} {σ σ' : Mem} {Post : Option AV → Mem → Prop} {C : List Prop} (n : Nat) (h : runN M n (pc, L, S, σ) = some (C, pc', L', S', σ')) (hC : allP C) (k : WS d M pc' L' S' σ' Post) : WS d M pc L S σ Post := WS.runS n (pc, L, S, σ) (pc', L', S', σ') C h hC k
def brN (M : MI) (pc : Nat) (S : List AV) : Option (Prop × Nat × Nat × List AV) := match fet M.tab pc with
  | some (i, n) => match n == ilen i with
    | true => brn i n pc S
    | false => none
  | none => none
set_option maxHeartbeats 400000 in
/-- a branch -/
theorem WS.br {d : Nat} {M : MI} {pc a b : Nat} {L S S' : List AV} {σ : Mem} {Post : Option AV → Mem → Prop} {P : Prop} (h : brN M pc S = some (P, a, b, S')) (ka : P → WS d M a L S' σ Post) (kb : ¬ P → WS d M b L S' σ Post) : WS d M pc L S σ Post := by
  intro G A p l e R s m args below meth c H locs cells slots ls Q hCX hP hR hS hL hoL hoS hQ
  have goa := fun (hp : P) => ka hp G A p l e R s m args below meth c H locs cells slots ls Q hCX hP hR hS hL hoL
  have gob := fun (hp : ¬ P) => kb hp G A p l e R s m args below meth c H locs cells slots ls Q hCX hP hR hS hL hoL
  obtain ⟨hM, hx, hb, hml, hown, hts, hSX, hd1, hd2, hc1, hc2⟩ := hCX
  unfold brN at h
  split at h
  · next i n hf =>
    split at h
    · next he =>
      have hn : n = ilen i := by simpa using he
      subst hn
      have hdg : decode M.bytes pc = .ok (i, ilen i) := hM.dec hf
      unfold brn at h
      split at h
      · next cnd off =>
        split at h
        · next x S1 ho =>
          have h0 : (0 : Int) ≤ (pc : Int) + off := by simpa [okT] using ho
          have ht : (pc : Int) + off = ((tgt pc off : Nat) : Int) := by unfold tgt; omega
          have hoS' : ∀ v ∈ S1, okV v := fun v hv => hoS v (List.mem_cons_of_mem _ hv)
          cases cnd <;> cases h
          · exact lv_if_eq hx hb hdg ht (fun q => goa q hoS' hQ) (fun q => gob q hoS' hQ)
          · exact lv_if_ne hx hb hdg ht (fun q => gob q hoS' hQ) (fun q => goa q hoS' hQ)
          · exact lv_if_lt hx hb hdg ht (fun q => goa q hoS' hQ) (fun q => gob q hoS' hQ)
          · exact lv_if_ge hx hb hdg ht (fun q => goa q hoS' hQ) (fun q => gob q hoS' hQ)
          · exact lv_if_gt hx hb hdg ht (fun q => goa q hoS' hQ) (fun q => gob q hoS' hQ)
          · exact lv_if_le hx hb hdg ht (fun q => goa q hoS' hQ) (fun q => gob q hoS' hQ)
        · cases h
      · next cnd off =>
        split at h
        · next y x S1 ho =>
          have h0 : (0 : Int) ≤ (pc : Int) + off := by simpa [okT] using ho
          have ht : (pc : Int) + off = ((tgt pc off : Nat) : Int) := by unfold tgt; omega
          have hoS' : ∀ v ∈ S1, okV v := fun v hv => hoS v (List.mem_cons_of_mem _ (List.mem_cons_of_mem _ hv))
          cases cnd <;> cases h
          · exact lv_icmp_eq hx hb hdg ht (fun q => goa q hoS' hQ) (fun q => gob q hoS' hQ)
          · exact lv_icmp_ne hx hb hdg ht (fun q => gob q hoS' hQ) (fun q => goa q hoS' hQ)
          · exact lv_icmp_lt hx hb hdg ht (fun q => goa q hoS' hQ) (fun q => gob q hoS' hQ)
          · exact lv_icmp_ge hx hb hdg ht (fun q => goa q hoS' hQ) (fun q => gob q hoS' hQ)
          · exact lv_icmp_gt hx hb hdg ht (fun q => goa q hoS' hQ) (fun q => gob q hoS' hQ)
          · exact lv_icmp_le hx hb hdg ht (fun q => goa q hoS' hQ) (fun q => gob q hoS' hQ)
        · cases h
      · cases h
    · cases h
  · cases h
/-- the ends of a method -/
theorem WS.ret {d : Nat} {M : MI} {pc : Nat} {L : List AV} {σ : Mem} {Post : Option AV → Mem → Prop} {x : Int32} {ty : FieldType} (hf : fet M.tab pc = some (.ireturn, 1)) (hr : M.ret = some ty) (hl : ty ≠ .long) (hn : narrow ty (.int x) = .int x) (hp : Post (some (vI x)) σ) : WS d M pc L [vI x] σ Post := by
  intro G A p l e R s m args below meth c H locs cells slots ls Q hCX hP hR hS hL hoL hoS hQ
  exact hQ H locs ls pc (some (vI x)) σ hp ⟨ty, hr, hl, hn, hCX.1.dec hf⟩ hP hR hS
theorem WS.lret {d : Nat} {M : MI} {pc : Nat} {L : List AV} {σ : Mem} {Post : Option AV → Mem → Prop} {x : Int64} (hf : fet M.tab pc = some (.lreturn, 1)) (hr : M.ret = some .long) (hp : Post (some (vJ x)) σ) : WS d M pc L [vJ x] σ Post := by
  intro G A p l e R s m args below meth c H locs cells slots ls Q hCX hP hR hS hL hoL hoS hQ
  exact hQ H locs ls pc (some (vJ x)) σ hp ⟨hr, hCX.1.dec hf⟩ hP hR hS
theorem WS.vret {d : Nat} {M : MI} {pc : Nat} {L : List AV} {σ : Mem} {Post : Option AV → Mem → Prop} (hf : fet M.tab pc = some (.return_, 1)) (hr : M.ret = none) (hp : Post none σ) : WS d M pc L [] σ Post := by
  intro G A p l e R s m args below meth c H locs cells slots ls Q hCX hP hR hS hL hoL hoS hQ
  exact hQ H locs ls pc none σ hp ⟨hr, hCX.1.dec hf⟩ hP hR hS
/-- the locals with which a method begins -/
def ent (n : Nat) (vs : List AV) : List AV := let l := vs.flatMap (fun v => match v with
    | .inr (.inl x) => [vJ x, vU]
    | v => [v])
  l ++ List.replicate (n - l.length) vU
/-- the room of a call of depth d -/
def rmD (d : Nat) : Room := { frames := d, cells := 0, slots := 0, locals := 60 * d }
def Wld (G : GX) (A : Nat → Prop) (σ : Mem) (U : State) : Prop := va_P G.D classes (wsW G σ) U.heap ∧ ROM G σ
def QR (M : MI) (Post : Option AV → Mem → Prop) (G : GX) (A : Nat → Prop) : Array Value → State → Outcome → State → Prop := match M.ret with
  | none => va_Qv (fun σ' : Mem => Post none σ') (fun σ' t => Wld G A σ' t) A
  | some .long => va_Ql (fun (r : Int64) (σ' : Mem) => Post (some (vJ r)) σ') (fun σ' t => Wld G A σ' t) A
  | some _ => va_Qi (fun (r : Int32) (σ' : Mem) => Post (some (vI r)) σ') (fun σ' t => Wld G A σ' t) A
/-- a method's contract -/
def MM (d : Nat) (M : MI) (vs : List AV) (σ : Mem) (Post : Option AV → Mem → Prop) : Prop :=
  ∀ (l : Launch) (G : GX) (A : Nat → Prop), (∀ v ∈ vs, okV v) → Met l M.y (Cond.code M.y M.bytes M.maxL M.ret :: TT) (rmD d) (va_Pc (vs.map (cv G)) (fun U => Wld G A σ U ∧ SX G A U)) (QR M Post G A) 0 0 A
end
section
/-! a method's contract out of its walk; calls -/
theorem lvl_U (G : GX) : ∀ (k i : Nat), lvl G i (List.replicate k vU) = [] := by
  intro k
  induction k with
  | zero => intro i; rfl
  | succ k ih => intro i; exact ih (i + 1)
def sl2 (v : AV) : List AV := match v with
  | .inr (.inl x) => [vJ x, vU]
  | v => [v]
theorem ent_eq (n : Nat) (vs : List AV) : ent n vs = vs.flatMap sl2 ++ List.replicate (n - (vs.flatMap sl2).length) vU := rfl
theorem lvl_ent {G : GX} {k : Nat} : ∀ (vs : List AV) (i : Nat) (q : Nat × Value), q ∈ lvl G i (vs.flatMap sl2 ++ List.replicate k vU) → q ∈ lv_args i (vs.map (cv G)) := by
  intro vs
  induction vs with
  | nil =>
    intro i q h
    simp only [List.flatMap_nil, List.nil_append, lvl_U] at h
    cases h
  | cons v vs ih =>
    intro i q h
    obtain x | x | ⟨a, b⟩ | x := v
    · rcases List.mem_cons.mp h with rfl | h
      · exact List.mem_cons_self
      · exact List.mem_cons_of_mem _ (ih (i + 1) q h)
    · rcases List.mem_cons.mp h with rfl | h
      · exact List.mem_cons_self
      · exact List.mem_cons_of_mem _ (ih (i + 1 + 1) q h)
    · rcases List.mem_cons.mp h with rfl | h
      · exact List.mem_cons_self
      · exact List.mem_cons_of_mem _ (ih (i + 1) q h)
    · exact List.mem_cons_of_mem _ (ih (i + 1) q h)
theorem sl_len (G : GX) (vs : List AV) : (lg_sl (vs.map (cv G))).length = (vs.flatMap sl2).length := by
  induction vs with
  | nil => rfl
  | cons v vs ih =>
    have e1 : lg_sl ((v :: vs).map (cv G)) = (if (cv G v).category = 2 then [Slot.val (cv G v), .second] else [.val (cv G v)]) ++ lg_sl (vs.map (cv G)) := rfl
    have e2 : (v :: vs).flatMap sl2 = sl2 v ++ vs.flatMap sl2 := rfl
    rw [e1, e2, List.length_append, List.length_append, ih]
    congr 1
    obtain x | x | ⟨a, b⟩ | x := v <;> rfl
theorem okV_ent {n : Nat} {vs : List AV} (h : ∀ v ∈ vs, okV v) : ∀ v ∈ ent n vs, okV v := by
  intro v hv
  rw [ent_eq] at hv
  rcases List.mem_append.mp hv with hv | hv
  · obtain ⟨w, hw, hv⟩ := List.mem_flatMap.mp hv
    have h1 := h w hw
    obtain x | x | ⟨a, b⟩ | x := w
    · simp only [sl2, List.mem_singleton] at hv; rw [hv]; trivial
    · simp only [sl2, List.mem_cons, List.not_mem_nil, or_false] at hv; rcases hv with rfl | rfl <;> trivial
    · simp only [sl2, List.mem_singleton] at hv; rw [hv]; exact h1
    · simp only [sl2, List.mem_singleton] at hv; rw [hv]; trivial
  · rw [List.eq_of_mem_replicate hv]; trivial
set_option maxHeartbeats 400000 in
theorem MM.of {d : Nat} {M : MI} {vs : List AV} {σ : Mem} {Post : Option AV → Mem → Prop} (hM : OkM M) (hlen : (ent M.maxL vs).length = M.maxL) (h : WS d M 0 (ent M.maxL vs) [] σ Post) : MM d M vs σ Post := by
  intro l G A hvs
  refine Met.ofW (cc := M.bytes) (maxL := M.maxL) (ret := M.ret) hM.2.2.1 rfl ?_
  intro p e s m args below meth c s₁ B hml hv
  obtain ⟨rfl, ⟨hP, hR⟩, hSX⟩ := hv
  have hx := B.exec
  have hb := B.bytes
  have hr := B.returns
  have hts := atoms_spec (ws := Cond.code M.y M.bytes M.maxL M.ret :: TT) B.pre
  have hown : s.vm.findClass M.y.cls = some m.cls := findClass_of_methodNamed B.named
  have hlocks := B.notSynchronized
  rw [hM.2.2.2.1] at hown
  have hle : (vs.flatMap sl2).length ≤ M.maxL := by
    rw [ent_eq, List.length_append, List.length_replicate] at hlen
    omega
  have hl := lv_entry (vs.map (cv G)) (n := M.maxL) (by rw [sl_len]; exact hle)
  rw [lg_entry_eq]
  generalize (lg_sl (vs.map (cv G)) ++ List.replicate (M.maxL - (lg_sl (vs.map (cv G))).length) Slot.unset).toArray = ls at hl ⊢
  have hLH : LH G ls M.maxL (ent M.maxL vs) := ⟨hlen, hl.1, hl.2.1, fun q hq => hl.2.2 q (lvl_ent vs 0 q (by rw [ent_eq] at hq; exact hq))⟩
  refine h G A p l e (rmD d) s m (vs.map (cv G)).toArray below meth c s.heap [] 0 0 ls _ ⟨hM, hx, hb, hml, hown, fun w hw => hts w (List.mem_cons_of_mem _ hw), hSX, Nat.le_refl _, Nat.le_refl _, Nat.le_refl _, Nat.le_refl _⟩ hP hR va_S.rf hLH (okV_ent hvs) (fun v hv => by cases hv) ?_
  intro H' locs' ls' pc' v σ' hp ho hP' hR' hS'
  match v, ho with
  | some (.inl x), ⟨ty, h1, h2, h3, h4⟩ =>
    rw [h1] at hr
    refine W.zret hx hb hr h3 (fun t ht hW => ?_) hS'.2.2 h4
    have e : QR M Post G A = va_Qi (fun (r : Int32) (σ' : Mem) => Post (some (vI r)) σ') (fun σ' t => Wld G A σ' t) A := by
      unfold QR
      rw [h1]
      cases ty <;> first | rfl | exact absurd rfl h2
    rw [e]
    exact ⟨⟨x, σ', rfl, hp, by rw [ht]; exact hP', hR'⟩, hS'.F ht⟩
  | some (.inr (.inl x)), ⟨h1, h4⟩ =>
    rw [h1] at hr
    refine W.lret hx hb hr (fun t ht hW => ?_) hS'.2.2 h4
    have e : QR M Post G A = va_Ql (fun (r : Int64) (σ' : Mem) => Post (some (vJ r)) σ') (fun σ' t => Wld G A σ' t) A := by
      unfold QR
      rw [h1]
    rw [e]
    exact ⟨⟨x, σ', rfl, hp, by rw [ht]; exact hP', hR'⟩, hS'.F ht⟩
  | none, ⟨h1, h4⟩ =>
    rw [h1] at hr
    refine W.vret hx hb hr (fun t ht hW => ?_) hS'.2.2 h4
    have e : QR M Post G A = va_Qv (fun σ' : Mem => Post none σ') (fun σ' t => Wld G A σ' t) A := by
      unfold QR
      rw [h1]
    rw [e]
    exact ⟨⟨σ', rfl, hp, by rw [ht]; exact hP', hR'⟩, hS'.F ht⟩
theorem QR_cases (M : MI) (Post : Option AV → Mem → Prop) (G : GX) (A : Nat → Prop) : QR M Post G A = va_Qv (fun σ' : Mem => Post none σ') (fun σ' t => Wld G A σ' t) A ∨ QR M Post G A = va_Ql (fun (r : Int64) (σ' : Mem) => Post (some (vJ r)) σ') (fun σ' t => Wld G A σ' t) A ∨ QR M Post G A = va_Qi (fun (r : Int32) (σ' : Mem) => Post (some (vI r)) σ') (fun σ' t => Wld G A σ' t) A := by
  unfold QR
  cases M.ret with
  | none => exact Or.inl rfl
  | some ty => cases ty <;> first | exact Or.inr (Or.inl rfl) | exact Or.inr (Or.inr rfl)
theorem TT_good {w : Cond} (h : w ∈ TT) : (w.onTables && w.keeps) = true ∨ ∃ ty, w = .arrayClass ty := good_of_word (List.mem_filter.mp h).2
theorem TT_in {M : MI} (hM : OkM M) : GoodIn TT (Cond.code M.y M.bytes M.maxL M.ret :: TT) := by
  intro w hw
  rcases List.mem_cons.mp hw with rfl | hw
  · exact ⟨hM.2.1, TT_good hM.2.1⟩
  · exact ⟨hw, TT_good hw⟩
def avc (v : AV) : Nat := match v with
  | .inr (.inl _) => 2
  | _ => 1
theorem avc_sum (G : GX) (S : List AV) : ((S.map (cv G)).map fun v => v.category).sum = (S.map avc).sum := by
  rw [List.map_map]
  congr 1
  apply List.map_congr_left
  intro v _
  obtain x | x | ⟨a, b⟩ | x := v <;> rfl
/-- the links of a call -/
def Lk (own idx : Nat) (M2 : MI) (n : Nat) : Prop := OkM M2 ∧ (Cond.methodLinkNest (cn own) idx M2.y "TouchMap" ∈ NN ∨ Cond.methodLink (cn own) idx M2.y ∈ TT) ∧ (parseMethodDescriptor M2.y.desc).map (fun d => d.parameters.length) = some n ∧ M2.maxL ≤ 40
def LkV (own idx : Nat) (M2 : MI) (n : Nat) : Prop := Lk own idx M2 n ∧ Cond.instanceMethod M2.y ∈ TT ∧ Cond.selects M2.y.cls M2.y M2.y ∈ TT
def LkS (own idx : Nat) (M2 : MI) (n : Nat) : Prop := Lk own idx M2 n ∧ Cond.static M2.y ∈ TT
def isO (k c : Nat) : Bool := match LT[k]? with
  | some (_, .inl (c2, _)) => c2 == c
  | _ => false
theorem pre_blind {vs : List AV} {σ : Mem} {G : GX} {A : Nat → Prop} : FrameBlind (va_Pc (vs.map (cv G)) (fun U => Wld G A σ U ∧ SX G A U)) := fun a U g mk q => ⟨q.1, q.2.1, q.2.2.blind⟩
set_option maxHeartbeats 800000 in
theorem WS.callV {d : Nat} {M : MI} {pc idx n k i : Nat} {L rest as : List AV} {S : List AV} {σ : Mem} {Post : Option AV → Mem → Prop} (M2 : MI) (hf : fet M.tab pc = some (.invokevirtual idx, 3)) (hlk : LkV M.own idx M2 n) (hk : isO k M2.own = true) (hS0 : S = as.reverse ++ vR k i :: rest) (hn : as.length = n) (hw : (rest.map avc).sum ≤ 8)
    (hm : MM d M2 (vR k i :: as) σ (fun r σ' => WS (d + 1) M (pc + 3) L (r.toList ++ rest) σ' Post)) : WS (d + 1) M pc L S σ Post := by
  subst hS0
  intro G A p l e R s m args below meth c H locs cells slots ls Q hCX hP hR hS hL hoL hoS hQ
  have hCX0 := hCX
  obtain ⟨hM, hx, hb, hml, hown, hts, hSX, hd1, hd2, hc1, hc2⟩ := hCX
  obtain ⟨⟨hM2, hlink, hpar, hmx⟩, hinst, hsel⟩ := hlk
  have hdg := hM.dec hf
  have hov : ∀ v ∈ vR k i :: as, okV v := fun v hv => by
    rcases List.mem_cons.mp hv with rfl | hv
    · exact hoS _ (List.mem_append_right _ List.mem_cons_self)
    · exact hoS _ (List.mem_append_left _ (List.mem_reverse.mpr hv))
  have hor : ∀ v ∈ rest, okV v := fun v hv => hoS _ (List.mem_append_right _ (List.mem_cons_of_mem _ hv))
  have hmet := hm l G A hov
  have hkk : ∃ (nn : Nat) (fs : List (Option Nat)), LT[k]? = some (nn, .inl (M2.own, fs)) := by
    unfold isO at hk
    split at hk
    · next nn c2 fs h => exact ⟨nn, fs, by rw [h, show c2 = M2.own by simpa using hk]⟩
    · cases hk
  obtain ⟨nn, fs, hkl⟩ := hkk
  have hk85 : k < 85 := LT_obj hkl
  have hik : i < cnt k := okR_lt (hov _ List.mem_cons_self) hk85
  obtain ⟨q, hq1, hq2⟩ := ws_get G σ hk85 hik
  rw [cel_obj hkl] at hq2
  have hcl : ∃ r : vw_C, classes[M2.own]? = some r ∧ r.1 = cn M2.own := by
    have h1 := hP q _ hq2
    obtain ⟨r, h2, -⟩ := h1
    refine ⟨r, h2, ?_⟩
    have h3 : ∀ c, c < 12 → ∀ r, classes[c]? = some r → r.1 = cn c := by
      intro c hc r hr
      match c, hc, hr with
      | 0, _, hr => cases hr; rfl
      | 1, _, hr => cases hr; rfl
      | 2, _, hr => cases hr; rfl
      | 3, _, hr => cases hr; rfl
      | 4, _, hr => cases hr; rfl
      | 5, _, hr => cases hr; rfl
      | 6, _, hr => cases hr; rfl
      | 7, _, hr => cases hr; rfl
      | 8, _, hr => cases hr; rfl
      | 9, _, hr => cases hr; rfl
      | 10, _, hr => cases hr; rfl
      | 11, _, hr => cases hr; rfl
    exact h3 _ ((List.getElem?_eq_some_iff.mp h2).1) r h2
  obtain ⟨r, hr1, hr2⟩ := hcl
  have hrecv := va_recv hSX.1 hP hr1 hq2
  rw [hr2, ← hM2.2.2.2.1] at hrecv
  have hpre : PreV s H M2.y.cls (G.ad k i) (va_Pc ((vR k i :: as).map (cv G)) (fun U => Wld G A σ U ∧ SX G A U)) (as.map (cv G)) := ⟨pre_blind, hrecv, fun U hU hW => ⟨rfl, ⟨by rw [hU]; exact hP, hR⟩, hSX.go hS hU hW⟩⟩
  have hst : (as.reverse ++ vR k i :: rest).map (cv G) = (as.map (cv G)).reverse ++ .ref (G.ad k i) :: rest.map (cv G) := by simp [cv]
  have hwd : 2 * (F0 m pc ls ((as.reverse ++ vR k i :: rest).map (cv G))).monitorRoom + ((rest.map (cv G)).map fun v => v.category).sum ≤ 8 := by
    have e : (F0 m pc ls ((as.reverse ++ vR k i :: rest).map (cv G))).monitorRoom = 0 := rfl
    rw [e, avc_sum]
    omega
  have hrm : (rmD d).frames + 1 ≤ R.frames ∧ 8 + (M2.maxL + 11) + (rmD d).locals ≤ R.locals := by
    unfold rmD
    dsimp only
    omega
  have hdesc : M2.y.cls ≠ "java/lang/invoke/MethodHandle" ∧ M2.y.cls ≠ "java/lang/invoke/VarHandle" ∧ (parseMethodDescriptor M2.y.desc).map (fun d => d.parameters.length) = some n := ⟨hM2.2.2.2.2.2.1, hM2.2.2.2.2.2.2, hpar⟩
  have hrun : va_Run p l e R s m args below meth c H locs cells slots 0 0 (F0 m pc ls ((as.reverse ++ vR k i :: rest).map (cv G))) (rest.map (cv G)) (QR M2 (fun r σ' => WS (d + 1) M (pc + 3) L (r.toList ++ rest) σ' Post) G A (Value.ref (G.ad k i) :: as.map (cv G)).toArray) A := by
    rcases hlink with hlink | hlink
    · exact va_runVN ⟨hx, hb, hml, hown, hts⟩ hmet ⟨va_cnB n hts (TT_in hM2) rfl rfl rfl (hSX.2.1 _ hlink) (hts _ hM2.2.2.2.2.1) hdesc hrm, hts _ hinst, hts _ hsel⟩ hpre rfl (by rw [List.length_map]; exact hn) hL.2.1 hst hwd hdg ⟨hc1, hc2⟩
    · exact va_runV ⟨hx, hb, hml, hown, hts⟩ hmet ⟨callB_of n hts (TT_in hM2) rfl rfl rfl (hts _ hM2.2.2.2.2.1) (hts _ hlink) hdesc hrm, hts _ hinst, hts _ hsel⟩ hpre rfl (by rw [List.length_map]; exact hn) hL.2.1 hst hwd hdg ⟨hc1, hc2⟩
  have hon : ∀ r : Option AV, (∀ v, r = some v → okV v) → ∀ v ∈ r.toList ++ rest, okV v := fun r h v hv => by
    rcases List.mem_append.mp hv with hv | hv
    · cases r with
      | none => cases hv
      | some z => simp only [Option.toList_some, List.mem_singleton] at hv; exact h v (by rw [hv])
    · exact hor v hv
  have go := fun (r : Option AV) (σ' : Mem) (h : WS (d + 1) M (pc + 3) L (r.toList ++ rest) σ' Post) (H1 : Heap) (locs1 : List Loc) (hr : ∀ v, r = some v → okV v) (h1 : va_P G.D classes (wsW G σ') H1) (h2 : ROM G σ') (h3 : va_S A s.heap H1 locs1) => h G A p l e R s m args below meth c H1 locs1 cells slots ls Q hCX0 h1 h2 h3 hL hoL (hon r hr) hQ
  rcases QR_cases M2 (fun r σ' => WS (d + 1) M (pc + 3) L (r.toList ++ rest) σ' Post) G A with eq | eq | eq
  all_goals rw [eq] at hrun
  · refine va_callv hrun hS (fun q _ h => h) (fun q h => h) (fun u t H1 locs1 ht hvm hw hB hz1 hk1 hS1 => ?_)
    exact go none u hw H1 locs1 (fun v h => by cases h) (by rw [← ht]; exact hB.1) hB.2 hS1
  · refine va_calll hrun hS (fun q _ h => h) (fun q h => h) (fun r u t H1 locs1 ht hvm hw hB hz1 hk1 hS1 => ?_)
    exact go (some (vJ r)) u hw H1 locs1 (fun v h => by cases h; trivial) (by rw [← ht]; exact hB.1) hB.2 hS1
  · refine va_calli hrun hS (fun q _ h => h) (fun q h => h) (fun r u t H1 locs1 ht hvm hw hB hz1 hk1 hS1 => ?_)
    exact go (some (vI r)) u hw H1 locs1 (fun v h => by cases h; trivial) (by rw [← ht]; exact hB.1) hB.2 hS1
set_option maxHeartbeats 800000 in
theorem WS.callS {d : Nat} {M : MI} {pc idx n : Nat} {L rest as : List AV} {S : List AV} {σ : Mem} {Post : Option AV → Mem → Prop} (M2 : MI) (hf : fet M.tab pc = some (.invokestatic idx, 3)) (hlk : LkS M.own idx M2 n) (hS0 : S = as.reverse ++ rest) (hn : as.length = n) (hw : (rest.map avc).sum ≤ 8)
    (hm : MM d M2 as σ (fun r σ' => WS (d + 1) M (pc + 3) L (r.toList ++ rest) σ' Post)) : WS (d + 1) M pc L S σ Post := by
  subst hS0
  intro G A p l e R s m args below meth c H locs cells slots ls Q hCX hP hR hS hL hoL hoS hQ
  have hCX0 := hCX
  obtain ⟨hM, hx, hb, hml, hown, hts, hSX, hd1, hd2, hc1, hc2⟩ := hCX
  obtain ⟨⟨hM2, hlink, hpar, hmx⟩, hstt⟩ := hlk
  have hdg := hM.dec hf
  have hov : ∀ v ∈ as, okV v := fun v hv => hoS _ (List.mem_append_left _ (List.mem_reverse.mpr hv))
  have hor : ∀ v ∈ rest, okV v := fun v hv => hoS _ (List.mem_append_right _ hv)
  have hmet := hm l G A hov
  have hpre : PreS s H (va_Pc (as.map (cv G)) (fun U => Wld G A σ U ∧ SX G A U)) (as.map (cv G)) := ⟨pre_blind, fun U hU hW => ⟨rfl, ⟨by rw [hU]; exact hP, hR⟩, hSX.go hS hU hW⟩⟩
  have hst : (as.reverse ++ rest).map (cv G) = (as.map (cv G)).reverse ++ rest.map (cv G) := by simp
  have hwd : 2 * (F0 m pc ls ((as.reverse ++ rest).map (cv G))).monitorRoom + ((rest.map (cv G)).map fun v => v.category).sum ≤ 8 := by
    have e : (F0 m pc ls ((as.reverse ++ rest).map (cv G))).monitorRoom = 0 := rfl
    rw [e, avc_sum]
    omega
  have hrm : (rmD d).frames + 1 ≤ R.frames ∧ 8 + (M2.maxL + 11) + (rmD d).locals ≤ R.locals := by
    unfold rmD
    dsimp only
    omega
  have hdesc : M2.y.cls ≠ "java/lang/invoke/MethodHandle" ∧ M2.y.cls ≠ "java/lang/invoke/VarHandle" ∧ (parseMethodDescriptor M2.y.desc).map (fun d => d.parameters.length) = some n := ⟨hM2.2.2.2.2.2.1, hM2.2.2.2.2.2.2, hpar⟩
  have hrun : va_Run p l e R s m args below meth c H locs cells slots 0 0 (F0 m pc ls ((as.reverse ++ rest).map (cv G))) (rest.map (cv G)) (QR M2 (fun r σ' => WS (d + 1) M (pc + 3) L (r.toList ++ rest) σ' Post) G A (as.map (cv G)).toArray) A := by
    rcases hlink with hlink | hlink
    · exact va_runSN ⟨hx, hb, hml, hown, hts⟩ hmet ⟨va_cnB n hts (TT_in hM2) rfl rfl rfl (hSX.2.1 _ hlink) (hts _ hM2.2.2.2.2.1) hdesc hrm, hts _ hstt, trivial⟩ hpre rfl (by rw [List.length_map]; exact hn) hL.2.1 hst hwd hdg ⟨hc1, hc2⟩
    · exact va_runS ⟨hx, hb, hml, hown, hts⟩ hmet ⟨callB_of n hts (TT_in hM2) rfl rfl rfl (hts _ hM2.2.2.2.2.1) (hts _ hlink) hdesc hrm, hts _ hstt⟩ hpre rfl (by rw [List.length_map]; exact hn) hL.2.1 hst hwd hdg ⟨hc1, hc2⟩
  have hon : ∀ r : Option AV, (∀ v, r = some v → okV v) → ∀ v ∈ r.toList ++ rest, okV v := fun r h v hv => by
    rcases List.mem_append.mp hv with hv | hv
    · cases r with
      | none => cases hv
      | some z => simp only [Option.toList_some, List.mem_singleton] at hv; exact h v (by rw [hv])
    · exact hor v hv
  have go := fun (r : Option AV) (σ' : Mem) (h : WS (d + 1) M (pc + 3) L (r.toList ++ rest) σ' Post) (H1 : Heap) (locs1 : List Loc) (hr : ∀ v, r = some v → okV v) (h1 : va_P G.D classes (wsW G σ') H1) (h2 : ROM G σ') (h3 : va_S A s.heap H1 locs1) => h G A p l e R s m args below meth c H1 locs1 cells slots ls Q hCX0 h1 h2 h3 hL hoL (hon r hr) hQ
  rcases QR_cases M2 (fun r σ' => WS (d + 1) M (pc + 3) L (r.toList ++ rest) σ' Post) G A with eq | eq | eq
  all_goals rw [eq] at hrun
  · refine va_callv hrun hS (fun q _ h => h) (fun q h => h) (fun u t H1 locs1 ht hvm hw hB hz1 hk1 hS1 => ?_)
    exact go none u hw H1 locs1 (fun v h => by cases h) (by rw [← ht]; exact hB.1) hB.2 hS1
  · refine va_calll hrun hS (fun q _ h => h) (fun q h => h) (fun r u t H1 locs1 ht hvm hw hB hz1 hk1 hS1 => ?_)
    exact go (some (vJ r)) u hw H1 locs1 (fun v h => by cases h; trivial) (by rw [← ht]; exact hB.1) hB.2 hS1
  · refine va_calli hrun hS (fun q _ h => h) (fun q h => h) (fun r u t H1 locs1 ht hvm hw hB hz1 hk1 hS1 => ?_)
    exact go (some (vI r)) u hw H1 locs1 (fun v h => by cases h; trivial) (by rw [← ht]; exact hB.1) hB.2 hS1
theorem TT_max : Cond.static Lib.Math.max.name ∈ TT ∧ Cond.initialized "java/lang/Math" ∈ TT ∧ Cond.code Lib.Math.max.name Lib.Math.max.code 2 (some .int) ∈ TT := ⟨TT_t (by decide +kernel) rfl, TT_t (by decide +kernel) rfl, TT_t (List.mem_of_getElem? (i := 471) (by decide +kernel)) rfl⟩
set_option maxHeartbeats 400000 in
theorem WS.mmax {d : Nat} {M : MI} {pc idx : Nat} {L rest : List AV} {σ : Mem} {Post : Option AV → Mem → Prop} {x y : Int32} (hf : fet M.tab pc = some (.invokestatic idx, 3)) (hlk : Cond.methodLink (cn M.own) idx Lib.Math.max.name ∈ TT) (hw : (rest.map avc).sum ≤ 8) (hk : WS (d + 1) M (pc + 3) L (vI (if x < y then y else x) :: rest) σ Post) : WS (d + 1) M pc L (vI y :: vI x :: rest) σ Post := by
  intro G A p l e R s m args below meth c H locs cells slots ls Q hCX hP hR hS hL hoL hoS hQ
  have go := hk G A p l e R s m args below meth c H locs cells slots ls Q hCX hP hR hS hL hoL (fun v hv => by
    rcases List.mem_cons.mp hv with rfl | hv
    · trivial
    · exact hoS v (List.mem_cons_of_mem _ (List.mem_cons_of_mem _ hv))) hQ
  obtain ⟨hM, hx, hb, hml, hown, hts, hSX, hd1, hd2, hc1, hc2⟩ := hCX
  exact va_mmax hx hb (hml.trans hL.2.1.symm) hown (hts _ hlk) (hts _ TT_max.1) (hts _ TT_max.2.1) (hts _ TT_max.2.2) (by omega) (by rw [avc_sum]; omega) hc1 hc2 (hM.dec hf) go
theorem TT_min : Cond.static Lib.Math.min.name ∈ TT ∧ Cond.initialized "java/lang/Math" ∈ TT ∧ Cond.code Lib.Math.min.name Lib.Math.min.code 2 (some .int) ∈ TT := ⟨TT_t (by decide +kernel) rfl, TT_t (by decide +kernel) rfl, TT_t (List.mem_of_getElem? (i := 468) (by decide +kernel)) rfl⟩
set_option maxHeartbeats 400000 in
theorem WS.mmin {d : Nat} {M : MI} {pc idx : Nat} {L rest : List AV} {σ : Mem} {Post : Option AV → Mem → Prop} {x y : Int32} (hf : fet M.tab pc = some (.invokestatic idx, 3)) (hlk : Cond.methodLink (cn M.own) idx Lib.Math.min.name ∈ TT) (hw : (rest.map avc).sum ≤ 8) (hk : WS (d + 1) M (pc + 3) L (vI (if y < x then y else x) :: rest) σ Post) : WS (d + 1) M pc L (vI y :: vI x :: rest) σ Post := by
  intro G A p l e R s m args below meth c H locs cells slots ls Q hCX hP hR hS hL hoL hoS hQ
  have go := hk G A p l e R s m args below meth c H locs cells slots ls Q hCX hP hR hS hL hoL (fun v hv => by
    rcases List.mem_cons.mp hv with rfl | hv
    · trivial
    · exact hoS v (List.mem_cons_of_mem _ (List.mem_cons_of_mem _ hv))) hQ
  obtain ⟨hM, hx, hb, hml, hown, hts, hSX, hd1, hd2, hc1, hc2⟩ := hCX
  exact va_mmin hx hb (hml.trans hL.2.1.symm) hown (hts _ hlk) (hts _ TT_min.1) (hts _ TT_min.2.1) (hts _ TT_min.2.2) (by omega) (by rw [avc_sum]; omega) hc1 hc2 (hM.dec hf) go
theorem TT_copy : Cond.native arraycopyName ∈ TT ∧ Cond.static arraycopyName ∈ TT ∧ Cond.initialized "java/lang/System" ∈ TT := ⟨TT_t (by decide +kernel) rfl, TT_t (by decide +kernel) rfl, TT_t (by decide +kernel) rfl⟩
def isI (k n : Nat) : Bool := match LT[k]? with
  | some (_, .inr (0, m, _)) => decide (k < 85) && (m == n)
  | _ => false
theorem isI_use {k n : Nat} (h : isI k n = true) : k < 85 ∧ ∃ a b, LT[k]? = some (a, .inr (0, n, b)) := by
  unfold isI at h
  split at h
  · next a m b h1 =>
    simp only [Bool.and_eq_true, decide_eq_true_eq, beq_iff_eq] at h
    exact ⟨h.1, a, b, by rw [h1, h.2]⟩
  · cases h
theorem cpyW : nativeFrameWords "java/lang/System" "arraycopy" 5 ≤ 30 := by decide +kernel
set_option maxHeartbeats 400000 in
/-- System.arraycopy -/
theorem WS.copy {d : Nat} {M : MI} {pc idx k i k2 i2 n0 n1 : Nat} {L rest : List AV} {σ : Mem} {Post : Option AV → Mem → Prop} {sp dp n : Int32} (hf : fet M.tab pc = some (.invokestatic idx, 3)) (hlk : Cond.methodLink (cn M.own) idx arraycopyName ∈ TT) (hw : (rest.map avc).sum ≤ 8) (hk0 : isI k n0 = true) (hk1 : isI k2 n1 = true) (h1 : ¬ sp < 0) (h2 : ¬ dp < 0) (h3 : ¬ n < 0) (h4 : sp.toNatClampNeg + n.toNatClampNeg ≤ n0) (h5 : dp.toNatClampNeg + n.toNatClampNeg ≤ n1)
    (hk : WS (d + 1) M (pc + 3) L rest (pC σ k i k2 i2 sp.toNatClampNeg dp.toNatClampNeg n.toNatClampNeg) Post) : WS (d + 1) M pc L (vI n :: vI dp :: vR k2 i2 :: vI sp :: vR k i :: rest) σ Post := by
  intro G A p l e R s m args below meth c H locs cells slots ls Q hCX hP hR hS hL hoL hoS hQ
  obtain ⟨ha0, a0, b0, hl0⟩ := isI_use hk0
  obtain ⟨ha1, a1, b1, hl1⟩ := isI_use hk1
  have go := fun (H1 : Heap) (locs1 : List Loc) (h6 : va_P G.D classes (wsW G (pC σ k i k2 i2 sp.toNatClampNeg dp.toNatClampNeg n.toNatClampNeg)) H1) (h7 : va_S A s.heap H1 locs1) => hk G A p l e R s m args below meth c H1 locs1 cells slots ls Q hCX h6 (hR.pC ha1) h7 hL hoL (fun v hv => hoS v (List.mem_cons_of_mem _ (List.mem_cons_of_mem _ (List.mem_cons_of_mem _ (List.mem_cons_of_mem _ (List.mem_cons_of_mem _ hv)))))) hQ
  obtain ⟨hM, hx, hb, hml, hown, hts, hSX, hd1, hd2, hc1, hc2⟩ := hCX
  have ho0 := okR_lt (hoS (vR k i) (List.mem_cons_of_mem _ (List.mem_cons_of_mem _ (List.mem_cons_of_mem _ (List.mem_cons_of_mem _ List.mem_cons_self))))) ha0
  have ho1 := okR_lt (hoS (vR k2 i2) (List.mem_cons_of_mem _ (List.mem_cons_of_mem _ List.mem_cons_self))) ha1
  obtain ⟨q, hq1, hq2⟩ := ws_get G σ ha0 ho0
  obtain ⟨r, hr1, hr2⟩ := ws_get G σ ha1 ho1
  rw [cel_int hl0] at hq2
  rw [cel_int hl1] at hr2
  have hset : (wsW G σ).set r (G.ad k2 i2, .inl (G.ca 0, n1, .inl (va_cpy (gI σ k i) (gI σ k2 i2) sp.toNatClampNeg dp.toNatClampNeg n.toNatClampNeg))) = wsW G (pC σ k i k2 i2 sp.toNatClampNeg dp.toNatClampNeg n.toNatClampNeg) := by
    refine ws_set hr1 ?_ (fun a b h => cel_congr (fun q => ?_) (fun q => rfl))
    · rw [cel_int hl1]
      refine congrArg (fun f => (Sum.inl (G.ca 0, n1, Sum.inl f) : va_E)) ?_
      funext q
      rw [gI_pC]
      unfold va_cpy
      by_cases h : dp.toNatClampNeg ≤ q ∧ q < dp.toNatClampNeg + n.toNatClampNeg
      · rw [if_pos ⟨rfl, rfl, h⟩, if_pos h]
      · rw [if_neg (fun z => h z.2.2), if_neg h]
    · rw [gI_pC, if_neg (fun z => h ⟨z.1, z.2.1⟩)]
  refine va_copyi hx hb (hml.trans hL.2.1.symm) hown (hts _ hlk) (hts _ TT_copy.1) (hts _ TT_copy.2.1) (hts _ TT_copy.2.2) hSX.1 hP (hSX.2.2.1 σ) hS q r 0 0 hq2 hr2 rfl rfl rfl h1 h2 h3 h4 h5 (fun _ _ => rfl) (by omega) (by have := cpyW; rw [avc_sum]; omega) (hM.dec hf) (fun H1 locs1 h6 h7 h8 => ?_)
  rw [hset] at h6
  exact go H1 locs1 h6 h8
end
section
/-! the links of the calls -/
theorem iv_TM_way : Cond.instanceMethod M_TM_way.y ∈ TT ∧ Cond.selects M_TM_way.y.cls M_TM_way.y M_TM_way.y ∈ TT := ⟨TT_t (List.mem_of_getElem? (i := 330) (by decide +kernel)) rfl, TT_t (List.mem_of_getElem? (i := 331) (by decide +kernel)) rfl⟩
theorem pd_TM_way : (parseMethodDescriptor M_TM_way.y.desc).map (fun d => d.parameters.length) = some 3 ∧ M_TM_way.maxL ≤ 40 := by decide +kernel
theorem lk_12_13 : LkV 12 13 M_TM_way 3 := ⟨⟨ok_TM_way, Or.inr (TT_t (List.mem_of_getElem? (i := 329) (by decide +kernel)) rfl), pd_TM_way.1, pd_TM_way.2⟩, iv_TM_way.1, iv_TM_way.2⟩
theorem iv_TM_inRange : Cond.static M_TM_inRange.y ∈ TT := TT_t (List.mem_of_getElem? (i := 334) (by decide +kernel)) rfl
theorem pd_TM_inRange : (parseMethodDescriptor M_TM_inRange.y.desc).map (fun d => d.parameters.length) = some 2 ∧ M_TM_inRange.maxL ≤ 40 := by decide +kernel
theorem lk_10_71 : LkS 10 71 M_TM_inRange 2 := ⟨⟨ok_TM_inRange, Or.inr (TT_t (List.mem_of_getElem? (i := 333) (by decide +kernel)) rfl), pd_TM_inRange.1, pd_TM_inRange.2⟩, iv_TM_inRange⟩
theorem iv_Way_begin : Cond.instanceMethod M_Way_begin.y ∈ TT ∧ Cond.selects M_Way_begin.y.cls M_Way_begin.y M_Way_begin.y ∈ TT := ⟨TT_t (List.mem_of_getElem? (i := 338) (by decide +kernel)) rfl, TT_of (List.mem_append_left _ (by decide +kernel)) rfl⟩
theorem pd_Way_begin : (parseMethodDescriptor M_Way_begin.y.desc).map (fun d => d.parameters.length) = some 2 ∧ M_Way_begin.maxL ≤ 40 := by decide +kernel
theorem lk_10_75 : LkV 10 75 M_Way_begin 2 := ⟨⟨ok_Way_begin, Or.inl (List.mem_filter.mpr ⟨List.mem_of_getElem? (i := 336) (by decide +kernel), rfl⟩), pd_Way_begin.1, pd_Way_begin.2⟩, iv_Way_begin.1, iv_Way_begin.2⟩
theorem iv_TM_point : Cond.instanceMethod M_TM_point.y ∈ TT ∧ Cond.selects M_TM_point.y.cls M_TM_point.y M_TM_point.y ∈ TT := ⟨TT_t (List.mem_of_getElem? (i := 341) (by decide +kernel)) rfl, TT_t (List.mem_of_getElem? (i := 342) (by decide +kernel)) rfl⟩
theorem pd_TM_point : (parseMethodDescriptor M_TM_point.y.desc).map (fun d => d.parameters.length) = some 3 ∧ M_TM_point.maxL ≤ 40 := by decide +kernel
theorem lk_12_18 : LkV 12 18 M_TM_point 3 := ⟨⟨ok_TM_point, Or.inr (TT_t (List.mem_of_getElem? (i := 340) (by decide +kernel)) rfl), pd_TM_point.1, pd_TM_point.2⟩, iv_TM_point.1, iv_TM_point.2⟩
theorem iv_TM_isPlace : Cond.static M_TM_isPlace.y ∈ TT := TT_t (List.mem_of_getElem? (i := 345) (by decide +kernel)) rfl
theorem pd_TM_isPlace : (parseMethodDescriptor M_TM_isPlace.y.desc).map (fun d => d.parameters.length) = some 2 ∧ M_TM_isPlace.maxL ≤ 40 := by decide +kernel
theorem lk_10_79 : LkS 10 79 M_TM_isPlace 2 := ⟨⟨ok_TM_isPlace, Or.inr (TT_t (List.mem_of_getElem? (i := 344) (by decide +kernel)) rfl), pd_TM_isPlace.1, pd_TM_isPlace.2⟩, iv_TM_isPlace⟩
theorem iv_Way_takes : Cond.instanceMethod M_Way_takes.y ∈ TT ∧ Cond.selects M_Way_takes.y.cls M_Way_takes.y M_Way_takes.y ∈ TT := ⟨TT_t (List.mem_of_getElem? (i := 349) (by decide +kernel)) rfl, TT_of (List.mem_append_left _ (by decide +kernel)) rfl⟩
theorem pd_Way_takes : (parseMethodDescriptor M_Way_takes.y.desc).map (fun d => d.parameters.length) = some 2 ∧ M_Way_takes.maxL ≤ 40 := by decide +kernel
theorem lk_10_82 : LkV 10 82 M_Way_takes 2 := ⟨⟨ok_Way_takes, Or.inl (List.mem_filter.mpr ⟨List.mem_of_getElem? (i := 347) (by decide +kernel), rfl⟩), pd_Way_takes.1, pd_Way_takes.2⟩, iv_Way_takes.1, iv_Way_takes.2⟩
theorem iv_Way_add : Cond.instanceMethod M_Way_add.y ∈ TT ∧ Cond.selects M_Way_add.y.cls M_Way_add.y M_Way_add.y ∈ TT := ⟨TT_t (List.mem_of_getElem? (i := 353) (by decide +kernel)) rfl, TT_of (List.mem_append_left _ (by decide +kernel)) rfl⟩
theorem pd_Way_add : (parseMethodDescriptor M_Way_add.y.desc).map (fun d => d.parameters.length) = some 2 ∧ M_Way_add.maxL ≤ 40 := by decide +kernel
theorem lk_10_85 : LkV 10 85 M_Way_add 2 := ⟨⟨ok_Way_add, Or.inl (List.mem_filter.mpr ⟨List.mem_of_getElem? (i := 351) (by decide +kernel), rfl⟩), pd_Way_add.1, pd_Way_add.2⟩, iv_Way_add.1, iv_Way_add.2⟩
theorem iv_TM_simple : Cond.instanceMethod M_TM_simple.y ∈ TT ∧ Cond.selects M_TM_simple.y.cls M_TM_simple.y M_TM_simple.y ∈ TT := ⟨TT_t (List.mem_of_getElem? (i := 356) (by decide +kernel)) rfl, TT_t (List.mem_of_getElem? (i := 357) (by decide +kernel)) rfl⟩
theorem pd_TM_simple : (parseMethodDescriptor M_TM_simple.y.desc).map (fun d => d.parameters.length) = some 2 ∧ M_TM_simple.maxL ≤ 40 := by decide +kernel
theorem lk_12_23 : LkV 12 23 M_TM_simple 2 := ⟨⟨ok_TM_simple, Or.inr (TT_t (List.mem_of_getElem? (i := 355) (by decide +kernel)) rfl), pd_TM_simple.1, pd_TM_simple.2⟩, iv_TM_simple.1, iv_TM_simple.2⟩
theorem iv_TM_hasPoints : Cond.instanceMethod M_TM_hasPoints.y ∈ TT ∧ Cond.selects M_TM_hasPoints.y.cls M_TM_hasPoints.y M_TM_hasPoints.y ∈ TT := ⟨TT_t (List.mem_of_getElem? (i := 361) (by decide +kernel)) rfl, TT_of (List.mem_append_left _ (by decide +kernel)) rfl⟩
theorem pd_TM_hasPoints : (parseMethodDescriptor M_TM_hasPoints.y.desc).map (fun d => d.parameters.length) = some 1 ∧ M_TM_hasPoints.maxL ≤ 40 := by decide +kernel
theorem lk_10_92 : LkV 10 92 M_TM_hasPoints 1 := ⟨⟨ok_TM_hasPoints, Or.inr (TT_t (List.mem_of_getElem? (i := 359) (by decide +kernel)) rfl), pd_TM_hasPoints.1, pd_TM_hasPoints.2⟩, iv_TM_hasPoints.1, iv_TM_hasPoints.2⟩
theorem iv_Ruler_thin : Cond.instanceMethod M_Ruler_thin.y ∈ TT ∧ Cond.selects M_Ruler_thin.y.cls M_Ruler_thin.y M_Ruler_thin.y ∈ TT := ⟨TT_t (List.mem_of_getElem? (i := 365) (by decide +kernel)) rfl, TT_of (List.mem_append_left _ (by decide +kernel)) rfl⟩
theorem pd_Ruler_thin : (parseMethodDescriptor M_Ruler_thin.y.desc).map (fun d => d.parameters.length) = some 2 ∧ M_Ruler_thin.maxL ≤ 40 := by decide +kernel
theorem lk_10_96 : LkV 10 96 M_Ruler_thin 2 := ⟨⟨ok_Ruler_thin, Or.inl (List.mem_filter.mpr ⟨List.mem_of_getElem? (i := 363) (by decide +kernel), rfl⟩), pd_Ruler_thin.1, pd_Ruler_thin.2⟩, iv_Ruler_thin.1, iv_Ruler_thin.2⟩
theorem iv_Ruler_findNext : Cond.instanceMethod M_Ruler_findNext.y ∈ TT ∧ Cond.selects M_Ruler_findNext.y.cls M_Ruler_findNext.y M_Ruler_findNext.y ∈ TT := ⟨TT_t (List.mem_of_getElem? (i := 369) (by decide +kernel)) rfl, TT_of (List.mem_append_left _ (by decide +kernel)) rfl⟩
theorem pd_Ruler_findNext : (parseMethodDescriptor M_Ruler_findNext.y.desc).map (fun d => d.parameters.length) = some 3 ∧ M_Ruler_findNext.maxL ≤ 40 := by decide +kernel
theorem lk_5_34 : LkV 5 34 M_Ruler_findNext 3 := ⟨⟨ok_Ruler_findNext, Or.inr (TT_t (List.mem_of_getElem? (i := 367) (by decide +kernel)) rfl), pd_Ruler_findNext.1, pd_Ruler_findNext.2⟩, iv_Ruler_findNext.1, iv_Ruler_findNext.2⟩
theorem iv_Ruler_spares : Cond.instanceMethod M_Ruler_spares.y ∈ TT ∧ Cond.selects M_Ruler_spares.y.cls M_Ruler_spares.y M_Ruler_spares.y ∈ TT := ⟨TT_t (List.mem_of_getElem? (i := 373) (by decide +kernel)) rfl, TT_of (List.mem_append_left _ (by decide +kernel)) rfl⟩
theorem pd_Ruler_spares : (parseMethodDescriptor M_Ruler_spares.y.desc).map (fun d => d.parameters.length) = some 4 ∧ M_Ruler_spares.maxL ≤ 40 := by decide +kernel
theorem lk_5_44 : LkV 5 44 M_Ruler_spares 4 := ⟨⟨ok_Ruler_spares, Or.inr (TT_t (List.mem_of_getElem? (i := 371) (by decide +kernel)) rfl), pd_Ruler_spares.1, pd_Ruler_spares.2⟩, iv_Ruler_spares.1, iv_Ruler_spares.2⟩
theorem iv_Way_bringSpan : Cond.instanceMethod M_Way_bringSpan.y ∈ TT ∧ Cond.selects M_Way_bringSpan.y.cls M_Way_bringSpan.y M_Way_bringSpan.y ∈ TT := ⟨TT_t (List.mem_of_getElem? (i := 377) (by decide +kernel)) rfl, TT_of (List.mem_append_left _ (by decide +kernel)) rfl⟩
theorem pd_Way_bringSpan : (parseMethodDescriptor M_Way_bringSpan.y.desc).map (fun d => d.parameters.length) = some 3 ∧ M_Way_bringSpan.maxL ≤ 40 := by decide +kernel
theorem lk_5_48 : LkV 5 48 M_Way_bringSpan 3 := ⟨⟨ok_Way_bringSpan, Or.inl (List.mem_filter.mpr ⟨List.mem_of_getElem? (i := 375) (by decide +kernel), rfl⟩), pd_Way_bringSpan.1, pd_Way_bringSpan.2⟩, iv_Way_bringSpan.1, iv_Way_bringSpan.2⟩
theorem iv_Line_compareMiss : Cond.instanceMethod M_Line_compareMiss.y ∈ TT ∧ Cond.selects M_Line_compareMiss.y.cls M_Line_compareMiss.y M_Line_compareMiss.y ∈ TT := ⟨TT_t (List.mem_of_getElem? (i := 381) (by decide +kernel)) rfl, TT_of (List.mem_append_left _ (by decide +kernel)) rfl⟩
theorem pd_Line_compareMiss : (parseMethodDescriptor M_Line_compareMiss.y.desc).map (fun d => d.parameters.length) = some 3 ∧ M_Line_compareMiss.maxL ≤ 40 := by decide +kernel
theorem lk_5_58 : LkV 5 58 M_Line_compareMiss 3 := ⟨⟨ok_Line_compareMiss, Or.inl (List.mem_filter.mpr ⟨List.mem_of_getElem? (i := 379) (by decide +kernel), rfl⟩), pd_Line_compareMiss.1, pd_Line_compareMiss.2⟩, iv_Line_compareMiss.1, iv_Line_compareMiss.2⟩
theorem iv_Line_along : Cond.instanceMethod M_Line_along.y ∈ TT ∧ Cond.selects M_Line_along.y.cls M_Line_along.y M_Line_along.y ∈ TT := ⟨TT_t (List.mem_of_getElem? (i := 385) (by decide +kernel)) rfl, TT_of (List.mem_append_left _ (by decide +kernel)) rfl⟩
theorem pd_Line_along : (parseMethodDescriptor M_Line_along.y.desc).map (fun d => d.parameters.length) = some 2 ∧ M_Line_along.maxL ≤ 40 := by decide +kernel
theorem lk_3_22 : LkV 3 22 M_Line_along 2 := ⟨⟨ok_Line_along, Or.inr (TT_t (List.mem_of_getElem? (i := 383) (by decide +kernel)) rfl), pd_Line_along.1, pd_Line_along.2⟩, iv_Line_along.1, iv_Line_along.2⟩
theorem iv_Line_squareBetween : Cond.static M_Line_squareBetween.y ∈ TT := TT_t (List.mem_of_getElem? (i := 388) (by decide +kernel)) rfl
theorem pd_Line_squareBetween : (parseMethodDescriptor M_Line_squareBetween.y.desc).map (fun d => d.parameters.length) = some 4 ∧ M_Line_squareBetween.maxL ≤ 40 := by decide +kernel
theorem lk_3_26 : LkS 3 26 M_Line_squareBetween 4 := ⟨⟨ok_Line_squareBetween, Or.inr (TT_t (List.mem_of_getElem? (i := 387) (by decide +kernel)) rfl), pd_Line_squareBetween.1, pd_Line_squareBetween.2⟩, iv_Line_squareBetween⟩
theorem iv_JLong_compare : Cond.static M_JLong_compare.y ∈ TT := TT_t (List.mem_of_getElem? (i := 391) (by decide +kernel)) rfl
theorem pd_JLong_compare : (parseMethodDescriptor M_JLong_compare.y.desc).map (fun d => d.parameters.length) = some 2 ∧ M_JLong_compare.maxL ≤ 40 := by decide +kernel
theorem lk_3_30 : LkS 3 30 M_JLong_compare 2 := ⟨⟨ok_JLong_compare, Or.inr (TT_t (List.mem_of_getElem? (i := 390) (by decide +kernel)) rfl), pd_JLong_compare.1, pd_JLong_compare.2⟩, iv_JLong_compare⟩
theorem iv_Line_side : Cond.instanceMethod M_Line_side.y ∈ TT ∧ Cond.selects M_Line_side.y.cls M_Line_side.y M_Line_side.y ∈ TT := ⟨TT_t (List.mem_of_getElem? (i := 395) (by decide +kernel)) rfl, TT_of (List.mem_append_left _ (by decide +kernel)) rfl⟩
theorem pd_Line_side : (parseMethodDescriptor M_Line_side.y.desc).map (fun d => d.parameters.length) = some 2 ∧ M_Line_side.maxL ≤ 40 := by decide +kernel
theorem lk_3_36 : LkV 3 36 M_Line_side 2 := ⟨⟨ok_Line_side, Or.inr (TT_t (List.mem_of_getElem? (i := 393) (by decide +kernel)) rfl), pd_Line_side.1, pd_Line_side.2⟩, iv_Line_side.1, iv_Line_side.2⟩
theorem iv_TM_drawn : Cond.instanceMethod M_TM_drawn.y ∈ TT ∧ Cond.selects M_TM_drawn.y.cls M_TM_drawn.y M_TM_drawn.y ∈ TT := ⟨TT_t (List.mem_of_getElem? (i := 398) (by decide +kernel)) rfl, TT_t (List.mem_of_getElem? (i := 399) (by decide +kernel)) rfl⟩
theorem pd_TM_drawn : (parseMethodDescriptor M_TM_drawn.y.desc).map (fun d => d.parameters.length) = some 2 ∧ M_TM_drawn.maxL ≤ 40 := by decide +kernel
theorem lk_12_28 : LkV 12 28 M_TM_drawn 2 := ⟨⟨ok_TM_drawn, Or.inr (TT_t (List.mem_of_getElem? (i := 397) (by decide +kernel)) rfl), pd_TM_drawn.1, pd_TM_drawn.2⟩, iv_TM_drawn.1, iv_TM_drawn.2⟩
theorem iv_TM_turn : Cond.instanceMethod M_TM_turn.y ∈ TT ∧ Cond.selects M_TM_turn.y.cls M_TM_turn.y M_TM_turn.y ∈ TT := ⟨TT_t (List.mem_of_getElem? (i := 402) (by decide +kernel)) rfl, TT_t (List.mem_of_getElem? (i := 403) (by decide +kernel)) rfl⟩
theorem pd_TM_turn : (parseMethodDescriptor M_TM_turn.y.desc).map (fun d => d.parameters.length) = some 2 ∧ M_TM_turn.maxL ≤ 40 := by decide +kernel
theorem lk_12_32 : LkV 12 32 M_TM_turn 2 := ⟨⟨ok_TM_turn, Or.inr (TT_t (List.mem_of_getElem? (i := 401) (by decide +kernel)) rfl), pd_TM_turn.1, pd_TM_turn.2⟩, iv_TM_turn.1, iv_TM_turn.2⟩
theorem iv_Way_bend : Cond.instanceMethod M_Way_bend.y ∈ TT ∧ Cond.selects M_Way_bend.y.cls M_Way_bend.y M_Way_bend.y ∈ TT := ⟨TT_t (List.mem_of_getElem? (i := 407) (by decide +kernel)) rfl, TT_of (List.mem_append_left _ (by decide +kernel)) rfl⟩
theorem pd_Way_bend : (parseMethodDescriptor M_Way_bend.y.desc).map (fun d => d.parameters.length) = some 1 ∧ M_Way_bend.maxL ≤ 40 := by decide +kernel
theorem lk_10_107 : LkV 10 107 M_Way_bend 1 := ⟨⟨ok_Way_bend, Or.inl (List.mem_filter.mpr ⟨List.mem_of_getElem? (i := 405) (by decide +kernel), rfl⟩), pd_Way_bend.1, pd_Way_bend.2⟩, iv_Way_bend.1, iv_Way_bend.2⟩
theorem iv_TM_gap : Cond.instanceMethod M_TM_gap.y ∈ TT ∧ Cond.selects M_TM_gap.y.cls M_TM_gap.y M_TM_gap.y ∈ TT := ⟨TT_t (List.mem_of_getElem? (i := 410) (by decide +kernel)) rfl, TT_t (List.mem_of_getElem? (i := 411) (by decide +kernel)) rfl⟩
theorem pd_TM_gap : (parseMethodDescriptor M_TM_gap.y.desc).map (fun d => d.parameters.length) = some 1 ∧ M_TM_gap.maxL ≤ 40 := by decide +kernel
theorem lk_12_36 : LkV 12 36 M_TM_gap 1 := ⟨⟨ok_TM_gap, Or.inr (TT_t (List.mem_of_getElem? (i := 409) (by decide +kernel)) rfl), pd_TM_gap.1, pd_TM_gap.2⟩, iv_TM_gap.1, iv_TM_gap.2⟩
theorem iv_TM_near : Cond.instanceMethod M_TM_near.y ∈ TT ∧ Cond.selects M_TM_near.y.cls M_TM_near.y M_TM_near.y ∈ TT := ⟨TT_t (List.mem_of_getElem? (i := 414) (by decide +kernel)) rfl, TT_t (List.mem_of_getElem? (i := 415) (by decide +kernel)) rfl⟩
theorem pd_TM_near : (parseMethodDescriptor M_TM_near.y.desc).map (fun d => d.parameters.length) = some 2 ∧ M_TM_near.maxL ≤ 40 := by decide +kernel
theorem lk_12_41 : LkV 12 41 M_TM_near 2 := ⟨⟨ok_TM_near, Or.inr (TT_t (List.mem_of_getElem? (i := 413) (by decide +kernel)) rfl), pd_TM_near.1, pd_TM_near.2⟩, iv_TM_near.1, iv_TM_near.2⟩
theorem iv_TM_areTwoWays : Cond.instanceMethod M_TM_areTwoWays.y ∈ TT ∧ Cond.selects M_TM_areTwoWays.y.cls M_TM_areTwoWays.y M_TM_areTwoWays.y ∈ TT := ⟨TT_t (List.mem_of_getElem? (i := 419) (by decide +kernel)) rfl, TT_of (List.mem_append_left _ (by decide +kernel)) rfl⟩
theorem pd_TM_areTwoWays : (parseMethodDescriptor M_TM_areTwoWays.y.desc).map (fun d => d.parameters.length) = some 2 ∧ M_TM_areTwoWays.maxL ≤ 40 := by decide +kernel
theorem lk_10_111 : LkV 10 111 M_TM_areTwoWays 2 := ⟨⟨ok_TM_areTwoWays, Or.inr (TT_t (List.mem_of_getElem? (i := 417) (by decide +kernel)) rfl), pd_TM_areTwoWays.1, pd_TM_areTwoWays.2⟩, iv_TM_areTwoWays.1, iv_TM_areTwoWays.2⟩
theorem iv_Ruler_areTooNear : Cond.instanceMethod M_Ruler_areTooNear.y ∈ TT ∧ Cond.selects M_Ruler_areTooNear.y.cls M_Ruler_areTooNear.y M_Ruler_areTooNear.y ∈ TT := ⟨TT_t (List.mem_of_getElem? (i := 423) (by decide +kernel)) rfl, TT_of (List.mem_append_left _ (by decide +kernel)) rfl⟩
theorem pd_Ruler_areTooNear : (parseMethodDescriptor M_Ruler_areTooNear.y.desc).map (fun d => d.parameters.length) = some 3 ∧ M_Ruler_areTooNear.maxL ≤ 40 := by decide +kernel
theorem lk_10_114 : LkV 10 114 M_Ruler_areTooNear 3 := ⟨⟨ok_Ruler_areTooNear, Or.inl (List.mem_filter.mpr ⟨List.mem_of_getElem? (i := 421) (by decide +kernel), rfl⟩), pd_Ruler_areTooNear.1, pd_Ruler_areTooNear.2⟩, iv_Ruler_areTooNear.1, iv_Ruler_areTooNear.2⟩
theorem iv_Way_bringLine : Cond.instanceMethod M_Way_bringLine.y ∈ TT ∧ Cond.selects M_Way_bringLine.y.cls M_Way_bringLine.y M_Way_bringLine.y ∈ TT := ⟨TT_t (List.mem_of_getElem? (i := 427) (by decide +kernel)) rfl, TT_of (List.mem_append_left _ (by decide +kernel)) rfl⟩
theorem pd_Way_bringLine : (parseMethodDescriptor M_Way_bringLine.y.desc).map (fun d => d.parameters.length) = some 2 ∧ M_Way_bringLine.maxL ≤ 40 := by decide +kernel
theorem lk_5_62 : LkV 5 62 M_Way_bringLine 2 := ⟨⟨ok_Way_bringLine, Or.inl (List.mem_filter.mpr ⟨List.mem_of_getElem? (i := 425) (by decide +kernel), rfl⟩), pd_Way_bringLine.1, pd_Way_bringLine.2⟩, iv_Way_bringLine.1, iv_Way_bringLine.2⟩
theorem lk_8_38 : LkV 8 38 M_Way_bringSpan 3 := ⟨⟨ok_Way_bringSpan, Or.inr (TT_t (List.mem_of_getElem? (i := 429) (by decide +kernel)) rfl), pd_Way_bringSpan.1, pd_Way_bringSpan.2⟩, iv_Way_bringSpan.1, iv_Way_bringSpan.2⟩
theorem iv_Line_sharesEnd : Cond.instanceMethod M_Line_sharesEnd.y ∈ TT ∧ Cond.selects M_Line_sharesEnd.y.cls M_Line_sharesEnd.y M_Line_sharesEnd.y ∈ TT := ⟨TT_t (List.mem_of_getElem? (i := 432) (by decide +kernel)) rfl, TT_of (List.mem_append_left _ (by decide +kernel)) rfl⟩
theorem pd_Line_sharesEnd : (parseMethodDescriptor M_Line_sharesEnd.y.desc).map (fun d => d.parameters.length) = some 1 ∧ M_Line_sharesEnd.maxL ≤ 40 := by decide +kernel
theorem lk_5_66 : LkV 5 66 M_Line_sharesEnd 1 := ⟨⟨ok_Line_sharesEnd, Or.inl (List.mem_filter.mpr ⟨List.mem_of_getElem? (i := 430) (by decide +kernel), rfl⟩), pd_Line_sharesEnd.1, pd_Line_sharesEnd.2⟩, iv_Line_sharesEnd.1, iv_Line_sharesEnd.2⟩
theorem iv_Line_hasEnd : Cond.instanceMethod M_Line_hasEnd.y ∈ TT ∧ Cond.selects M_Line_hasEnd.y.cls M_Line_hasEnd.y M_Line_hasEnd.y ∈ TT := ⟨TT_t (List.mem_of_getElem? (i := 436) (by decide +kernel)) rfl, TT_of (List.mem_append_left _ (by decide +kernel)) rfl⟩
theorem pd_Line_hasEnd : (parseMethodDescriptor M_Line_hasEnd.y.desc).map (fun d => d.parameters.length) = some 2 ∧ M_Line_hasEnd.maxL ≤ 40 := by decide +kernel
theorem lk_3_39 : LkV 3 39 M_Line_hasEnd 2 := ⟨⟨ok_Line_hasEnd, Or.inr (TT_t (List.mem_of_getElem? (i := 434) (by decide +kernel)) rfl), pd_Line_hasEnd.1, pd_Line_hasEnd.2⟩, iv_Line_hasEnd.1, iv_Line_hasEnd.2⟩
theorem iv_Line_isNearer : Cond.instanceMethod M_Line_isNearer.y ∈ TT ∧ Cond.selects M_Line_isNearer.y.cls M_Line_isNearer.y M_Line_isNearer.y ∈ TT := ⟨TT_t (List.mem_of_getElem? (i := 440) (by decide +kernel)) rfl, TT_of (List.mem_append_left _ (by decide +kernel)) rfl⟩
theorem pd_Line_isNearer : (parseMethodDescriptor M_Line_isNearer.y.desc).map (fun d => d.parameters.length) = some 2 ∧ M_Line_isNearer.maxL ≤ 40 := by decide +kernel
theorem lk_5_70 : LkV 5 70 M_Line_isNearer 2 := ⟨⟨ok_Line_isNearer, Or.inl (List.mem_filter.mpr ⟨List.mem_of_getElem? (i := 438) (by decide +kernel), rfl⟩), pd_Line_isNearer.1, pd_Line_isNearer.2⟩, iv_Line_isNearer.1, iv_Line_isNearer.2⟩
theorem iv_Line_cuts : Cond.instanceMethod M_Line_cuts.y ∈ TT ∧ Cond.selects M_Line_cuts.y.cls M_Line_cuts.y M_Line_cuts.y ∈ TT := ⟨TT_t (List.mem_of_getElem? (i := 444) (by decide +kernel)) rfl, TT_of (List.mem_append_left _ (by decide +kernel)) rfl⟩
theorem pd_Line_cuts : (parseMethodDescriptor M_Line_cuts.y.desc).map (fun d => d.parameters.length) = some 1 ∧ M_Line_cuts.maxL ≤ 40 := by decide +kernel
theorem lk_3_46 : LkV 3 46 M_Line_cuts 1 := ⟨⟨ok_Line_cuts, Or.inr (TT_t (List.mem_of_getElem? (i := 442) (by decide +kernel)) rfl), pd_Line_cuts.1, pd_Line_cuts.2⟩, iv_Line_cuts.1, iv_Line_cuts.2⟩
theorem iv_Line_areOpposite : Cond.static M_Line_areOpposite.y ∈ TT := TT_t (List.mem_of_getElem? (i := 447) (by decide +kernel)) rfl
theorem pd_Line_areOpposite : (parseMethodDescriptor M_Line_areOpposite.y.desc).map (fun d => d.parameters.length) = some 2 ∧ M_Line_areOpposite.maxL ≤ 40 := by decide +kernel
theorem lk_3_43 : LkS 3 43 M_Line_areOpposite 2 := ⟨⟨ok_Line_areOpposite, Or.inr (TT_t (List.mem_of_getElem? (i := 446) (by decide +kernel)) rfl), pd_Line_areOpposite.1, pd_Line_areOpposite.2⟩, iv_Line_areOpposite⟩
theorem lk_3_50 : LkV 3 50 M_Line_compareMiss 3 := ⟨⟨ok_Line_compareMiss, Or.inr (TT_t (List.mem_of_getElem? (i := 449) (by decide +kernel)) rfl), pd_Line_compareMiss.1, pd_Line_compareMiss.2⟩, iv_Line_compareMiss.1, iv_Line_compareMiss.2⟩
theorem iv_TM_crossings : Cond.instanceMethod M_TM_crossings.y ∈ TT ∧ Cond.selects M_TM_crossings.y.cls M_TM_crossings.y M_TM_crossings.y ∈ TT := ⟨TT_t (List.mem_of_getElem? (i := 451) (by decide +kernel)) rfl, TT_t (List.mem_of_getElem? (i := 452) (by decide +kernel)) rfl⟩
theorem pd_TM_crossings : (parseMethodDescriptor M_TM_crossings.y.desc).map (fun d => d.parameters.length) = some 2 ∧ M_TM_crossings.maxL ≤ 40 := by decide +kernel
theorem lk_12_45 : LkV 12 45 M_TM_crossings 2 := ⟨⟨ok_TM_crossings, Or.inr (TT_t (List.mem_of_getElem? (i := 450) (by decide +kernel)) rfl), pd_TM_crossings.1, pd_TM_crossings.2⟩, iv_TM_crossings.1, iv_TM_crossings.2⟩
theorem iv_Ruler_countCrossed : Cond.instanceMethod M_Ruler_countCrossed.y ∈ TT ∧ Cond.selects M_Ruler_countCrossed.y.cls M_Ruler_countCrossed.y M_Ruler_countCrossed.y ∈ TT := ⟨TT_t (List.mem_of_getElem? (i := 456) (by decide +kernel)) rfl, TT_of (List.mem_append_left _ (by decide +kernel)) rfl⟩
theorem pd_Ruler_countCrossed : (parseMethodDescriptor M_Ruler_countCrossed.y.desc).map (fun d => d.parameters.length) = some 2 ∧ M_Ruler_countCrossed.maxL ≤ 40 := by decide +kernel
theorem lk_10_118 : LkV 10 118 M_Ruler_countCrossed 2 := ⟨⟨ok_Ruler_countCrossed, Or.inl (List.mem_filter.mpr ⟨List.mem_of_getElem? (i := 454) (by decide +kernel), rfl⟩), pd_Ruler_countCrossed.1, pd_Ruler_countCrossed.2⟩, iv_Ruler_countCrossed.1, iv_Ruler_countCrossed.2⟩
theorem iv_Line_crosses : Cond.instanceMethod M_Line_crosses.y ∈ TT ∧ Cond.selects M_Line_crosses.y.cls M_Line_crosses.y M_Line_crosses.y ∈ TT := ⟨TT_t (List.mem_of_getElem? (i := 460) (by decide +kernel)) rfl, TT_of (List.mem_append_left _ (by decide +kernel)) rfl⟩
theorem pd_Line_crosses : (parseMethodDescriptor M_Line_crosses.y.desc).map (fun d => d.parameters.length) = some 1 ∧ M_Line_crosses.maxL ≤ 40 := by decide +kernel
theorem lk_5_74 : LkV 5 74 M_Line_crosses 1 := ⟨⟨ok_Line_crosses, Or.inl (List.mem_filter.mpr ⟨List.mem_of_getElem? (i := 458) (by decide +kernel), rfl⟩), pd_Line_crosses.1, pd_Line_crosses.2⟩, iv_Line_crosses.1, iv_Line_crosses.2⟩
theorem iv_Line_overlaps : Cond.instanceMethod M_Line_overlaps.y ∈ TT ∧ Cond.selects M_Line_overlaps.y.cls M_Line_overlaps.y M_Line_overlaps.y ∈ TT := ⟨TT_t (List.mem_of_getElem? (i := 464) (by decide +kernel)) rfl, TT_of (List.mem_append_left _ (by decide +kernel)) rfl⟩
theorem pd_Line_overlaps : (parseMethodDescriptor M_Line_overlaps.y.desc).map (fun d => d.parameters.length) = some 1 ∧ M_Line_overlaps.maxL ≤ 40 := by decide +kernel
theorem lk_3_62 : LkV 3 62 M_Line_overlaps 1 := ⟨⟨ok_Line_overlaps, Or.inr (TT_t (List.mem_of_getElem? (i := 462) (by decide +kernel)) rfl), pd_Line_overlaps.1, pd_Line_overlaps.2⟩, iv_Line_overlaps.1, iv_Line_overlaps.2⟩
theorem lkm_3_54 : Cond.methodLink (cn 3) 54 Lib.Math.min.name ∈ TT := TT_t (List.mem_of_getElem? (i := 466) (by decide +kernel)) rfl
theorem lkm_3_59 : Cond.methodLink (cn 3) 59 Lib.Math.max.name ∈ TT := TT_t (List.mem_of_getElem? (i := 469) (by decide +kernel)) rfl
theorem iv_TM_keep : Cond.instanceMethod M_TM_keep.y ∈ TT ∧ Cond.selects M_TM_keep.y.cls M_TM_keep.y M_TM_keep.y ∈ TT := ⟨TT_t (List.mem_of_getElem? (i := 473) (by decide +kernel)) rfl, TT_t (List.mem_of_getElem? (i := 474) (by decide +kernel)) rfl⟩
theorem pd_TM_keep : (parseMethodDescriptor M_TM_keep.y.desc).map (fun d => d.parameters.length) = some 0 ∧ M_TM_keep.maxL ≤ 40 := by decide +kernel
theorem lk_12_49 : LkV 12 49 M_TM_keep 0 := ⟨⟨ok_TM_keep, Or.inr (TT_t (List.mem_of_getElem? (i := 472) (by decide +kernel)) rfl), pd_TM_keep.1, pd_TM_keep.2⟩, iv_TM_keep.1, iv_TM_keep.2⟩
theorem iv_Keeper_find : Cond.instanceMethod M_Keeper_find.y ∈ TT ∧ Cond.selects M_Keeper_find.y.cls M_Keeper_find.y M_Keeper_find.y ∈ TT := ⟨TT_t (List.mem_of_getElem? (i := 478) (by decide +kernel)) rfl, TT_of (List.mem_append_left _ (by decide +kernel)) rfl⟩
theorem pd_Keeper_find : (parseMethodDescriptor M_Keeper_find.y.desc).map (fun d => d.parameters.length) = some 3 ∧ M_Keeper_find.maxL ≤ 40 := by decide +kernel
theorem lk_10_122 : LkV 10 122 M_Keeper_find 3 := ⟨⟨ok_Keeper_find, Or.inl (List.mem_filter.mpr ⟨List.mem_of_getElem? (i := 476) (by decide +kernel), rfl⟩), pd_Keeper_find.1, pd_Keeper_find.2⟩, iv_Keeper_find.1, iv_Keeper_find.2⟩
theorem iv_Keeper_measure : Cond.instanceMethod M_Keeper_measure.y ∈ TT ∧ Cond.selects M_Keeper_measure.y.cls M_Keeper_measure.y M_Keeper_measure.y ∈ TT := ⟨TT_t (List.mem_of_getElem? (i := 482) (by decide +kernel)) rfl, TT_of (List.mem_append_left _ (by decide +kernel)) rfl⟩
theorem pd_Keeper_measure : (parseMethodDescriptor M_Keeper_measure.y.desc).map (fun d => d.parameters.length) = some 3 ∧ M_Keeper_measure.maxL ≤ 40 := by decide +kernel
theorem lk_1_20 : LkV 1 20 M_Keeper_measure 3 := ⟨⟨ok_Keeper_measure, Or.inr (TT_t (List.mem_of_getElem? (i := 480) (by decide +kernel)) rfl), pd_Keeper_measure.1, pd_Keeper_measure.2⟩, iv_Keeper_measure.1, iv_Keeper_measure.2⟩
theorem iv_Chooser_clearClashes : Cond.instanceMethod M_Chooser_clearClashes.y ∈ TT ∧ Cond.selects M_Chooser_clearClashes.y.cls M_Chooser_clearClashes.y M_Chooser_clearClashes.y ∈ TT := ⟨TT_t (List.mem_of_getElem? (i := 486) (by decide +kernel)) rfl, TT_of (List.mem_append_left _ (by decide +kernel)) rfl⟩
theorem pd_Chooser_clearClashes : (parseMethodDescriptor M_Chooser_clearClashes.y.desc).map (fun d => d.parameters.length) = some 0 ∧ M_Chooser_clearClashes.maxL ≤ 40 := by decide +kernel
theorem lk_1_40 : LkV 1 40 M_Chooser_clearClashes 0 := ⟨⟨ok_Chooser_clearClashes, Or.inl (List.mem_filter.mpr ⟨List.mem_of_getElem? (i := 484) (by decide +kernel), rfl⟩), pd_Chooser_clearClashes.1, pd_Chooser_clearClashes.2⟩, iv_Chooser_clearClashes.1, iv_Chooser_clearClashes.2⟩
theorem iv_Chooser_price : Cond.instanceMethod M_Chooser_price.y ∈ TT ∧ Cond.selects M_Chooser_price.y.cls M_Chooser_price.y M_Chooser_price.y ∈ TT := ⟨TT_t (List.mem_of_getElem? (i := 490) (by decide +kernel)) rfl, TT_of (List.mem_append_left _ (by decide +kernel)) rfl⟩
theorem pd_Chooser_price : (parseMethodDescriptor M_Chooser_price.y.desc).map (fun d => d.parameters.length) = some 2 ∧ M_Chooser_price.maxL ≤ 40 := by decide +kernel
theorem lk_1_49 : LkV 1 49 M_Chooser_price 2 := ⟨⟨ok_Chooser_price, Or.inl (List.mem_filter.mpr ⟨List.mem_of_getElem? (i := 488) (by decide +kernel), rfl⟩), pd_Chooser_price.1, pd_Chooser_price.2⟩, iv_Chooser_price.1, iv_Chooser_price.2⟩
theorem lk_1_55 : LkV 1 55 M_Ruler_areTooNear 3 := ⟨⟨ok_Ruler_areTooNear, Or.inl (List.mem_filter.mpr ⟨List.mem_of_getElem? (i := 492) (by decide +kernel), rfl⟩), pd_Ruler_areTooNear.1, pd_Ruler_areTooNear.2⟩, iv_Ruler_areTooNear.1, iv_Ruler_areTooNear.2⟩
theorem iv_TM_join : Cond.static M_TM_join.y ∈ TT := TT_t (List.mem_of_getElem? (i := 494) (by decide +kernel)) rfl
theorem pd_TM_join : (parseMethodDescriptor M_TM_join.y.desc).map (fun d => d.parameters.length) = some 4 ∧ M_TM_join.maxL ≤ 40 := by decide +kernel
theorem lk_1_61 : LkS 1 61 M_TM_join 4 := ⟨⟨ok_TM_join, Or.inl (List.mem_filter.mpr ⟨List.mem_of_getElem? (i := 493) (by decide +kernel), rfl⟩), pd_TM_join.1, pd_TM_join.2⟩, iv_TM_join⟩
theorem iv_Keeper_isDangerThere : Cond.static M_Keeper_isDangerThere.y ∈ TT := TT_t (List.mem_of_getElem? (i := 497) (by decide +kernel)) rfl
theorem pd_Keeper_isDangerThere : (parseMethodDescriptor M_Keeper_isDangerThere.y.desc).map (fun d => d.parameters.length) = some 1 ∧ M_Keeper_isDangerThere.maxL ≤ 40 := by decide +kernel
theorem lk_1_24 : LkS 1 24 M_Keeper_isDangerThere 1 := ⟨⟨ok_Keeper_isDangerThere, Or.inr (TT_t (List.mem_of_getElem? (i := 496) (by decide +kernel)) rfl), pd_Keeper_isDangerThere.1, pd_Keeper_isDangerThere.2⟩, iv_Keeper_isDangerThere⟩
theorem iv_Chooser_choose : Cond.instanceMethod M_Chooser_choose.y ∈ TT ∧ Cond.selects M_Chooser_choose.y.cls M_Chooser_choose.y M_Chooser_choose.y ∈ TT := ⟨TT_t (List.mem_of_getElem? (i := 501) (by decide +kernel)) rfl, TT_of (List.mem_append_left _ (by decide +kernel)) rfl⟩
theorem pd_Chooser_choose : (parseMethodDescriptor M_Chooser_choose.y.desc).map (fun d => d.parameters.length) = some 1 ∧ M_Chooser_choose.maxL ≤ 40 := by decide +kernel
theorem lk_1_36 : LkV 1 36 M_Chooser_choose 1 := ⟨⟨ok_Chooser_choose, Or.inl (List.mem_filter.mpr ⟨List.mem_of_getElem? (i := 499) (by decide +kernel), rfl⟩), pd_Chooser_choose.1, pd_Chooser_choose.2⟩, iv_Chooser_choose.1, iv_Chooser_choose.2⟩
theorem iv_Chooser_descend : Cond.static M_Chooser_descend.y ∈ TT := TT_t (List.mem_of_getElem? (i := 504) (by decide +kernel)) rfl
theorem pd_Chooser_descend : (parseMethodDescriptor M_Chooser_descend.y.desc).map (fun d => d.parameters.length) = some 4 ∧ M_Chooser_descend.maxL ≤ 40 := by decide +kernel
theorem lk_0_35 : LkS 0 35 M_Chooser_descend 4 := ⟨⟨ok_Chooser_descend, Or.inr (TT_t (List.mem_of_getElem? (i := 503) (by decide +kernel)) rfl), pd_Chooser_descend.1, pd_Chooser_descend.2⟩, iv_Chooser_descend⟩
theorem lkc_0_39 : Cond.methodLink (cn 0) 39 arraycopyName ∈ TT := TT_t (List.mem_of_getElem? (i := 506) (by decide +kernel)) rfl
theorem iv_TM_kept : Cond.instanceMethod M_TM_kept.y ∈ TT ∧ Cond.selects M_TM_kept.y.cls M_TM_kept.y M_TM_kept.y ∈ TT := ⟨TT_t (List.mem_of_getElem? (i := 510) (by decide +kernel)) rfl, TT_t (List.mem_of_getElem? (i := 511) (by decide +kernel)) rfl⟩
theorem pd_TM_kept : (parseMethodDescriptor M_TM_kept.y.desc).map (fun d => d.parameters.length) = some 1 ∧ M_TM_kept.maxL ≤ 40 := by decide +kernel
theorem lk_12_54 : LkV 12 54 M_TM_kept 1 := ⟨⟨ok_TM_kept, Or.inr (TT_t (List.mem_of_getElem? (i := 509) (by decide +kernel)) rfl), pd_TM_kept.1, pd_TM_kept.2⟩, iv_TM_kept.1, iv_TM_kept.2⟩
theorem iv_Keeper_holds : Cond.instanceMethod M_Keeper_holds.y ∈ TT ∧ Cond.selects M_Keeper_holds.y.cls M_Keeper_holds.y M_Keeper_holds.y ∈ TT := ⟨TT_t (List.mem_of_getElem? (i := 515) (by decide +kernel)) rfl, TT_of (List.mem_append_left _ (by decide +kernel)) rfl⟩
theorem pd_Keeper_holds : (parseMethodDescriptor M_Keeper_holds.y.desc).map (fun d => d.parameters.length) = some 1 ∧ M_Keeper_holds.maxL ≤ 40 := by decide +kernel
theorem lk_10_130 : LkV 10 130 M_Keeper_holds 1 := ⟨⟨ok_Keeper_holds, Or.inl (List.mem_filter.mpr ⟨List.mem_of_getElem? (i := 513) (by decide +kernel), rfl⟩), pd_Keeper_holds.1, pd_Keeper_holds.2⟩, iv_Keeper_holds.1, iv_Keeper_holds.2⟩
theorem iv_TM_letter : Cond.instanceMethod M_TM_letter.y ∈ TT ∧ Cond.selects M_TM_letter.y.cls M_TM_letter.y M_TM_letter.y ∈ TT := ⟨TT_t (List.mem_of_getElem? (i := 518) (by decide +kernel)) rfl, TT_t (List.mem_of_getElem? (i := 519) (by decide +kernel)) rfl⟩
theorem pd_TM_letter : (parseMethodDescriptor M_TM_letter.y.desc).map (fun d => d.parameters.length) = some 1 ∧ M_TM_letter.maxL ≤ 40 := by decide +kernel
theorem lk_12_58 : LkV 12 58 M_TM_letter 1 := ⟨⟨ok_TM_letter, Or.inr (TT_t (List.mem_of_getElem? (i := 517) (by decide +kernel)) rfl), pd_TM_letter.1, pd_TM_letter.2⟩, iv_TM_letter.1, iv_TM_letter.2⟩
theorem iv_Word_append : Cond.instanceMethod M_Word_append.y ∈ TT ∧ Cond.selects M_Word_append.y.cls M_Word_append.y M_Word_append.y ∈ TT := ⟨TT_t (List.mem_of_getElem? (i := 523) (by decide +kernel)) rfl, TT_of (List.mem_append_left _ (by decide +kernel)) rfl⟩
theorem pd_Word_append : (parseMethodDescriptor M_Word_append.y.desc).map (fun d => d.parameters.length) = some 1 ∧ M_Word_append.maxL ≤ 40 := by decide +kernel
theorem lk_10_136 : LkV 10 136 M_Word_append 1 := ⟨⟨ok_Word_append, Or.inl (List.mem_filter.mpr ⟨List.mem_of_getElem? (i := 521) (by decide +kernel), rfl⟩), pd_Word_append.1, pd_Word_append.2⟩, iv_Word_append.1, iv_Word_append.2⟩
theorem iv_TM_contract : Cond.instanceMethod M_TM_contract.y ∈ TT ∧ Cond.selects M_TM_contract.y.cls M_TM_contract.y M_TM_contract.y ∈ TT := ⟨TT_t (List.mem_of_getElem? (i := 526) (by decide +kernel)) rfl, TT_t (List.mem_of_getElem? (i := 527) (by decide +kernel)) rfl⟩
theorem pd_TM_contract : (parseMethodDescriptor M_TM_contract.y.desc).map (fun d => d.parameters.length) = some 2 ∧ M_TM_contract.maxL ≤ 40 := by decide +kernel
theorem lk_12_62 : LkV 12 62 M_TM_contract 2 := ⟨⟨ok_TM_contract, Or.inr (TT_t (List.mem_of_getElem? (i := 525) (by decide +kernel)) rfl), pd_TM_contract.1, pd_TM_contract.2⟩, iv_TM_contract.1, iv_TM_contract.2⟩
theorem iv_Speller_shorten : Cond.instanceMethod M_Speller_shorten.y ∈ TT ∧ Cond.selects M_Speller_shorten.y.cls M_Speller_shorten.y M_Speller_shorten.y ∈ TT := ⟨TT_t (List.mem_of_getElem? (i := 531) (by decide +kernel)) rfl, TT_of (List.mem_append_left _ (by decide +kernel)) rfl⟩
theorem pd_Speller_shorten : (parseMethodDescriptor M_Speller_shorten.y.desc).map (fun d => d.parameters.length) = some 3 ∧ M_Speller_shorten.maxL ≤ 40 := by decide +kernel
theorem lk_10_139 : LkV 10 139 M_Speller_shorten 3 := ⟨⟨ok_Speller_shorten, Or.inl (List.mem_filter.mpr ⟨List.mem_of_getElem? (i := 529) (by decide +kernel), rfl⟩), pd_Speller_shorten.1, pd_Speller_shorten.2⟩, iv_Speller_shorten.1, iv_Speller_shorten.2⟩
theorem iv_Word_copy : Cond.instanceMethod M_Word_copy.y ∈ TT ∧ Cond.selects M_Word_copy.y.cls M_Word_copy.y M_Word_copy.y ∈ TT := ⟨TT_t (List.mem_of_getElem? (i := 535) (by decide +kernel)) rfl, TT_of (List.mem_append_left _ (by decide +kernel)) rfl⟩
theorem pd_Word_copy : (parseMethodDescriptor M_Word_copy.y.desc).map (fun d => d.parameters.length) = some 1 ∧ M_Word_copy.maxL ≤ 40 := by decide +kernel
theorem lk_7_36 : LkV 7 36 M_Word_copy 1 := ⟨⟨ok_Word_copy, Or.inl (List.mem_filter.mpr ⟨List.mem_of_getElem? (i := 533) (by decide +kernel), rfl⟩), pd_Word_copy.1, pd_Word_copy.2⟩, iv_Word_copy.1, iv_Word_copy.2⟩
theorem iv_Word_clear : Cond.instanceMethod M_Word_clear.y ∈ TT ∧ Cond.selects M_Word_clear.y.cls M_Word_clear.y M_Word_clear.y ∈ TT := ⟨TT_t (List.mem_of_getElem? (i := 539) (by decide +kernel)) rfl, TT_of (List.mem_append_left _ (by decide +kernel)) rfl⟩
theorem pd_Word_clear : (parseMethodDescriptor M_Word_clear.y.desc).map (fun d => d.parameters.length) = some 0 ∧ M_Word_clear.maxL ≤ 40 := by decide +kernel
theorem lk_9_17 : LkV 9 17 M_Word_clear 0 := ⟨⟨ok_Word_clear, Or.inr (TT_t (List.mem_of_getElem? (i := 537) (by decide +kernel)) rfl), pd_Word_clear.1, pd_Word_clear.2⟩, iv_Word_clear.1, iv_Word_clear.2⟩
theorem lk_9_20 : LkV 9 20 M_Word_append 1 := ⟨⟨ok_Word_append, Or.inr (TT_t (List.mem_of_getElem? (i := 541) (by decide +kernel)) rfl), pd_Word_append.1, pd_Word_append.2⟩, iv_Word_append.1, iv_Word_append.2⟩
theorem lk_10_143 : LkV 10 143 M_Word_clear 0 := ⟨⟨ok_Word_clear, Or.inl (List.mem_filter.mpr ⟨List.mem_of_getElem? (i := 542) (by decide +kernel), rfl⟩), pd_Word_clear.1, pd_Word_clear.2⟩, iv_Word_clear.1, iv_Word_clear.2⟩
theorem iv_TM_name : Cond.instanceMethod M_TM_name.y ∈ TT ∧ Cond.selects M_TM_name.y.cls M_TM_name.y M_TM_name.y ∈ TT := ⟨TT_t (List.mem_of_getElem? (i := 544) (by decide +kernel)) rfl, TT_t (List.mem_of_getElem? (i := 545) (by decide +kernel)) rfl⟩
theorem pd_TM_name : (parseMethodDescriptor M_TM_name.y.desc).map (fun d => d.parameters.length) = some 4 ∧ M_TM_name.maxL ≤ 40 := by decide +kernel
theorem lk_12_67 : LkV 12 67 M_TM_name 4 := ⟨⟨ok_TM_name, Or.inr (TT_t (List.mem_of_getElem? (i := 543) (by decide +kernel)) rfl), pd_TM_name.1, pd_TM_name.2⟩, iv_TM_name.1, iv_TM_name.2⟩
theorem iv_Name_begin : Cond.instanceMethod M_Name_begin.y ∈ TT ∧ Cond.selects M_Name_begin.y.cls M_Name_begin.y M_Name_begin.y ∈ TT := ⟨TT_t (List.mem_of_getElem? (i := 549) (by decide +kernel)) rfl, TT_of (List.mem_append_left _ (by decide +kernel)) rfl⟩
theorem pd_Name_begin : (parseMethodDescriptor M_Name_begin.y.desc).map (fun d => d.parameters.length) = some 4 ∧ M_Name_begin.maxL ≤ 40 := by decide +kernel
theorem lk_10_146 : LkV 10 146 M_Name_begin 4 := ⟨⟨ok_Name_begin, Or.inl (List.mem_filter.mpr ⟨List.mem_of_getElem? (i := 547) (by decide +kernel), rfl⟩), pd_Name_begin.1, pd_Name_begin.2⟩, iv_Name_begin.1, iv_Name_begin.2⟩
theorem lk_4_20 : LkV 4 20 M_Word_copy 1 := ⟨⟨ok_Word_copy, Or.inl (List.mem_filter.mpr ⟨List.mem_of_getElem? (i := 551) (by decide +kernel), rfl⟩), pd_Word_copy.1, pd_Word_copy.2⟩, iv_Word_copy.1, iv_Word_copy.2⟩
theorem iv_Speller_spell : Cond.instanceMethod M_Speller_spell.y ∈ TT ∧ Cond.selects M_Speller_spell.y.cls M_Speller_spell.y M_Speller_spell.y ∈ TT := ⟨TT_t (List.mem_of_getElem? (i := 554) (by decide +kernel)) rfl, TT_of (List.mem_append_left _ (by decide +kernel)) rfl⟩
theorem pd_Speller_spell : (parseMethodDescriptor M_Speller_spell.y.desc).map (fun d => d.parameters.length) = some 1 ∧ M_Speller_spell.maxL ≤ 40 := by decide +kernel
theorem lk_10_149 : LkV 10 149 M_Speller_spell 1 := ⟨⟨ok_Speller_spell, Or.inl (List.mem_filter.mpr ⟨List.mem_of_getElem? (i := 552) (by decide +kernel), rfl⟩), pd_Speller_spell.1, pd_Speller_spell.2⟩, iv_Speller_spell.1, iv_Speller_spell.2⟩
theorem iv_Speller_findStep : Cond.instanceMethod M_Speller_findStep.y ∈ TT ∧ Cond.selects M_Speller_findStep.y.cls M_Speller_findStep.y M_Speller_findStep.y ∈ TT := ⟨TT_t (List.mem_of_getElem? (i := 558) (by decide +kernel)) rfl, TT_of (List.mem_append_left _ (by decide +kernel)) rfl⟩
theorem pd_Speller_findStep : (parseMethodDescriptor M_Speller_findStep.y.desc).map (fun d => d.parameters.length) = some 2 ∧ M_Speller_findStep.maxL ≤ 40 := by decide +kernel
theorem lk_7_44 : LkV 7 44 M_Speller_findStep 2 := ⟨⟨ok_Speller_findStep, Or.inr (TT_t (List.mem_of_getElem? (i := 556) (by decide +kernel)) rfl), pd_Speller_findStep.1, pd_Speller_findStep.2⟩, iv_Speller_findStep.1, iv_Speller_findStep.2⟩
theorem iv_Word_hasAt : Cond.instanceMethod M_Word_hasAt.y ∈ TT ∧ Cond.selects M_Word_hasAt.y.cls M_Word_hasAt.y M_Word_hasAt.y ∈ TT := ⟨TT_t (List.mem_of_getElem? (i := 564) (by decide +kernel)) rfl, TT_of (List.mem_append_left _ (by decide +kernel)) rfl⟩
theorem pd_Word_hasAt : (parseMethodDescriptor M_Word_hasAt.y.desc).map (fun d => d.parameters.length) = some 2 ∧ M_Word_hasAt.maxL ≤ 40 := by decide +kernel
theorem lk_7_54 : LkV 7 54 M_Word_hasAt 2 := ⟨⟨ok_Word_hasAt, Or.inl (List.mem_filter.mpr ⟨List.mem_of_getElem? (i := 562) (by decide +kernel), rfl⟩), pd_Word_hasAt.1, pd_Word_hasAt.2⟩, iv_Word_hasAt.1, iv_Word_hasAt.2⟩
theorem iv_Speller_offerStep : Cond.instanceMethod M_Speller_offerStep.y ∈ TT ∧ Cond.selects M_Speller_offerStep.y.cls M_Speller_offerStep.y M_Speller_offerStep.y ∈ TT := ⟨TT_t (List.mem_of_getElem? (i := 568) (by decide +kernel)) rfl, TT_of (List.mem_append_left _ (by decide +kernel)) rfl⟩
theorem pd_Speller_offerStep : (parseMethodDescriptor M_Speller_offerStep.y.desc).map (fun d => d.parameters.length) = some 3 ∧ M_Speller_offerStep.maxL ≤ 40 := by decide +kernel
theorem lk_7_58 : LkV 7 58 M_Speller_offerStep 3 := ⟨⟨ok_Speller_offerStep, Or.inr (TT_t (List.mem_of_getElem? (i := 566) (by decide +kernel)) rfl), pd_Speller_offerStep.1, pd_Speller_offerStep.2⟩, iv_Speller_offerStep.1, iv_Speller_offerStep.2⟩
theorem iv_TM_erase : Cond.instanceMethod M_TM_erase.y ∈ TT ∧ Cond.selects M_TM_erase.y.cls M_TM_erase.y M_TM_erase.y ∈ TT := ⟨TT_t (List.mem_of_getElem? (i := 571) (by decide +kernel)) rfl, TT_t (List.mem_of_getElem? (i := 572) (by decide +kernel)) rfl⟩
theorem pd_TM_erase : (parseMethodDescriptor M_TM_erase.y.desc).map (fun d => d.parameters.length) = some 1 ∧ M_TM_erase.maxL ≤ 40 := by decide +kernel
theorem lk_12_72 : LkV 12 72 M_TM_erase 1 := ⟨⟨ok_TM_erase, Or.inr (TT_t (List.mem_of_getElem? (i := 570) (by decide +kernel)) rfl), pd_TM_erase.1, pd_TM_erase.2⟩, iv_TM_erase.1, iv_TM_erase.2⟩
theorem iv_TM_isName : Cond.instanceMethod M_TM_isName.y ∈ TT ∧ Cond.selects M_TM_isName.y.cls M_TM_isName.y M_TM_isName.y ∈ TT := ⟨TT_t (List.mem_of_getElem? (i := 576) (by decide +kernel)) rfl, TT_of (List.mem_append_left _ (by decide +kernel)) rfl⟩
theorem pd_TM_isName : (parseMethodDescriptor M_TM_isName.y.desc).map (fun d => d.parameters.length) = some 1 ∧ M_TM_isName.maxL ≤ 40 := by decide +kernel
theorem lk_10_153 : LkV 10 153 M_TM_isName 1 := ⟨⟨ok_TM_isName, Or.inr (TT_t (List.mem_of_getElem? (i := 574) (by decide +kernel)) rfl), pd_TM_isName.1, pd_TM_isName.2⟩, iv_TM_isName.1, iv_TM_isName.2⟩
theorem iv_TM_cell : Cond.instanceMethod M_TM_cell.y ∈ TT ∧ Cond.selects M_TM_cell.y.cls M_TM_cell.y M_TM_cell.y ∈ TT := ⟨TT_t (List.mem_of_getElem? (i := 579) (by decide +kernel)) rfl, TT_t (List.mem_of_getElem? (i := 580) (by decide +kernel)) rfl⟩
theorem pd_TM_cell : (parseMethodDescriptor M_TM_cell.y.desc).map (fun d => d.parameters.length) = some 2 ∧ M_TM_cell.maxL ≤ 40 := by decide +kernel
theorem lk_12_77 : LkV 12 77 M_TM_cell 2 := ⟨⟨ok_TM_cell, Or.inr (TT_t (List.mem_of_getElem? (i := 578) (by decide +kernel)) rfl), pd_TM_cell.1, pd_TM_cell.2⟩, iv_TM_cell.1, iv_TM_cell.2⟩
theorem iv_TM_set : Cond.instanceMethod M_TM_set.y ∈ TT ∧ Cond.selects M_TM_set.y.cls M_TM_set.y M_TM_set.y ∈ TT := ⟨TT_t (List.mem_of_getElem? (i := 583) (by decide +kernel)) rfl, TT_t (List.mem_of_getElem? (i := 584) (by decide +kernel)) rfl⟩
theorem pd_TM_set : (parseMethodDescriptor M_TM_set.y.desc).map (fun d => d.parameters.length) = some 0 ∧ M_TM_set.maxL ≤ 40 := by decide +kernel
theorem lk_12_81 : LkV 12 81 M_TM_set 0 := ⟨⟨ok_TM_set, Or.inr (TT_t (List.mem_of_getElem? (i := 582) (by decide +kernel)) rfl), pd_TM_set.1, pd_TM_set.2⟩, iv_TM_set.1, iv_TM_set.2⟩
theorem iv_Setter_measure : Cond.instanceMethod M_Setter_measure.y ∈ TT ∧ Cond.selects M_Setter_measure.y.cls M_Setter_measure.y M_Setter_measure.y ∈ TT := ⟨TT_t (List.mem_of_getElem? (i := 588) (by decide +kernel)) rfl, TT_of (List.mem_append_left _ (by decide +kernel)) rfl⟩
theorem pd_Setter_measure : (parseMethodDescriptor M_Setter_measure.y.desc).map (fun d => d.parameters.length) = some 2 ∧ M_Setter_measure.maxL ≤ 40 := by decide +kernel
theorem lk_10_165 : LkV 10 165 M_Setter_measure 2 := ⟨⟨ok_Setter_measure, Or.inl (List.mem_filter.mpr ⟨List.mem_of_getElem? (i := 586) (by decide +kernel), rfl⟩), pd_Setter_measure.1, pd_Setter_measure.2⟩, iv_Setter_measure.1, iv_Setter_measure.2⟩
theorem lk_6_54 : LkV 6 54 M_Speller_spell 1 := ⟨⟨ok_Speller_spell, Or.inl (List.mem_filter.mpr ⟨List.mem_of_getElem? (i := 590) (by decide +kernel), rfl⟩), pd_Speller_spell.1, pd_Speller_spell.2⟩, iv_Speller_spell.1, iv_Speller_spell.2⟩
theorem iv_Setter_putBox : Cond.instanceMethod M_Setter_putBox.y ∈ TT ∧ Cond.selects M_Setter_putBox.y.cls M_Setter_putBox.y M_Setter_putBox.y ∈ TT := ⟨TT_t (List.mem_of_getElem? (i := 593) (by decide +kernel)) rfl, TT_of (List.mem_append_left _ (by decide +kernel)) rfl⟩
theorem pd_Setter_putBox : (parseMethodDescriptor M_Setter_putBox.y.desc).map (fun d => d.parameters.length) = some 4 ∧ M_Setter_putBox.maxL ≤ 40 := by decide +kernel
theorem lk_6_66 : LkV 6 66 M_Setter_putBox 4 := ⟨⟨ok_Setter_putBox, Or.inr (TT_t (List.mem_of_getElem? (i := 591) (by decide +kernel)) rfl), pd_Setter_putBox.1, pd_Setter_putBox.2⟩, iv_Setter_putBox.1, iv_Setter_putBox.2⟩
theorem lk_6_76 : LkS 6 76 M_TM_isPlace 2 := ⟨⟨ok_TM_isPlace, Or.inl (List.mem_filter.mpr ⟨List.mem_of_getElem? (i := 595) (by decide +kernel), rfl⟩), pd_TM_isPlace.1, pd_TM_isPlace.2⟩, iv_TM_isPlace⟩
theorem lk_6_73 : LkV 6 73 M_Chooser_price 2 := ⟨⟨ok_Chooser_price, Or.inl (List.mem_filter.mpr ⟨List.mem_of_getElem? (i := 596) (by decide +kernel), rfl⟩), pd_Chooser_price.1, pd_Chooser_price.2⟩, iv_Chooser_price.1, iv_Chooser_price.2⟩
theorem iv_Setter_avoid : Cond.instanceMethod M_Setter_avoid.y ∈ TT ∧ Cond.selects M_Setter_avoid.y.cls M_Setter_avoid.y M_Setter_avoid.y ∈ TT := ⟨TT_t (List.mem_of_getElem? (i := 599) (by decide +kernel)) rfl, TT_of (List.mem_append_left _ (by decide +kernel)) rfl⟩
theorem pd_Setter_avoid : (parseMethodDescriptor M_Setter_avoid.y.desc).map (fun d => d.parameters.length) = some 2 ∧ M_Setter_avoid.maxL ≤ 40 := by decide +kernel
theorem lk_10_169 : LkV 10 169 M_Setter_avoid 2 := ⟨⟨ok_Setter_avoid, Or.inl (List.mem_filter.mpr ⟨List.mem_of_getElem? (i := 597) (by decide +kernel), rfl⟩), pd_Setter_avoid.1, pd_Setter_avoid.2⟩, iv_Setter_avoid.1, iv_Setter_avoid.2⟩
theorem lk_6_80 : LkV 6 80 M_Keeper_holds 1 := ⟨⟨ok_Keeper_holds, Or.inl (List.mem_filter.mpr ⟨List.mem_of_getElem? (i := 601) (by decide +kernel), rfl⟩), pd_Keeper_holds.1, pd_Keeper_holds.2⟩, iv_Keeper_holds.1, iv_Keeper_holds.2⟩
theorem iv_Setter_avoidWay : Cond.instanceMethod M_Setter_avoidWay.y ∈ TT ∧ Cond.selects M_Setter_avoidWay.y.cls M_Setter_avoidWay.y M_Setter_avoidWay.y ∈ TT := ⟨TT_t (List.mem_of_getElem? (i := 604) (by decide +kernel)) rfl, TT_of (List.mem_append_left _ (by decide +kernel)) rfl⟩
theorem pd_Setter_avoidWay : (parseMethodDescriptor M_Setter_avoidWay.y.desc).map (fun d => d.parameters.length) = some 1 ∧ M_Setter_avoidWay.maxL ≤ 40 := by decide +kernel
theorem lk_6_86 : LkV 6 86 M_Setter_avoidWay 1 := ⟨⟨ok_Setter_avoidWay, Or.inr (TT_t (List.mem_of_getElem? (i := 602) (by decide +kernel)) rfl), pd_Setter_avoidWay.1, pd_Setter_avoidWay.2⟩, iv_Setter_avoidWay.1, iv_Setter_avoidWay.2⟩
theorem lk_6_95 : LkV 6 95 M_Way_bringLine 2 := ⟨⟨ok_Way_bringLine, Or.inl (List.mem_filter.mpr ⟨List.mem_of_getElem? (i := 606) (by decide +kernel), rfl⟩), pd_Way_bringLine.1, pd_Way_bringLine.2⟩, iv_Way_bringLine.1, iv_Way_bringLine.2⟩
theorem iv_Setter_isUsable : Cond.instanceMethod M_Setter_isUsable.y ∈ TT ∧ Cond.selects M_Setter_isUsable.y.cls M_Setter_isUsable.y M_Setter_isUsable.y ∈ TT := ⟨TT_t (List.mem_of_getElem? (i := 609) (by decide +kernel)) rfl, TT_of (List.mem_append_left _ (by decide +kernel)) rfl⟩
theorem pd_Setter_isUsable : (parseMethodDescriptor M_Setter_isUsable.y.desc).map (fun d => d.parameters.length) = some 1 ∧ M_Setter_isUsable.maxL ≤ 40 := by decide +kernel
theorem lk_6_99 : LkV 6 99 M_Setter_isUsable 1 := ⟨⟨ok_Setter_isUsable, Or.inr (TT_t (List.mem_of_getElem? (i := 607) (by decide +kernel)) rfl), pd_Setter_isUsable.1, pd_Setter_isUsable.2⟩, iv_Setter_isUsable.1, iv_Setter_isUsable.2⟩
theorem iv_Line_enters : Cond.instanceMethod M_Line_enters.y ∈ TT ∧ Cond.selects M_Line_enters.y.cls M_Line_enters.y M_Line_enters.y ∈ TT := ⟨TT_t (List.mem_of_getElem? (i := 613) (by decide +kernel)) rfl, TT_of (List.mem_append_left _ (by decide +kernel)) rfl⟩
theorem pd_Line_enters : (parseMethodDescriptor M_Line_enters.y.desc).map (fun d => d.parameters.length) = some 4 ∧ M_Line_enters.maxL ≤ 40 := by decide +kernel
theorem lk_6_102 : LkV 6 102 M_Line_enters 4 := ⟨⟨ok_Line_enters, Or.inl (List.mem_filter.mpr ⟨List.mem_of_getElem? (i := 611) (by decide +kernel), rfl⟩), pd_Line_enters.1, pd_Line_enters.2⟩, iv_Line_enters.1, iv_Line_enters.2⟩
theorem iv_Setter_find : Cond.instanceMethod M_Setter_find.y ∈ TT ∧ Cond.selects M_Setter_find.y.cls M_Setter_find.y M_Setter_find.y ∈ TT := ⟨TT_t (List.mem_of_getElem? (i := 617) (by decide +kernel)) rfl, TT_of (List.mem_append_left _ (by decide +kernel)) rfl⟩
theorem pd_Setter_find : (parseMethodDescriptor M_Setter_find.y.desc).map (fun d => d.parameters.length) = some 1 ∧ M_Setter_find.maxL ≤ 40 := by decide +kernel
theorem lk_10_173 : LkV 10 173 M_Setter_find 1 := ⟨⟨ok_Setter_find, Or.inl (List.mem_filter.mpr ⟨List.mem_of_getElem? (i := 615) (by decide +kernel), rfl⟩), pd_Setter_find.1, pd_Setter_find.2⟩, iv_Setter_find.1, iv_Setter_find.2⟩
theorem lk_6_106 : LkV 6 106 M_Chooser_clearClashes 0 := ⟨⟨ok_Chooser_clearClashes, Or.inl (List.mem_filter.mpr ⟨List.mem_of_getElem? (i := 619) (by decide +kernel), rfl⟩), pd_Chooser_clearClashes.1, pd_Chooser_clearClashes.2⟩, iv_Chooser_clearClashes.1, iv_Chooser_clearClashes.2⟩
theorem iv_Setter_overlap : Cond.instanceMethod M_Setter_overlap.y ∈ TT ∧ Cond.selects M_Setter_overlap.y.cls M_Setter_overlap.y M_Setter_overlap.y ∈ TT := ⟨TT_t (List.mem_of_getElem? (i := 622) (by decide +kernel)) rfl, TT_of (List.mem_append_left _ (by decide +kernel)) rfl⟩
theorem pd_Setter_overlap : (parseMethodDescriptor M_Setter_overlap.y.desc).map (fun d => d.parameters.length) = some 2 ∧ M_Setter_overlap.maxL ≤ 40 := by decide +kernel
theorem lk_6_109 : LkV 6 109 M_Setter_overlap 2 := ⟨⟨ok_Setter_overlap, Or.inr (TT_t (List.mem_of_getElem? (i := 620) (by decide +kernel)) rfl), pd_Setter_overlap.1, pd_Setter_overlap.2⟩, iv_Setter_overlap.1, iv_Setter_overlap.2⟩
theorem lk_6_115 : LkS 6 115 M_TM_join 4 := ⟨⟨ok_TM_join, Or.inl (List.mem_filter.mpr ⟨List.mem_of_getElem? (i := 624) (by decide +kernel), rfl⟩), pd_TM_join.1, pd_TM_join.2⟩, iv_TM_join⟩
theorem lk_6_119 : LkV 6 119 M_Chooser_choose 1 := ⟨⟨ok_Chooser_choose, Or.inl (List.mem_filter.mpr ⟨List.mem_of_getElem? (i := 625) (by decide +kernel), rfl⟩), pd_Chooser_choose.1, pd_Chooser_choose.2⟩, iv_Chooser_choose.1, iv_Chooser_choose.2⟩
theorem iv_TM_spot : Cond.instanceMethod M_TM_spot.y ∈ TT ∧ Cond.selects M_TM_spot.y.cls M_TM_spot.y M_TM_spot.y ∈ TT := ⟨TT_t (List.mem_of_getElem? (i := 627) (by decide +kernel)) rfl, TT_t (List.mem_of_getElem? (i := 628) (by decide +kernel)) rfl⟩
theorem pd_TM_spot : (parseMethodDescriptor M_TM_spot.y.desc).map (fun d => d.parameters.length) = some 1 ∧ M_TM_spot.maxL ≤ 40 := by decide +kernel
theorem lk_12_85 : LkV 12 85 M_TM_spot 1 := ⟨⟨ok_TM_spot, Or.inr (TT_t (List.mem_of_getElem? (i := 626) (by decide +kernel)) rfl), pd_TM_spot.1, pd_TM_spot.2⟩, iv_TM_spot.1, iv_TM_spot.2⟩
theorem iv_TM_touch : Cond.instanceMethod M_TM_touch.y ∈ TT ∧ Cond.selects M_TM_touch.y.cls M_TM_touch.y M_TM_touch.y ∈ TT := ⟨TT_t (List.mem_of_getElem? (i := 631) (by decide +kernel)) rfl, TT_t (List.mem_of_getElem? (i := 632) (by decide +kernel)) rfl⟩
theorem pd_TM_touch : (parseMethodDescriptor M_TM_touch.y.desc).map (fun d => d.parameters.length) = some 3 ∧ M_TM_touch.maxL ≤ 40 := by decide +kernel
theorem lk_12_89 : LkV 12 89 M_TM_touch 3 := ⟨⟨ok_TM_touch, Or.inr (TT_t (List.mem_of_getElem? (i := 630) (by decide +kernel)) rfl), pd_TM_touch.1, pd_TM_touch.2⟩, iv_TM_touch.1, iv_TM_touch.2⟩
theorem iv_TM_areTwo : Cond.static M_TM_areTwo.y ∈ TT := TT_t (List.mem_of_getElem? (i := 635) (by decide +kernel)) rfl
theorem pd_TM_areTwo : (parseMethodDescriptor M_TM_areTwo.y.desc).map (fun d => d.parameters.length) = some 3 ∧ M_TM_areTwo.maxL ≤ 40 := by decide +kernel
theorem lk_10_179 : LkS 10 179 M_TM_areTwo 3 := ⟨⟨ok_TM_areTwo, Or.inr (TT_t (List.mem_of_getElem? (i := 634) (by decide +kernel)) rfl), pd_TM_areTwo.1, pd_TM_areTwo.2⟩, iv_TM_areTwo⟩
theorem lk_10_186 : LkS 10 186 M_TM_join 4 := ⟨⟨ok_TM_join, Or.inr (TT_t (List.mem_of_getElem? (i := 637) (by decide +kernel)) rfl), pd_TM_join.1, pd_TM_join.2⟩, iv_TM_join⟩
theorem iv_TM_apart : Cond.instanceMethod M_TM_apart.y ∈ TT ∧ Cond.selects M_TM_apart.y.cls M_TM_apart.y M_TM_apart.y ∈ TT := ⟨TT_t (List.mem_of_getElem? (i := 639) (by decide +kernel)) rfl, TT_t (List.mem_of_getElem? (i := 640) (by decide +kernel)) rfl⟩
theorem pd_TM_apart : (parseMethodDescriptor M_TM_apart.y.desc).map (fun d => d.parameters.length) = some 3 ∧ M_TM_apart.maxL ≤ 40 := by decide +kernel
theorem lk_12_93 : LkV 12 93 M_TM_apart 3 := ⟨⟨ok_TM_apart, Or.inr (TT_t (List.mem_of_getElem? (i := 638) (by decide +kernel)) rfl), pd_TM_apart.1, pd_TM_apart.2⟩, iv_TM_apart.1, iv_TM_apart.2⟩
theorem iv_TM_lay : Cond.instanceMethod M_TM_lay.y ∈ TT ∧ Cond.selects M_TM_lay.y.cls M_TM_lay.y M_TM_lay.y ∈ TT := ⟨TT_t (List.mem_of_getElem? (i := 643) (by decide +kernel)) rfl, TT_t (List.mem_of_getElem? (i := 644) (by decide +kernel)) rfl⟩
theorem pd_TM_lay : (parseMethodDescriptor M_TM_lay.y.desc).map (fun d => d.parameters.length) = some 1 ∧ M_TM_lay.maxL ≤ 40 := by decide +kernel
theorem lk_12_97 : LkV 12 97 M_TM_lay 1 := ⟨⟨ok_TM_lay, Or.inr (TT_t (List.mem_of_getElem? (i := 642) (by decide +kernel)) rfl), pd_TM_lay.1, pd_TM_lay.2⟩, iv_TM_lay.1, iv_TM_lay.2⟩
theorem iv_Layer_find : Cond.instanceMethod M_Layer_find.y ∈ TT ∧ Cond.selects M_Layer_find.y.cls M_Layer_find.y M_Layer_find.y ∈ TT := ⟨TT_t (List.mem_of_getElem? (i := 648) (by decide +kernel)) rfl, TT_of (List.mem_append_left _ (by decide +kernel)) rfl⟩
theorem pd_Layer_find : (parseMethodDescriptor M_Layer_find.y.desc).map (fun d => d.parameters.length) = some 1 ∧ M_Layer_find.maxL ≤ 40 := by decide +kernel
theorem lk_10_193 : LkV 10 193 M_Layer_find 1 := ⟨⟨ok_Layer_find, Or.inl (List.mem_filter.mpr ⟨List.mem_of_getElem? (i := 646) (by decide +kernel), rfl⟩), pd_Layer_find.1, pd_Layer_find.2⟩, iv_Layer_find.1, iv_Layer_find.2⟩
theorem iv_Layer_findOfSize : Cond.instanceMethod M_Layer_findOfSize.y ∈ TT ∧ Cond.selects M_Layer_findOfSize.y.cls M_Layer_findOfSize.y M_Layer_findOfSize.y ∈ TT := ⟨TT_t (List.mem_of_getElem? (i := 652) (by decide +kernel)) rfl, TT_of (List.mem_append_left _ (by decide +kernel)) rfl⟩
theorem pd_Layer_findOfSize : (parseMethodDescriptor M_Layer_findOfSize.y.desc).map (fun d => d.parameters.length) = some 2 ∧ M_Layer_findOfSize.maxL ≤ 40 := by decide +kernel
theorem lk_2_28 : LkV 2 28 M_Layer_findOfSize 2 := ⟨⟨ok_Layer_findOfSize, Or.inr (TT_t (List.mem_of_getElem? (i := 650) (by decide +kernel)) rfl), pd_Layer_findOfSize.1, pd_Layer_findOfSize.2⟩, iv_Layer_findOfSize.1, iv_Layer_findOfSize.2⟩
theorem iv_JInt_bitCount : Cond.static M_JInt_bitCount.y ∈ TT := TT_t (List.mem_of_getElem? (i := 655) (by decide +kernel)) rfl
theorem pd_JInt_bitCount : (parseMethodDescriptor M_JInt_bitCount.y.desc).map (fun d => d.parameters.length) = some 1 ∧ M_JInt_bitCount.maxL ≤ 40 := by decide +kernel
theorem lk_2_36 : LkS 2 36 M_JInt_bitCount 1 := ⟨⟨ok_JInt_bitCount, Or.inr (TT_t (List.mem_of_getElem? (i := 654) (by decide +kernel)) rfl), pd_JInt_bitCount.1, pd_JInt_bitCount.2⟩, iv_JInt_bitCount⟩
theorem iv_Layer_openAll : Cond.static M_Layer_openAll.y ∈ TT := TT_t (List.mem_of_getElem? (i := 661) (by decide +kernel)) rfl
theorem pd_Layer_openAll : (parseMethodDescriptor M_Layer_openAll.y.desc).map (fun d => d.parameters.length) = some 2 ∧ M_Layer_openAll.maxL ≤ 40 := by decide +kernel
theorem lk_2_42 : LkS 2 42 M_Layer_openAll 2 := ⟨⟨ok_Layer_openAll, Or.inr (TT_t (List.mem_of_getElem? (i := 660) (by decide +kernel)) rfl), pd_Layer_openAll.1, pd_Layer_openAll.2⟩, iv_Layer_openAll⟩
theorem iv_Layer_descend : Cond.static M_Layer_descend.y ∈ TT := TT_t (List.mem_of_getElem? (i := 664) (by decide +kernel)) rfl
theorem pd_Layer_descend : (parseMethodDescriptor M_Layer_descend.y.desc).map (fun d => d.parameters.length) = some 4 ∧ M_Layer_descend.maxL ≤ 40 := by decide +kernel
theorem lk_2_46 : LkS 2 46 M_Layer_descend 4 := ⟨⟨ok_Layer_descend, Or.inr (TT_t (List.mem_of_getElem? (i := 663) (by decide +kernel)) rfl), pd_Layer_descend.1, pd_Layer_descend.2⟩, iv_Layer_descend⟩
theorem iv_Layer_narrow : Cond.instanceMethod M_Layer_narrow.y ∈ TT ∧ Cond.selects M_Layer_narrow.y.cls M_Layer_narrow.y M_Layer_narrow.y ∈ TT := ⟨TT_t (List.mem_of_getElem? (i := 669) (by decide +kernel)) rfl, TT_of (List.mem_append_left _ (by decide +kernel)) rfl⟩
theorem pd_Layer_narrow : (parseMethodDescriptor M_Layer_narrow.y.desc).map (fun d => d.parameters.length) = some 4 ∧ M_Layer_narrow.maxL ≤ 40 := by decide +kernel
theorem lk_2_62 : LkV 2 62 M_Layer_narrow 4 := ⟨⟨ok_Layer_narrow, Or.inr (TT_t (List.mem_of_getElem? (i := 667) (by decide +kernel)) rfl), pd_Layer_narrow.1, pd_Layer_narrow.2⟩, iv_Layer_narrow.1, iv_Layer_narrow.2⟩
theorem iv_Layer_isTrialLess : Cond.instanceMethod M_Layer_isTrialLess.y ∈ TT ∧ Cond.selects M_Layer_isTrialLess.y.cls M_Layer_isTrialLess.y M_Layer_isTrialLess.y ∈ TT := ⟨TT_t (List.mem_of_getElem? (i := 674) (by decide +kernel)) rfl, TT_of (List.mem_append_left _ (by decide +kernel)) rfl⟩
theorem pd_Layer_isTrialLess : (parseMethodDescriptor M_Layer_isTrialLess.y.desc).map (fun d => d.parameters.length) = some 1 ∧ M_Layer_isTrialLess.maxL ≤ 40 := by decide +kernel
theorem lk_2_50 : LkV 2 50 M_Layer_isTrialLess 1 := ⟨⟨ok_Layer_isTrialLess, Or.inr (TT_t (List.mem_of_getElem? (i := 672) (by decide +kernel)) rfl), pd_Layer_isTrialLess.1, pd_Layer_isTrialLess.2⟩, iv_Layer_isTrialLess.1, iv_Layer_isTrialLess.2⟩
theorem lkc_2_54 : Cond.methodLink (cn 2) 54 arraycopyName ∈ TT := TT_t (List.mem_of_getElem? (i := 676) (by decide +kernel)) rfl
theorem iv_TM_texture : Cond.instanceMethod M_TM_texture.y ∈ TT ∧ Cond.selects M_TM_texture.y.cls M_TM_texture.y M_TM_texture.y ∈ TT := ⟨TT_t (List.mem_of_getElem? (i := 678) (by decide +kernel)) rfl, TT_t (List.mem_of_getElem? (i := 679) (by decide +kernel)) rfl⟩
theorem pd_TM_texture : (parseMethodDescriptor M_TM_texture.y.desc).map (fun d => d.parameters.length) = some 1 ∧ M_TM_texture.maxL ≤ 40 := by decide +kernel
theorem lk_12_101 : LkV 12 101 M_TM_texture 1 := ⟨⟨ok_TM_texture, Or.inr (TT_t (List.mem_of_getElem? (i := 677) (by decide +kernel)) rfl), pd_TM_texture.1, pd_TM_texture.2⟩, iv_TM_texture.1, iv_TM_texture.2⟩
theorem iv_MD_way : Cond.instanceMethod M_MD_way.y ∈ TT ∧ Cond.selects M_MD_way.y.cls M_MD_way.y M_MD_way.y ∈ TT := ⟨TT_t (List.mem_of_getElem? (i := 804) (by decide +kernel)) rfl, TT_t (List.mem_of_getElem? (i := 805) (by decide +kernel)) rfl⟩
theorem pd_MD_way : (parseMethodDescriptor M_MD_way.y.desc).map (fun d => d.parameters.length) = some 3 ∧ M_MD_way.maxL ≤ 40 := by decide +kernel
theorem lk_12_17 : LkV 12 17 M_MD_way 3 := ⟨⟨ok_MD_way, Or.inr (TT_t (List.mem_of_getElem? (i := 803) (by decide +kernel)) rfl), pd_MD_way.1, pd_MD_way.2⟩, iv_MD_way.1, iv_MD_way.2⟩
theorem iv_MD_isIn : Cond.static M_MD_isIn.y ∈ TT := TT_t (List.mem_of_getElem? (i := 808) (by decide +kernel)) rfl
theorem pd_MD_isIn : (parseMethodDescriptor M_MD_isIn.y.desc).map (fun d => d.parameters.length) = some 3 ∧ M_MD_isIn.maxL ≤ 40 := by decide +kernel
theorem lk_11_114 : LkS 11 114 M_MD_isIn 3 := ⟨⟨ok_MD_isIn, Or.inr (TT_t (List.mem_of_getElem? (i := 807) (by decide +kernel)) rfl), pd_MD_isIn.1, pd_MD_isIn.2⟩, iv_MD_isIn⟩
theorem iv_MD_point : Cond.instanceMethod M_MD_point.y ∈ TT ∧ Cond.selects M_MD_point.y.cls M_MD_point.y M_MD_point.y ∈ TT := ⟨TT_t (List.mem_of_getElem? (i := 811) (by decide +kernel)) rfl, TT_t (List.mem_of_getElem? (i := 812) (by decide +kernel)) rfl⟩
theorem pd_MD_point : (parseMethodDescriptor M_MD_point.y.desc).map (fun d => d.parameters.length) = some 3 ∧ M_MD_point.maxL ≤ 40 := by decide +kernel
theorem lk_12_22 : LkV 12 22 M_MD_point 3 := ⟨⟨ok_MD_point, Or.inr (TT_t (List.mem_of_getElem? (i := 810) (by decide +kernel)) rfl), pd_MD_point.1, pd_MD_point.2⟩, iv_MD_point.1, iv_MD_point.2⟩
theorem iv_MD_isWay : Cond.instanceMethod M_MD_isWay.y ∈ TT ∧ Cond.selects M_MD_isWay.y.cls M_MD_isWay.y M_MD_isWay.y ∈ TT := ⟨TT_t (List.mem_of_getElem? (i := 816) (by decide +kernel)) rfl, TT_of (List.mem_append_left _ (by decide +kernel)) rfl⟩
theorem pd_MD_isWay : (parseMethodDescriptor M_MD_isWay.y.desc).map (fun d => d.parameters.length) = some 1 ∧ M_MD_isWay.maxL ≤ 40 := by decide +kernel
theorem lk_11_118 : LkV 11 118 M_MD_isWay 1 := ⟨⟨ok_MD_isWay, Or.inr (TT_t (List.mem_of_getElem? (i := 814) (by decide +kernel)) rfl), pd_MD_isWay.1, pd_MD_isWay.2⟩, iv_MD_isWay.1, iv_MD_isWay.2⟩
theorem iv_MD_simple : Cond.instanceMethod M_MD_simple.y ∈ TT ∧ Cond.selects M_MD_simple.y.cls M_MD_simple.y M_MD_simple.y ∈ TT := ⟨TT_t (List.mem_of_getElem? (i := 819) (by decide +kernel)) rfl, TT_t (List.mem_of_getElem? (i := 820) (by decide +kernel)) rfl⟩
theorem pd_MD_simple : (parseMethodDescriptor M_MD_simple.y.desc).map (fun d => d.parameters.length) = some 2 ∧ M_MD_simple.maxL ≤ 40 := by decide +kernel
theorem lk_12_27 : LkV 12 27 M_MD_simple 2 := ⟨⟨ok_MD_simple, Or.inr (TT_t (List.mem_of_getElem? (i := 818) (by decide +kernel)) rfl), pd_MD_simple.1, pd_MD_simple.2⟩, iv_MD_simple.1, iv_MD_simple.2⟩
theorem iv_MD_isNear : Cond.instanceMethod M_MD_isNear.y ∈ TT ∧ Cond.selects M_MD_isNear.y.cls M_MD_isNear.y M_MD_isNear.y ∈ TT := ⟨TT_t (List.mem_of_getElem? (i := 824) (by decide +kernel)) rfl, TT_of (List.mem_append_left _ (by decide +kernel)) rfl⟩
theorem pd_MD_isNear : (parseMethodDescriptor M_MD_isNear.y.desc).map (fun d => d.parameters.length) = some 4 ∧ M_MD_isNear.maxL ≤ 40 := by decide +kernel
theorem lk_11_142 : LkV 11 142 M_MD_isNear 4 := ⟨⟨ok_MD_isNear, Or.inr (TT_t (List.mem_of_getElem? (i := 822) (by decide +kernel)) rfl), pd_MD_isNear.1, pd_MD_isNear.2⟩, iv_MD_isNear.1, iv_MD_isNear.2⟩
theorem iv_MD_far : Cond.instanceMethod M_MD_far.y ∈ TT ∧ Cond.selects M_MD_far.y.cls M_MD_far.y M_MD_far.y ∈ TT := ⟨TT_t (List.mem_of_getElem? (i := 828) (by decide +kernel)) rfl, TT_of (List.mem_append_left _ (by decide +kernel)) rfl⟩
theorem pd_MD_far : (parseMethodDescriptor M_MD_far.y.desc).map (fun d => d.parameters.length) = some 4 ∧ M_MD_far.maxL ≤ 40 := by decide +kernel
theorem lk_11_138 : LkV 11 138 M_MD_far 4 := ⟨⟨ok_MD_far, Or.inr (TT_t (List.mem_of_getElem? (i := 826) (by decide +kernel)) rfl), pd_MD_far.1, pd_MD_far.2⟩, iv_MD_far.1, iv_MD_far.2⟩
theorem iv_MD_apart : Cond.instanceMethod M_MD_apart.y ∈ TT ∧ Cond.selects M_MD_apart.y.cls M_MD_apart.y M_MD_apart.y ∈ TT := ⟨TT_t (List.mem_of_getElem? (i := 832) (by decide +kernel)) rfl, TT_of (List.mem_append_left _ (by decide +kernel)) rfl⟩
theorem pd_MD_apart : (parseMethodDescriptor M_MD_apart.y.desc).map (fun d => d.parameters.length) = some 2 ∧ M_MD_apart.maxL ≤ 40 := by decide +kernel
theorem lk_11_126 : LkV 11 126 M_MD_apart 2 := ⟨⟨ok_MD_apart, Or.inr (TT_t (List.mem_of_getElem? (i := 830) (by decide +kernel)) rfl), pd_MD_apart.1, pd_MD_apart.2⟩, iv_MD_apart.1, iv_MD_apart.2⟩
theorem iv_MD_square : Cond.static M_MD_square.y ∈ TT := TT_t (List.mem_of_getElem? (i := 835) (by decide +kernel)) rfl
theorem pd_MD_square : (parseMethodDescriptor M_MD_square.y.desc).map (fun d => d.parameters.length) = some 1 ∧ M_MD_square.maxL ≤ 40 := by decide +kernel
theorem lk_11_122 : LkS 11 122 M_MD_square 1 := ⟨⟨ok_MD_square, Or.inr (TT_t (List.mem_of_getElem? (i := 834) (by decide +kernel)) rfl), pd_MD_square.1, pd_MD_square.2⟩, iv_MD_square⟩
theorem iv_MD_signOf : Cond.static M_MD_signOf.y ∈ TT := TT_t (List.mem_of_getElem? (i := 838) (by decide +kernel)) rfl
theorem pd_MD_signOf : (parseMethodDescriptor M_MD_signOf.y.desc).map (fun d => d.parameters.length) = some 1 ∧ M_MD_signOf.maxL ≤ 40 := by decide +kernel
theorem lk_11_130 : LkS 11 130 M_MD_signOf 1 := ⟨⟨ok_MD_signOf, Or.inr (TT_t (List.mem_of_getElem? (i := 837) (by decide +kernel)) rfl), pd_MD_signOf.1, pd_MD_signOf.2⟩, iv_MD_signOf⟩
theorem iv_MD_cross : Cond.instanceMethod M_MD_cross.y ∈ TT ∧ Cond.selects M_MD_cross.y.cls M_MD_cross.y M_MD_cross.y ∈ TT := ⟨TT_t (List.mem_of_getElem? (i := 842) (by decide +kernel)) rfl, TT_of (List.mem_append_left _ (by decide +kernel)) rfl⟩
theorem pd_MD_cross : (parseMethodDescriptor M_MD_cross.y.desc).map (fun d => d.parameters.length) = some 3 ∧ M_MD_cross.maxL ≤ 40 := by decide +kernel
theorem lk_11_134 : LkV 11 134 M_MD_cross 3 := ⟨⟨ok_MD_cross, Or.inr (TT_t (List.mem_of_getElem? (i := 840) (by decide +kernel)) rfl), pd_MD_cross.1, pd_MD_cross.2⟩, iv_MD_cross.1, iv_MD_cross.2⟩
theorem iv_MD_puts : Cond.instanceMethod M_MD_puts.y ∈ TT ∧ Cond.selects M_MD_puts.y.cls M_MD_puts.y M_MD_puts.y ∈ TT := ⟨TT_t (List.mem_of_getElem? (i := 846) (by decide +kernel)) rfl, TT_of (List.mem_append_left _ (by decide +kernel)) rfl⟩
theorem pd_MD_puts : (parseMethodDescriptor M_MD_puts.y.desc).map (fun d => d.parameters.length) = some 2 ∧ M_MD_puts.maxL ≤ 40 := by decide +kernel
theorem lk_11_146 : LkV 11 146 M_MD_puts 2 := ⟨⟨ok_MD_puts, Or.inr (TT_t (List.mem_of_getElem? (i := 844) (by decide +kernel)) rfl), pd_MD_puts.1, pd_MD_puts.2⟩, iv_MD_puts.1, iv_MD_puts.2⟩
theorem iv_MD_drawn : Cond.instanceMethod M_MD_drawn.y ∈ TT ∧ Cond.selects M_MD_drawn.y.cls M_MD_drawn.y M_MD_drawn.y ∈ TT := ⟨TT_t (List.mem_of_getElem? (i := 849) (by decide +kernel)) rfl, TT_t (List.mem_of_getElem? (i := 850) (by decide +kernel)) rfl⟩
theorem pd_MD_drawn : (parseMethodDescriptor M_MD_drawn.y.desc).map (fun d => d.parameters.length) = some 2 ∧ M_MD_drawn.maxL ≤ 40 := by decide +kernel
theorem lk_12_31 : LkV 12 31 M_MD_drawn 2 := ⟨⟨ok_MD_drawn, Or.inr (TT_t (List.mem_of_getElem? (i := 848) (by decide +kernel)) rfl), pd_MD_drawn.1, pd_MD_drawn.2⟩, iv_MD_drawn.1, iv_MD_drawn.2⟩
theorem iv_MD_turn : Cond.instanceMethod M_MD_turn.y ∈ TT ∧ Cond.selects M_MD_turn.y.cls M_MD_turn.y M_MD_turn.y ∈ TT := ⟨TT_t (List.mem_of_getElem? (i := 853) (by decide +kernel)) rfl, TT_t (List.mem_of_getElem? (i := 854) (by decide +kernel)) rfl⟩
theorem pd_MD_turn : (parseMethodDescriptor M_MD_turn.y.desc).map (fun d => d.parameters.length) = some 2 ∧ M_MD_turn.maxL ≤ 40 := by decide +kernel
theorem lk_12_35 : LkV 12 35 M_MD_turn 2 := ⟨⟨ok_MD_turn, Or.inr (TT_t (List.mem_of_getElem? (i := 852) (by decide +kernel)) rfl), pd_MD_turn.1, pd_MD_turn.2⟩, iv_MD_turn.1, iv_MD_turn.2⟩
theorem iv_MD_at : Cond.instanceMethod M_MD_at.y ∈ TT ∧ Cond.selects M_MD_at.y.cls M_MD_at.y M_MD_at.y ∈ TT := ⟨TT_t (List.mem_of_getElem? (i := 858) (by decide +kernel)) rfl, TT_of (List.mem_append_left _ (by decide +kernel)) rfl⟩
theorem pd_MD_at : (parseMethodDescriptor M_MD_at.y.desc).map (fun d => d.parameters.length) = some 2 ∧ M_MD_at.maxL ≤ 40 := by decide +kernel
theorem lk_11_150 : LkV 11 150 M_MD_at 2 := ⟨⟨ok_MD_at, Or.inr (TT_t (List.mem_of_getElem? (i := 856) (by decide +kernel)) rfl), pd_MD_at.1, pd_MD_at.2⟩, iv_MD_at.1, iv_MD_at.2⟩
theorem iv_MD_gap : Cond.instanceMethod M_MD_gap.y ∈ TT ∧ Cond.selects M_MD_gap.y.cls M_MD_gap.y M_MD_gap.y ∈ TT := ⟨TT_t (List.mem_of_getElem? (i := 861) (by decide +kernel)) rfl, TT_t (List.mem_of_getElem? (i := 862) (by decide +kernel)) rfl⟩
theorem pd_MD_gap : (parseMethodDescriptor M_MD_gap.y.desc).map (fun d => d.parameters.length) = some 1 ∧ M_MD_gap.maxL ≤ 40 := by decide +kernel
theorem lk_12_40 : LkV 12 40 M_MD_gap 1 := ⟨⟨ok_MD_gap, Or.inr (TT_t (List.mem_of_getElem? (i := 860) (by decide +kernel)) rfl), pd_MD_gap.1, pd_MD_gap.2⟩, iv_MD_gap.1, iv_MD_gap.2⟩
theorem iv_MD_near : Cond.instanceMethod M_MD_near.y ∈ TT ∧ Cond.selects M_MD_near.y.cls M_MD_near.y M_MD_near.y ∈ TT := ⟨TT_t (List.mem_of_getElem? (i := 865) (by decide +kernel)) rfl, TT_t (List.mem_of_getElem? (i := 866) (by decide +kernel)) rfl⟩
theorem pd_MD_near : (parseMethodDescriptor M_MD_near.y.desc).map (fun d => d.parameters.length) = some 2 ∧ M_MD_near.maxL ≤ 40 := by decide +kernel
theorem lk_12_44 : LkV 12 44 M_MD_near 2 := ⟨⟨ok_MD_near, Or.inr (TT_t (List.mem_of_getElem? (i := 864) (by decide +kernel)) rfl), pd_MD_near.1, pd_MD_near.2⟩, iv_MD_near.1, iv_MD_near.2⟩
theorem iv_MD_isThere : Cond.instanceMethod M_MD_isThere.y ∈ TT ∧ Cond.selects M_MD_isThere.y.cls M_MD_isThere.y M_MD_isThere.y ∈ TT := ⟨TT_t (List.mem_of_getElem? (i := 870) (by decide +kernel)) rfl, TT_of (List.mem_append_left _ (by decide +kernel)) rfl⟩
theorem pd_MD_isThere : (parseMethodDescriptor M_MD_isThere.y.desc).map (fun d => d.parameters.length) = some 1 ∧ M_MD_isThere.maxL ≤ 40 := by decide +kernel
theorem lk_11_173 : LkV 11 173 M_MD_isThere 1 := ⟨⟨ok_MD_isThere, Or.inr (TT_t (List.mem_of_getElem? (i := 868) (by decide +kernel)) rfl), pd_MD_isThere.1, pd_MD_isThere.2⟩, iv_MD_isThere.1, iv_MD_isThere.2⟩
theorem iv_MD_areNear : Cond.instanceMethod M_MD_areNear.y ∈ TT ∧ Cond.selects M_MD_areNear.y.cls M_MD_areNear.y M_MD_areNear.y ∈ TT := ⟨TT_t (List.mem_of_getElem? (i := 874) (by decide +kernel)) rfl, TT_of (List.mem_append_left _ (by decide +kernel)) rfl⟩
theorem pd_MD_areNear : (parseMethodDescriptor M_MD_areNear.y.desc).map (fun d => d.parameters.length) = some 2 ∧ M_MD_areNear.maxL ≤ 40 := by decide +kernel
theorem lk_11_176 : LkV 11 176 M_MD_areNear 2 := ⟨⟨ok_MD_areNear, Or.inr (TT_t (List.mem_of_getElem? (i := 872) (by decide +kernel)) rfl), pd_MD_areNear.1, pd_MD_areNear.2⟩, iv_MD_areNear.1, iv_MD_areNear.2⟩
theorem iv_MD_isClose : Cond.instanceMethod M_MD_isClose.y ∈ TT ∧ Cond.selects M_MD_isClose.y.cls M_MD_isClose.y M_MD_isClose.y ∈ TT := ⟨TT_t (List.mem_of_getElem? (i := 878) (by decide +kernel)) rfl, TT_of (List.mem_append_left _ (by decide +kernel)) rfl⟩
theorem pd_MD_isClose : (parseMethodDescriptor M_MD_isClose.y.desc).map (fun d => d.parameters.length) = some 4 ∧ M_MD_isClose.maxL ≤ 40 := by decide +kernel
theorem lk_11_170 : LkV 11 170 M_MD_isClose 4 := ⟨⟨ok_MD_isClose, Or.inr (TT_t (List.mem_of_getElem? (i := 876) (by decide +kernel)) rfl), pd_MD_isClose.1, pd_MD_isClose.2⟩, iv_MD_isClose.1, iv_MD_isClose.2⟩
theorem iv_MD_isSame : Cond.instanceMethod M_MD_isSame.y ∈ TT ∧ Cond.selects M_MD_isSame.y.cls M_MD_isSame.y M_MD_isSame.y ∈ TT := ⟨TT_t (List.mem_of_getElem? (i := 882) (by decide +kernel)) rfl, TT_of (List.mem_append_left _ (by decide +kernel)) rfl⟩
theorem pd_MD_isSame : (parseMethodDescriptor M_MD_isSame.y.desc).map (fun d => d.parameters.length) = some 2 ∧ M_MD_isSame.maxL ≤ 40 := by decide +kernel
theorem lk_11_157 : LkV 11 157 M_MD_isSame 2 := ⟨⟨ok_MD_isSame, Or.inr (TT_t (List.mem_of_getElem? (i := 880) (by decide +kernel)) rfl), pd_MD_isSame.1, pd_MD_isSame.2⟩, iv_MD_isSame.1, iv_MD_isSame.2⟩
theorem iv_MD_meets : Cond.instanceMethod M_MD_meets.y ∈ TT ∧ Cond.selects M_MD_meets.y.cls M_MD_meets.y M_MD_meets.y ∈ TT := ⟨TT_t (List.mem_of_getElem? (i := 886) (by decide +kernel)) rfl, TT_of (List.mem_append_left _ (by decide +kernel)) rfl⟩
theorem pd_MD_meets : (parseMethodDescriptor M_MD_meets.y.desc).map (fun d => d.parameters.length) = some 4 ∧ M_MD_meets.maxL ≤ 40 := by decide +kernel
theorem lk_11_161 : LkV 11 161 M_MD_meets 4 := ⟨⟨ok_MD_meets, Or.inr (TT_t (List.mem_of_getElem? (i := 884) (by decide +kernel)) rfl), pd_MD_meets.1, pd_MD_meets.2⟩, iv_MD_meets.1, iv_MD_meets.2⟩
theorem iv_MD_isOn : Cond.instanceMethod M_MD_isOn.y ∈ TT ∧ Cond.selects M_MD_isOn.y.cls M_MD_isOn.y M_MD_isOn.y ∈ TT := ⟨TT_t (List.mem_of_getElem? (i := 890) (by decide +kernel)) rfl, TT_of (List.mem_append_left _ (by decide +kernel)) rfl⟩
theorem pd_MD_isOn : (parseMethodDescriptor M_MD_isOn.y.desc).map (fun d => d.parameters.length) = some 3 ∧ M_MD_isOn.maxL ≤ 40 := by decide +kernel
theorem lk_11_154 : LkV 11 154 M_MD_isOn 3 := ⟨⟨ok_MD_isOn, Or.inr (TT_t (List.mem_of_getElem? (i := 888) (by decide +kernel)) rfl), pd_MD_isOn.1, pd_MD_isOn.2⟩, iv_MD_isOn.1, iv_MD_isOn.2⟩
theorem iv_MD_crossings : Cond.instanceMethod M_MD_crossings.y ∈ TT ∧ Cond.selects M_MD_crossings.y.cls M_MD_crossings.y M_MD_crossings.y ∈ TT := ⟨TT_t (List.mem_of_getElem? (i := 893) (by decide +kernel)) rfl, TT_t (List.mem_of_getElem? (i := 894) (by decide +kernel)) rfl⟩
theorem pd_MD_crossings : (parseMethodDescriptor M_MD_crossings.y.desc).map (fun d => d.parameters.length) = some 2 ∧ M_MD_crossings.maxL ≤ 40 := by decide +kernel
theorem lk_12_48 : LkV 12 48 M_MD_crossings 2 := ⟨⟨ok_MD_crossings, Or.inr (TT_t (List.mem_of_getElem? (i := 892) (by decide +kernel)) rfl), pd_MD_crossings.1, pd_MD_crossings.2⟩, iv_MD_crossings.1, iv_MD_crossings.2⟩
theorem iv_MD_crosses : Cond.instanceMethod M_MD_crosses.y ∈ TT ∧ Cond.selects M_MD_crosses.y.cls M_MD_crosses.y M_MD_crosses.y ∈ TT := ⟨TT_t (List.mem_of_getElem? (i := 898) (by decide +kernel)) rfl, TT_of (List.mem_append_left _ (by decide +kernel)) rfl⟩
theorem pd_MD_crosses : (parseMethodDescriptor M_MD_crosses.y.desc).map (fun d => d.parameters.length) = some 4 ∧ M_MD_crosses.maxL ≤ 40 := by decide +kernel
theorem lk_11_179 : LkV 11 179 M_MD_crosses 4 := ⟨⟨ok_MD_crosses, Or.inr (TT_t (List.mem_of_getElem? (i := 896) (by decide +kernel)) rfl), pd_MD_crosses.1, pd_MD_crosses.2⟩, iv_MD_crosses.1, iv_MD_crosses.2⟩
theorem iv_MD_least : Cond.static M_MD_least.y ∈ TT := TT_t (List.mem_of_getElem? (i := 901) (by decide +kernel)) rfl
theorem pd_MD_least : (parseMethodDescriptor M_MD_least.y.desc).map (fun d => d.parameters.length) = some 2 ∧ M_MD_least.maxL ≤ 40 := by decide +kernel
theorem lk_11_164 : LkS 11 164 M_MD_least 2 := ⟨⟨ok_MD_least, Or.inr (TT_t (List.mem_of_getElem? (i := 900) (by decide +kernel)) rfl), pd_MD_least.1, pd_MD_least.2⟩, iv_MD_least⟩
theorem iv_MD_most : Cond.static M_MD_most.y ∈ TT := TT_t (List.mem_of_getElem? (i := 904) (by decide +kernel)) rfl
theorem pd_MD_most : (parseMethodDescriptor M_MD_most.y.desc).map (fun d => d.parameters.length) = some 2 ∧ M_MD_most.maxL ≤ 40 := by decide +kernel
theorem lk_11_167 : LkS 11 167 M_MD_most 2 := ⟨⟨ok_MD_most, Or.inr (TT_t (List.mem_of_getElem? (i := 903) (by decide +kernel)) rfl), pd_MD_most.1, pd_MD_most.2⟩, iv_MD_most⟩
theorem iv_MD_keep : Cond.instanceMethod M_MD_keep.y ∈ TT ∧ Cond.selects M_MD_keep.y.cls M_MD_keep.y M_MD_keep.y ∈ TT := ⟨TT_t (List.mem_of_getElem? (i := 907) (by decide +kernel)) rfl, TT_t (List.mem_of_getElem? (i := 908) (by decide +kernel)) rfl⟩
theorem pd_MD_keep : (parseMethodDescriptor M_MD_keep.y.desc).map (fun d => d.parameters.length) = some 0 ∧ M_MD_keep.maxL ≤ 40 := by decide +kernel
theorem lk_12_53 : LkV 12 53 M_MD_keep 0 := ⟨⟨ok_MD_keep, Or.inr (TT_t (List.mem_of_getElem? (i := 906) (by decide +kernel)) rfl), pd_MD_keep.1, pd_MD_keep.2⟩, iv_MD_keep.1, iv_MD_keep.2⟩
theorem iv_MD_mayBe : Cond.instanceMethod M_MD_mayBe.y ∈ TT ∧ Cond.selects M_MD_mayBe.y.cls M_MD_mayBe.y M_MD_mayBe.y ∈ TT := ⟨TT_t (List.mem_of_getElem? (i := 912) (by decide +kernel)) rfl, TT_of (List.mem_append_left _ (by decide +kernel)) rfl⟩
theorem pd_MD_mayBe : (parseMethodDescriptor M_MD_mayBe.y.desc).map (fun d => d.parameters.length) = some 1 ∧ M_MD_mayBe.maxL ≤ 40 := by decide +kernel
theorem lk_11_182 : LkV 11 182 M_MD_mayBe 1 := ⟨⟨ok_MD_mayBe, Or.inr (TT_t (List.mem_of_getElem? (i := 910) (by decide +kernel)) rfl), pd_MD_mayBe.1, pd_MD_mayBe.2⟩, iv_MD_mayBe.1, iv_MD_mayBe.2⟩
theorem iv_MD_worthOf : Cond.instanceMethod M_MD_worthOf.y ∈ TT ∧ Cond.selects M_MD_worthOf.y.cls M_MD_worthOf.y M_MD_worthOf.y ∈ TT := ⟨TT_t (List.mem_of_getElem? (i := 916) (by decide +kernel)) rfl, TT_of (List.mem_append_left _ (by decide +kernel)) rfl⟩
theorem pd_MD_worthOf : (parseMethodDescriptor M_MD_worthOf.y.desc).map (fun d => d.parameters.length) = some 1 ∧ M_MD_worthOf.maxL ≤ 40 := by decide +kernel
theorem lk_11_185 : LkV 11 185 M_MD_worthOf 1 := ⟨⟨ok_MD_worthOf, Or.inr (TT_t (List.mem_of_getElem? (i := 914) (by decide +kernel)) rfl), pd_MD_worthOf.1, pd_MD_worthOf.2⟩, iv_MD_worthOf.1, iv_MD_worthOf.2⟩
theorem iv_MD_ones : Cond.static M_MD_ones.y ∈ TT := TT_t (List.mem_of_getElem? (i := 919) (by decide +kernel)) rfl
theorem pd_MD_ones : (parseMethodDescriptor M_MD_ones.y.desc).map (fun d => d.parameters.length) = some 1 ∧ M_MD_ones.maxL ≤ 40 := by decide +kernel
theorem lk_11_189 : LkS 11 189 M_MD_ones 1 := ⟨⟨ok_MD_ones, Or.inr (TT_t (List.mem_of_getElem? (i := 918) (by decide +kernel)) rfl), pd_MD_ones.1, pd_MD_ones.2⟩, iv_MD_ones⟩
theorem iv_MD_isFirst : Cond.static M_MD_isFirst.y ∈ TT := TT_t (List.mem_of_getElem? (i := 922) (by decide +kernel)) rfl
theorem pd_MD_isFirst : (parseMethodDescriptor M_MD_isFirst.y.desc).map (fun d => d.parameters.length) = some 2 ∧ M_MD_isFirst.maxL ≤ 40 := by decide +kernel
theorem lk_11_192 : LkS 11 192 M_MD_isFirst 2 := ⟨⟨ok_MD_isFirst, Or.inr (TT_t (List.mem_of_getElem? (i := 921) (by decide +kernel)) rfl), pd_MD_isFirst.1, pd_MD_isFirst.2⟩, iv_MD_isFirst⟩
theorem iv_MD_kept : Cond.instanceMethod M_MD_kept.y ∈ TT ∧ Cond.selects M_MD_kept.y.cls M_MD_kept.y M_MD_kept.y ∈ TT := ⟨TT_t (List.mem_of_getElem? (i := 925) (by decide +kernel)) rfl, TT_t (List.mem_of_getElem? (i := 926) (by decide +kernel)) rfl⟩
theorem pd_MD_kept : (parseMethodDescriptor M_MD_kept.y.desc).map (fun d => d.parameters.length) = some 1 ∧ M_MD_kept.maxL ≤ 40 := by decide +kernel
theorem lk_12_57 : LkV 12 57 M_MD_kept 1 := ⟨⟨ok_MD_kept, Or.inr (TT_t (List.mem_of_getElem? (i := 924) (by decide +kernel)) rfl), pd_MD_kept.1, pd_MD_kept.2⟩, iv_MD_kept.1, iv_MD_kept.2⟩
theorem iv_MD_letter : Cond.instanceMethod M_MD_letter.y ∈ TT ∧ Cond.selects M_MD_letter.y.cls M_MD_letter.y M_MD_letter.y ∈ TT := ⟨TT_t (List.mem_of_getElem? (i := 929) (by decide +kernel)) rfl, TT_t (List.mem_of_getElem? (i := 930) (by decide +kernel)) rfl⟩
theorem pd_MD_letter : (parseMethodDescriptor M_MD_letter.y.desc).map (fun d => d.parameters.length) = some 1 ∧ M_MD_letter.maxL ≤ 40 := by decide +kernel
theorem lk_12_61 : LkV 12 61 M_MD_letter 1 := ⟨⟨ok_MD_letter, Or.inr (TT_t (List.mem_of_getElem? (i := 928) (by decide +kernel)) rfl), pd_MD_letter.1, pd_MD_letter.2⟩, iv_MD_letter.1, iv_MD_letter.2⟩
theorem iv_MD_contract : Cond.instanceMethod M_MD_contract.y ∈ TT ∧ Cond.selects M_MD_contract.y.cls M_MD_contract.y M_MD_contract.y ∈ TT := ⟨TT_t (List.mem_of_getElem? (i := 933) (by decide +kernel)) rfl, TT_t (List.mem_of_getElem? (i := 934) (by decide +kernel)) rfl⟩
theorem pd_MD_contract : (parseMethodDescriptor M_MD_contract.y.desc).map (fun d => d.parameters.length) = some 2 ∧ M_MD_contract.maxL ≤ 40 := by decide +kernel
theorem lk_12_66 : LkV 12 66 M_MD_contract 2 := ⟨⟨ok_MD_contract, Or.inr (TT_t (List.mem_of_getElem? (i := 932) (by decide +kernel)) rfl), pd_MD_contract.1, pd_MD_contract.2⟩, iv_MD_contract.1, iv_MD_contract.2⟩
theorem iv_MD_name : Cond.instanceMethod M_MD_name.y ∈ TT ∧ Cond.selects M_MD_name.y.cls M_MD_name.y M_MD_name.y ∈ TT := ⟨TT_t (List.mem_of_getElem? (i := 937) (by decide +kernel)) rfl, TT_t (List.mem_of_getElem? (i := 938) (by decide +kernel)) rfl⟩
theorem pd_MD_name : (parseMethodDescriptor M_MD_name.y.desc).map (fun d => d.parameters.length) = some 4 ∧ M_MD_name.maxL ≤ 40 := by decide +kernel
theorem lk_12_71 : LkV 12 71 M_MD_name 4 := ⟨⟨ok_MD_name, Or.inr (TT_t (List.mem_of_getElem? (i := 936) (by decide +kernel)) rfl), pd_MD_name.1, pd_MD_name.2⟩, iv_MD_name.1, iv_MD_name.2⟩
theorem iv_MD_writes : Cond.instanceMethod M_MD_writes.y ∈ TT ∧ Cond.selects M_MD_writes.y.cls M_MD_writes.y M_MD_writes.y ∈ TT := ⟨TT_t (List.mem_of_getElem? (i := 942) (by decide +kernel)) rfl, TT_of (List.mem_append_left _ (by decide +kernel)) rfl⟩
theorem pd_MD_writes : (parseMethodDescriptor M_MD_writes.y.desc).map (fun d => d.parameters.length) = some 1 ∧ M_MD_writes.maxL ≤ 40 := by decide +kernel
theorem lk_11_208 : LkV 11 208 M_MD_writes 1 := ⟨⟨ok_MD_writes, Or.inr (TT_t (List.mem_of_getElem? (i := 940) (by decide +kernel)) rfl), pd_MD_writes.1, pd_MD_writes.2⟩, iv_MD_writes.1, iv_MD_writes.2⟩
theorem iv_MD_stands : Cond.instanceMethod M_MD_stands.y ∈ TT ∧ Cond.selects M_MD_stands.y.cls M_MD_stands.y M_MD_stands.y ∈ TT := ⟨TT_t (List.mem_of_getElem? (i := 946) (by decide +kernel)) rfl, TT_of (List.mem_append_left _ (by decide +kernel)) rfl⟩
theorem pd_MD_stands : (parseMethodDescriptor M_MD_stands.y.desc).map (fun d => d.parameters.length) = some 3 ∧ M_MD_stands.maxL ≤ 40 := by decide +kernel
theorem lk_11_205 : LkV 11 205 M_MD_stands 3 := ⟨⟨ok_MD_stands, Or.inr (TT_t (List.mem_of_getElem? (i := 944) (by decide +kernel)) rfl), pd_MD_stands.1, pd_MD_stands.2⟩, iv_MD_stands.1, iv_MD_stands.2⟩
theorem iv_MD_erase : Cond.instanceMethod M_MD_erase.y ∈ TT ∧ Cond.selects M_MD_erase.y.cls M_MD_erase.y M_MD_erase.y ∈ TT := ⟨TT_t (List.mem_of_getElem? (i := 949) (by decide +kernel)) rfl, TT_t (List.mem_of_getElem? (i := 950) (by decide +kernel)) rfl⟩
theorem pd_MD_erase : (parseMethodDescriptor M_MD_erase.y.desc).map (fun d => d.parameters.length) = some 1 ∧ M_MD_erase.maxL ≤ 40 := by decide +kernel
theorem lk_12_76 : LkV 12 76 M_MD_erase 1 := ⟨⟨ok_MD_erase, Or.inr (TT_t (List.mem_of_getElem? (i := 948) (by decide +kernel)) rfl), pd_MD_erase.1, pd_MD_erase.2⟩, iv_MD_erase.1, iv_MD_erase.2⟩
theorem iv_MD_isName : Cond.instanceMethod M_MD_isName.y ∈ TT ∧ Cond.selects M_MD_isName.y.cls M_MD_isName.y M_MD_isName.y ∈ TT := ⟨TT_t (List.mem_of_getElem? (i := 954) (by decide +kernel)) rfl, TT_of (List.mem_append_left _ (by decide +kernel)) rfl⟩
theorem pd_MD_isName : (parseMethodDescriptor M_MD_isName.y.desc).map (fun d => d.parameters.length) = some 1 ∧ M_MD_isName.maxL ≤ 40 := by decide +kernel
theorem lk_11_211 : LkV 11 211 M_MD_isName 1 := ⟨⟨ok_MD_isName, Or.inr (TT_t (List.mem_of_getElem? (i := 952) (by decide +kernel)) rfl), pd_MD_isName.1, pd_MD_isName.2⟩, iv_MD_isName.1, iv_MD_isName.2⟩
theorem iv_MD_cell : Cond.instanceMethod M_MD_cell.y ∈ TT ∧ Cond.selects M_MD_cell.y.cls M_MD_cell.y M_MD_cell.y ∈ TT := ⟨TT_t (List.mem_of_getElem? (i := 957) (by decide +kernel)) rfl, TT_t (List.mem_of_getElem? (i := 958) (by decide +kernel)) rfl⟩
theorem pd_MD_cell : (parseMethodDescriptor M_MD_cell.y.desc).map (fun d => d.parameters.length) = some 2 ∧ M_MD_cell.maxL ≤ 40 := by decide +kernel
theorem lk_12_80 : LkV 12 80 M_MD_cell 2 := ⟨⟨ok_MD_cell, Or.inr (TT_t (List.mem_of_getElem? (i := 956) (by decide +kernel)) rfl), pd_MD_cell.1, pd_MD_cell.2⟩, iv_MD_cell.1, iv_MD_cell.2⟩
theorem iv_MD_set : Cond.instanceMethod M_MD_set.y ∈ TT ∧ Cond.selects M_MD_set.y.cls M_MD_set.y M_MD_set.y ∈ TT := ⟨TT_t (List.mem_of_getElem? (i := 961) (by decide +kernel)) rfl, TT_t (List.mem_of_getElem? (i := 962) (by decide +kernel)) rfl⟩
theorem pd_MD_set : (parseMethodDescriptor M_MD_set.y.desc).map (fun d => d.parameters.length) = some 0 ∧ M_MD_set.maxL ≤ 40 := by decide +kernel
theorem lk_12_84 : LkV 12 84 M_MD_set 0 := ⟨⟨ok_MD_set, Or.inr (TT_t (List.mem_of_getElem? (i := 960) (by decide +kernel)) rfl), pd_MD_set.1, pd_MD_set.2⟩, iv_MD_set.1, iv_MD_set.2⟩
theorem iv_MD_boxes : Cond.instanceMethod M_MD_boxes.y ∈ TT ∧ Cond.selects M_MD_boxes.y.cls M_MD_boxes.y M_MD_boxes.y ∈ TT := ⟨TT_t (List.mem_of_getElem? (i := 966) (by decide +kernel)) rfl, TT_of (List.mem_append_left _ (by decide +kernel)) rfl⟩
theorem pd_MD_boxes : (parseMethodDescriptor M_MD_boxes.y.desc).map (fun d => d.parameters.length) = some 0 ∧ M_MD_boxes.maxL ≤ 40 := by decide +kernel
theorem lk_11_222 : LkV 11 222 M_MD_boxes 0 := ⟨⟨ok_MD_boxes, Or.inr (TT_t (List.mem_of_getElem? (i := 964) (by decide +kernel)) rfl), pd_MD_boxes.1, pd_MD_boxes.2⟩, iv_MD_boxes.1, iv_MD_boxes.2⟩
theorem iv_MD_isFree : Cond.instanceMethod M_MD_isFree.y ∈ TT ∧ Cond.selects M_MD_isFree.y.cls M_MD_isFree.y M_MD_isFree.y ∈ TT := ⟨TT_t (List.mem_of_getElem? (i := 970) (by decide +kernel)) rfl, TT_of (List.mem_append_left _ (by decide +kernel)) rfl⟩
theorem pd_MD_isFree : (parseMethodDescriptor M_MD_isFree.y.desc).map (fun d => d.parameters.length) = some 1 ∧ M_MD_isFree.maxL ≤ 40 := by decide +kernel
theorem lk_11_219 : LkV 11 219 M_MD_isFree 1 := ⟨⟨ok_MD_isFree, Or.inr (TT_t (List.mem_of_getElem? (i := 968) (by decide +kernel)) rfl), pd_MD_isFree.1, pd_MD_isFree.2⟩, iv_MD_isFree.1, iv_MD_isFree.2⟩
theorem iv_MD_isThrough : Cond.instanceMethod M_MD_isThrough.y ∈ TT ∧ Cond.selects M_MD_isThrough.y.cls M_MD_isThrough.y M_MD_isThrough.y ∈ TT := ⟨TT_t (List.mem_of_getElem? (i := 974) (by decide +kernel)) rfl, TT_of (List.mem_append_left _ (by decide +kernel)) rfl⟩
theorem pd_MD_isThrough : (parseMethodDescriptor M_MD_isThrough.y.desc).map (fun d => d.parameters.length) = some 3 ∧ M_MD_isThrough.maxL ≤ 40 := by decide +kernel
theorem lk_11_216 : LkV 11 216 M_MD_isThrough 3 := ⟨⟨ok_MD_isThrough, Or.inr (TT_t (List.mem_of_getElem? (i := 972) (by decide +kernel)) rfl), pd_MD_isThrough.1, pd_MD_isThrough.2⟩, iv_MD_isThrough.1, iv_MD_isThrough.2⟩
theorem iv_MD_mayCome : Cond.instanceMethod M_MD_mayCome.y ∈ TT ∧ Cond.selects M_MD_mayCome.y.cls M_MD_mayCome.y M_MD_mayCome.y ∈ TT := ⟨TT_t (List.mem_of_getElem? (i := 979) (by decide +kernel)) rfl, TT_of (List.mem_append_left _ (by decide +kernel)) rfl⟩
theorem pd_MD_mayCome : (parseMethodDescriptor M_MD_mayCome.y.desc).map (fun d => d.parameters.length) = some 1 ∧ M_MD_mayCome.maxL ≤ 40 := by decide +kernel
theorem lk_11_225 : LkV 11 225 M_MD_mayCome 1 := ⟨⟨ok_MD_mayCome, Or.inr (TT_t (List.mem_of_getElem? (i := 977) (by decide +kernel)) rfl), pd_MD_mayCome.1, pd_MD_mayCome.2⟩, iv_MD_mayCome.1, iv_MD_mayCome.2⟩
theorem iv_MD_spot : Cond.instanceMethod M_MD_spot.y ∈ TT ∧ Cond.selects M_MD_spot.y.cls M_MD_spot.y M_MD_spot.y ∈ TT := ⟨TT_t (List.mem_of_getElem? (i := 982) (by decide +kernel)) rfl, TT_t (List.mem_of_getElem? (i := 983) (by decide +kernel)) rfl⟩
theorem pd_MD_spot : (parseMethodDescriptor M_MD_spot.y.desc).map (fun d => d.parameters.length) = some 1 ∧ M_MD_spot.maxL ≤ 40 := by decide +kernel
theorem lk_12_88 : LkV 12 88 M_MD_spot 1 := ⟨⟨ok_MD_spot, Or.inr (TT_t (List.mem_of_getElem? (i := 981) (by decide +kernel)) rfl), pd_MD_spot.1, pd_MD_spot.2⟩, iv_MD_spot.1, iv_MD_spot.2⟩
theorem iv_MD_touch : Cond.instanceMethod M_MD_touch.y ∈ TT ∧ Cond.selects M_MD_touch.y.cls M_MD_touch.y M_MD_touch.y ∈ TT := ⟨TT_t (List.mem_of_getElem? (i := 986) (by decide +kernel)) rfl, TT_t (List.mem_of_getElem? (i := 987) (by decide +kernel)) rfl⟩
theorem pd_MD_touch : (parseMethodDescriptor M_MD_touch.y.desc).map (fun d => d.parameters.length) = some 3 ∧ M_MD_touch.maxL ≤ 40 := by decide +kernel
theorem lk_12_92 : LkV 12 92 M_MD_touch 3 := ⟨⟨ok_MD_touch, Or.inr (TT_t (List.mem_of_getElem? (i := 985) (by decide +kernel)) rfl), pd_MD_touch.1, pd_MD_touch.2⟩, iv_MD_touch.1, iv_MD_touch.2⟩
theorem iv_MD_apart_ : Cond.instanceMethod M_MD_apart_.y ∈ TT ∧ Cond.selects M_MD_apart_.y.cls M_MD_apart_.y M_MD_apart_.y ∈ TT := ⟨TT_t (List.mem_of_getElem? (i := 990) (by decide +kernel)) rfl, TT_t (List.mem_of_getElem? (i := 991) (by decide +kernel)) rfl⟩
theorem pd_MD_apart_ : (parseMethodDescriptor M_MD_apart_.y.desc).map (fun d => d.parameters.length) = some 3 ∧ M_MD_apart_.maxL ≤ 40 := by decide +kernel
theorem lk_12_96 : LkV 12 96 M_MD_apart_ 3 := ⟨⟨ok_MD_apart_, Or.inr (TT_t (List.mem_of_getElem? (i := 989) (by decide +kernel)) rfl), pd_MD_apart_.1, pd_MD_apart_.2⟩, iv_MD_apart_.1, iv_MD_apart_.2⟩
theorem iv_MD_lay : Cond.instanceMethod M_MD_lay.y ∈ TT ∧ Cond.selects M_MD_lay.y.cls M_MD_lay.y M_MD_lay.y ∈ TT := ⟨TT_t (List.mem_of_getElem? (i := 994) (by decide +kernel)) rfl, TT_t (List.mem_of_getElem? (i := 995) (by decide +kernel)) rfl⟩
theorem pd_MD_lay : (parseMethodDescriptor M_MD_lay.y.desc).map (fun d => d.parameters.length) = some 1 ∧ M_MD_lay.maxL ≤ 40 := by decide +kernel
theorem lk_12_100 : LkV 12 100 M_MD_lay 1 := ⟨⟨ok_MD_lay, Or.inr (TT_t (List.mem_of_getElem? (i := 993) (by decide +kernel)) rfl), pd_MD_lay.1, pd_MD_lay.2⟩, iv_MD_lay.1, iv_MD_lay.2⟩
theorem iv_MD_mayHave : Cond.instanceMethod M_MD_mayHave.y ∈ TT ∧ Cond.selects M_MD_mayHave.y.cls M_MD_mayHave.y M_MD_mayHave.y ∈ TT := ⟨TT_t (List.mem_of_getElem? (i := 999) (by decide +kernel)) rfl, TT_of (List.mem_append_left _ (by decide +kernel)) rfl⟩
theorem pd_MD_mayHave : (parseMethodDescriptor M_MD_mayHave.y.desc).map (fun d => d.parameters.length) = some 1 ∧ M_MD_mayHave.maxL ≤ 40 := by decide +kernel
theorem lk_11_228 : LkV 11 228 M_MD_mayHave 1 := ⟨⟨ok_MD_mayHave, Or.inr (TT_t (List.mem_of_getElem? (i := 997) (by decide +kernel)) rfl), pd_MD_mayHave.1, pd_MD_mayHave.2⟩, iv_MD_mayHave.1, iv_MD_mayHave.2⟩
theorem iv_MD_texture : Cond.instanceMethod M_MD_texture.y ∈ TT ∧ Cond.selects M_MD_texture.y.cls M_MD_texture.y M_MD_texture.y ∈ TT := ⟨TT_t (List.mem_of_getElem? (i := 1002) (by decide +kernel)) rfl, TT_t (List.mem_of_getElem? (i := 1003) (by decide +kernel)) rfl⟩
theorem pd_MD_texture : (parseMethodDescriptor M_MD_texture.y.desc).map (fun d => d.parameters.length) = some 1 ∧ M_MD_texture.maxL ≤ 40 := by decide +kernel
theorem lk_12_104 : LkV 12 104 M_MD_texture 1 := ⟨⟨ok_MD_texture, Or.inr (TT_t (List.mem_of_getElem? (i := 1001) (by decide +kernel)) rfl), pd_MD_texture.1, pd_MD_texture.2⟩, iv_MD_texture.1, iv_MD_texture.2⟩
end
section
/-! ints and longs as integers -/
theorem t_lt (a b : Int32) : a < b ↔ a.toInt < b.toInt := Int32.lt_iff_toInt_lt
theorem t_le (a b : Int32) : a ≤ b ↔ a.toInt ≤ b.toInt := Int32.le_iff_toInt_le
theorem t_eq (a b : Int32) : a = b ↔ a.toInt = b.toInt := Int32.toInt_inj.symm
theorem j_lt (a b : Int64) : a < b ↔ a.toInt < b.toInt := Int64.lt_iff_toInt_lt
theorem j_le (a b : Int64) : a ≤ b ↔ a.toInt ≤ b.toInt := Int64.le_iff_toInt_le
theorem j_eq (a b : Int64) : a = b ↔ a.toInt = b.toInt := Int64.toInt_inj.symm
theorem bm32 {z : Int} (h1 : -2147483648 ≤ z) (h2 : z ≤ 2147483647) : z.bmod (2 ^ 32) = z := by
  rw [Int.bmod_def]
  omega
theorem bm64 {z : Int} (h1 : -9223372036854775808 ≤ z) (h2 : z ≤ 9223372036854775807) : z.bmod (2 ^ 64) = z := by
  rw [Int.bmod_def]
  omega
theorem t_add {a b : Int32} (h1 : -2147483648 ≤ a.toInt + b.toInt) (h2 : a.toInt + b.toInt ≤ 2147483647) : (a + b).toInt = a.toInt + b.toInt := by
  rw [Int32.toInt_add]; exact bm32 h1 h2
theorem t_sub {a b : Int32} (h1 : -2147483648 ≤ a.toInt - b.toInt) (h2 : a.toInt - b.toInt ≤ 2147483647) : (a - b).toInt = a.toInt - b.toInt := by
  rw [Int32.toInt_sub]; exact bm32 h1 h2
theorem t_mul {a b : Int32} (h1 : -2147483648 ≤ a.toInt * b.toInt) (h2 : a.toInt * b.toInt ≤ 2147483647) : (a * b).toInt = a.toInt * b.toInt := by
  rw [Int32.toInt_mul]; exact bm32 h1 h2
theorem j_add {a b : Int64} (h1 : -9223372036854775808 ≤ a.toInt + b.toInt) (h2 : a.toInt + b.toInt ≤ 9223372036854775807) : (a + b).toInt = a.toInt + b.toInt := by
  rw [Int64.toInt_add]; exact bm64 h1 h2
theorem j_sub {a b : Int64} (h1 : -9223372036854775808 ≤ a.toInt - b.toInt) (h2 : a.toInt - b.toInt ≤ 9223372036854775807) : (a - b).toInt = a.toInt - b.toInt := by
  rw [Int64.toInt_sub]; exact bm64 h1 h2
theorem j_mul {a b : Int64} (h1 : -9223372036854775808 ≤ a.toInt * b.toInt) (h2 : a.toInt * b.toInt ≤ 9223372036854775807) : (a * b).toInt = a.toInt * b.toInt := by
  rw [Int64.toInt_mul]; exact bm64 h1 h2
theorem j_neg {a : Int64} (h1 : -9223372036854775808 < a.toInt) : (-a).toInt = -a.toInt := by
  have h2 := Int64.toInt_le a
  have h3 : Int64.maxValue.toInt = 9223372036854775807 := by decide
  rw [Int64.toInt_neg]
  exact bm64 (by omega) (by omega)
theorem j_of (a : Int32) : a.toInt64.toInt = a.toInt := Int32.toInt_toInt64 a
/-- products of bounded numbers -/
theorem mul_bd {a b A B : Int} (h1 : -A ≤ a) (h2 : a ≤ A) (h3 : -B ≤ b) (h4 : b ≤ B) (hA : 0 ≤ A) (hB : 0 ≤ B) : -(A * B) ≤ a * b ∧ a * b ≤ A * B := by
  have k : a.natAbs * b.natAbs ≤ A.natAbs * B.natAbs := Nat.mul_le_mul (by omega) (by omega)
  have e1 : (a * b).natAbs = a.natAbs * b.natAbs := Int.natAbs_mul a b
  have e2 : (A * B).natAbs = A.natAbs * B.natAbs := Int.natAbs_mul A B
  have e3 : 0 ≤ A * B := Int.mul_nonneg hA hB
  rw [← e1, ← e2] at k
  omega
theorem sq_nn (a : Int) : 0 ≤ a * a := by
  rcases Int.le_total 0 a with h | h
  · exact Int.mul_nonneg h h
  · exact Int.mul_nonneg_of_nonpos_of_nonpos h h
/-- numbers that are counted down to: from the end of a loop to its beginning -/
theorem upto {P : Nat → Prop} (n : Nat) (he : P n) (hs : ∀ i, i < n → P (i + 1) → P i) : ∀ i, i ≤ n → P i := by
  intro i hi
  have key : ∀ m i, i + m = n → P i := by
    intro m
    induction m with
    | zero => intro i h; rw [Nat.add_zero] at h; rw [h]; exact he
    | succ m ih => intro i h; exact hs i (by omega) (ih (i + 1) (by omega))
  exact key (n - i) i (by omega)
theorem downto {P : Nat → Prop} (h0 : P 0) (hs : ∀ i, P i → P (i + 1)) : ∀ i, P i := by
  intro i
  induction i with
  | zero => exact h0
  | succ i ih => exact hs i ih
theorem nI_t {n : Nat} (h : n < 2147483648) : (nI n).toInt = (n : Int) := nI_toInt h
theorem t_0 : (0 : Int32).toInt = 0 := by decide
theorem t_1 : (1 : Int32).toInt = 1 := by decide
/-- an int that is not negative, by its number -/
theorem t_nat {x : Int32} {n : Nat} (h0 : 0 ≤ x.toInt) (h1 : x.toInt ≤ n) (hn : n < 2147483648) : ∃ j : Nat, j ≤ n ∧ x = nI j := by
  refine ⟨x.toInt.toNat, by omega, ?_⟩
  rw [t_eq, nI_t (by omega)]
  omega
end
section
/-! lines as integers -/
def sd (x1 y1 x2 y2 x y : Int) : Int := (x2 - x1) * (y - y1) - (y2 - y1) * (x - x1)
def al (x1 y1 x2 y2 x y : Int) : Int := (x2 - x1) * (x - x1) + (y2 - y1) * (y - y1)
def dd (ax ay bx by' : Int) : Int := (ax - bx) * (ax - bx) + (ay - by') * (ay - by')
/-- how far a place misses a line: its sign is that of the distance less t -/
def cmS (x1 y1 x2 y2 x y t : Int) : Int := if al x1 y1 x2 y2 x y ≤ 0 then dd x y x1 y1 - t * t else if al x1 y1 x2 y2 x2 y2 ≤ al x1 y1 x2 y2 x y then dd x y x2 y2 - t * t else sd x1 y1 x2 y2 x y * sd x1 y1 x2 y2 x y - t * t * al x1 y1 x2 y2 x2 y2
def opp (a b : Int) : Prop := (a < 0 ∧ 0 < b) ∨ (0 < a ∧ b < 0)
abbrev Ln : Type := Int × Int × Int × Int
def cutZ (l m : Ln) : Prop := opp (sd l.1 l.2.1 l.2.2.1 l.2.2.2 m.1 m.2.1) (sd l.1 l.2.1 l.2.2.1 l.2.2.2 m.2.2.1 m.2.2.2) ∧ opp (sd m.1 m.2.1 m.2.2.1 m.2.2.2 l.1 l.2.1) (sd m.1 m.2.1 m.2.2.1 m.2.2.2 l.2.2.1 l.2.2.2)
def cmL (l : Ln) (x y t : Int) : Int := cmS l.1 l.2.1 l.2.2.1 l.2.2.2 x y t
def nearZ (l m : Ln) (g : Int) : Prop := 0 < g ∧ (cutZ l m ∨ cmL l m.1 m.2.1 g < 0 ∨ cmL l m.2.2.1 m.2.2.2 g < 0 ∨ cmL m l.1 l.2.1 g < 0 ∨ cmL m l.2.2.1 l.2.2.2 g < 0)
def endZ (l : Ln) (x y : Int) : Prop := (l.1 = x ∧ l.2.1 = y) ∨ (l.2.2.1 = x ∧ l.2.2.2 = y)
def shareZ (l m : Ln) : Prop := endZ l m.1 m.2.1 ∨ endZ l m.2.2.1 m.2.2.2
def closeZ (l m : Ln) (g : Int) : Prop := ¬ shareZ l m ∧ nearZ l m g
theorem cutZ_comm (l m : Ln) : cutZ l m ↔ cutZ m l := And.comm
theorem nearZ_comm (l m : Ln) (g : Int) : nearZ l m g ↔ nearZ m l g := by
  unfold nearZ
  rw [cutZ_comm l m]
  constructor
  · rintro ⟨h, h1 | h1 | h1 | h1 | h1⟩
    · exact ⟨h, Or.inl h1⟩
    · exact ⟨h, Or.inr (Or.inr (Or.inr (Or.inl h1)))⟩
    · exact ⟨h, Or.inr (Or.inr (Or.inr (Or.inr h1)))⟩
    · exact ⟨h, Or.inr (Or.inl h1)⟩
    · exact ⟨h, Or.inr (Or.inr (Or.inl h1))⟩
  · rintro ⟨h, h1 | h1 | h1 | h1 | h1⟩
    · exact ⟨h, Or.inl h1⟩
    · exact ⟨h, Or.inr (Or.inr (Or.inr (Or.inl h1)))⟩
    · exact ⟨h, Or.inr (Or.inr (Or.inr (Or.inr h1)))⟩
    · exact ⟨h, Or.inr (Or.inl h1)⟩
    · exact ⟨h, Or.inr (Or.inr (Or.inl h1))⟩
theorem shareZ_comm (l m : Ln) : shareZ l m ↔ shareZ m l := by
  unfold shareZ endZ
  constructor <;> rintro ((h | h) | (h | h)) <;> simp [h]
theorem closeZ_comm (l m : Ln) (g : Int) : closeZ l m g ↔ closeZ m l g := by
  unfold closeZ
  rw [shareZ_comm, nearZ_comm]
/-- both on one straight line, with more than a place in common (the class's way) -/
def overZ (l m : Ln) : Prop := sd l.1 l.2.1 l.2.2.1 l.2.2.2 m.1 m.2.1 = 0 ∧ sd l.1 l.2.1 l.2.2.1 l.2.2.2 m.2.2.1 m.2.2.2 = 0 ∧ max 0 (min (al l.1 l.2.1 l.2.2.1 l.2.2.2 m.1 m.2.1) (al l.1 l.2.1 l.2.2.1 l.2.2.2 m.2.2.1 m.2.2.2)) < min (al l.1 l.2.1 l.2.2.1 l.2.2.2 l.2.2.1 l.2.2.2) (max (al l.1 l.2.1 l.2.2.1 l.2.2.2 m.1 m.2.1) (al l.1 l.2.1 l.2.2.1 l.2.2.2 m.2.2.1 m.2.2.2))
def crossZ (l m : Ln) : Prop := cutZ l m ∨ overZ l m
/-- within the sheet -/
def co (x : Int) : Prop := 0 ≤ x ∧ x ≤ 400
def lnB (l : Ln) : Prop := co l.1 ∧ co l.2.1 ∧ co l.2.2.1 ∧ co l.2.2.2
theorem co_mul {a b c d : Int} (ha : co a) (hb : co b) (hc : co c) (hd : co d) : -160000 ≤ (a - b) * (c - d) ∧ (a - b) * (c - d) ≤ 160000 := by
  have := mul_bd (a := a - b) (b := c - d) (A := 400) (B := 400) (by unfold co at *; omega) (by unfold co at *; omega) (by unfold co at *; omega) (by unfold co at *; omega) (by omega) (by omega)
  omega
theorem co_sub {x y : Int32} (hx : co x.toInt) (hy : co y.toInt) : (x - y).toInt = x.toInt - y.toInt := t_sub (by unfold co at *; omega) (by unfold co at *; omega)
theorem co_prod {a b c d : Int32} (ha : co a.toInt) (hb : co b.toInt) (hc : co c.toInt) (hd : co d.toInt) : ((a - b) * (c - d)).toInt = (a.toInt - b.toInt) * (c.toInt - d.toInt) := by
  have h := co_mul ha hb hc hd
  rw [t_mul, co_sub ha hb, co_sub hc hd]
  · rw [co_sub ha hb, co_sub hc hd]; omega
  · rw [co_sub ha hb, co_sub hc hd]; omega
theorem sd_ok {x1 y1 x2 y2 x y : Int32} (h1 : co x1.toInt) (h2 : co y1.toInt) (h3 : co x2.toInt) (h4 : co y2.toInt) (h5 : co x.toInt) (h6 : co y.toInt) : ((x2 - x1) * (y - y1) - (y2 - y1) * (x - x1)).toInt = sd x1.toInt y1.toInt x2.toInt y2.toInt x.toInt y.toInt := by
  have a1 := co_mul h3 h1 h6 h2
  have a2 := co_mul h4 h2 h5 h1
  have e1 := co_prod h3 h1 h6 h2
  have e2 := co_prod h4 h2 h5 h1
  rw [t_sub (by rw [e1, e2]; omega) (by rw [e1, e2]; omega), e1, e2]
  rfl
theorem al_ok {x1 y1 x2 y2 x y : Int32} (h1 : co x1.toInt) (h2 : co y1.toInt) (h3 : co x2.toInt) (h4 : co y2.toInt) (h5 : co x.toInt) (h6 : co y.toInt) : ((x2 - x1) * (x - x1) + (y2 - y1) * (y - y1)).toInt = al x1.toInt y1.toInt x2.toInt y2.toInt x.toInt y.toInt := by
  have a1 := co_mul h3 h1 h5 h1
  have a2 := co_mul h4 h2 h6 h2
  have e1 := co_prod h3 h1 h5 h1
  have e2 := co_prod h4 h2 h6 h2
  rw [t_add (by rw [e1, e2]; omega) (by rw [e1, e2]; omega), e1, e2]
  rfl
theorem dd_ok {ax ay bx by' : Int32} (h1 : co ax.toInt) (h2 : co ay.toInt) (h3 : co bx.toInt) (h4 : co by'.toInt) : ((ax - bx) * (ax - bx) + (ay - by') * (ay - by')).toInt = dd ax.toInt ay.toInt bx.toInt by'.toInt := by
  have a1 := co_mul h1 h3 h1 h3
  have a2 := co_mul h2 h4 h2 h4
  have e1 := co_prod h1 h3 h1 h3
  have e2 := co_prod h2 h4 h2 h4
  rw [t_add (by rw [e1, e2]; omega) (by rw [e1, e2]; omega), e1, e2]
  rfl
theorem sd_bd {x1 y1 x2 y2 x y : Int} (h1 : co x1) (h2 : co y1) (h3 : co x2) (h4 : co y2) (h5 : co x) (h6 : co y) : -320000 ≤ sd x1 y1 x2 y2 x y ∧ sd x1 y1 x2 y2 x y ≤ 320000 := by
  have a1 := co_mul h3 h1 h6 h2
  have a2 := co_mul h4 h2 h5 h1
  unfold sd
  omega
theorem al_bd {x1 y1 x2 y2 x y : Int} (h1 : co x1) (h2 : co y1) (h3 : co x2) (h4 : co y2) (h5 : co x) (h6 : co y) : -320000 ≤ al x1 y1 x2 y2 x y ∧ al x1 y1 x2 y2 x y ≤ 320000 := by
  have a1 := co_mul h3 h1 h5 h1
  have a2 := co_mul h4 h2 h6 h2
  unfold al
  omega
theorem dd_bd {ax ay bx by' : Int} (h1 : co ax) (h2 : co ay) (h3 : co bx) (h4 : co by') : 0 ≤ dd ax ay bx by' ∧ dd ax ay bx by' ≤ 320000 := by
  have a1 := co_mul h1 h3 h1 h3
  have a2 := co_mul h2 h4 h2 h4
  have b1 := sq_nn (ax - bx)
  have b2 := sq_nn (ay - by')
  unfold dd
  omega
end
section
/-! contracts: ranges, lines -/
set_option maxRecDepth 4000 in
set_option maxHeartbeats 400000 in
theorem c_inRange {d : Nat} {σ : Mem} {Post : Option AV → Mem → Prop} {v m : Int32} (h1 : 0 ≤ v.toInt → v.toInt ≤ m.toInt → Post (some (vI 1)) σ) (h0 : ¬ (0 ≤ v.toInt ∧ v.toInt ≤ m.toInt) → Post (some (vI 0)) σ) : MM d M_TM_inRange [vI v, vI m] σ Post := by
  refine MM.of ok_TM_inRange rfl ?_
  show WS _ M_TM_inRange 0 [vI v, vI m] [] σ _
  refine WS.run (C := []) (pc' := 1) (L' := [vI v, vI m]) (S' := [vI v]) (σ' := σ) 1 rfl trivial ?_
  refine WS.br (P := v < 0) (a := 13) (b := 4) (S' := []) rfl (fun c1 => ?_) (fun c1 => ?_)
  · refine WS.run (C := []) (pc' := 14) (L' := [vI v, vI m]) (S' := [vI (0 : Int32)]) (σ' := σ) 1 rfl trivial ?_
    exact WS.ret rfl rfl (by decide) rfl (by simp only [t_lt, t_le, t_eq, t_0] at *; exact h0 (by omega))
  · refine WS.run (C := []) (pc' := 6) (L' := [vI v, vI m]) (S' := [vI m, vI v]) (σ' := σ) 2 rfl trivial ?_
    refine WS.br (P := m < v) (a := 13) (b := 9) (S' := []) rfl (fun c2 => ?_) (fun c2 => ?_)
    · refine WS.run (C := []) (pc' := 14) (L' := [vI v, vI m]) (S' := [vI (0 : Int32)]) (σ' := σ) 1 rfl trivial ?_
      exact WS.ret rfl rfl (by decide) rfl (by simp only [t_lt, t_le, t_eq, t_0] at *; exact h0 (by omega))
    · refine WS.run (C := []) (pc' := 14) (L' := [vI v, vI m]) (S' := [vI (1 : Int32)]) (σ' := σ) 2 rfl trivial ?_
      exact WS.ret rfl rfl (by decide) rfl (by simp only [t_lt, t_le, t_eq, t_0] at *; exact h1 (by omega) (by omega))
theorem t_400 : (400 : Int32).toInt = 400 := by decide
set_option maxRecDepth 4000 in
set_option maxHeartbeats 400000 in
theorem c_isPlace {d : Nat} {σ : Mem} {Post : Option AV → Mem → Prop} {x y : Int32} (h1 : co x.toInt → co y.toInt → Post (some (vI 1)) σ) (h0 : ¬ (co x.toInt ∧ co y.toInt) → Post (some (vI 0)) σ) : MM (d + 1) M_TM_isPlace [vI x, vI y] σ Post := by
  refine MM.of ok_TM_isPlace rfl ?_
  show WS _ M_TM_isPlace 0 [vI x, vI y] [] σ _
  refine WS.run (C := []) (pc' := 4) (L' := [vI x, vI y]) (S' := [vI (400 : Int32), vI x]) (σ' := σ) 2 rfl trivial ?_
  refine WS.callS M_TM_inRange (as := [vI x, vI (400 : Int32)]) (rest := []) rfl lk_10_71 rfl rfl (Nat.le_of_ble_eq_true rfl) ?_
  refine c_inRange (fun q1a q1b => ?_) (fun q1 => ?_)
  · show WS _ M_TM_isPlace 7 [vI x, vI y] [vI (1 : Int32)] σ _
    refine WS.br (P := (1 : Int32) = 0) (a := 24) (b := 10) (S' := []) rfl (fun cc => absurd cc (by decide)) (fun _ => ?_)
    refine WS.run (C := []) (pc' := 14) (L' := [vI x, vI y]) (S' := [vI (400 : Int32), vI y]) (σ' := σ) 2 rfl trivial ?_
    refine WS.callS M_TM_inRange (as := [vI y, vI (400 : Int32)]) (rest := []) rfl lk_10_71 rfl rfl (Nat.le_of_ble_eq_true rfl) ?_
    refine c_inRange (fun q2a q2b => ?_) (fun q2 => ?_)
    · show WS _ M_TM_isPlace 17 [vI x, vI y] [vI (1 : Int32)] σ _
      refine WS.br (P := (1 : Int32) = 0) (a := 24) (b := 20) (S' := []) rfl (fun cc => absurd cc (by decide)) (fun _ => ?_)
      refine WS.run (C := []) (pc' := 25) (L' := [vI x, vI y]) (S' := [vI (1 : Int32)]) (σ' := σ) 2 rfl trivial ?_
      exact WS.ret rfl rfl (by decide) rfl (by simp only [t_400] at *; exact h1 ⟨by assumption, by assumption⟩ ⟨by assumption, by assumption⟩)
    · show WS _ M_TM_isPlace 17 [vI x, vI y] [vI (0 : Int32)] σ _
      refine WS.br (P := (0 : Int32) = 0) (a := 24) (b := 20) (S' := []) rfl (fun _ => ?_) (fun cc => absurd (by decide) cc)
      refine WS.run (C := []) (pc' := 25) (L' := [vI x, vI y]) (S' := [vI (0 : Int32)]) (σ' := σ) 1 rfl trivial ?_
      exact WS.ret rfl rfl (by decide) rfl (by simp only [t_400] at *; exact h0 (by unfold co; omega))
  · show WS _ M_TM_isPlace 7 [vI x, vI y] [vI (0 : Int32)] σ _
    refine WS.br (P := (0 : Int32) = 0) (a := 24) (b := 10) (S' := []) rfl (fun _ => ?_) (fun cc => absurd (by decide) cc)
    refine WS.run (C := []) (pc' := 25) (L' := [vI x, vI y]) (S' := [vI (0 : Int32)]) (σ' := σ) 1 rfl trivial ?_
    exact WS.ret rfl rfl (by decide) rfl (by simp only [t_400] at *; exact h0 (by unfold co; omega))
set_option maxRecDepth 4000 in
set_option maxHeartbeats 400000 in
theorem c_areTwo {d : Nat} {σ : Mem} {Post : Option AV → Mem → Prop} {a b : Int32} {n : Nat} (hn : n < 100) (hm : 0 < n) (h1 : ∀ i j : Nat, i < n → j < n → i ≠ j → a = nI i → b = nI j → Post (some (vI 1)) σ) (h0 : ¬ (0 ≤ a.toInt ∧ a.toInt < n ∧ 0 ≤ b.toInt ∧ b.toInt < n ∧ a ≠ b) → Post (some (vI 0)) σ) : MM (d + 1) M_TM_areTwo [vI a, vI b, vI (nI n)] σ Post := by
  have en : (nI n - 1).toInt = (n : Int) - 1 := by rw [t_sub] <;> rw [nI_t (by omega), t_1] <;> omega
  refine MM.of ok_TM_areTwo rfl ?_
  show WS _ M_TM_areTwo 0 [vI a, vI b, vI (nI n)] [] σ _
  refine WS.run (C := []) (pc' := 4) (L' := [vI a, vI b, vI (nI n)]) (S' := [vI ((nI n) - (1 : Int32)), vI a]) (σ' := σ) 4 rfl trivial ?_
  refine WS.callS M_TM_inRange (as := [vI a, vI ((nI n) - (1 : Int32))]) (rest := []) rfl lk_10_71 rfl rfl (Nat.le_of_ble_eq_true rfl) ?_
  refine c_inRange (fun q1a q1b => ?_) (fun q1 => ?_)
  · show WS _ M_TM_areTwo 7 [vI a, vI b, vI (nI n)] [vI (1 : Int32)] σ _
    refine WS.br (P := (1 : Int32) = 0) (a := 29) (b := 10) (S' := []) rfl (fun cc => absurd cc (by decide)) (fun _ => ?_)
    refine WS.run (C := []) (pc' := 14) (L' := [vI a, vI b, vI (nI n)]) (S' := [vI ((nI n) - (1 : Int32)), vI b]) (σ' := σ) 4 rfl trivial ?_
    refine WS.callS M_TM_inRange (as := [vI b, vI ((nI n) - (1 : Int32))]) (rest := []) rfl lk_10_71 rfl rfl (Nat.le_of_ble_eq_true rfl) ?_
    refine c_inRange (fun q2a q2b => ?_) (fun q2 => ?_)
    · show WS _ M_TM_areTwo 17 [vI a, vI b, vI (nI n)] [vI (1 : Int32)] σ _
      refine WS.br (P := (1 : Int32) = 0) (a := 29) (b := 20) (S' := []) rfl (fun cc => absurd cc (by decide)) (fun _ => ?_)
      refine WS.run (C := []) (pc' := 22) (L' := [vI a, vI b, vI (nI n)]) (S' := [vI b, vI a]) (σ' := σ) 2 rfl trivial ?_
      refine WS.br (P := a = b) (a := 29) (b := 25) (S' := []) rfl (fun c3 => ?_) (fun c3 => ?_)
      · refine WS.run (C := []) (pc' := 30) (L' := [vI a, vI b, vI (nI n)]) (S' := [vI (0 : Int32)]) (σ' := σ) 1 rfl trivial ?_
        exact WS.ret rfl rfl (by decide) rfl (h0 (by rw [en] at *; rintro ⟨z1, z2, z3, z4, z5⟩; first | omega | contradiction))
      · refine WS.run (C := []) (pc' := 30) (L' := [vI a, vI b, vI (nI n)]) (S' := [vI (1 : Int32)]) (σ' := σ) 2 rfl trivial ?_
        exact WS.ret rfl rfl (by decide) rfl (by
    rw [en] at *
    obtain ⟨i, hi, rfl⟩ := t_nat (x := a) (n := n - 1) (by assumption) (by omega) (by omega)
    obtain ⟨j, hj, rfl⟩ := t_nat (x := b) (n := n - 1) (by assumption) (by omega) (by omega)
    exact h1 i j (by omega) (by omega) (fun q => by subst q; contradiction) rfl rfl)
    · show WS _ M_TM_areTwo 17 [vI a, vI b, vI (nI n)] [vI (0 : Int32)] σ _
      refine WS.br (P := (0 : Int32) = 0) (a := 29) (b := 20) (S' := []) rfl (fun _ => ?_) (fun cc => absurd (by decide) cc)
      refine WS.run (C := []) (pc' := 30) (L' := [vI a, vI b, vI (nI n)]) (S' := [vI (0 : Int32)]) (σ' := σ) 1 rfl trivial ?_
      exact WS.ret rfl rfl (by decide) rfl (h0 (by rw [en] at *; rintro ⟨z1, z2, z3, z4, z5⟩; first | omega | contradiction))
  · show WS _ M_TM_areTwo 7 [vI a, vI b, vI (nI n)] [vI (0 : Int32)] σ _
    refine WS.br (P := (0 : Int32) = 0) (a := 29) (b := 10) (S' := []) rfl (fun _ => ?_) (fun cc => absurd (by decide) cc)
    refine WS.run (C := []) (pc' := 30) (L' := [vI a, vI b, vI (nI n)]) (S' := [vI (0 : Int32)]) (σ' := σ) 1 rfl trivial ?_
    exact WS.ret rfl rfl (by decide) rfl (h0 (by rw [en] at *; rintro ⟨z1, z2, z3, z4, z5⟩; first | omega | contradiction))
def lnC (σ : Mem) (k : Nat) : Ln := ((gI σ k 0 0).toInt, (gI σ k 0 1).toInt, (gI σ k 0 2).toInt, (gI σ k 0 3).toInt)
def isLn (k : Nat) : Prop := k = 11 ∨ k = 12 ∨ k = 40
def sdL (l : Ln) (x y : Int) : Int := sd l.1 l.2.1 l.2.2.1 l.2.2.2 x y
def alL (l : Ln) (x y : Int) : Int := al l.1 l.2.1 l.2.2.1 l.2.2.2 x y
set_option maxRecDepth 4000 in
set_option maxHeartbeats 400000 in
theorem c_side {d : Nat} {σ : Mem} {Post : Option AV → Mem → Prop} {x y : Int32} {k : Nat} (hk : isLn k) (hb : lnB (lnC σ k)) (hx : co x.toInt) (hy : co y.toInt) (h : ∀ r : Int32, r.toInt = sdL (lnC σ k) x.toInt y.toInt → Post (some (vI r)) σ) : MM d M_Line_side [vR k 0, vI x, vI y] σ Post := by
  rcases hk with rfl | rfl | rfl
  · refine MM.of ok_Line_side rfl ?_
    show WS _ M_Line_side 0 [vR 11 0, vI x, vI y] [] σ _
    refine WS.run (C := []) (pc' := 33) (L' := [vR 11 0, vI x, vI y]) (S' := [vI (((gI σ 11 0 2 - gI σ 11 0 0) * (y - gI σ 11 0 1)) - ((gI σ 11 0 3 - gI σ 11 0 1) * (x - gI σ 11 0 0)))]) (σ' := σ) 21 rfl trivial ?_
    exact WS.ret rfl rfl (by decide) rfl (h _ (sd_ok hb.1 hb.2.1 hb.2.2.1 hb.2.2.2 hx hy))
  · refine MM.of ok_Line_side rfl ?_
    show WS _ M_Line_side 0 [vR 12 0, vI x, vI y] [] σ _
    refine WS.run (C := []) (pc' := 33) (L' := [vR 12 0, vI x, vI y]) (S' := [vI (((gI σ 12 0 2 - gI σ 12 0 0) * (y - gI σ 12 0 1)) - ((gI σ 12 0 3 - gI σ 12 0 1) * (x - gI σ 12 0 0)))]) (σ' := σ) 21 rfl trivial ?_
    exact WS.ret rfl rfl (by decide) rfl (h _ (sd_ok hb.1 hb.2.1 hb.2.2.1 hb.2.2.2 hx hy))
  · refine MM.of ok_Line_side rfl ?_
    show WS _ M_Line_side 0 [vR 40 0, vI x, vI y] [] σ _
    refine WS.run (C := []) (pc' := 33) (L' := [vR 40 0, vI x, vI y]) (S' := [vI (((gI σ 40 0 2 - gI σ 40 0 0) * (y - gI σ 40 0 1)) - ((gI σ 40 0 3 - gI σ 40 0 1) * (x - gI σ 40 0 0)))]) (σ' := σ) 21 rfl trivial ?_
    exact WS.ret rfl rfl (by decide) rfl (h _ (sd_ok hb.1 hb.2.1 hb.2.2.1 hb.2.2.2 hx hy))
set_option maxRecDepth 4000 in
set_option maxHeartbeats 400000 in
theorem c_along {d : Nat} {σ : Mem} {Post : Option AV → Mem → Prop} {x y : Int32} {k : Nat} (hk : isLn k) (hb : lnB (lnC σ k)) (hx : co x.toInt) (hy : co y.toInt) (h : ∀ r : Int32, r.toInt = alL (lnC σ k) x.toInt y.toInt → Post (some (vI r)) σ) : MM d M_Line_along [vR k 0, vI x, vI y] σ Post := by
  rcases hk with rfl | rfl | rfl
  · refine MM.of ok_Line_along rfl ?_
    show WS _ M_Line_along 0 [vR 11 0, vI x, vI y] [] σ _
    refine WS.run (C := []) (pc' := 33) (L' := [vR 11 0, vI x, vI y]) (S' := [vI (((gI σ 11 0 2 - gI σ 11 0 0) * (x - gI σ 11 0 0)) + ((gI σ 11 0 3 - gI σ 11 0 1) * (y - gI σ 11 0 1)))]) (σ' := σ) 21 rfl trivial ?_
    exact WS.ret rfl rfl (by decide) rfl (h _ (al_ok hb.1 hb.2.1 hb.2.2.1 hb.2.2.2 hx hy))
  · refine MM.of ok_Line_along rfl ?_
    show WS _ M_Line_along 0 [vR 12 0, vI x, vI y] [] σ _
    refine WS.run (C := []) (pc' := 33) (L' := [vR 12 0, vI x, vI y]) (S' := [vI (((gI σ 12 0 2 - gI σ 12 0 0) * (x - gI σ 12 0 0)) + ((gI σ 12 0 3 - gI σ 12 0 1) * (y - gI σ 12 0 1)))]) (σ' := σ) 21 rfl trivial ?_
    exact WS.ret rfl rfl (by decide) rfl (h _ (al_ok hb.1 hb.2.1 hb.2.2.1 hb.2.2.2 hx hy))
  · refine MM.of ok_Line_along rfl ?_
    show WS _ M_Line_along 0 [vR 40 0, vI x, vI y] [] σ _
    refine WS.run (C := []) (pc' := 33) (L' := [vR 40 0, vI x, vI y]) (S' := [vI (((gI σ 40 0 2 - gI σ 40 0 0) * (x - gI σ 40 0 0)) + ((gI σ 40 0 3 - gI σ 40 0 1) * (y - gI σ 40 0 1)))]) (σ' := σ) 21 rfl trivial ?_
    exact WS.ret rfl rfl (by decide) rfl (h _ (al_ok hb.1 hb.2.1 hb.2.2.1 hb.2.2.2 hx hy))
set_option maxRecDepth 4000 in
set_option maxHeartbeats 400000 in
theorem c_squareBetween {d : Nat} {σ : Mem} {Post : Option AV → Mem → Prop} {a b c e : Int32} (ha : co a.toInt) (hb : co b.toInt) (hc : co c.toInt) (he : co e.toInt) (h : ∀ r : Int32, r.toInt = dd a.toInt b.toInt c.toInt e.toInt → Post (some (vI r)) σ) : MM d M_Line_squareBetween [vI a, vI b, vI c, vI e] σ Post := by
  refine MM.of ok_Line_squareBetween rfl ?_
  show WS _ M_Line_squareBetween 0 [vI a, vI b, vI c, vI e] [] σ _
  refine WS.run (C := []) (pc' := 15) (L' := [vI a, vI b, vI c, vI e]) (S' := [vI (((a - c) * (a - c)) + ((b - e) * (b - e)))]) (σ' := σ) 15 rfl trivial ?_
  exact WS.ret rfl rfl (by decide) rfl (h _ (dd_ok ha hb hc he))
theorem lg_t (x y : Int64) : (lg_cmp x y).toInt = (x.toInt - y.toInt).sign := by
  unfold lg_cmp
  by_cases h1 : x > y
  · rw [if_pos h1]; have h1 := (j_lt _ _).mp h1; rw [Int.sign_eq_one_of_pos (by omega)]; decide
  · rw [if_neg h1]; have h1 : ¬ y.toInt < x.toInt := fun q => h1 ((j_lt y x).mpr q)
    by_cases h2 : x = y
    · rw [if_pos h2, h2]; simp
    · rw [if_neg h2]; rw [j_eq] at h2; rw [Int.sign_eq_neg_one_of_neg (by omega)]; decide
theorem sgn_lt {z : Int} : z.sign < 0 ↔ z < 0 := by
  rcases Int.lt_trichotomy z 0 with h | h | h
  · rw [Int.sign_eq_neg_one_of_neg h]; omega
  · rw [h]; simp
  · rw [Int.sign_eq_one_of_pos h]; omega
theorem sgn_gt {z : Int} : 0 < z.sign ↔ 0 < z := by
  rcases Int.lt_trichotomy z 0 with h | h | h
  · rw [Int.sign_eq_neg_one_of_neg h]; omega
  · rw [h]; simp
  · rw [Int.sign_eq_one_of_pos h]; omega
theorem sgn_eq {z : Int} : z.sign = 0 ↔ z = 0 := Int.sign_eq_zero_iff_zero
theorem sgn_3 (z : Int) : z.sign = -1 ∨ z.sign = 0 ∨ z.sign = 1 := by
  rcases Int.lt_trichotomy z 0 with h | h | h
  · rw [Int.sign_eq_neg_one_of_neg h]; omega
  · rw [h]; simp
  · rw [Int.sign_eq_one_of_pos h]; omega
theorem lg_lt {x y : Int64} : lg_cmp x y < 0 ↔ x.toInt < y.toInt := by rw [t_lt, lg_t, t_0, sgn_lt]; omega
theorem lg_eq {x y : Int64} : lg_cmp x y = 0 ↔ x.toInt = y.toInt := by rw [t_eq, lg_t, t_0, sgn_eq]; omega
theorem lg_le {x y : Int64} : 0 ≤ lg_cmp x y ↔ y.toInt ≤ x.toInt := by rw [← Int32.not_lt, lg_lt]; omega
theorem lg_pos {x y : Int64} : 0 < lg_cmp x y ↔ y.toInt < x.toInt := by rw [t_lt, lg_t, t_0, sgn_gt]; omega
theorem lg_np {x y : Int64} : lg_cmp x y ≤ 0 ↔ x.toInt ≤ y.toInt := by rw [← Int32.not_lt, lg_pos]; omega
theorem t_m1 : (-1 : Int32).toInt = -1 := by decide
set_option maxRecDepth 4000 in
set_option maxHeartbeats 400000 in
theorem c_Jcompare {d : Nat} {σ : Mem} {Post : Option AV → Mem → Prop} {x y : Int64} (h : ∀ r : Int32, r.toInt = (x.toInt - y.toInt).sign → Post (some (vI r)) σ) : MM d M_JLong_compare [vJ x, vJ y] σ Post := by
  refine MM.of ok_JLong_compare rfl ?_
  show WS _ M_JLong_compare 0 [vJ x, vU, vJ y, vU] [] σ _
  refine WS.run (C := []) (pc' := 3) (L' := [vJ x, vU, vJ y, vU]) (S' := [vI (lg_cmp x y)]) (σ' := σ) 3 rfl trivial ?_
  refine WS.br (P := 0 ≤ (lg_cmp x y)) (a := 10) (b := 6) (S' := []) rfl (fun c1 => ?_) (fun c1 => ?_)
  · refine WS.run (C := []) (pc' := 13) (L' := [vJ x, vU, vJ y, vU]) (S' := [vI (lg_cmp x y)]) (σ' := σ) 3 rfl trivial ?_
    refine WS.br (P := (lg_cmp x y) = 0) (a := 16) (b := 20) (S' := []) rfl (fun c2 => ?_) (fun c2 => ?_)
    · refine WS.run (C := []) (pc' := 21) (L' := [vJ x, vU, vJ y, vU]) (S' := [vI (0 : Int32)]) (σ' := σ) 2 rfl trivial ?_
      exact WS.ret rfl rfl (by decide) rfl (h _ (by simp only [lg_lt, lg_eq, lg_le] at *; rcases sgn_3 (x.toInt - y.toInt) with q | q | q <;> rw [q] <;> have q1 := sgn_lt (z := x.toInt - y.toInt) <;> have q2 := sgn_eq (z := x.toInt - y.toInt) <;> first | decide | (exfalso; omega)))
    · refine WS.run (C := []) (pc' := 21) (L' := [vJ x, vU, vJ y, vU]) (S' := [vI (1 : Int32)]) (σ' := σ) 1 rfl trivial ?_
      exact WS.ret rfl rfl (by decide) rfl (h _ (by simp only [lg_lt, lg_eq, lg_le] at *; rcases sgn_3 (x.toInt - y.toInt) with q | q | q <;> rw [q] <;> have q1 := sgn_lt (z := x.toInt - y.toInt) <;> have q2 := sgn_eq (z := x.toInt - y.toInt) <;> first | decide | (exfalso; omega)))
  · refine WS.run (C := []) (pc' := 21) (L' := [vJ x, vU, vJ y, vU]) (S' := [vI (-1 : Int32)]) (σ' := σ) 2 rfl trivial ?_
    exact WS.ret rfl rfl (by decide) rfl (h _ (by simp only [lg_lt, lg_eq, lg_le] at *; rcases sgn_3 (x.toInt - y.toInt) with q | q | q <;> rw [q] <;> have q1 := sgn_lt (z := x.toInt - y.toInt) <;> have q2 := sgn_eq (z := x.toInt - y.toInt) <;> first | decide | (exfalso; omega)))
end
section
/-! contracts: lines, the rest -/
set_option maxRecDepth 4000 in
set_option maxHeartbeats 400000 in
theorem c_hasEnd {d : Nat} {σ : Mem} {Post : Option AV → Mem → Prop} {x y : Int32} {k : Nat} (hk : isLn k) (h1 : endZ (lnC σ k) x.toInt y.toInt → Post (some (vI 1)) σ) (h0 : ¬ endZ (lnC σ k) x.toInt y.toInt → Post (some (vI 0)) σ) : MM d M_Line_hasEnd [vR k 0, vI x, vI y] σ Post := by
  rcases hk with rfl | rfl | rfl
  · refine MM.of ok_Line_hasEnd rfl ?_
    show WS _ M_Line_hasEnd 0 [vR 11 0, vI x, vI y] [] σ _
    refine WS.run (C := []) (pc' := 5) (L' := [vR 11 0, vI x, vI y]) (S' := [vI x, vI (gI σ 11 0 0)]) (σ' := σ) 3 rfl trivial ?_
    refine WS.br (P := (gI σ 11 0 0) = x) (a := 8) (b := 16) (S' := []) rfl (fun c1 => ?_) (fun c1 => ?_)
    · refine WS.run (C := []) (pc' := 13) (L' := [vR 11 0, vI x, vI y]) (S' := [vI y, vI (gI σ 11 0 1)]) (σ' := σ) 3 rfl trivial ?_
      refine WS.br (P := (gI σ 11 0 1) = y) (a := 32) (b := 16) (S' := []) rfl (fun c2 => ?_) (fun c2 => ?_)
      · refine WS.run (C := []) (pc' := 37) (L' := [vR 11 0, vI x, vI y]) (S' := [vI (1 : Int32)]) (σ' := σ) 2 rfl trivial ?_
        exact WS.ret rfl rfl (by decide) rfl (by simp only [t_eq] at *; exact h1 (by unfold endZ lnC; dsimp only; omega))
      · refine WS.run (C := []) (pc' := 21) (L' := [vR 11 0, vI x, vI y]) (S' := [vI x, vI (gI σ 11 0 2)]) (σ' := σ) 3 rfl trivial ?_
        refine WS.br (P := (gI σ 11 0 2) = x) (a := 24) (b := 36) (S' := []) rfl (fun c3 => ?_) (fun c3 => ?_)
        · refine WS.run (C := []) (pc' := 29) (L' := [vR 11 0, vI x, vI y]) (S' := [vI y, vI (gI σ 11 0 3)]) (σ' := σ) 3 rfl trivial ?_
          refine WS.br (P := (gI σ 11 0 3) = y) (a := 32) (b := 36) (S' := []) rfl (fun c4 => ?_) (fun c4 => ?_)
          · refine WS.run (C := []) (pc' := 37) (L' := [vR 11 0, vI x, vI y]) (S' := [vI (1 : Int32)]) (σ' := σ) 2 rfl trivial ?_
            exact WS.ret rfl rfl (by decide) rfl (by simp only [t_eq] at *; exact h1 (by unfold endZ lnC; dsimp only; omega))
          · refine WS.run (C := []) (pc' := 37) (L' := [vR 11 0, vI x, vI y]) (S' := [vI (0 : Int32)]) (σ' := σ) 1 rfl trivial ?_
            exact WS.ret rfl rfl (by decide) rfl (by simp only [t_eq] at *; exact h0 (by unfold endZ lnC; dsimp only; omega))
        · refine WS.run (C := []) (pc' := 37) (L' := [vR 11 0, vI x, vI y]) (S' := [vI (0 : Int32)]) (σ' := σ) 1 rfl trivial ?_
          exact WS.ret rfl rfl (by decide) rfl (by simp only [t_eq] at *; exact h0 (by unfold endZ lnC; dsimp only; omega))
    · refine WS.run (C := []) (pc' := 21) (L' := [vR 11 0, vI x, vI y]) (S' := [vI x, vI (gI σ 11 0 2)]) (σ' := σ) 3 rfl trivial ?_
      refine WS.br (P := (gI σ 11 0 2) = x) (a := 24) (b := 36) (S' := []) rfl (fun c5 => ?_) (fun c5 => ?_)
      · refine WS.run (C := []) (pc' := 29) (L' := [vR 11 0, vI x, vI y]) (S' := [vI y, vI (gI σ 11 0 3)]) (σ' := σ) 3 rfl trivial ?_
        refine WS.br (P := (gI σ 11 0 3) = y) (a := 32) (b := 36) (S' := []) rfl (fun c6 => ?_) (fun c6 => ?_)
        · refine WS.run (C := []) (pc' := 37) (L' := [vR 11 0, vI x, vI y]) (S' := [vI (1 : Int32)]) (σ' := σ) 2 rfl trivial ?_
          exact WS.ret rfl rfl (by decide) rfl (by simp only [t_eq] at *; exact h1 (by unfold endZ lnC; dsimp only; omega))
        · refine WS.run (C := []) (pc' := 37) (L' := [vR 11 0, vI x, vI y]) (S' := [vI (0 : Int32)]) (σ' := σ) 1 rfl trivial ?_
          exact WS.ret rfl rfl (by decide) rfl (by simp only [t_eq] at *; exact h0 (by unfold endZ lnC; dsimp only; omega))
      · refine WS.run (C := []) (pc' := 37) (L' := [vR 11 0, vI x, vI y]) (S' := [vI (0 : Int32)]) (σ' := σ) 1 rfl trivial ?_
        exact WS.ret rfl rfl (by decide) rfl (by simp only [t_eq] at *; exact h0 (by unfold endZ lnC; dsimp only; omega))
  · refine MM.of ok_Line_hasEnd rfl ?_
    show WS _ M_Line_hasEnd 0 [vR 12 0, vI x, vI y] [] σ _
    refine WS.run (C := []) (pc' := 5) (L' := [vR 12 0, vI x, vI y]) (S' := [vI x, vI (gI σ 12 0 0)]) (σ' := σ) 3 rfl trivial ?_
    refine WS.br (P := (gI σ 12 0 0) = x) (a := 8) (b := 16) (S' := []) rfl (fun c1 => ?_) (fun c1 => ?_)
    · refine WS.run (C := []) (pc' := 13) (L' := [vR 12 0, vI x, vI y]) (S' := [vI y, vI (gI σ 12 0 1)]) (σ' := σ) 3 rfl trivial ?_
      refine WS.br (P := (gI σ 12 0 1) = y) (a := 32) (b := 16) (S' := []) rfl (fun c2 => ?_) (fun c2 => ?_)
      · refine WS.run (C := []) (pc' := 37) (L' := [vR 12 0, vI x, vI y]) (S' := [vI (1 : Int32)]) (σ' := σ) 2 rfl trivial ?_
        exact WS.ret rfl rfl (by decide) rfl (by simp only [t_eq] at *; exact h1 (by unfold endZ lnC; dsimp only; omega))
      · refine WS.run (C := []) (pc' := 21) (L' := [vR 12 0, vI x, vI y]) (S' := [vI x, vI (gI σ 12 0 2)]) (σ' := σ) 3 rfl trivial ?_
        refine WS.br (P := (gI σ 12 0 2) = x) (a := 24) (b := 36) (S' := []) rfl (fun c3 => ?_) (fun c3 => ?_)
        · refine WS.run (C := []) (pc' := 29) (L' := [vR 12 0, vI x, vI y]) (S' := [vI y, vI (gI σ 12 0 3)]) (σ' := σ) 3 rfl trivial ?_
          refine WS.br (P := (gI σ 12 0 3) = y) (a := 32) (b := 36) (S' := []) rfl (fun c4 => ?_) (fun c4 => ?_)
          · refine WS.run (C := []) (pc' := 37) (L' := [vR 12 0, vI x, vI y]) (S' := [vI (1 : Int32)]) (σ' := σ) 2 rfl trivial ?_
            exact WS.ret rfl rfl (by decide) rfl (by simp only [t_eq] at *; exact h1 (by unfold endZ lnC; dsimp only; omega))
          · refine WS.run (C := []) (pc' := 37) (L' := [vR 12 0, vI x, vI y]) (S' := [vI (0 : Int32)]) (σ' := σ) 1 rfl trivial ?_
            exact WS.ret rfl rfl (by decide) rfl (by simp only [t_eq] at *; exact h0 (by unfold endZ lnC; dsimp only; omega))
        · refine WS.run (C := []) (pc' := 37) (L' := [vR 12 0, vI x, vI y]) (S' := [vI (0 : Int32)]) (σ' := σ) 1 rfl trivial ?_
          exact WS.ret rfl rfl (by decide) rfl (by simp only [t_eq] at *; exact h0 (by unfold endZ lnC; dsimp only; omega))
    · refine WS.run (C := []) (pc' := 21) (L' := [vR 12 0, vI x, vI y]) (S' := [vI x, vI (gI σ 12 0 2)]) (σ' := σ) 3 rfl trivial ?_
      refine WS.br (P := (gI σ 12 0 2) = x) (a := 24) (b := 36) (S' := []) rfl (fun c5 => ?_) (fun c5 => ?_)
      · refine WS.run (C := []) (pc' := 29) (L' := [vR 12 0, vI x, vI y]) (S' := [vI y, vI (gI σ 12 0 3)]) (σ' := σ) 3 rfl trivial ?_
        refine WS.br (P := (gI σ 12 0 3) = y) (a := 32) (b := 36) (S' := []) rfl (fun c6 => ?_) (fun c6 => ?_)
        · refine WS.run (C := []) (pc' := 37) (L' := [vR 12 0, vI x, vI y]) (S' := [vI (1 : Int32)]) (σ' := σ) 2 rfl trivial ?_
          exact WS.ret rfl rfl (by decide) rfl (by simp only [t_eq] at *; exact h1 (by unfold endZ lnC; dsimp only; omega))
        · refine WS.run (C := []) (pc' := 37) (L' := [vR 12 0, vI x, vI y]) (S' := [vI (0 : Int32)]) (σ' := σ) 1 rfl trivial ?_
          exact WS.ret rfl rfl (by decide) rfl (by simp only [t_eq] at *; exact h0 (by unfold endZ lnC; dsimp only; omega))
      · refine WS.run (C := []) (pc' := 37) (L' := [vR 12 0, vI x, vI y]) (S' := [vI (0 : Int32)]) (σ' := σ) 1 rfl trivial ?_
        exact WS.ret rfl rfl (by decide) rfl (by simp only [t_eq] at *; exact h0 (by unfold endZ lnC; dsimp only; omega))
  · refine MM.of ok_Line_hasEnd rfl ?_
    show WS _ M_Line_hasEnd 0 [vR 40 0, vI x, vI y] [] σ _
    refine WS.run (C := []) (pc' := 5) (L' := [vR 40 0, vI x, vI y]) (S' := [vI x, vI (gI σ 40 0 0)]) (σ' := σ) 3 rfl trivial ?_
    refine WS.br (P := (gI σ 40 0 0) = x) (a := 8) (b := 16) (S' := []) rfl (fun c1 => ?_) (fun c1 => ?_)
    · refine WS.run (C := []) (pc' := 13) (L' := [vR 40 0, vI x, vI y]) (S' := [vI y, vI (gI σ 40 0 1)]) (σ' := σ) 3 rfl trivial ?_
      refine WS.br (P := (gI σ 40 0 1) = y) (a := 32) (b := 16) (S' := []) rfl (fun c2 => ?_) (fun c2 => ?_)
      · refine WS.run (C := []) (pc' := 37) (L' := [vR 40 0, vI x, vI y]) (S' := [vI (1 : Int32)]) (σ' := σ) 2 rfl trivial ?_
        exact WS.ret rfl rfl (by decide) rfl (by simp only [t_eq] at *; exact h1 (by unfold endZ lnC; dsimp only; omega))
      · refine WS.run (C := []) (pc' := 21) (L' := [vR 40 0, vI x, vI y]) (S' := [vI x, vI (gI σ 40 0 2)]) (σ' := σ) 3 rfl trivial ?_
        refine WS.br (P := (gI σ 40 0 2) = x) (a := 24) (b := 36) (S' := []) rfl (fun c3 => ?_) (fun c3 => ?_)
        · refine WS.run (C := []) (pc' := 29) (L' := [vR 40 0, vI x, vI y]) (S' := [vI y, vI (gI σ 40 0 3)]) (σ' := σ) 3 rfl trivial ?_
          refine WS.br (P := (gI σ 40 0 3) = y) (a := 32) (b := 36) (S' := []) rfl (fun c4 => ?_) (fun c4 => ?_)
          · refine WS.run (C := []) (pc' := 37) (L' := [vR 40 0, vI x, vI y]) (S' := [vI (1 : Int32)]) (σ' := σ) 2 rfl trivial ?_
            exact WS.ret rfl rfl (by decide) rfl (by simp only [t_eq] at *; exact h1 (by unfold endZ lnC; dsimp only; omega))
          · refine WS.run (C := []) (pc' := 37) (L' := [vR 40 0, vI x, vI y]) (S' := [vI (0 : Int32)]) (σ' := σ) 1 rfl trivial ?_
            exact WS.ret rfl rfl (by decide) rfl (by simp only [t_eq] at *; exact h0 (by unfold endZ lnC; dsimp only; omega))
        · refine WS.run (C := []) (pc' := 37) (L' := [vR 40 0, vI x, vI y]) (S' := [vI (0 : Int32)]) (σ' := σ) 1 rfl trivial ?_
          exact WS.ret rfl rfl (by decide) rfl (by simp only [t_eq] at *; exact h0 (by unfold endZ lnC; dsimp only; omega))
    · refine WS.run (C := []) (pc' := 21) (L' := [vR 40 0, vI x, vI y]) (S' := [vI x, vI (gI σ 40 0 2)]) (σ' := σ) 3 rfl trivial ?_
      refine WS.br (P := (gI σ 40 0 2) = x) (a := 24) (b := 36) (S' := []) rfl (fun c5 => ?_) (fun c5 => ?_)
      · refine WS.run (C := []) (pc' := 29) (L' := [vR 40 0, vI x, vI y]) (S' := [vI y, vI (gI σ 40 0 3)]) (σ' := σ) 3 rfl trivial ?_
        refine WS.br (P := (gI σ 40 0 3) = y) (a := 32) (b := 36) (S' := []) rfl (fun c6 => ?_) (fun c6 => ?_)
        · refine WS.run (C := []) (pc' := 37) (L' := [vR 40 0, vI x, vI y]) (S' := [vI (1 : Int32)]) (σ' := σ) 2 rfl trivial ?_
          exact WS.ret rfl rfl (by decide) rfl (by simp only [t_eq] at *; exact h1 (by unfold endZ lnC; dsimp only; omega))
        · refine WS.run (C := []) (pc' := 37) (L' := [vR 40 0, vI x, vI y]) (S' := [vI (0 : Int32)]) (σ' := σ) 1 rfl trivial ?_
          exact WS.ret rfl rfl (by decide) rfl (by simp only [t_eq] at *; exact h0 (by unfold endZ lnC; dsimp only; omega))
      · refine WS.run (C := []) (pc' := 37) (L' := [vR 40 0, vI x, vI y]) (S' := [vI (0 : Int32)]) (σ' := σ) 1 rfl trivial ?_
        exact WS.ret rfl rfl (by decide) rfl (by simp only [t_eq] at *; exact h0 (by unfold endZ lnC; dsimp only; omega))
set_option maxRecDepth 4000 in
set_option maxHeartbeats 400000 in
theorem c_areOpposite {d : Nat} {σ : Mem} {Post : Option AV → Mem → Prop} {x y : Int32} (h1 : opp x.toInt y.toInt → Post (some (vI 1)) σ) (h0 : ¬ opp x.toInt y.toInt → Post (some (vI 0)) σ) : MM d M_Line_areOpposite [vI x, vI y] σ Post := by
  refine MM.of ok_Line_areOpposite rfl ?_
  show WS _ M_Line_areOpposite 0 [vI x, vI y] [] σ _
  refine WS.run (C := []) (pc' := 1) (L' := [vI x, vI y]) (S' := [vI x]) (σ' := σ) 1 rfl trivial ?_
  refine WS.br (P := 0 ≤ x) (a := 8) (b := 4) (S' := []) rfl (fun c1 => ?_) (fun c1 => ?_)
  · refine WS.run (C := []) (pc' := 9) (L' := [vI x, vI y]) (S' := [vI x]) (σ' := σ) 1 rfl trivial ?_
    refine WS.br (P := x ≤ 0) (a := 20) (b := 12) (S' := []) rfl (fun c2 => ?_) (fun c2 => ?_)
    · refine WS.run (C := []) (pc' := 21) (L' := [vI x, vI y]) (S' := [vI (0 : Int32)]) (σ' := σ) 1 rfl trivial ?_
      exact WS.ret rfl rfl (by decide) rfl (by simp only [t_lt, t_le, t_0] at *; exact h0 (by unfold opp; omega))
    · refine WS.run (C := []) (pc' := 13) (L' := [vI x, vI y]) (S' := [vI y]) (σ' := σ) 1 rfl trivial ?_
      refine WS.br (P := 0 ≤ y) (a := 20) (b := 16) (S' := []) rfl (fun c3 => ?_) (fun c3 => ?_)
      · refine WS.run (C := []) (pc' := 21) (L' := [vI x, vI y]) (S' := [vI (0 : Int32)]) (σ' := σ) 1 rfl trivial ?_
        exact WS.ret rfl rfl (by decide) rfl (by simp only [t_lt, t_le, t_0] at *; exact h0 (by unfold opp; omega))
      · refine WS.run (C := []) (pc' := 21) (L' := [vI x, vI y]) (S' := [vI (1 : Int32)]) (σ' := σ) 2 rfl trivial ?_
        exact WS.ret rfl rfl (by decide) rfl (by simp only [t_lt, t_le, t_0] at *; exact h1 (by unfold opp; omega))
  · refine WS.run (C := []) (pc' := 5) (L' := [vI x, vI y]) (S' := [vI y]) (σ' := σ) 1 rfl trivial ?_
    refine WS.br (P := 0 < y) (a := 16) (b := 8) (S' := []) rfl (fun c4 => ?_) (fun c4 => ?_)
    · refine WS.run (C := []) (pc' := 21) (L' := [vI x, vI y]) (S' := [vI (1 : Int32)]) (σ' := σ) 2 rfl trivial ?_
      exact WS.ret rfl rfl (by decide) rfl (by simp only [t_lt, t_le, t_0] at *; exact h1 (by unfold opp; omega))
    · refine WS.run (C := []) (pc' := 9) (L' := [vI x, vI y]) (S' := [vI x]) (σ' := σ) 1 rfl trivial ?_
      refine WS.br (P := x ≤ 0) (a := 20) (b := 12) (S' := []) rfl (fun c5 => ?_) (fun c5 => ?_)
      · refine WS.run (C := []) (pc' := 21) (L' := [vI x, vI y]) (S' := [vI (0 : Int32)]) (σ' := σ) 1 rfl trivial ?_
        exact WS.ret rfl rfl (by decide) rfl (by simp only [t_lt, t_le, t_0] at *; exact h0 (by unfold opp; omega))
      · refine WS.run (C := []) (pc' := 13) (L' := [vI x, vI y]) (S' := [vI y]) (σ' := σ) 1 rfl trivial ?_
        refine WS.br (P := 0 ≤ y) (a := 20) (b := 16) (S' := []) rfl (fun c6 => ?_) (fun c6 => ?_)
        · refine WS.run (C := []) (pc' := 21) (L' := [vI x, vI y]) (S' := [vI (0 : Int32)]) (σ' := σ) 1 rfl trivial ?_
          exact WS.ret rfl rfl (by decide) rfl (by simp only [t_lt, t_le, t_0] at *; exact h0 (by unfold opp; omega))
        · refine WS.run (C := []) (pc' := 21) (L' := [vI x, vI y]) (S' := [vI (1 : Int32)]) (σ' := σ) 2 rfl trivial ?_
          exact WS.ret rfl rfl (by decide) rfl (by simp only [t_lt, t_le, t_0] at *; exact h1 (by unfold opp; omega))
set_option maxRecDepth 4000 in
set_option maxHeartbeats 400000 in
theorem c_sharesEnd {d : Nat} {σ : Mem} {Post : Option AV → Mem → Prop} {k k2 : Nat} (hk : (k = 11 ∧ k2 = 12) ∨ (k = 12 ∧ k2 = 11)) (h1 : shareZ (lnC σ k) (lnC σ k2) → Post (some (vI 1)) σ) (h0 : ¬ shareZ (lnC σ k) (lnC σ k2) → Post (some (vI 0)) σ) : MM (d + 1) M_Line_sharesEnd [vR k 0, vR k2 0] σ Post := by
  rcases hk with ⟨rfl, rfl⟩ | ⟨rfl, rfl⟩
  · refine MM.of ok_Line_sharesEnd rfl ?_
    show WS _ M_Line_sharesEnd 0 [vR 11 0, vR 12 0] [] σ _
    refine WS.run (C := []) (pc' := 9) (L' := [vR 11 0, vR 12 0]) (S' := [vI (gI σ 12 0 1), vI (gI σ 12 0 0), vR 11 0]) (σ' := σ) 5 rfl trivial ?_
    refine WS.callV M_Line_hasEnd (k := 11) (i := 0) (as := [vI (gI σ 12 0 0), vI (gI σ 12 0 1)]) (rest := []) rfl lk_3_39 rfl rfl rfl (Nat.le_of_ble_eq_true rfl) ?_
    refine c_hasEnd (Or.inl rfl) (fun q1 => ?_) (fun q1 => ?_)
    · show WS _ M_Line_sharesEnd 12 [vR 11 0, vR 12 0] [vI (1 : Int32)] σ _
      refine WS.br (P := (1 : Int32) = 0) (a := 15) (b := 30) (S' := []) rfl (fun cc => absurd cc (by decide)) (fun _ => ?_)
      refine WS.run (C := []) (pc' := 35) (L' := [vR 11 0, vR 12 0]) (S' := [vI (1 : Int32)]) (σ' := σ) 2 rfl trivial ?_
      exact WS.ret rfl rfl (by decide) rfl (h1 (Or.inl q1))
    · show WS _ M_Line_sharesEnd 12 [vR 11 0, vR 12 0] [vI (0 : Int32)] σ _
      refine WS.br (P := (0 : Int32) = 0) (a := 15) (b := 30) (S' := []) rfl (fun _ => ?_) (fun cc => absurd (by decide) cc)
      refine WS.run (C := []) (pc' := 24) (L' := [vR 11 0, vR 12 0]) (S' := [vI (gI σ 12 0 3), vI (gI σ 12 0 2), vR 11 0]) (σ' := σ) 5 rfl trivial ?_
      refine WS.callV M_Line_hasEnd (k := 11) (i := 0) (as := [vI (gI σ 12 0 2), vI (gI σ 12 0 3)]) (rest := []) rfl lk_3_39 rfl rfl rfl (Nat.le_of_ble_eq_true rfl) ?_
      refine c_hasEnd (Or.inl rfl) (fun q2 => ?_) (fun q2 => ?_)
      · show WS _ M_Line_sharesEnd 27 [vR 11 0, vR 12 0] [vI (1 : Int32)] σ _
        refine WS.br (P := (1 : Int32) = 0) (a := 34) (b := 30) (S' := []) rfl (fun cc => absurd cc (by decide)) (fun _ => ?_)
        refine WS.run (C := []) (pc' := 35) (L' := [vR 11 0, vR 12 0]) (S' := [vI (1 : Int32)]) (σ' := σ) 2 rfl trivial ?_
        exact WS.ret rfl rfl (by decide) rfl (h1 (Or.inr q2))
      · show WS _ M_Line_sharesEnd 27 [vR 11 0, vR 12 0] [vI (0 : Int32)] σ _
        refine WS.br (P := (0 : Int32) = 0) (a := 34) (b := 30) (S' := []) rfl (fun _ => ?_) (fun cc => absurd (by decide) cc)
        refine WS.run (C := []) (pc' := 35) (L' := [vR 11 0, vR 12 0]) (S' := [vI (0 : Int32)]) (σ' := σ) 1 rfl trivial ?_
        exact WS.ret rfl rfl (by decide) rfl (h0 (fun z => z.elim q1 q2))
  · refine MM.of ok_Line_sharesEnd rfl ?_
    show WS _ M_Line_sharesEnd 0 [vR 12 0, vR 11 0] [] σ _
    refine WS.run (C := []) (pc' := 9) (L' := [vR 12 0, vR 11 0]) (S' := [vI (gI σ 11 0 1), vI (gI σ 11 0 0), vR 12 0]) (σ' := σ) 5 rfl trivial ?_
    refine WS.callV M_Line_hasEnd (k := 12) (i := 0) (as := [vI (gI σ 11 0 0), vI (gI σ 11 0 1)]) (rest := []) rfl lk_3_39 rfl rfl rfl (Nat.le_of_ble_eq_true rfl) ?_
    refine c_hasEnd (Or.inr (Or.inl rfl)) (fun q1 => ?_) (fun q1 => ?_)
    · show WS _ M_Line_sharesEnd 12 [vR 12 0, vR 11 0] [vI (1 : Int32)] σ _
      refine WS.br (P := (1 : Int32) = 0) (a := 15) (b := 30) (S' := []) rfl (fun cc => absurd cc (by decide)) (fun _ => ?_)
      refine WS.run (C := []) (pc' := 35) (L' := [vR 12 0, vR 11 0]) (S' := [vI (1 : Int32)]) (σ' := σ) 2 rfl trivial ?_
      exact WS.ret rfl rfl (by decide) rfl (h1 (Or.inl q1))
    · show WS _ M_Line_sharesEnd 12 [vR 12 0, vR 11 0] [vI (0 : Int32)] σ _
      refine WS.br (P := (0 : Int32) = 0) (a := 15) (b := 30) (S' := []) rfl (fun _ => ?_) (fun cc => absurd (by decide) cc)
      refine WS.run (C := []) (pc' := 24) (L' := [vR 12 0, vR 11 0]) (S' := [vI (gI σ 11 0 3), vI (gI σ 11 0 2), vR 12 0]) (σ' := σ) 5 rfl trivial ?_
      refine WS.callV M_Line_hasEnd (k := 12) (i := 0) (as := [vI (gI σ 11 0 2), vI (gI σ 11 0 3)]) (rest := []) rfl lk_3_39 rfl rfl rfl (Nat.le_of_ble_eq_true rfl) ?_
      refine c_hasEnd (Or.inr (Or.inl rfl)) (fun q2 => ?_) (fun q2 => ?_)
      · show WS _ M_Line_sharesEnd 27 [vR 12 0, vR 11 0] [vI (1 : Int32)] σ _
        refine WS.br (P := (1 : Int32) = 0) (a := 34) (b := 30) (S' := []) rfl (fun cc => absurd cc (by decide)) (fun _ => ?_)
        refine WS.run (C := []) (pc' := 35) (L' := [vR 12 0, vR 11 0]) (S' := [vI (1 : Int32)]) (σ' := σ) 2 rfl trivial ?_
        exact WS.ret rfl rfl (by decide) rfl (h1 (Or.inr q2))
      · show WS _ M_Line_sharesEnd 27 [vR 12 0, vR 11 0] [vI (0 : Int32)] σ _
        refine WS.br (P := (0 : Int32) = 0) (a := 34) (b := 30) (S' := []) rfl (fun _ => ?_) (fun cc => absurd (by decide) cc)
        refine WS.run (C := []) (pc' := 35) (L' := [vR 12 0, vR 11 0]) (S' := [vI (0 : Int32)]) (σ' := σ) 1 rfl trivial ?_
        exact WS.ret rfl rfl (by decide) rfl (h0 (fun z => z.elim q1 q2))
set_option maxRecDepth 4000 in
set_option maxHeartbeats 400000 in
theorem c_cuts {d : Nat} {σ : Mem} {Post : Option AV → Mem → Prop} {k k2 : Nat} (hk : (k = 11 ∧ k2 = 12) ∨ (k = 12 ∧ k2 = 11)) (hb : lnB (lnC σ k)) (hb2 : lnB (lnC σ k2)) (h1 : cutZ (lnC σ k) (lnC σ k2) → Post (some (vI 1)) σ) (h0 : ¬ cutZ (lnC σ k) (lnC σ k2) → Post (some (vI 0)) σ) : MM (d + 1) M_Line_cuts [vR k 0, vR k2 0] σ Post := by
  rcases hk with ⟨rfl, rfl⟩ | ⟨rfl, rfl⟩
  · have hb11 := hb
    have hb12 := hb2
    refine MM.of ok_Line_cuts rfl ?_
    show WS _ M_Line_cuts 0 [vR 11 0, vR 12 0] [] σ _
    refine WS.run (C := []) (pc' := 9) (L' := [vR 11 0, vR 12 0]) (S' := [vI (gI σ 12 0 1), vI (gI σ 12 0 0), vR 11 0]) (σ' := σ) 5 rfl trivial ?_
    refine WS.callV M_Line_side (k := 11) (i := 0) (as := [vI (gI σ 12 0 0), vI (gI σ 12 0 1)]) (rest := []) rfl lk_3_36 rfl rfl rfl (Nat.le_of_ble_eq_true rfl) ?_
    refine c_side (Or.inl rfl) hb11 hb12.1 hb12.2.1 (fun r1 e1 => ?_)
    show WS _ M_Line_cuts 12 [vR 11 0, vR 12 0] [vI r1] σ _
    refine WS.run (C := []) (pc' := 21) (L' := [vR 11 0, vR 12 0]) (S' := [vI (gI σ 12 0 3), vI (gI σ 12 0 2), vR 11 0, vI r1]) (σ' := σ) 5 rfl trivial ?_
    refine WS.callV M_Line_side (k := 11) (i := 0) (as := [vI (gI σ 12 0 2), vI (gI σ 12 0 3)]) (rest := [vI r1]) rfl lk_3_36 rfl rfl rfl (Nat.le_of_ble_eq_true rfl) ?_
    refine c_side (Or.inl rfl) hb11 hb12.2.2.1 hb12.2.2.2 (fun r2 e2 => ?_)
    show WS _ M_Line_cuts 24 [vR 11 0, vR 12 0] [vI r2, vI r1] σ _
    refine WS.callS M_Line_areOpposite (as := [vI r1, vI r2]) (rest := []) rfl lk_3_43 rfl rfl (Nat.le_of_ble_eq_true rfl) ?_
    refine c_areOpposite  (fun q3 => ?_) (fun q3 => ?_)
    · show WS _ M_Line_cuts 27 [vR 11 0, vR 12 0] [vI (1 : Int32)] σ _
      refine WS.br (P := (1 : Int32) = 0) (a := 64) (b := 30) (S' := []) rfl (fun cc => absurd cc (by decide)) (fun _ => ?_)
      refine WS.run (C := []) (pc' := 39) (L' := [vR 11 0, vR 12 0]) (S' := [vI (gI σ 11 0 1), vI (gI σ 11 0 0), vR 12 0]) (σ' := σ) 5 rfl trivial ?_
      refine WS.callV M_Line_side (k := 12) (i := 0) (as := [vI (gI σ 11 0 0), vI (gI σ 11 0 1)]) (rest := []) rfl lk_3_36 rfl rfl rfl (Nat.le_of_ble_eq_true rfl) ?_
      refine c_side (Or.inr (Or.inl rfl)) hb12 hb11.1 hb11.2.1 (fun r4 e4 => ?_)
      show WS _ M_Line_cuts 42 [vR 11 0, vR 12 0] [vI r4] σ _
      refine WS.run (C := []) (pc' := 51) (L' := [vR 11 0, vR 12 0]) (S' := [vI (gI σ 11 0 3), vI (gI σ 11 0 2), vR 12 0, vI r4]) (σ' := σ) 5 rfl trivial ?_
      refine WS.callV M_Line_side (k := 12) (i := 0) (as := [vI (gI σ 11 0 2), vI (gI σ 11 0 3)]) (rest := [vI r4]) rfl lk_3_36 rfl rfl rfl (Nat.le_of_ble_eq_true rfl) ?_
      refine c_side (Or.inr (Or.inl rfl)) hb12 hb11.2.2.1 hb11.2.2.2 (fun r5 e5 => ?_)
      show WS _ M_Line_cuts 54 [vR 11 0, vR 12 0] [vI r5, vI r4] σ _
      refine WS.callS M_Line_areOpposite (as := [vI r4, vI r5]) (rest := []) rfl lk_3_43 rfl rfl (Nat.le_of_ble_eq_true rfl) ?_
      refine c_areOpposite  (fun q6 => ?_) (fun q6 => ?_)
      · show WS _ M_Line_cuts 57 [vR 11 0, vR 12 0] [vI (1 : Int32)] σ _
        refine WS.br (P := (1 : Int32) = 0) (a := 64) (b := 60) (S' := []) rfl (fun cc => absurd cc (by decide)) (fun _ => ?_)
        refine WS.run (C := []) (pc' := 65) (L' := [vR 11 0, vR 12 0]) (S' := [vI (1 : Int32)]) (σ' := σ) 2 rfl trivial ?_
        exact WS.ret rfl rfl (by decide) rfl (h1 ⟨by rw [e1, e2] at q3; exact q3, by rw [e4, e5] at q6; exact q6⟩)
      · show WS _ M_Line_cuts 57 [vR 11 0, vR 12 0] [vI (0 : Int32)] σ _
        refine WS.br (P := (0 : Int32) = 0) (a := 64) (b := 60) (S' := []) rfl (fun _ => ?_) (fun cc => absurd (by decide) cc)
        refine WS.run (C := []) (pc' := 65) (L' := [vR 11 0, vR 12 0]) (S' := [vI (0 : Int32)]) (σ' := σ) 1 rfl trivial ?_
        exact WS.ret rfl rfl (by decide) rfl (h0 (fun z => by rw [e4, e5] at q6; exact q6 z.2))
    · show WS _ M_Line_cuts 27 [vR 11 0, vR 12 0] [vI (0 : Int32)] σ _
      refine WS.br (P := (0 : Int32) = 0) (a := 64) (b := 30) (S' := []) rfl (fun _ => ?_) (fun cc => absurd (by decide) cc)
      refine WS.run (C := []) (pc' := 65) (L' := [vR 11 0, vR 12 0]) (S' := [vI (0 : Int32)]) (σ' := σ) 1 rfl trivial ?_
      exact WS.ret rfl rfl (by decide) rfl (h0 (fun z => by rw [e1, e2] at q3; exact q3 z.1))
  · have hb12 := hb
    have hb11 := hb2
    refine MM.of ok_Line_cuts rfl ?_
    show WS _ M_Line_cuts 0 [vR 12 0, vR 11 0] [] σ _
    refine WS.run (C := []) (pc' := 9) (L' := [vR 12 0, vR 11 0]) (S' := [vI (gI σ 11 0 1), vI (gI σ 11 0 0), vR 12 0]) (σ' := σ) 5 rfl trivial ?_
    refine WS.callV M_Line_side (k := 12) (i := 0) (as := [vI (gI σ 11 0 0), vI (gI σ 11 0 1)]) (rest := []) rfl lk_3_36 rfl rfl rfl (Nat.le_of_ble_eq_true rfl) ?_
    refine c_side (Or.inr (Or.inl rfl)) hb12 hb11.1 hb11.2.1 (fun r1 e1 => ?_)
    show WS _ M_Line_cuts 12 [vR 12 0, vR 11 0] [vI r1] σ _
    refine WS.run (C := []) (pc' := 21) (L' := [vR 12 0, vR 11 0]) (S' := [vI (gI σ 11 0 3), vI (gI σ 11 0 2), vR 12 0, vI r1]) (σ' := σ) 5 rfl trivial ?_
    refine WS.callV M_Line_side (k := 12) (i := 0) (as := [vI (gI σ 11 0 2), vI (gI σ 11 0 3)]) (rest := [vI r1]) rfl lk_3_36 rfl rfl rfl (Nat.le_of_ble_eq_true rfl) ?_
    refine c_side (Or.inr (Or.inl rfl)) hb12 hb11.2.2.1 hb11.2.2.2 (fun r2 e2 => ?_)
    show WS _ M_Line_cuts 24 [vR 12 0, vR 11 0] [vI r2, vI r1] σ _
    refine WS.callS M_Line_areOpposite (as := [vI r1, vI r2]) (rest := []) rfl lk_3_43 rfl rfl (Nat.le_of_ble_eq_true rfl) ?_
    refine c_areOpposite  (fun q3 => ?_) (fun q3 => ?_)
    · show WS _ M_Line_cuts 27 [vR 12 0, vR 11 0] [vI (1 : Int32)] σ _
      refine WS.br (P := (1 : Int32) = 0) (a := 64) (b := 30) (S' := []) rfl (fun cc => absurd cc (by decide)) (fun _ => ?_)
      refine WS.run (C := []) (pc' := 39) (L' := [vR 12 0, vR 11 0]) (S' := [vI (gI σ 12 0 1), vI (gI σ 12 0 0), vR 11 0]) (σ' := σ) 5 rfl trivial ?_
      refine WS.callV M_Line_side (k := 11) (i := 0) (as := [vI (gI σ 12 0 0), vI (gI σ 12 0 1)]) (rest := []) rfl lk_3_36 rfl rfl rfl (Nat.le_of_ble_eq_true rfl) ?_
      refine c_side (Or.inl rfl) hb11 hb12.1 hb12.2.1 (fun r4 e4 => ?_)
      show WS _ M_Line_cuts 42 [vR 12 0, vR 11 0] [vI r4] σ _
      refine WS.run (C := []) (pc' := 51) (L' := [vR 12 0, vR 11 0]) (S' := [vI (gI σ 12 0 3), vI (gI σ 12 0 2), vR 11 0, vI r4]) (σ' := σ) 5 rfl trivial ?_
      refine WS.callV M_Line_side (k := 11) (i := 0) (as := [vI (gI σ 12 0 2), vI (gI σ 12 0 3)]) (rest := [vI r4]) rfl lk_3_36 rfl rfl rfl (Nat.le_of_ble_eq_true rfl) ?_
      refine c_side (Or.inl rfl) hb11 hb12.2.2.1 hb12.2.2.2 (fun r5 e5 => ?_)
      show WS _ M_Line_cuts 54 [vR 12 0, vR 11 0] [vI r5, vI r4] σ _
      refine WS.callS M_Line_areOpposite (as := [vI r4, vI r5]) (rest := []) rfl lk_3_43 rfl rfl (Nat.le_of_ble_eq_true rfl) ?_
      refine c_areOpposite  (fun q6 => ?_) (fun q6 => ?_)
      · show WS _ M_Line_cuts 57 [vR 12 0, vR 11 0] [vI (1 : Int32)] σ _
        refine WS.br (P := (1 : Int32) = 0) (a := 64) (b := 60) (S' := []) rfl (fun cc => absurd cc (by decide)) (fun _ => ?_)
        refine WS.run (C := []) (pc' := 65) (L' := [vR 12 0, vR 11 0]) (S' := [vI (1 : Int32)]) (σ' := σ) 2 rfl trivial ?_
        exact WS.ret rfl rfl (by decide) rfl (h1 ⟨by rw [e1, e2] at q3; exact q3, by rw [e4, e5] at q6; exact q6⟩)
      · show WS _ M_Line_cuts 57 [vR 12 0, vR 11 0] [vI (0 : Int32)] σ _
        refine WS.br (P := (0 : Int32) = 0) (a := 64) (b := 60) (S' := []) rfl (fun _ => ?_) (fun cc => absurd (by decide) cc)
        refine WS.run (C := []) (pc' := 65) (L' := [vR 12 0, vR 11 0]) (S' := [vI (0 : Int32)]) (σ' := σ) 1 rfl trivial ?_
        exact WS.ret rfl rfl (by decide) rfl (h0 (fun z => by rw [e4, e5] at q6; exact q6 z.2))
    · show WS _ M_Line_cuts 27 [vR 12 0, vR 11 0] [vI (0 : Int32)] σ _
      refine WS.br (P := (0 : Int32) = 0) (a := 64) (b := 30) (S' := []) rfl (fun _ => ?_) (fun cc => absurd (by decide) cc)
      refine WS.run (C := []) (pc' := 65) (L' := [vR 12 0, vR 11 0]) (S' := [vI (0 : Int32)]) (σ' := σ) 1 rfl trivial ?_
      exact WS.ret rfl rfl (by decide) rfl (h0 (fun z => by rw [e1, e2] at q3; exact q3 z.1))
theorem sq64 {t : Int32} (ht : 0 ≤ t.toInt ∧ t.toInt ≤ 100) : (t.toInt64 * t.toInt64).toInt = t.toInt * t.toInt ∧ 0 ≤ t.toInt * t.toInt ∧ t.toInt * t.toInt ≤ 10000 := by
  have h := mul_bd (a := t.toInt) (b := t.toInt) (A := 100) (B := 100) (by omega) (by omega) (by omega) (by omega) (by omega) (by omega)
  have h2 := sq_nn t.toInt
  refine ⟨?_, h2, by omega⟩
  rw [j_mul, j_of] <;> rw [j_of] <;> omega
theorem cm_1 {l : Ln} {x y : Int} {r1 r9 t : Int32} (ht : 0 ≤ t.toInt ∧ t.toInt ≤ 100) (e1 : r1.toInt = alL l x y) (c : ¬ 0 < r1) (e9 : r9.toInt = dd x y l.1 l.2.1) : r9.toInt64.toInt - (t.toInt64 * t.toInt64).toInt = cmL l x y t.toInt := by
  rw [t_lt, t_0, e1] at c
  unfold cmL cmS
  rw [if_pos (by unfold alL at c; omega), j_of, (sq64 ht).1, e9]
theorem cm_2 {l : Ln} {x y : Int} {r1 r2 r7 t : Int32} (ht : 0 ≤ t.toInt ∧ t.toInt ≤ 100) (e1 : r1.toInt = alL l x y) (e2 : r2.toInt = alL l l.2.2.1 l.2.2.2) (c : 0 < r1) (c2 : ¬ r1 < r2) (e7 : r7.toInt = dd x y l.2.2.1 l.2.2.2) : r7.toInt64.toInt - (t.toInt64 * t.toInt64).toInt = cmL l x y t.toInt := by
  rw [t_lt, t_0, e1] at c
  rw [t_lt, e1, e2] at c2
  unfold alL at c c2
  unfold cmL cmS
  rw [if_neg (by omega), if_pos (by omega), j_of, (sq64 ht).1, e7]
theorem cm_3 {l : Ln} {x y : Int} {r1 r2 r5 t : Int32} (hb : lnB l) (hx : co x) (hy : co y) (ht : 0 ≤ t.toInt ∧ t.toInt ≤ 100) (e1 : r1.toInt = alL l x y) (e2 : r2.toInt = alL l l.2.2.1 l.2.2.2) (c : 0 < r1) (c2 : r1 < r2) (e5 : r5.toInt = sdL l x y) : (r5.toInt64 * r5.toInt64).toInt - ((t.toInt64 * t.toInt64) * r2.toInt64).toInt = cmL l x y t.toInt := by
  rw [t_lt, t_0, e1] at c
  rw [t_lt, e1, e2] at c2
  have b1 := sd_bd hb.1 hb.2.1 hb.2.2.1 hb.2.2.2 hx hy
  have b2 := al_bd hb.1 hb.2.1 hb.2.2.1 hb.2.2.2 hb.2.2.1 hb.2.2.2
  have q := sq64 ht
  have m1 := mul_bd (a := r5.toInt) (b := r5.toInt) (A := 320000) (B := 320000) (by rw [e5]; exact b1.1) (by rw [e5]; exact b1.2) (by rw [e5]; exact b1.1) (by rw [e5]; exact b1.2) (by omega) (by omega)
  have m2 := mul_bd (a := t.toInt * t.toInt) (b := r2.toInt) (A := 10000) (B := 320000) (by omega) (by omega) (by rw [e2]; exact b2.1) (by rw [e2]; exact b2.2) (by omega) (by omega)
  have k1 : (r5.toInt64 * r5.toInt64).toInt = r5.toInt * r5.toInt := by rw [j_mul, j_of] <;> rw [j_of] <;> omega
  have k2 : ((t.toInt64 * t.toInt64) * r2.toInt64).toInt = t.toInt * t.toInt * r2.toInt := by rw [j_mul, q.1, j_of] <;> rw [q.1, j_of] <;> omega
  unfold alL at c c2
  unfold cmL cmS
  rw [if_neg (by omega), if_neg (by omega), k1, k2, e5, e2]
  rfl
theorem t_max (x y : Int32) : (if x < y then y else x).toInt = max x.toInt y.toInt := by
  by_cases h : x < y
  · rw [if_pos h]; rw [t_lt] at h; omega
  · rw [if_neg h]; rw [t_lt] at h; omega
theorem t_min (x y : Int32) : (if y < x then y else x).toInt = min x.toInt y.toInt := by
  by_cases h : y < x
  · rw [if_pos h]; rw [t_lt] at h; omega
  · rw [if_neg h]; rw [t_lt] at h; omega
theorem WS.mmaxT {d : Nat} {M : MI} {pc idx : Nat} {L rest : List AV} {σ : Mem} {Post : Option AV → Mem → Prop} {x y : Int32} (hf : fet M.tab pc = some (.invokestatic idx, 3)) (hlk : Cond.methodLink (cn M.own) idx Lib.Math.max.name ∈ TT) (hw : (rest.map avc).sum ≤ 8) (hk : ∀ r : Int32, r.toInt = max x.toInt y.toInt → WS (d + 1) M (pc + 3) L (vI r :: rest) σ Post) : WS (d + 1) M pc L (vI y :: vI x :: rest) σ Post := WS.mmax hf hlk hw (hk _ (t_max x y))
theorem WS.mminT {d : Nat} {M : MI} {pc idx : Nat} {L rest : List AV} {σ : Mem} {Post : Option AV → Mem → Prop} {x y : Int32} (hf : fet M.tab pc = some (.invokestatic idx, 3)) (hlk : Cond.methodLink (cn M.own) idx Lib.Math.min.name ∈ TT) (hw : (rest.map avc).sum ≤ 8) (hk : ∀ r : Int32, r.toInt = min x.toInt y.toInt → WS (d + 1) M (pc + 3) L (vI r :: rest) σ Post) : WS (d + 1) M pc L (vI y :: vI x :: rest) σ Post := WS.mmin hf hlk hw (hk _ (t_min x y))
theorem sg_p {r : Int32} {z : Int} (e : r.toInt = z.sign) (c : r < 0) : z < 0 := sgn_lt.mp (by rw [t_lt, t_0] at c; omega)
theorem sg_n {r : Int32} {z : Int} (e : r.toInt = z.sign) (c : ¬ r < 0) : ¬ z < 0 := fun q => c (by rw [t_lt, t_0]; have := sgn_lt.mpr q; omega)
theorem sg_p2 {r : Int32} {z : Int} (e : r.toInt = z.sign) (c : ¬ 0 ≤ r) : z < 0 := sg_p e (by rw [t_lt, t_0]; rw [t_le, t_0] at c; omega)
theorem sg_n2 {r : Int32} {z : Int} (e : r.toInt = z.sign) (c : 0 ≤ r) : ¬ z < 0 := sg_n e (by rw [t_lt, t_0]; rw [t_le, t_0] at c; omega)
set_option maxRecDepth 4000 in
set_option maxHeartbeats 400000 in
theorem c_compareMiss {d : Nat} {σ : Mem} {Post : Option AV → Mem → Prop} {t : Int32} {x y : Int32} (hx : co x.toInt) (hy : co y.toInt) {k : Nat} (hk : isLn k) (hb : lnB (lnC σ k)) (ht : 0 ≤ t.toInt ∧ t.toInt ≤ 100) (h : ∀ r : Int32, r.toInt = (cmL (lnC σ k) x.toInt y.toInt t.toInt).sign → Post (some (vI r)) σ) : MM (d + 1) M_Line_compareMiss [vR k 0, vI x, vI y, vI t] σ Post := by
  rcases hk with rfl | rfl | rfl
  · have hb11 := hb
    refine MM.of ok_Line_compareMiss rfl ?_
    show WS _ M_Line_compareMiss 0 [vR 11 0, vI x, vI y, vI t, vU, vU, vU, vU, vU, vU] [] σ _
    refine WS.run (C := []) (pc' := 10) (L' := [vR 11 0, vI x, vI y, vI t, vJ (t.toInt64 * t.toInt64), vU, vU, vU, vU, vU]) (S' := [vI y, vI x, vR 11 0]) (σ' := σ) 9 rfl trivial ?_
    refine WS.callV M_Line_along (k := 11) (i := 0) (as := [vI x, vI y]) (rest := []) rfl lk_3_22 rfl rfl rfl (Nat.le_of_ble_eq_true rfl) ?_
    refine c_along (Or.inl rfl) hb11 hx hy (fun r1 e1 => ?_)
    show WS _ M_Line_compareMiss 13 [vR 11 0, vI x, vI y, vI t, vJ (t.toInt64 * t.toInt64), vU, vU, vU, vU, vU] [vI r1] σ _
    refine WS.run (C := []) (pc' := 24) (L' := [vR 11 0, vI x, vI y, vI t, vJ (t.toInt64 * t.toInt64), vU, vI r1, vU, vU, vU]) (S' := [vI (gI σ 11 0 3), vI (gI σ 11 0 2), vR 11 0]) (σ' := σ) 6 rfl trivial ?_
    refine WS.callV M_Line_along (k := 11) (i := 0) (as := [vI (gI σ 11 0 2), vI (gI σ 11 0 3)]) (rest := []) rfl lk_3_22 rfl rfl rfl (Nat.le_of_ble_eq_true rfl) ?_
    refine c_along (Or.inl rfl) hb11 hb11.2.2.1 hb11.2.2.2 (fun r2 e2 => ?_)
    show WS _ M_Line_compareMiss 27 [vR 11 0, vI x, vI y, vI t, vJ (t.toInt64 * t.toInt64), vU, vI r1, vU, vU, vU] [vI r2] σ _
    refine WS.run (C := []) (pc' := 31) (L' := [vR 11 0, vI x, vI y, vI t, vJ (t.toInt64 * t.toInt64), vU, vI r1, vI r2, vU, vU]) (S' := [vI r1]) (σ' := σ) 2 rfl trivial ?_
    refine WS.br (P := 0 < r1) (a := 54) (b := 34) (S' := []) rfl (fun c3 => ?_) (fun c3 => ?_)
    · refine WS.run (C := []) (pc' := 58) (L' := [vR 11 0, vI x, vI y, vI t, vJ (t.toInt64 * t.toInt64), vU, vI r1, vI r2, vU, vU]) (S' := [vI r2, vI r1]) (σ' := σ) 2 rfl trivial ?_
      refine WS.br (P := r1 < r2) (a := 81) (b := 61) (S' := []) rfl (fun c4 => ?_) (fun c4 => ?_)
      · refine WS.run (C := []) (pc' := 84) (L' := [vR 11 0, vI x, vI y, vI t, vJ (t.toInt64 * t.toInt64), vU, vI r1, vI r2, vU, vU]) (S' := [vI y, vI x, vR 11 0]) (σ' := σ) 3 rfl trivial ?_
        refine WS.callV M_Line_side (k := 11) (i := 0) (as := [vI x, vI y]) (rest := []) rfl lk_3_36 rfl rfl rfl (Nat.le_of_ble_eq_true rfl) ?_
        refine c_side (Or.inl rfl) hb11 hx hy (fun r5 e5 => ?_)
        show WS _ M_Line_compareMiss 87 [vR 11 0, vI x, vI y, vI t, vJ (t.toInt64 * t.toInt64), vU, vI r1, vI r2, vU, vU] [vI r5] σ _
        refine WS.run (C := []) (pc' := 101) (L' := [vR 11 0, vI x, vI y, vI t, vJ (t.toInt64 * t.toInt64), vU, vI r1, vI r2, vJ r5.toInt64, vU]) (S' := [vJ ((t.toInt64 * t.toInt64) * r2.toInt64), vJ (r5.toInt64 * r5.toInt64)]) (σ' := σ) 9 rfl trivial ?_
        refine WS.callS M_JLong_compare (as := [vJ (r5.toInt64 * r5.toInt64), vJ ((t.toInt64 * t.toInt64) * r2.toInt64)]) (rest := []) rfl lk_3_30 rfl rfl (Nat.le_of_ble_eq_true rfl) ?_
        refine c_Jcompare  (fun r6 e6 => ?_)
        show WS _ M_Line_compareMiss 104 [vR 11 0, vI x, vI y, vI t, vJ (t.toInt64 * t.toInt64), vU, vI r1, vI r2, vJ r5.toInt64, vU] [vI r6] σ _
        exact WS.ret rfl rfl (by decide) rfl (h _ (by rw [e6, cm_3 hb hx hy ht e1 e2 c3 c4 e5]))
      · refine WS.run (C := []) (pc' := 71) (L' := [vR 11 0, vI x, vI y, vI t, vJ (t.toInt64 * t.toInt64), vU, vI r1, vI r2, vU, vU]) (S' := [vI (gI σ 11 0 3), vI (gI σ 11 0 2), vI y, vI x]) (σ' := σ) 6 rfl trivial ?_
        refine WS.callS M_Line_squareBetween (as := [vI x, vI y, vI (gI σ 11 0 2), vI (gI σ 11 0 3)]) (rest := []) rfl lk_3_26 rfl rfl (Nat.le_of_ble_eq_true rfl) ?_
        refine c_squareBetween hx hy hb11.2.2.1 hb11.2.2.2 (fun r7 e7 => ?_)
        show WS _ M_Line_compareMiss 74 [vR 11 0, vI x, vI y, vI t, vJ (t.toInt64 * t.toInt64), vU, vI r1, vI r2, vU, vU] [vI r7] σ _
        refine WS.run (C := []) (pc' := 77) (L' := [vR 11 0, vI x, vI y, vI t, vJ (t.toInt64 * t.toInt64), vU, vI r1, vI r2, vU, vU]) (S' := [vJ (t.toInt64 * t.toInt64), vJ r7.toInt64]) (σ' := σ) 2 rfl trivial ?_
        refine WS.callS M_JLong_compare (as := [vJ r7.toInt64, vJ (t.toInt64 * t.toInt64)]) (rest := []) rfl lk_3_30 rfl rfl (Nat.le_of_ble_eq_true rfl) ?_
        refine c_Jcompare  (fun r8 e8 => ?_)
        show WS _ M_Line_compareMiss 80 [vR 11 0, vI x, vI y, vI t, vJ (t.toInt64 * t.toInt64), vU, vI r1, vI r2, vU, vU] [vI r8] σ _
        exact WS.ret rfl rfl (by decide) rfl (h _ (by rw [e8, cm_2 ht e1 e2 c3 c4 e7]))
    · refine WS.run (C := []) (pc' := 44) (L' := [vR 11 0, vI x, vI y, vI t, vJ (t.toInt64 * t.toInt64), vU, vI r1, vI r2, vU, vU]) (S' := [vI (gI σ 11 0 1), vI (gI σ 11 0 0), vI y, vI x]) (σ' := σ) 6 rfl trivial ?_
      refine WS.callS M_Line_squareBetween (as := [vI x, vI y, vI (gI σ 11 0 0), vI (gI σ 11 0 1)]) (rest := []) rfl lk_3_26 rfl rfl (Nat.le_of_ble_eq_true rfl) ?_
      refine c_squareBetween hx hy hb11.1 hb11.2.1 (fun r9 e9 => ?_)
      show WS _ M_Line_compareMiss 47 [vR 11 0, vI x, vI y, vI t, vJ (t.toInt64 * t.toInt64), vU, vI r1, vI r2, vU, vU] [vI r9] σ _
      refine WS.run (C := []) (pc' := 50) (L' := [vR 11 0, vI x, vI y, vI t, vJ (t.toInt64 * t.toInt64), vU, vI r1, vI r2, vU, vU]) (S' := [vJ (t.toInt64 * t.toInt64), vJ r9.toInt64]) (σ' := σ) 2 rfl trivial ?_
      refine WS.callS M_JLong_compare (as := [vJ r9.toInt64, vJ (t.toInt64 * t.toInt64)]) (rest := []) rfl lk_3_30 rfl rfl (Nat.le_of_ble_eq_true rfl) ?_
      refine c_Jcompare  (fun r10 e10 => ?_)
      show WS _ M_Line_compareMiss 53 [vR 11 0, vI x, vI y, vI t, vJ (t.toInt64 * t.toInt64), vU, vI r1, vI r2, vU, vU] [vI r10] σ _
      exact WS.ret rfl rfl (by decide) rfl (h _ (by rw [e10, cm_1 ht e1 c3 e9]))
  · have hb12 := hb
    refine MM.of ok_Line_compareMiss rfl ?_
    show WS _ M_Line_compareMiss 0 [vR 12 0, vI x, vI y, vI t, vU, vU, vU, vU, vU, vU] [] σ _
    refine WS.run (C := []) (pc' := 10) (L' := [vR 12 0, vI x, vI y, vI t, vJ (t.toInt64 * t.toInt64), vU, vU, vU, vU, vU]) (S' := [vI y, vI x, vR 12 0]) (σ' := σ) 9 rfl trivial ?_
    refine WS.callV M_Line_along (k := 12) (i := 0) (as := [vI x, vI y]) (rest := []) rfl lk_3_22 rfl rfl rfl (Nat.le_of_ble_eq_true rfl) ?_
    refine c_along (Or.inr (Or.inl rfl)) hb12 hx hy (fun r1 e1 => ?_)
    show WS _ M_Line_compareMiss 13 [vR 12 0, vI x, vI y, vI t, vJ (t.toInt64 * t.toInt64), vU, vU, vU, vU, vU] [vI r1] σ _
    refine WS.run (C := []) (pc' := 24) (L' := [vR 12 0, vI x, vI y, vI t, vJ (t.toInt64 * t.toInt64), vU, vI r1, vU, vU, vU]) (S' := [vI (gI σ 12 0 3), vI (gI σ 12 0 2), vR 12 0]) (σ' := σ) 6 rfl trivial ?_
    refine WS.callV M_Line_along (k := 12) (i := 0) (as := [vI (gI σ 12 0 2), vI (gI σ 12 0 3)]) (rest := []) rfl lk_3_22 rfl rfl rfl (Nat.le_of_ble_eq_true rfl) ?_
    refine c_along (Or.inr (Or.inl rfl)) hb12 hb12.2.2.1 hb12.2.2.2 (fun r2 e2 => ?_)
    show WS _ M_Line_compareMiss 27 [vR 12 0, vI x, vI y, vI t, vJ (t.toInt64 * t.toInt64), vU, vI r1, vU, vU, vU] [vI r2] σ _
    refine WS.run (C := []) (pc' := 31) (L' := [vR 12 0, vI x, vI y, vI t, vJ (t.toInt64 * t.toInt64), vU, vI r1, vI r2, vU, vU]) (S' := [vI r1]) (σ' := σ) 2 rfl trivial ?_
    refine WS.br (P := 0 < r1) (a := 54) (b := 34) (S' := []) rfl (fun c3 => ?_) (fun c3 => ?_)
    · refine WS.run (C := []) (pc' := 58) (L' := [vR 12 0, vI x, vI y, vI t, vJ (t.toInt64 * t.toInt64), vU, vI r1, vI r2, vU, vU]) (S' := [vI r2, vI r1]) (σ' := σ) 2 rfl trivial ?_
      refine WS.br (P := r1 < r2) (a := 81) (b := 61) (S' := []) rfl (fun c4 => ?_) (fun c4 => ?_)
      · refine WS.run (C := []) (pc' := 84) (L' := [vR 12 0, vI x, vI y, vI t, vJ (t.toInt64 * t.toInt64), vU, vI r1, vI r2, vU, vU]) (S' := [vI y, vI x, vR 12 0]) (σ' := σ) 3 rfl trivial ?_
        refine WS.callV M_Line_side (k := 12) (i := 0) (as := [vI x, vI y]) (rest := []) rfl lk_3_36 rfl rfl rfl (Nat.le_of_ble_eq_true rfl) ?_
        refine c_side (Or.inr (Or.inl rfl)) hb12 hx hy (fun r5 e5 => ?_)
        show WS _ M_Line_compareMiss 87 [vR 12 0, vI x, vI y, vI t, vJ (t.toInt64 * t.toInt64), vU, vI r1, vI r2, vU, vU] [vI r5] σ _
        refine WS.run (C := []) (pc' := 101) (L' := [vR 12 0, vI x, vI y, vI t, vJ (t.toInt64 * t.toInt64), vU, vI r1, vI r2, vJ r5.toInt64, vU]) (S' := [vJ ((t.toInt64 * t.toInt64) * r2.toInt64), vJ (r5.toInt64 * r5.toInt64)]) (σ' := σ) 9 rfl trivial ?_
        refine WS.callS M_JLong_compare (as := [vJ (r5.toInt64 * r5.toInt64), vJ ((t.toInt64 * t.toInt64) * r2.toInt64)]) (rest := []) rfl lk_3_30 rfl rfl (Nat.le_of_ble_eq_true rfl) ?_
        refine c_Jcompare  (fun r6 e6 => ?_)
        show WS _ M_Line_compareMiss 104 [vR 12 0, vI x, vI y, vI t, vJ (t.toInt64 * t.toInt64), vU, vI r1, vI r2, vJ r5.toInt64, vU] [vI r6] σ _
        exact WS.ret rfl rfl (by decide) rfl (h _ (by rw [e6, cm_3 hb hx hy ht e1 e2 c3 c4 e5]))
      · refine WS.run (C := []) (pc' := 71) (L' := [vR 12 0, vI x, vI y, vI t, vJ (t.toInt64 * t.toInt64), vU, vI r1, vI r2, vU, vU]) (S' := [vI (gI σ 12 0 3), vI (gI σ 12 0 2), vI y, vI x]) (σ' := σ) 6 rfl trivial ?_
        refine WS.callS M_Line_squareBetween (as := [vI x, vI y, vI (gI σ 12 0 2), vI (gI σ 12 0 3)]) (rest := []) rfl lk_3_26 rfl rfl (Nat.le_of_ble_eq_true rfl) ?_
        refine c_squareBetween hx hy hb12.2.2.1 hb12.2.2.2 (fun r7 e7 => ?_)
        show WS _ M_Line_compareMiss 74 [vR 12 0, vI x, vI y, vI t, vJ (t.toInt64 * t.toInt64), vU, vI r1, vI r2, vU, vU] [vI r7] σ _
        refine WS.run (C := []) (pc' := 77) (L' := [vR 12 0, vI x, vI y, vI t, vJ (t.toInt64 * t.toInt64), vU, vI r1, vI r2, vU, vU]) (S' := [vJ (t.toInt64 * t.toInt64), vJ r7.toInt64]) (σ' := σ) 2 rfl trivial ?_
        refine WS.callS M_JLong_compare (as := [vJ r7.toInt64, vJ (t.toInt64 * t.toInt64)]) (rest := []) rfl lk_3_30 rfl rfl (Nat.le_of_ble_eq_true rfl) ?_
        refine c_Jcompare  (fun r8 e8 => ?_)
        show WS _ M_Line_compareMiss 80 [vR 12 0, vI x, vI y, vI t, vJ (t.toInt64 * t.toInt64), vU, vI r1, vI r2, vU, vU] [vI r8] σ _
        exact WS.ret rfl rfl (by decide) rfl (h _ (by rw [e8, cm_2 ht e1 e2 c3 c4 e7]))
    · refine WS.run (C := []) (pc' := 44) (L' := [vR 12 0, vI x, vI y, vI t, vJ (t.toInt64 * t.toInt64), vU, vI r1, vI r2, vU, vU]) (S' := [vI (gI σ 12 0 1), vI (gI σ 12 0 0), vI y, vI x]) (σ' := σ) 6 rfl trivial ?_
      refine WS.callS M_Line_squareBetween (as := [vI x, vI y, vI (gI σ 12 0 0), vI (gI σ 12 0 1)]) (rest := []) rfl lk_3_26 rfl rfl (Nat.le_of_ble_eq_true rfl) ?_
      refine c_squareBetween hx hy hb12.1 hb12.2.1 (fun r9 e9 => ?_)
      show WS _ M_Line_compareMiss 47 [vR 12 0, vI x, vI y, vI t, vJ (t.toInt64 * t.toInt64), vU, vI r1, vI r2, vU, vU] [vI r9] σ _
      refine WS.run (C := []) (pc' := 50) (L' := [vR 12 0, vI x, vI y, vI t, vJ (t.toInt64 * t.toInt64), vU, vI r1, vI r2, vU, vU]) (S' := [vJ (t.toInt64 * t.toInt64), vJ r9.toInt64]) (σ' := σ) 2 rfl trivial ?_
      refine WS.callS M_JLong_compare (as := [vJ r9.toInt64, vJ (t.toInt64 * t.toInt64)]) (rest := []) rfl lk_3_30 rfl rfl (Nat.le_of_ble_eq_true rfl) ?_
      refine c_Jcompare  (fun r10 e10 => ?_)
      show WS _ M_Line_compareMiss 53 [vR 12 0, vI x, vI y, vI t, vJ (t.toInt64 * t.toInt64), vU, vI r1, vI r2, vU, vU] [vI r10] σ _
      exact WS.ret rfl rfl (by decide) rfl (h _ (by rw [e10, cm_1 ht e1 c3 e9]))
  · have hb40 := hb
    refine MM.of ok_Line_compareMiss rfl ?_
    show WS _ M_Line_compareMiss 0 [vR 40 0, vI x, vI y, vI t, vU, vU, vU, vU, vU, vU] [] σ _
    refine WS.run (C := []) (pc' := 10) (L' := [vR 40 0, vI x, vI y, vI t, vJ (t.toInt64 * t.toInt64), vU, vU, vU, vU, vU]) (S' := [vI y, vI x, vR 40 0]) (σ' := σ) 9 rfl trivial ?_
    refine WS.callV M_Line_along (k := 40) (i := 0) (as := [vI x, vI y]) (rest := []) rfl lk_3_22 rfl rfl rfl (Nat.le_of_ble_eq_true rfl) ?_
    refine c_along (Or.inr (Or.inr rfl)) hb40 hx hy (fun r1 e1 => ?_)
    show WS _ M_Line_compareMiss 13 [vR 40 0, vI x, vI y, vI t, vJ (t.toInt64 * t.toInt64), vU, vU, vU, vU, vU] [vI r1] σ _
    refine WS.run (C := []) (pc' := 24) (L' := [vR 40 0, vI x, vI y, vI t, vJ (t.toInt64 * t.toInt64), vU, vI r1, vU, vU, vU]) (S' := [vI (gI σ 40 0 3), vI (gI σ 40 0 2), vR 40 0]) (σ' := σ) 6 rfl trivial ?_
    refine WS.callV M_Line_along (k := 40) (i := 0) (as := [vI (gI σ 40 0 2), vI (gI σ 40 0 3)]) (rest := []) rfl lk_3_22 rfl rfl rfl (Nat.le_of_ble_eq_true rfl) ?_
    refine c_along (Or.inr (Or.inr rfl)) hb40 hb40.2.2.1 hb40.2.2.2 (fun r2 e2 => ?_)
    show WS _ M_Line_compareMiss 27 [vR 40 0, vI x, vI y, vI t, vJ (t.toInt64 * t.toInt64), vU, vI r1, vU, vU, vU] [vI r2] σ _
    refine WS.run (C := []) (pc' := 31) (L' := [vR 40 0, vI x, vI y, vI t, vJ (t.toInt64 * t.toInt64), vU, vI r1, vI r2, vU, vU]) (S' := [vI r1]) (σ' := σ) 2 rfl trivial ?_
    refine WS.br (P := 0 < r1) (a := 54) (b := 34) (S' := []) rfl (fun c3 => ?_) (fun c3 => ?_)
    · refine WS.run (C := []) (pc' := 58) (L' := [vR 40 0, vI x, vI y, vI t, vJ (t.toInt64 * t.toInt64), vU, vI r1, vI r2, vU, vU]) (S' := [vI r2, vI r1]) (σ' := σ) 2 rfl trivial ?_
      refine WS.br (P := r1 < r2) (a := 81) (b := 61) (S' := []) rfl (fun c4 => ?_) (fun c4 => ?_)
      · refine WS.run (C := []) (pc' := 84) (L' := [vR 40 0, vI x, vI y, vI t, vJ (t.toInt64 * t.toInt64), vU, vI r1, vI r2, vU, vU]) (S' := [vI y, vI x, vR 40 0]) (σ' := σ) 3 rfl trivial ?_
        refine WS.callV M_Line_side (k := 40) (i := 0) (as := [vI x, vI y]) (rest := []) rfl lk_3_36 rfl rfl rfl (Nat.le_of_ble_eq_true rfl) ?_
        refine c_side (Or.inr (Or.inr rfl)) hb40 hx hy (fun r5 e5 => ?_)
        show WS _ M_Line_compareMiss 87 [vR 40 0, vI x, vI y, vI t, vJ (t.toInt64 * t.toInt64), vU, vI r1, vI r2, vU, vU] [vI r5] σ _
        refine WS.run (C := []) (pc' := 101) (L' := [vR 40 0, vI x, vI y, vI t, vJ (t.toInt64 * t.toInt64), vU, vI r1, vI r2, vJ r5.toInt64, vU]) (S' := [vJ ((t.toInt64 * t.toInt64) * r2.toInt64), vJ (r5.toInt64 * r5.toInt64)]) (σ' := σ) 9 rfl trivial ?_
        refine WS.callS M_JLong_compare (as := [vJ (r5.toInt64 * r5.toInt64), vJ ((t.toInt64 * t.toInt64) * r2.toInt64)]) (rest := []) rfl lk_3_30 rfl rfl (Nat.le_of_ble_eq_true rfl) ?_
        refine c_Jcompare  (fun r6 e6 => ?_)
        show WS _ M_Line_compareMiss 104 [vR 40 0, vI x, vI y, vI t, vJ (t.toInt64 * t.toInt64), vU, vI r1, vI r2, vJ r5.toInt64, vU] [vI r6] σ _
        exact WS.ret rfl rfl (by decide) rfl (h _ (by rw [e6, cm_3 hb hx hy ht e1 e2 c3 c4 e5]))
      · refine WS.run (C := []) (pc' := 71) (L' := [vR 40 0, vI x, vI y, vI t, vJ (t.toInt64 * t.toInt64), vU, vI r1, vI r2, vU, vU]) (S' := [vI (gI σ 40 0 3), vI (gI σ 40 0 2), vI y, vI x]) (σ' := σ) 6 rfl trivial ?_
        refine WS.callS M_Line_squareBetween (as := [vI x, vI y, vI (gI σ 40 0 2), vI (gI σ 40 0 3)]) (rest := []) rfl lk_3_26 rfl rfl (Nat.le_of_ble_eq_true rfl) ?_
        refine c_squareBetween hx hy hb40.2.2.1 hb40.2.2.2 (fun r7 e7 => ?_)
        show WS _ M_Line_compareMiss 74 [vR 40 0, vI x, vI y, vI t, vJ (t.toInt64 * t.toInt64), vU, vI r1, vI r2, vU, vU] [vI r7] σ _
        refine WS.run (C := []) (pc' := 77) (L' := [vR 40 0, vI x, vI y, vI t, vJ (t.toInt64 * t.toInt64), vU, vI r1, vI r2, vU, vU]) (S' := [vJ (t.toInt64 * t.toInt64), vJ r7.toInt64]) (σ' := σ) 2 rfl trivial ?_
        refine WS.callS M_JLong_compare (as := [vJ r7.toInt64, vJ (t.toInt64 * t.toInt64)]) (rest := []) rfl lk_3_30 rfl rfl (Nat.le_of_ble_eq_true rfl) ?_
        refine c_Jcompare  (fun r8 e8 => ?_)
        show WS _ M_Line_compareMiss 80 [vR 40 0, vI x, vI y, vI t, vJ (t.toInt64 * t.toInt64), vU, vI r1, vI r2, vU, vU] [vI r8] σ _
        exact WS.ret rfl rfl (by decide) rfl (h _ (by rw [e8, cm_2 ht e1 e2 c3 c4 e7]))
    · refine WS.run (C := []) (pc' := 44) (L' := [vR 40 0, vI x, vI y, vI t, vJ (t.toInt64 * t.toInt64), vU, vI r1, vI r2, vU, vU]) (S' := [vI (gI σ 40 0 1), vI (gI σ 40 0 0), vI y, vI x]) (σ' := σ) 6 rfl trivial ?_
      refine WS.callS M_Line_squareBetween (as := [vI x, vI y, vI (gI σ 40 0 0), vI (gI σ 40 0 1)]) (rest := []) rfl lk_3_26 rfl rfl (Nat.le_of_ble_eq_true rfl) ?_
      refine c_squareBetween hx hy hb40.1 hb40.2.1 (fun r9 e9 => ?_)
      show WS _ M_Line_compareMiss 47 [vR 40 0, vI x, vI y, vI t, vJ (t.toInt64 * t.toInt64), vU, vI r1, vI r2, vU, vU] [vI r9] σ _
      refine WS.run (C := []) (pc' := 50) (L' := [vR 40 0, vI x, vI y, vI t, vJ (t.toInt64 * t.toInt64), vU, vI r1, vI r2, vU, vU]) (S' := [vJ (t.toInt64 * t.toInt64), vJ r9.toInt64]) (σ' := σ) 2 rfl trivial ?_
      refine WS.callS M_JLong_compare (as := [vJ r9.toInt64, vJ (t.toInt64 * t.toInt64)]) (rest := []) rfl lk_3_30 rfl rfl (Nat.le_of_ble_eq_true rfl) ?_
      refine c_Jcompare  (fun r10 e10 => ?_)
      show WS _ M_Line_compareMiss 53 [vR 40 0, vI x, vI y, vI t, vJ (t.toInt64 * t.toInt64), vU, vI r1, vI r2, vU, vU] [vI r10] σ _
      exact WS.ret rfl rfl (by decide) rfl (h _ (by rw [e10, cm_1 ht e1 c3 e9]))
set_option maxRecDepth 4000 in
set_option maxHeartbeats 400000 in
theorem c_isNearer {d : Nat} {σ : Mem} {Post : Option AV → Mem → Prop} {g : Int32} {k k2 : Nat} (hk : (k = 11 ∧ k2 = 12) ∨ (k = 12 ∧ k2 = 11)) (hb : lnB (lnC σ k)) (hb2 : lnB (lnC σ k2)) (hd2 : 0 ≤ g.toInt ∧ g.toInt ≤ 100) (h1 : nearZ (lnC σ k) (lnC σ k2) g.toInt → Post (some (vI 1)) σ) (h0 : ¬ nearZ (lnC σ k) (lnC σ k2) g.toInt → Post (some (vI 0)) σ) : MM (d + 2) M_Line_isNearer [vR k 0, vR k2 0, vI g] σ Post := by
  rcases hk with ⟨rfl, rfl⟩ | ⟨rfl, rfl⟩
  · have hb11 := hb
    have hb12 := hb2
    refine MM.of ok_Line_isNearer rfl ?_
    show WS _ M_Line_isNearer 0 [vR 11 0, vR 12 0, vI g] [] σ _
    refine WS.run (C := []) (pc' := 1) (L' := [vR 11 0, vR 12 0, vI g]) (S' := [vI g]) (σ' := σ) 1 rfl trivial ?_
    refine WS.br (P := g ≤ 0) (a := 80) (b := 4) (S' := []) rfl (fun c1 => ?_) (fun c1 => ?_)
    · refine WS.run (C := []) (pc' := 81) (L' := [vR 11 0, vR 12 0, vI g]) (S' := [vI (0 : Int32)]) (σ' := σ) 1 rfl trivial ?_
      exact WS.ret rfl rfl (by decide) rfl (h0 (fun z => by simp only [t_le, t_0] at c1; have := z.1; omega))
    · refine WS.run (C := []) (pc' := 6) (L' := [vR 11 0, vR 12 0, vI g]) (S' := [vR 12 0, vR 11 0]) (σ' := σ) 2 rfl trivial ?_
      refine WS.callV M_Line_cuts (k := 11) (i := 0) (as := [vR 12 0]) (rest := []) rfl lk_3_46 rfl rfl rfl (Nat.le_of_ble_eq_true rfl) ?_
      refine c_cuts (Or.inl ⟨rfl, rfl⟩) hb11 hb12 (fun q2 => ?_) (fun q2 => ?_)
      · show WS _ M_Line_isNearer 9 [vR 11 0, vR 12 0, vI g] [vI (1 : Int32)] σ _
        refine WS.br (P := (1 : Int32) = 0) (a := 12) (b := 76) (S' := []) rfl (fun cc => absurd cc (by decide)) (fun _ => ?_)
        refine WS.run (C := []) (pc' := 81) (L' := [vR 11 0, vR 12 0, vI g]) (S' := [vI (1 : Int32)]) (σ' := σ) 2 rfl trivial ?_
        exact WS.ret rfl rfl (by decide) rfl (h1 ⟨(by simp only [t_le, t_0] at c1; omega), Or.inl q2⟩)
      · show WS _ M_Line_isNearer 9 [vR 11 0, vR 12 0, vI g] [vI (0 : Int32)] σ _
        refine WS.br (P := (0 : Int32) = 0) (a := 12) (b := 76) (S' := []) rfl (fun _ => ?_) (fun cc => absurd (by decide) cc)
        refine WS.run (C := []) (pc' := 22) (L' := [vR 11 0, vR 12 0, vI g]) (S' := [vI g, vI (gI σ 12 0 1), vI (gI σ 12 0 0), vR 11 0]) (σ' := σ) 6 rfl trivial ?_
        refine WS.callV M_Line_compareMiss (k := 11) (i := 0) (as := [vI (gI σ 12 0 0), vI (gI σ 12 0 1), vI g]) (rest := []) rfl lk_3_50 rfl rfl rfl (Nat.le_of_ble_eq_true rfl) ?_
        refine c_compareMiss hb12.1 hb12.2.1 (Or.inl rfl) hb11 hd2 (fun r3 e3 => ?_)
        show WS _ M_Line_isNearer 25 [vR 11 0, vR 12 0, vI g] [vI r3] σ _
        refine WS.br (P := r3 < 0) (a := 76) (b := 28) (S' := []) rfl (fun c4 => ?_) (fun c4 => ?_)
        · refine WS.run (C := []) (pc' := 81) (L' := [vR 11 0, vR 12 0, vI g]) (S' := [vI (1 : Int32)]) (σ' := σ) 2 rfl trivial ?_
          exact WS.ret rfl rfl (by decide) rfl (h1 ⟨(by simp only [t_le, t_0] at c1; omega), Or.inr (Or.inl (sg_p e3 c4))⟩)
        · refine WS.run (C := []) (pc' := 38) (L' := [vR 11 0, vR 12 0, vI g]) (S' := [vI g, vI (gI σ 12 0 3), vI (gI σ 12 0 2), vR 11 0]) (σ' := σ) 6 rfl trivial ?_
          refine WS.callV M_Line_compareMiss (k := 11) (i := 0) (as := [vI (gI σ 12 0 2), vI (gI σ 12 0 3), vI g]) (rest := []) rfl lk_3_50 rfl rfl rfl (Nat.le_of_ble_eq_true rfl) ?_
          refine c_compareMiss hb12.2.2.1 hb12.2.2.2 (Or.inl rfl) hb11 hd2 (fun r5 e5 => ?_)
          show WS _ M_Line_isNearer 41 [vR 11 0, vR 12 0, vI g] [vI r5] σ _
          refine WS.br (P := r5 < 0) (a := 76) (b := 44) (S' := []) rfl (fun c6 => ?_) (fun c6 => ?_)
          · refine WS.run (C := []) (pc' := 81) (L' := [vR 11 0, vR 12 0, vI g]) (S' := [vI (1 : Int32)]) (σ' := σ) 2 rfl trivial ?_
            exact WS.ret rfl rfl (by decide) rfl (h1 ⟨(by simp only [t_le, t_0] at c1; omega), Or.inr (Or.inr (Or.inl (sg_p e5 c6)))⟩)
          · refine WS.run (C := []) (pc' := 54) (L' := [vR 11 0, vR 12 0, vI g]) (S' := [vI g, vI (gI σ 11 0 1), vI (gI σ 11 0 0), vR 12 0]) (σ' := σ) 6 rfl trivial ?_
            refine WS.callV M_Line_compareMiss (k := 12) (i := 0) (as := [vI (gI σ 11 0 0), vI (gI σ 11 0 1), vI g]) (rest := []) rfl lk_3_50 rfl rfl rfl (Nat.le_of_ble_eq_true rfl) ?_
            refine c_compareMiss hb11.1 hb11.2.1 (Or.inr (Or.inl rfl)) hb12 hd2 (fun r7 e7 => ?_)
            show WS _ M_Line_isNearer 57 [vR 11 0, vR 12 0, vI g] [vI r7] σ _
            refine WS.br (P := r7 < 0) (a := 76) (b := 60) (S' := []) rfl (fun c8 => ?_) (fun c8 => ?_)
            · refine WS.run (C := []) (pc' := 81) (L' := [vR 11 0, vR 12 0, vI g]) (S' := [vI (1 : Int32)]) (σ' := σ) 2 rfl trivial ?_
              exact WS.ret rfl rfl (by decide) rfl (h1 ⟨(by simp only [t_le, t_0] at c1; omega), Or.inr (Or.inr (Or.inr (Or.inl (sg_p e7 c8))))⟩)
            · refine WS.run (C := []) (pc' := 70) (L' := [vR 11 0, vR 12 0, vI g]) (S' := [vI g, vI (gI σ 11 0 3), vI (gI σ 11 0 2), vR 12 0]) (σ' := σ) 6 rfl trivial ?_
              refine WS.callV M_Line_compareMiss (k := 12) (i := 0) (as := [vI (gI σ 11 0 2), vI (gI σ 11 0 3), vI g]) (rest := []) rfl lk_3_50 rfl rfl rfl (Nat.le_of_ble_eq_true rfl) ?_
              refine c_compareMiss hb11.2.2.1 hb11.2.2.2 (Or.inr (Or.inl rfl)) hb12 hd2 (fun r9 e9 => ?_)
              show WS _ M_Line_isNearer 73 [vR 11 0, vR 12 0, vI g] [vI r9] σ _
              refine WS.br (P := 0 ≤ r9) (a := 80) (b := 76) (S' := []) rfl (fun c10 => ?_) (fun c10 => ?_)
              · refine WS.run (C := []) (pc' := 81) (L' := [vR 11 0, vR 12 0, vI g]) (S' := [vI (0 : Int32)]) (σ' := σ) 1 rfl trivial ?_
                exact WS.ret rfl rfl (by decide) rfl (h0 (fun z => z.2.elim q2 (fun z => z.elim (sg_n e3 c4) (fun z => z.elim (sg_n e5 c6) (fun z => z.elim (sg_n e7 c8) (sg_n2 e9 c10))))))
              · refine WS.run (C := []) (pc' := 81) (L' := [vR 11 0, vR 12 0, vI g]) (S' := [vI (1 : Int32)]) (σ' := σ) 2 rfl trivial ?_
                exact WS.ret rfl rfl (by decide) rfl (h1 ⟨(by simp only [t_le, t_0] at c1; omega), Or.inr (Or.inr (Or.inr (Or.inr (sg_p2 e9 c10))))⟩)
  · have hb12 := hb
    have hb11 := hb2
    refine MM.of ok_Line_isNearer rfl ?_
    show WS _ M_Line_isNearer 0 [vR 12 0, vR 11 0, vI g] [] σ _
    refine WS.run (C := []) (pc' := 1) (L' := [vR 12 0, vR 11 0, vI g]) (S' := [vI g]) (σ' := σ) 1 rfl trivial ?_
    refine WS.br (P := g ≤ 0) (a := 80) (b := 4) (S' := []) rfl (fun c1 => ?_) (fun c1 => ?_)
    · refine WS.run (C := []) (pc' := 81) (L' := [vR 12 0, vR 11 0, vI g]) (S' := [vI (0 : Int32)]) (σ' := σ) 1 rfl trivial ?_
      exact WS.ret rfl rfl (by decide) rfl (h0 (fun z => by simp only [t_le, t_0] at c1; have := z.1; omega))
    · refine WS.run (C := []) (pc' := 6) (L' := [vR 12 0, vR 11 0, vI g]) (S' := [vR 11 0, vR 12 0]) (σ' := σ) 2 rfl trivial ?_
      refine WS.callV M_Line_cuts (k := 12) (i := 0) (as := [vR 11 0]) (rest := []) rfl lk_3_46 rfl rfl rfl (Nat.le_of_ble_eq_true rfl) ?_
      refine c_cuts (Or.inr ⟨rfl, rfl⟩) hb12 hb11 (fun q2 => ?_) (fun q2 => ?_)
      · show WS _ M_Line_isNearer 9 [vR 12 0, vR 11 0, vI g] [vI (1 : Int32)] σ _
        refine WS.br (P := (1 : Int32) = 0) (a := 12) (b := 76) (S' := []) rfl (fun cc => absurd cc (by decide)) (fun _ => ?_)
        refine WS.run (C := []) (pc' := 81) (L' := [vR 12 0, vR 11 0, vI g]) (S' := [vI (1 : Int32)]) (σ' := σ) 2 rfl trivial ?_
        exact WS.ret rfl rfl (by decide) rfl (h1 ⟨(by simp only [t_le, t_0] at c1; omega), Or.inl q2⟩)
      · show WS _ M_Line_isNearer 9 [vR 12 0, vR 11 0, vI g] [vI (0 : Int32)] σ _
        refine WS.br (P := (0 : Int32) = 0) (a := 12) (b := 76) (S' := []) rfl (fun _ => ?_) (fun cc => absurd (by decide) cc)
        refine WS.run (C := []) (pc' := 22) (L' := [vR 12 0, vR 11 0, vI g]) (S' := [vI g, vI (gI σ 11 0 1), vI (gI σ 11 0 0), vR 12 0]) (σ' := σ) 6 rfl trivial ?_
        refine WS.callV M_Line_compareMiss (k := 12) (i := 0) (as := [vI (gI σ 11 0 0), vI (gI σ 11 0 1), vI g]) (rest := []) rfl lk_3_50 rfl rfl rfl (Nat.le_of_ble_eq_true rfl) ?_
        refine c_compareMiss hb11.1 hb11.2.1 (Or.inr (Or.inl rfl)) hb12 hd2 (fun r3 e3 => ?_)
        show WS _ M_Line_isNearer 25 [vR 12 0, vR 11 0, vI g] [vI r3] σ _
        refine WS.br (P := r3 < 0) (a := 76) (b := 28) (S' := []) rfl (fun c4 => ?_) (fun c4 => ?_)
        · refine WS.run (C := []) (pc' := 81) (L' := [vR 12 0, vR 11 0, vI g]) (S' := [vI (1 : Int32)]) (σ' := σ) 2 rfl trivial ?_
          exact WS.ret rfl rfl (by decide) rfl (h1 ⟨(by simp only [t_le, t_0] at c1; omega), Or.inr (Or.inl (sg_p e3 c4))⟩)
        · refine WS.run (C := []) (pc' := 38) (L' := [vR 12 0, vR 11 0, vI g]) (S' := [vI g, vI (gI σ 11 0 3), vI (gI σ 11 0 2), vR 12 0]) (σ' := σ) 6 rfl trivial ?_
          refine WS.callV M_Line_compareMiss (k := 12) (i := 0) (as := [vI (gI σ 11 0 2), vI (gI σ 11 0 3), vI g]) (rest := []) rfl lk_3_50 rfl rfl rfl (Nat.le_of_ble_eq_true rfl) ?_
          refine c_compareMiss hb11.2.2.1 hb11.2.2.2 (Or.inr (Or.inl rfl)) hb12 hd2 (fun r5 e5 => ?_)
          show WS _ M_Line_isNearer 41 [vR 12 0, vR 11 0, vI g] [vI r5] σ _
          refine WS.br (P := r5 < 0) (a := 76) (b := 44) (S' := []) rfl (fun c6 => ?_) (fun c6 => ?_)
          · refine WS.run (C := []) (pc' := 81) (L' := [vR 12 0, vR 11 0, vI g]) (S' := [vI (1 : Int32)]) (σ' := σ) 2 rfl trivial ?_
            exact WS.ret rfl rfl (by decide) rfl (h1 ⟨(by simp only [t_le, t_0] at c1; omega), Or.inr (Or.inr (Or.inl (sg_p e5 c6)))⟩)
          · refine WS.run (C := []) (pc' := 54) (L' := [vR 12 0, vR 11 0, vI g]) (S' := [vI g, vI (gI σ 12 0 1), vI (gI σ 12 0 0), vR 11 0]) (σ' := σ) 6 rfl trivial ?_
            refine WS.callV M_Line_compareMiss (k := 11) (i := 0) (as := [vI (gI σ 12 0 0), vI (gI σ 12 0 1), vI g]) (rest := []) rfl lk_3_50 rfl rfl rfl (Nat.le_of_ble_eq_true rfl) ?_
            refine c_compareMiss hb12.1 hb12.2.1 (Or.inl rfl) hb11 hd2 (fun r7 e7 => ?_)
            show WS _ M_Line_isNearer 57 [vR 12 0, vR 11 0, vI g] [vI r7] σ _
            refine WS.br (P := r7 < 0) (a := 76) (b := 60) (S' := []) rfl (fun c8 => ?_) (fun c8 => ?_)
            · refine WS.run (C := []) (pc' := 81) (L' := [vR 12 0, vR 11 0, vI g]) (S' := [vI (1 : Int32)]) (σ' := σ) 2 rfl trivial ?_
              exact WS.ret rfl rfl (by decide) rfl (h1 ⟨(by simp only [t_le, t_0] at c1; omega), Or.inr (Or.inr (Or.inr (Or.inl (sg_p e7 c8))))⟩)
            · refine WS.run (C := []) (pc' := 70) (L' := [vR 12 0, vR 11 0, vI g]) (S' := [vI g, vI (gI σ 12 0 3), vI (gI σ 12 0 2), vR 11 0]) (σ' := σ) 6 rfl trivial ?_
              refine WS.callV M_Line_compareMiss (k := 11) (i := 0) (as := [vI (gI σ 12 0 2), vI (gI σ 12 0 3), vI g]) (rest := []) rfl lk_3_50 rfl rfl rfl (Nat.le_of_ble_eq_true rfl) ?_
              refine c_compareMiss hb12.2.2.1 hb12.2.2.2 (Or.inl rfl) hb11 hd2 (fun r9 e9 => ?_)
              show WS _ M_Line_isNearer 73 [vR 12 0, vR 11 0, vI g] [vI r9] σ _
              refine WS.br (P := 0 ≤ r9) (a := 80) (b := 76) (S' := []) rfl (fun c10 => ?_) (fun c10 => ?_)
              · refine WS.run (C := []) (pc' := 81) (L' := [vR 12 0, vR 11 0, vI g]) (S' := [vI (0 : Int32)]) (σ' := σ) 1 rfl trivial ?_
                exact WS.ret rfl rfl (by decide) rfl (h0 (fun z => z.2.elim q2 (fun z => z.elim (sg_n e3 c4) (fun z => z.elim (sg_n e5 c6) (fun z => z.elim (sg_n e7 c8) (sg_n2 e9 c10))))))
              · refine WS.run (C := []) (pc' := 81) (L' := [vR 12 0, vR 11 0, vI g]) (S' := [vI (1 : Int32)]) (σ' := σ) 2 rfl trivial ?_
                exact WS.ret rfl rfl (by decide) rfl (h1 ⟨(by simp only [t_le, t_0] at c1; omega), Or.inr (Or.inr (Or.inr (Or.inr (sg_p2 e9 c10))))⟩)
set_option maxRecDepth 4000 in
set_option maxHeartbeats 400000 in
theorem c_overlaps {d : Nat} {σ : Mem} {Post : Option AV → Mem → Prop} {k k2 : Nat} (hk : (k = 11 ∧ k2 = 12) ∨ (k = 12 ∧ k2 = 11)) (hb : lnB (lnC σ k)) (hb2 : lnB (lnC σ k2)) (h1 : overZ (lnC σ k) (lnC σ k2) → Post (some (vI 1)) σ) (h0 : ¬ overZ (lnC σ k) (lnC σ k2) → Post (some (vI 0)) σ) : MM (d + 1) M_Line_overlaps [vR k 0, vR k2 0] σ Post := by
  rcases hk with ⟨rfl, rfl⟩ | ⟨rfl, rfl⟩
  · have hb11 := hb
    have hb12 := hb2
    refine MM.of ok_Line_overlaps rfl ?_
    show WS _ M_Line_overlaps 0 [vR 11 0, vR 12 0, vU, vU] [] σ _
    refine WS.run (C := []) (pc' := 9) (L' := [vR 11 0, vR 12 0, vU, vU]) (S' := [vI (gI σ 12 0 1), vI (gI σ 12 0 0), vR 11 0]) (σ' := σ) 5 rfl trivial ?_
    refine WS.callV M_Line_side (k := 11) (i := 0) (as := [vI (gI σ 12 0 0), vI (gI σ 12 0 1)]) (rest := []) rfl lk_3_36 rfl rfl rfl (Nat.le_of_ble_eq_true rfl) ?_
    refine c_side (Or.inl rfl) hb11 hb12.1 hb12.2.1 (fun r1 e1 => ?_)
    show WS _ M_Line_overlaps 12 [vR 11 0, vR 12 0, vU, vU] [vI r1] σ _
    refine WS.br (P := r1 = 0) (a := 15) (b := 30) (S' := []) rfl (fun c2 => ?_) (fun c2 => ?_)
    · refine WS.run (C := []) (pc' := 24) (L' := [vR 11 0, vR 12 0, vU, vU]) (S' := [vI (gI σ 12 0 3), vI (gI σ 12 0 2), vR 11 0]) (σ' := σ) 5 rfl trivial ?_
      refine WS.callV M_Line_side (k := 11) (i := 0) (as := [vI (gI σ 12 0 2), vI (gI σ 12 0 3)]) (rest := []) rfl lk_3_36 rfl rfl rfl (Nat.le_of_ble_eq_true rfl) ?_
      refine c_side (Or.inl rfl) hb11 hb12.2.2.1 hb12.2.2.2 (fun r3 e3 => ?_)
      show WS _ M_Line_overlaps 27 [vR 11 0, vR 12 0, vU, vU] [vI r3] σ _
      refine WS.br (P := r3 = 0) (a := 32) (b := 30) (S' := []) rfl (fun c4 => ?_) (fun c4 => ?_)
      · refine WS.run (C := []) (pc' := 41) (L' := [vR 11 0, vR 12 0, vU, vU]) (S' := [vI (gI σ 12 0 1), vI (gI σ 12 0 0), vR 11 0]) (σ' := σ) 5 rfl trivial ?_
        refine WS.callV M_Line_along (k := 11) (i := 0) (as := [vI (gI σ 12 0 0), vI (gI σ 12 0 1)]) (rest := []) rfl lk_3_22 rfl rfl rfl (Nat.le_of_ble_eq_true rfl) ?_
        refine c_along (Or.inl rfl) hb11 hb12.1 hb12.2.1 (fun r5 e5 => ?_)
        show WS _ M_Line_overlaps 44 [vR 11 0, vR 12 0, vU, vU] [vI r5] σ _
        refine WS.run (C := []) (pc' := 54) (L' := [vR 11 0, vR 12 0, vI r5, vU]) (S' := [vI (gI σ 12 0 3), vI (gI σ 12 0 2), vR 11 0]) (σ' := σ) 6 rfl trivial ?_
        refine WS.callV M_Line_along (k := 11) (i := 0) (as := [vI (gI σ 12 0 2), vI (gI σ 12 0 3)]) (rest := []) rfl lk_3_22 rfl rfl rfl (Nat.le_of_ble_eq_true rfl) ?_
        refine c_along (Or.inl rfl) hb11 hb12.2.2.1 hb12.2.2.2 (fun r6 e6 => ?_)
        show WS _ M_Line_overlaps 57 [vR 11 0, vR 12 0, vI r5, vU] [vI r6] σ _
        refine WS.run (C := []) (pc' := 61) (L' := [vR 11 0, vR 12 0, vI r5, vI r6]) (S' := [vI r6, vI r5, vI (0 : Int32)]) (σ' := σ) 4 rfl trivial ?_
        refine WS.mminT rfl lkm_3_54 (Nat.le_of_ble_eq_true rfl) (fun r7 e7 => ?_)
        refine WS.mmaxT rfl lkm_3_59 (Nat.le_of_ble_eq_true rfl) (fun r8 e8 => ?_)
        refine WS.run (C := []) (pc' := 76) (L' := [vR 11 0, vR 12 0, vI r5, vI r6]) (S' := [vI (gI σ 11 0 3), vI (gI σ 11 0 2), vR 11 0, vI r8]) (σ' := σ) 5 rfl trivial ?_
        refine WS.callV M_Line_along (k := 11) (i := 0) (as := [vI (gI σ 11 0 2), vI (gI σ 11 0 3)]) (rest := [vI r8]) rfl lk_3_22 rfl rfl rfl (Nat.le_of_ble_eq_true rfl) ?_
        refine c_along (Or.inl rfl) hb11 hb11.2.2.1 hb11.2.2.2 (fun r9 e9 => ?_)
        show WS _ M_Line_overlaps 79 [vR 11 0, vR 12 0, vI r5, vI r6] [vI r9, vI r8] σ _
        refine WS.run (C := []) (pc' := 81) (L' := [vR 11 0, vR 12 0, vI r5, vI r6]) (S' := [vI r6, vI r5, vI r9, vI r8]) (σ' := σ) 2 rfl trivial ?_
        refine WS.mmaxT rfl lkm_3_59 (Nat.le_of_ble_eq_true rfl) (fun r10 e10 => ?_)
        refine WS.mminT rfl lkm_3_54 (Nat.le_of_ble_eq_true rfl) (fun r11 e11 => ?_)
        refine WS.br (P := r11 ≤ r8) (a := 94) (b := 90) (S' := []) rfl (fun c12 => ?_) (fun c12 => ?_)
        · refine WS.run (C := []) (pc' := 95) (L' := [vR 11 0, vR 12 0, vI r5, vI r6]) (S' := [vI (0 : Int32)]) (σ' := σ) 1 rfl trivial ?_
          exact WS.ret rfl rfl (by decide) rfl (by simp only [t_le, t_lt, t_eq, t_0, lnC, sdL, alL, overZ] at *; exact h0 (by omega))
        · refine WS.run (C := []) (pc' := 95) (L' := [vR 11 0, vR 12 0, vI r5, vI r6]) (S' := [vI (1 : Int32)]) (σ' := σ) 2 rfl trivial ?_
          exact WS.ret rfl rfl (by decide) rfl (by simp only [t_le, t_lt, t_eq, t_0, lnC, sdL, alL, overZ] at *; exact h1 (by omega))
      · refine WS.run (C := []) (pc' := 31) (L' := [vR 11 0, vR 12 0, vU, vU]) (S' := [vI (0 : Int32)]) (σ' := σ) 1 rfl trivial ?_
        exact WS.ret rfl rfl (by decide) rfl (by simp only [t_le, t_lt, t_eq, t_0, lnC, sdL, alL, overZ] at *; exact h0 (by omega))
    · refine WS.run (C := []) (pc' := 31) (L' := [vR 11 0, vR 12 0, vU, vU]) (S' := [vI (0 : Int32)]) (σ' := σ) 1 rfl trivial ?_
      exact WS.ret rfl rfl (by decide) rfl (by simp only [t_le, t_lt, t_eq, t_0, lnC, sdL, alL, overZ] at *; exact h0 (by omega))
  · have hb12 := hb
    have hb11 := hb2
    refine MM.of ok_Line_overlaps rfl ?_
    show WS _ M_Line_overlaps 0 [vR 12 0, vR 11 0, vU, vU] [] σ _
    refine WS.run (C := []) (pc' := 9) (L' := [vR 12 0, vR 11 0, vU, vU]) (S' := [vI (gI σ 11 0 1), vI (gI σ 11 0 0), vR 12 0]) (σ' := σ) 5 rfl trivial ?_
    refine WS.callV M_Line_side (k := 12) (i := 0) (as := [vI (gI σ 11 0 0), vI (gI σ 11 0 1)]) (rest := []) rfl lk_3_36 rfl rfl rfl (Nat.le_of_ble_eq_true rfl) ?_
    refine c_side (Or.inr (Or.inl rfl)) hb12 hb11.1 hb11.2.1 (fun r1 e1 => ?_)
    show WS _ M_Line_overlaps 12 [vR 12 0, vR 11 0, vU, vU] [vI r1] σ _
    refine WS.br (P := r1 = 0) (a := 15) (b := 30) (S' := []) rfl (fun c2 => ?_) (fun c2 => ?_)
    · refine WS.run (C := []) (pc' := 24) (L' := [vR 12 0, vR 11 0, vU, vU]) (S' := [vI (gI σ 11 0 3), vI (gI σ 11 0 2), vR 12 0]) (σ' := σ) 5 rfl trivial ?_
      refine WS.callV M_Line_side (k := 12) (i := 0) (as := [vI (gI σ 11 0 2), vI (gI σ 11 0 3)]) (rest := []) rfl lk_3_36 rfl rfl rfl (Nat.le_of_ble_eq_true rfl) ?_
      refine c_side (Or.inr (Or.inl rfl)) hb12 hb11.2.2.1 hb11.2.2.2 (fun r3 e3 => ?_)
      show WS _ M_Line_overlaps 27 [vR 12 0, vR 11 0, vU, vU] [vI r3] σ _
      refine WS.br (P := r3 = 0) (a := 32) (b := 30) (S' := []) rfl (fun c4 => ?_) (fun c4 => ?_)
      · refine WS.run (C := []) (pc' := 41) (L' := [vR 12 0, vR 11 0, vU, vU]) (S' := [vI (gI σ 11 0 1), vI (gI σ 11 0 0), vR 12 0]) (σ' := σ) 5 rfl trivial ?_
        refine WS.callV M_Line_along (k := 12) (i := 0) (as := [vI (gI σ 11 0 0), vI (gI σ 11 0 1)]) (rest := []) rfl lk_3_22 rfl rfl rfl (Nat.le_of_ble_eq_true rfl) ?_
        refine c_along (Or.inr (Or.inl rfl)) hb12 hb11.1 hb11.2.1 (fun r5 e5 => ?_)
        show WS _ M_Line_overlaps 44 [vR 12 0, vR 11 0, vU, vU] [vI r5] σ _
        refine WS.run (C := []) (pc' := 54) (L' := [vR 12 0, vR 11 0, vI r5, vU]) (S' := [vI (gI σ 11 0 3), vI (gI σ 11 0 2), vR 12 0]) (σ' := σ) 6 rfl trivial ?_
        refine WS.callV M_Line_along (k := 12) (i := 0) (as := [vI (gI σ 11 0 2), vI (gI σ 11 0 3)]) (rest := []) rfl lk_3_22 rfl rfl rfl (Nat.le_of_ble_eq_true rfl) ?_
        refine c_along (Or.inr (Or.inl rfl)) hb12 hb11.2.2.1 hb11.2.2.2 (fun r6 e6 => ?_)
        show WS _ M_Line_overlaps 57 [vR 12 0, vR 11 0, vI r5, vU] [vI r6] σ _
        refine WS.run (C := []) (pc' := 61) (L' := [vR 12 0, vR 11 0, vI r5, vI r6]) (S' := [vI r6, vI r5, vI (0 : Int32)]) (σ' := σ) 4 rfl trivial ?_
        refine WS.mminT rfl lkm_3_54 (Nat.le_of_ble_eq_true rfl) (fun r7 e7 => ?_)
        refine WS.mmaxT rfl lkm_3_59 (Nat.le_of_ble_eq_true rfl) (fun r8 e8 => ?_)
        refine WS.run (C := []) (pc' := 76) (L' := [vR 12 0, vR 11 0, vI r5, vI r6]) (S' := [vI (gI σ 12 0 3), vI (gI σ 12 0 2), vR 12 0, vI r8]) (σ' := σ) 5 rfl trivial ?_
        refine WS.callV M_Line_along (k := 12) (i := 0) (as := [vI (gI σ 12 0 2), vI (gI σ 12 0 3)]) (rest := [vI r8]) rfl lk_3_22 rfl rfl rfl (Nat.le_of_ble_eq_true rfl) ?_
        refine c_along (Or.inr (Or.inl rfl)) hb12 hb12.2.2.1 hb12.2.2.2 (fun r9 e9 => ?_)
        show WS _ M_Line_overlaps 79 [vR 12 0, vR 11 0, vI r5, vI r6] [vI r9, vI r8] σ _
        refine WS.run (C := []) (pc' := 81) (L' := [vR 12 0, vR 11 0, vI r5, vI r6]) (S' := [vI r6, vI r5, vI r9, vI r8]) (σ' := σ) 2 rfl trivial ?_
        refine WS.mmaxT rfl lkm_3_59 (Nat.le_of_ble_eq_true rfl) (fun r10 e10 => ?_)
        refine WS.mminT rfl lkm_3_54 (Nat.le_of_ble_eq_true rfl) (fun r11 e11 => ?_)
        refine WS.br (P := r11 ≤ r8) (a := 94) (b := 90) (S' := []) rfl (fun c12 => ?_) (fun c12 => ?_)
        · refine WS.run (C := []) (pc' := 95) (L' := [vR 12 0, vR 11 0, vI r5, vI r6]) (S' := [vI (0 : Int32)]) (σ' := σ) 1 rfl trivial ?_
          exact WS.ret rfl rfl (by decide) rfl (by simp only [t_le, t_lt, t_eq, t_0, lnC, sdL, alL, overZ] at *; exact h0 (by omega))
        · refine WS.run (C := []) (pc' := 95) (L' := [vR 12 0, vR 11 0, vI r5, vI r6]) (S' := [vI (1 : Int32)]) (σ' := σ) 2 rfl trivial ?_
          exact WS.ret rfl rfl (by decide) rfl (by simp only [t_le, t_lt, t_eq, t_0, lnC, sdL, alL, overZ] at *; exact h1 (by omega))
      · refine WS.run (C := []) (pc' := 31) (L' := [vR 12 0, vR 11 0, vU, vU]) (S' := [vI (0 : Int32)]) (σ' := σ) 1 rfl trivial ?_
        exact WS.ret rfl rfl (by decide) rfl (by simp only [t_le, t_lt, t_eq, t_0, lnC, sdL, alL, overZ] at *; exact h0 (by omega))
    · refine WS.run (C := []) (pc' := 31) (L' := [vR 12 0, vR 11 0, vU, vU]) (S' := [vI (0 : Int32)]) (σ' := σ) 1 rfl trivial ?_
      exact WS.ret rfl rfl (by decide) rfl (by simp only [t_le, t_lt, t_eq, t_0, lnC, sdL, alL, overZ] at *; exact h0 (by omega))
set_option maxRecDepth 4000 in
set_option maxHeartbeats 400000 in
theorem c_crosses {d : Nat} {σ : Mem} {Post : Option AV → Mem → Prop} {k k2 : Nat} (hk : (k = 11 ∧ k2 = 12) ∨ (k = 12 ∧ k2 = 11)) (hb : lnB (lnC σ k)) (hb2 : lnB (lnC σ k2)) (h1 : crossZ (lnC σ k) (lnC σ k2) → Post (some (vI 1)) σ) (h0 : ¬ crossZ (lnC σ k) (lnC σ k2) → Post (some (vI 0)) σ) : MM (d + 2) M_Line_crosses [vR k 0, vR k2 0] σ Post := by
  rcases hk with ⟨rfl, rfl⟩ | ⟨rfl, rfl⟩
  · have hb11 := hb
    have hb12 := hb2
    refine MM.of ok_Line_crosses rfl ?_
    show WS _ M_Line_crosses 0 [vR 11 0, vR 12 0] [] σ _
    refine WS.run (C := []) (pc' := 2) (L' := [vR 11 0, vR 12 0]) (S' := [vR 12 0, vR 11 0]) (σ' := σ) 2 rfl trivial ?_
    refine WS.callV M_Line_cuts (k := 11) (i := 0) (as := [vR 12 0]) (rest := []) rfl lk_3_46 rfl rfl rfl (Nat.le_of_ble_eq_true rfl) ?_
    refine c_cuts (Or.inl ⟨rfl, rfl⟩) hb11 hb12 (fun q1 => ?_) (fun q1 => ?_)
    · show WS _ M_Line_crosses 5 [vR 11 0, vR 12 0] [vI (1 : Int32)] σ _
      refine WS.br (P := (1 : Int32) = 0) (a := 8) (b := 16) (S' := []) rfl (fun cc => absurd cc (by decide)) (fun _ => ?_)
      refine WS.run (C := []) (pc' := 21) (L' := [vR 11 0, vR 12 0]) (S' := [vI (1 : Int32)]) (σ' := σ) 2 rfl trivial ?_
      exact WS.ret rfl rfl (by decide) rfl (h1 (Or.inl q1))
    · show WS _ M_Line_crosses 5 [vR 11 0, vR 12 0] [vI (0 : Int32)] σ _
      refine WS.br (P := (0 : Int32) = 0) (a := 8) (b := 16) (S' := []) rfl (fun _ => ?_) (fun cc => absurd (by decide) cc)
      refine WS.run (C := []) (pc' := 10) (L' := [vR 11 0, vR 12 0]) (S' := [vR 12 0, vR 11 0]) (σ' := σ) 2 rfl trivial ?_
      refine WS.callV M_Line_overlaps (k := 11) (i := 0) (as := [vR 12 0]) (rest := []) rfl lk_3_62 rfl rfl rfl (Nat.le_of_ble_eq_true rfl) ?_
      refine c_overlaps (Or.inl ⟨rfl, rfl⟩) hb11 hb12 (fun q2 => ?_) (fun q2 => ?_)
      · show WS _ M_Line_crosses 13 [vR 11 0, vR 12 0] [vI (1 : Int32)] σ _
        refine WS.br (P := (1 : Int32) = 0) (a := 20) (b := 16) (S' := []) rfl (fun cc => absurd cc (by decide)) (fun _ => ?_)
        refine WS.run (C := []) (pc' := 21) (L' := [vR 11 0, vR 12 0]) (S' := [vI (1 : Int32)]) (σ' := σ) 2 rfl trivial ?_
        exact WS.ret rfl rfl (by decide) rfl (h1 (Or.inr q2))
      · show WS _ M_Line_crosses 13 [vR 11 0, vR 12 0] [vI (0 : Int32)] σ _
        refine WS.br (P := (0 : Int32) = 0) (a := 20) (b := 16) (S' := []) rfl (fun _ => ?_) (fun cc => absurd (by decide) cc)
        refine WS.run (C := []) (pc' := 21) (L' := [vR 11 0, vR 12 0]) (S' := [vI (0 : Int32)]) (σ' := σ) 1 rfl trivial ?_
        exact WS.ret rfl rfl (by decide) rfl (h0 (fun z => z.elim q1 q2))
  · have hb12 := hb
    have hb11 := hb2
    refine MM.of ok_Line_crosses rfl ?_
    show WS _ M_Line_crosses 0 [vR 12 0, vR 11 0] [] σ _
    refine WS.run (C := []) (pc' := 2) (L' := [vR 12 0, vR 11 0]) (S' := [vR 11 0, vR 12 0]) (σ' := σ) 2 rfl trivial ?_
    refine WS.callV M_Line_cuts (k := 12) (i := 0) (as := [vR 11 0]) (rest := []) rfl lk_3_46 rfl rfl rfl (Nat.le_of_ble_eq_true rfl) ?_
    refine c_cuts (Or.inr ⟨rfl, rfl⟩) hb12 hb11 (fun q1 => ?_) (fun q1 => ?_)
    · show WS _ M_Line_crosses 5 [vR 12 0, vR 11 0] [vI (1 : Int32)] σ _
      refine WS.br (P := (1 : Int32) = 0) (a := 8) (b := 16) (S' := []) rfl (fun cc => absurd cc (by decide)) (fun _ => ?_)
      refine WS.run (C := []) (pc' := 21) (L' := [vR 12 0, vR 11 0]) (S' := [vI (1 : Int32)]) (σ' := σ) 2 rfl trivial ?_
      exact WS.ret rfl rfl (by decide) rfl (h1 (Or.inl q1))
    · show WS _ M_Line_crosses 5 [vR 12 0, vR 11 0] [vI (0 : Int32)] σ _
      refine WS.br (P := (0 : Int32) = 0) (a := 8) (b := 16) (S' := []) rfl (fun _ => ?_) (fun cc => absurd (by decide) cc)
      refine WS.run (C := []) (pc' := 10) (L' := [vR 12 0, vR 11 0]) (S' := [vR 11 0, vR 12 0]) (σ' := σ) 2 rfl trivial ?_
      refine WS.callV M_Line_overlaps (k := 12) (i := 0) (as := [vR 11 0]) (rest := []) rfl lk_3_62 rfl rfl rfl (Nat.le_of_ble_eq_true rfl) ?_
      refine c_overlaps (Or.inr ⟨rfl, rfl⟩) hb12 hb11 (fun q2 => ?_) (fun q2 => ?_)
      · show WS _ M_Line_crosses 13 [vR 12 0, vR 11 0] [vI (1 : Int32)] σ _
        refine WS.br (P := (1 : Int32) = 0) (a := 20) (b := 16) (S' := []) rfl (fun cc => absurd cc (by decide)) (fun _ => ?_)
        refine WS.run (C := []) (pc' := 21) (L' := [vR 12 0, vR 11 0]) (S' := [vI (1 : Int32)]) (σ' := σ) 2 rfl trivial ?_
        exact WS.ret rfl rfl (by decide) rfl (h1 (Or.inr q2))
      · show WS _ M_Line_crosses 13 [vR 12 0, vR 11 0] [vI (0 : Int32)] σ _
        refine WS.br (P := (0 : Int32) = 0) (a := 20) (b := 16) (S' := []) rfl (fun _ => ?_) (fun cc => absurd (by decide) cc)
        refine WS.run (C := []) (pc' := 21) (L' := [vR 12 0, vR 11 0]) (S' := [vI (0 : Int32)]) (σ' := σ) 1 rfl trivial ?_
        exact WS.ret rfl rfl (by decide) rfl (h0 (fun z => z.elim q1 q2))
/-- a line and what is within a box (the class's way) -/
def entZ (l : Ln) (a b c e : Int) : Prop := ¬ (max l.1 l.2.2.1 ≤ a ∨ c ≤ min l.1 l.2.2.1 ∨ max l.2.1 l.2.2.2 ≤ b ∨ e ≤ min l.2.1 l.2.2.2) ∧ ((l.1 = l.2.2.1 ∧ l.2.1 = l.2.2.2) ∨ ((sdL l a b < 0 ∨ sdL l a e < 0 ∨ sdL l c b < 0 ∨ sdL l c e < 0) ∧ (0 < sdL l a b ∨ 0 < sdL l a e ∨ 0 < sdL l c b ∨ 0 < sdL l c e)))
set_option maxRecDepth 4000 in
set_option maxHeartbeats 400000 in
theorem c_enters {d : Nat} {σ : Mem} {Post : Option AV → Mem → Prop} {a b c e : Int32} (hb : lnB (lnC σ 40)) (ha : co a.toInt) (hb2 : co b.toInt) (hc : co c.toInt) (he : co e.toInt) (h1 : entZ (lnC σ 40) a.toInt b.toInt c.toInt e.toInt → Post (some (vI 1)) σ) (h0 : ¬ entZ (lnC σ 40) a.toInt b.toInt c.toInt e.toInt → Post (some (vI 0)) σ) : MM (d + 1) M_Line_enters [vR 40 0, vI a, vI b, vI c, vI e] σ Post := by
  refine MM.of ok_Line_enters rfl ?_
  show WS _ M_Line_enters 0 [vR 40 0, vI a, vI b, vI c, vI e, vU, vU, vU, vU] [] σ _
  refine WS.run (C := []) (pc' := 8) (L' := [vR 40 0, vI a, vI b, vI c, vI e, vU, vU, vU, vU]) (S' := [vI (gI σ 40 0 2), vI (gI σ 40 0 0)]) (σ' := σ) 4 rfl trivial ?_
  refine WS.mmaxT rfl lkm_3_59 (Nat.le_of_ble_eq_true rfl) (fun r1 e1 => ?_)
  refine WS.run (C := []) (pc' := 12) (L' := [vR 40 0, vI a, vI b, vI c, vI e, vU, vU, vU, vU]) (S' := [vI a, vI r1]) (σ' := σ) 1 rfl trivial ?_
  refine WS.br (P := r1 ≤ a) (a := 61) (b := 15) (S' := []) rfl (fun c2 => ?_) (fun c2 => ?_)
  · refine WS.run (C := []) (pc' := 62) (L' := [vR 40 0, vI a, vI b, vI c, vI e, vU, vU, vU, vU]) (S' := [vI (0 : Int32)]) (σ' := σ) 1 rfl trivial ?_
    exact WS.ret rfl rfl (by decide) rfl (by simp only [t_le, t_lt, t_eq, t_0, lnC, entZ] at *; exact h0 (by omega))
  · refine WS.run (C := []) (pc' := 23) (L' := [vR 40 0, vI a, vI b, vI c, vI e, vU, vU, vU, vU]) (S' := [vI (gI σ 40 0 2), vI (gI σ 40 0 0)]) (σ' := σ) 4 rfl trivial ?_
    refine WS.mminT rfl lkm_3_54 (Nat.le_of_ble_eq_true rfl) (fun r3 e3 => ?_)
    refine WS.run (C := []) (pc' := 27) (L' := [vR 40 0, vI a, vI b, vI c, vI e, vU, vU, vU, vU]) (S' := [vI c, vI r3]) (σ' := σ) 1 rfl trivial ?_
    refine WS.br (P := c ≤ r3) (a := 61) (b := 30) (S' := []) rfl (fun c4 => ?_) (fun c4 => ?_)
    · refine WS.run (C := []) (pc' := 62) (L' := [vR 40 0, vI a, vI b, vI c, vI e, vU, vU, vU, vU]) (S' := [vI (0 : Int32)]) (σ' := σ) 1 rfl trivial ?_
      exact WS.ret rfl rfl (by decide) rfl (by simp only [t_le, t_lt, t_eq, t_0, lnC, entZ] at *; exact h0 (by omega))
    · refine WS.run (C := []) (pc' := 38) (L' := [vR 40 0, vI a, vI b, vI c, vI e, vU, vU, vU, vU]) (S' := [vI (gI σ 40 0 3), vI (gI σ 40 0 1)]) (σ' := σ) 4 rfl trivial ?_
      refine WS.mmaxT rfl lkm_3_59 (Nat.le_of_ble_eq_true rfl) (fun r5 e5 => ?_)
      refine WS.run (C := []) (pc' := 42) (L' := [vR 40 0, vI a, vI b, vI c, vI e, vU, vU, vU, vU]) (S' := [vI b, vI r5]) (σ' := σ) 1 rfl trivial ?_
      refine WS.br (P := r5 ≤ b) (a := 61) (b := 45) (S' := []) rfl (fun c6 => ?_) (fun c6 => ?_)
      · refine WS.run (C := []) (pc' := 62) (L' := [vR 40 0, vI a, vI b, vI c, vI e, vU, vU, vU, vU]) (S' := [vI (0 : Int32)]) (σ' := σ) 1 rfl trivial ?_
        exact WS.ret rfl rfl (by decide) rfl (by simp only [t_le, t_lt, t_eq, t_0, lnC, entZ] at *; exact h0 (by omega))
      · refine WS.run (C := []) (pc' := 53) (L' := [vR 40 0, vI a, vI b, vI c, vI e, vU, vU, vU, vU]) (S' := [vI (gI σ 40 0 3), vI (gI σ 40 0 1)]) (σ' := σ) 4 rfl trivial ?_
        refine WS.mminT rfl lkm_3_54 (Nat.le_of_ble_eq_true rfl) (fun r7 e7 => ?_)
        refine WS.run (C := []) (pc' := 58) (L' := [vR 40 0, vI a, vI b, vI c, vI e, vU, vU, vU, vU]) (S' := [vI e, vI r7]) (σ' := σ) 1 rfl trivial ?_
        refine WS.br (P := r7 < e) (a := 63) (b := 61) (S' := []) rfl (fun c8 => ?_) (fun c8 => ?_)
        · refine WS.run (C := []) (pc' := 71) (L' := [vR 40 0, vI a, vI b, vI c, vI e, vU, vU, vU, vU]) (S' := [vI (gI σ 40 0 2), vI (gI σ 40 0 0)]) (σ' := σ) 4 rfl trivial ?_
          refine WS.br (P := (gI σ 40 0 0) = (gI σ 40 0 2)) (a := 74) (b := 87) (S' := []) rfl (fun c9 => ?_) (fun c9 => ?_)
          · refine WS.run (C := []) (pc' := 82) (L' := [vR 40 0, vI a, vI b, vI c, vI e, vU, vU, vU, vU]) (S' := [vI (gI σ 40 0 3), vI (gI σ 40 0 1)]) (σ' := σ) 4 rfl trivial ?_
            refine WS.br (P := (gI σ 40 0 1) = (gI σ 40 0 3)) (a := 85) (b := 87) (S' := []) rfl (fun c10 => ?_) (fun c10 => ?_)
            · refine WS.run (C := []) (pc' := 86) (L' := [vR 40 0, vI a, vI b, vI c, vI e, vU, vU, vU, vU]) (S' := [vI (1 : Int32)]) (σ' := σ) 1 rfl trivial ?_
              exact WS.ret rfl rfl (by decide) rfl (by simp only [t_le, t_lt, t_eq, t_0, lnC, entZ] at *; exact h1 (by omega))
            · refine WS.run (C := []) (pc' := 90) (L' := [vR 40 0, vI a, vI b, vI c, vI e, vU, vU, vU, vU]) (S' := [vI b, vI a, vR 40 0]) (σ' := σ) 3 rfl trivial ?_
              refine WS.callV M_Line_side (k := 40) (i := 0) (as := [vI a, vI b]) (rest := []) rfl lk_3_36 rfl rfl rfl (Nat.le_of_ble_eq_true rfl) ?_
              refine c_side (Or.inr (Or.inr rfl)) hb ha hb2 (fun r11 e11 => ?_)
              show WS _ M_Line_enters 93 [vR 40 0, vI a, vI b, vI c, vI e, vU, vU, vU, vU] [vI r11] σ _
              refine WS.run (C := []) (pc' := 99) (L' := [vR 40 0, vI a, vI b, vI c, vI e, vI r11, vU, vU, vU]) (S' := [vI e, vI a, vR 40 0]) (σ' := σ) 4 rfl trivial ?_
              refine WS.callV M_Line_side (k := 40) (i := 0) (as := [vI a, vI e]) (rest := []) rfl lk_3_36 rfl rfl rfl (Nat.le_of_ble_eq_true rfl) ?_
              refine c_side (Or.inr (Or.inr rfl)) hb ha he (fun r12 e12 => ?_)
              show WS _ M_Line_enters 102 [vR 40 0, vI a, vI b, vI c, vI e, vI r11, vU, vU, vU] [vI r12] σ _
              refine WS.run (C := []) (pc' := 107) (L' := [vR 40 0, vI a, vI b, vI c, vI e, vI r11, vI r12, vU, vU]) (S' := [vI b, vI c, vR 40 0]) (σ' := σ) 4 rfl trivial ?_
              refine WS.callV M_Line_side (k := 40) (i := 0) (as := [vI c, vI b]) (rest := []) rfl lk_3_36 rfl rfl rfl (Nat.le_of_ble_eq_true rfl) ?_
              refine c_side (Or.inr (Or.inr rfl)) hb hc hb2 (fun r13 e13 => ?_)
              show WS _ M_Line_enters 110 [vR 40 0, vI a, vI b, vI c, vI e, vI r11, vI r12, vU, vU] [vI r13] σ _
              refine WS.run (C := []) (pc' := 116) (L' := [vR 40 0, vI a, vI b, vI c, vI e, vI r11, vI r12, vI r13, vU]) (S' := [vI e, vI c, vR 40 0]) (σ' := σ) 4 rfl trivial ?_
              refine WS.callV M_Line_side (k := 40) (i := 0) (as := [vI c, vI e]) (rest := []) rfl lk_3_36 rfl rfl rfl (Nat.le_of_ble_eq_true rfl) ?_
              refine c_side (Or.inr (Or.inr rfl)) hb hc he (fun r14 e14 => ?_)
              show WS _ M_Line_enters 119 [vR 40 0, vI a, vI b, vI c, vI e, vI r11, vI r12, vI r13, vU] [vI r14] σ _
              refine WS.run (C := []) (pc' := 125) (L' := [vR 40 0, vI a, vI b, vI c, vI e, vI r11, vI r12, vI r13, vI r14]) (S' := [vI r12, vI r11]) (σ' := σ) 3 rfl trivial ?_
              refine WS.mminT rfl lkm_3_54 (Nat.le_of_ble_eq_true rfl) (fun r15 e15 => ?_)
              refine WS.run (C := []) (pc' := 132) (L' := [vR 40 0, vI a, vI b, vI c, vI e, vI r11, vI r12, vI r13, vI r14]) (S' := [vI r14, vI r13, vI r15]) (σ' := σ) 2 rfl trivial ?_
              refine WS.mminT rfl lkm_3_54 (Nat.le_of_ble_eq_true rfl) (fun r16 e16 => ?_)
              refine WS.mminT rfl lkm_3_54 (Nat.le_of_ble_eq_true rfl) (fun r17 e17 => ?_)
              refine WS.br (P := 0 ≤ r17) (a := 165) (b := 141) (S' := []) rfl (fun c18 => ?_) (fun c18 => ?_)
              · refine WS.run (C := []) (pc' := 166) (L' := [vR 40 0, vI a, vI b, vI c, vI e, vI r11, vI r12, vI r13, vI r14]) (S' := [vI (0 : Int32)]) (σ' := σ) 1 rfl trivial ?_
                exact WS.ret rfl rfl (by decide) rfl (by simp only [t_le, t_lt, t_eq, t_0, lnC, entZ] at *; exact h0 (by omega))
              · refine WS.run (C := []) (pc' := 145) (L' := [vR 40 0, vI a, vI b, vI c, vI e, vI r11, vI r12, vI r13, vI r14]) (S' := [vI r12, vI r11]) (σ' := σ) 2 rfl trivial ?_
                refine WS.mmaxT rfl lkm_3_59 (Nat.le_of_ble_eq_true rfl) (fun r19 e19 => ?_)
                refine WS.run (C := []) (pc' := 152) (L' := [vR 40 0, vI a, vI b, vI c, vI e, vI r11, vI r12, vI r13, vI r14]) (S' := [vI r14, vI r13, vI r19]) (σ' := σ) 2 rfl trivial ?_
                refine WS.mmaxT rfl lkm_3_59 (Nat.le_of_ble_eq_true rfl) (fun r20 e20 => ?_)
                refine WS.mmaxT rfl lkm_3_59 (Nat.le_of_ble_eq_true rfl) (fun r21 e21 => ?_)
                refine WS.br (P := r21 ≤ 0) (a := 165) (b := 161) (S' := []) rfl (fun c22 => ?_) (fun c22 => ?_)
                · refine WS.run (C := []) (pc' := 166) (L' := [vR 40 0, vI a, vI b, vI c, vI e, vI r11, vI r12, vI r13, vI r14]) (S' := [vI (0 : Int32)]) (σ' := σ) 1 rfl trivial ?_
                  exact WS.ret rfl rfl (by decide) rfl (by simp only [t_le, t_lt, t_eq, t_0, lnC, entZ] at *; exact h0 (by omega))
                · refine WS.run (C := []) (pc' := 166) (L' := [vR 40 0, vI a, vI b, vI c, vI e, vI r11, vI r12, vI r13, vI r14]) (S' := [vI (1 : Int32)]) (σ' := σ) 2 rfl trivial ?_
                  exact WS.ret rfl rfl (by decide) rfl (by simp only [t_le, t_lt, t_eq, t_0, lnC, entZ] at *; exact h1 (by omega))
          · refine WS.run (C := []) (pc' := 90) (L' := [vR 40 0, vI a, vI b, vI c, vI e, vU, vU, vU, vU]) (S' := [vI b, vI a, vR 40 0]) (σ' := σ) 3 rfl trivial ?_
            refine WS.callV M_Line_side (k := 40) (i := 0) (as := [vI a, vI b]) (rest := []) rfl lk_3_36 rfl rfl rfl (Nat.le_of_ble_eq_true rfl) ?_
            refine c_side (Or.inr (Or.inr rfl)) hb ha hb2 (fun r23 e23 => ?_)
            show WS _ M_Line_enters 93 [vR 40 0, vI a, vI b, vI c, vI e, vU, vU, vU, vU] [vI r23] σ _
            refine WS.run (C := []) (pc' := 99) (L' := [vR 40 0, vI a, vI b, vI c, vI e, vI r23, vU, vU, vU]) (S' := [vI e, vI a, vR 40 0]) (σ' := σ) 4 rfl trivial ?_
            refine WS.callV M_Line_side (k := 40) (i := 0) (as := [vI a, vI e]) (rest := []) rfl lk_3_36 rfl rfl rfl (Nat.le_of_ble_eq_true rfl) ?_
            refine c_side (Or.inr (Or.inr rfl)) hb ha he (fun r24 e24 => ?_)
            show WS _ M_Line_enters 102 [vR 40 0, vI a, vI b, vI c, vI e, vI r23, vU, vU, vU] [vI r24] σ _
            refine WS.run (C := []) (pc' := 107) (L' := [vR 40 0, vI a, vI b, vI c, vI e, vI r23, vI r24, vU, vU]) (S' := [vI b, vI c, vR 40 0]) (σ' := σ) 4 rfl trivial ?_
            refine WS.callV M_Line_side (k := 40) (i := 0) (as := [vI c, vI b]) (rest := []) rfl lk_3_36 rfl rfl rfl (Nat.le_of_ble_eq_true rfl) ?_
            refine c_side (Or.inr (Or.inr rfl)) hb hc hb2 (fun r25 e25 => ?_)
            show WS _ M_Line_enters 110 [vR 40 0, vI a, vI b, vI c, vI e, vI r23, vI r24, vU, vU] [vI r25] σ _
            refine WS.run (C := []) (pc' := 116) (L' := [vR 40 0, vI a, vI b, vI c, vI e, vI r23, vI r24, vI r25, vU]) (S' := [vI e, vI c, vR 40 0]) (σ' := σ) 4 rfl trivial ?_
            refine WS.callV M_Line_side (k := 40) (i := 0) (as := [vI c, vI e]) (rest := []) rfl lk_3_36 rfl rfl rfl (Nat.le_of_ble_eq_true rfl) ?_
            refine c_side (Or.inr (Or.inr rfl)) hb hc he (fun r26 e26 => ?_)
            show WS _ M_Line_enters 119 [vR 40 0, vI a, vI b, vI c, vI e, vI r23, vI r24, vI r25, vU] [vI r26] σ _
            refine WS.run (C := []) (pc' := 125) (L' := [vR 40 0, vI a, vI b, vI c, vI e, vI r23, vI r24, vI r25, vI r26]) (S' := [vI r24, vI r23]) (σ' := σ) 3 rfl trivial ?_
            refine WS.mminT rfl lkm_3_54 (Nat.le_of_ble_eq_true rfl) (fun r27 e27 => ?_)
            refine WS.run (C := []) (pc' := 132) (L' := [vR 40 0, vI a, vI b, vI c, vI e, vI r23, vI r24, vI r25, vI r26]) (S' := [vI r26, vI r25, vI r27]) (σ' := σ) 2 rfl trivial ?_
            refine WS.mminT rfl lkm_3_54 (Nat.le_of_ble_eq_true rfl) (fun r28 e28 => ?_)
            refine WS.mminT rfl lkm_3_54 (Nat.le_of_ble_eq_true rfl) (fun r29 e29 => ?_)
            refine WS.br (P := 0 ≤ r29) (a := 165) (b := 141) (S' := []) rfl (fun c30 => ?_) (fun c30 => ?_)
            · refine WS.run (C := []) (pc' := 166) (L' := [vR 40 0, vI a, vI b, vI c, vI e, vI r23, vI r24, vI r25, vI r26]) (S' := [vI (0 : Int32)]) (σ' := σ) 1 rfl trivial ?_
              exact WS.ret rfl rfl (by decide) rfl (by simp only [t_le, t_lt, t_eq, t_0, lnC, entZ] at *; exact h0 (by omega))
            · refine WS.run (C := []) (pc' := 145) (L' := [vR 40 0, vI a, vI b, vI c, vI e, vI r23, vI r24, vI r25, vI r26]) (S' := [vI r24, vI r23]) (σ' := σ) 2 rfl trivial ?_
              refine WS.mmaxT rfl lkm_3_59 (Nat.le_of_ble_eq_true rfl) (fun r31 e31 => ?_)
              refine WS.run (C := []) (pc' := 152) (L' := [vR 40 0, vI a, vI b, vI c, vI e, vI r23, vI r24, vI r25, vI r26]) (S' := [vI r26, vI r25, vI r31]) (σ' := σ) 2 rfl trivial ?_
              refine WS.mmaxT rfl lkm_3_59 (Nat.le_of_ble_eq_true rfl) (fun r32 e32 => ?_)
              refine WS.mmaxT rfl lkm_3_59 (Nat.le_of_ble_eq_true rfl) (fun r33 e33 => ?_)
              refine WS.br (P := r33 ≤ 0) (a := 165) (b := 161) (S' := []) rfl (fun c34 => ?_) (fun c34 => ?_)
              · refine WS.run (C := []) (pc' := 166) (L' := [vR 40 0, vI a, vI b, vI c, vI e, vI r23, vI r24, vI r25, vI r26]) (S' := [vI (0 : Int32)]) (σ' := σ) 1 rfl trivial ?_
                exact WS.ret rfl rfl (by decide) rfl (by simp only [t_le, t_lt, t_eq, t_0, lnC, entZ] at *; exact h0 (by omega))
              · refine WS.run (C := []) (pc' := 166) (L' := [vR 40 0, vI a, vI b, vI c, vI e, vI r23, vI r24, vI r25, vI r26]) (S' := [vI (1 : Int32)]) (σ' := σ) 2 rfl trivial ?_
                exact WS.ret rfl rfl (by decide) rfl (by simp only [t_le, t_lt, t_eq, t_0, lnC, entZ] at *; exact h1 (by omega))
        · refine WS.run (C := []) (pc' := 62) (L' := [vR 40 0, vI a, vI b, vI c, vI e, vU, vU, vU, vU]) (S' := [vI (0 : Int32)]) (σ' := σ) 1 rfl trivial ?_
          exact WS.ret rfl rfl (by decide) rfl (by simp only [t_le, t_lt, t_eq, t_0, lnC, entZ] at *; exact h0 (by omega))
end
section
/-! contracts: ways, the ruler -/
/-- the same but for the cells of some kinds -/
def Eqs (ks : List Nat) (σ τ : Mem) : Prop := (∀ a i j, a ∉ ks → gI τ a i j = gI σ a i j) ∧ ∀ a i j, gJ τ a i j = gJ σ a i j
theorem Eqs.rf {ks : List Nat} {σ : Mem} : Eqs ks σ σ := ⟨fun _ _ _ _ => rfl, fun _ _ _ => rfl⟩
theorem Eqs.tr {ks : List Nat} {σ τ υ : Mem} (h : Eqs ks σ τ) (h2 : Eqs ks τ υ) : Eqs ks σ υ := ⟨fun a i j q => (h2.1 a i j q).trans (h.1 a i j q), fun a i j => (h2.2 a i j).trans (h.2 a i j)⟩
theorem Eqs.mono {ks ks' : List Nat} {σ τ : Mem} (h : Eqs ks σ τ) (hk : ∀ k ∈ ks, k ∈ ks') : Eqs ks' σ τ := ⟨fun a i j q => h.1 a i j (fun z => q (hk a z)), h.2⟩
theorem Eqs.pI {ks : List Nat} {σ τ : Mem} (h : Eqs ks σ τ) {k i j : Nat} {x : Int32} (hk : k ∈ ks) : Eqs ks σ (pI τ k i j x) := by
  refine ⟨fun a b c q => ?_, fun a b c => h.2 a b c⟩
  rw [gI_pI, if_neg (fun z => q (by rw [z.1]; exact hk))]
  exact h.1 a b c q
theorem Eqs.pC {ks : List Nat} {σ τ : Mem} (h : Eqs ks σ τ) {k i k2 i2 sp dp n : Nat} (hk : k2 ∈ ks) : Eqs ks σ (pC τ k i k2 i2 sp dp n) := by
  refine ⟨fun a b c q => ?_, fun a b c => h.2 a b c⟩
  rw [gI_pC, if_neg (fun z => q (by rw [z.1]; exact hk))]
  exact h.1 a b c q
def px (σ : Mem) (w i : Nat) : Int := (gI σ 3 w i).toInt
def py (σ : Mem) (w i : Nat) : Int := (gI σ 4 w i).toInt
def nb (σ : Mem) (w i : Nat) : Nat := (gI σ 5 w i).toNatClampNeg
def spn (σ : Mem) (w a b : Nat) : Ln := (px σ w a, py σ w a, px σ w b, py σ w b)
def lnW (σ : Mem) (w i : Nat) : Ln := spn σ w (nb σ w i) (nb σ w (i + 1))
theorem vp_t {x : Int32} {n : Nat} (h0 : 0 ≤ x.toInt) (h1 : x.toInt < n) : vp_in x n := vp_in_iff.mpr ⟨h0, h1⟩
theorem vp_n {i n : Nat} (h : i < n) (hn : n < 2147483648) : vp_in (nI i) n := vp_in_nI h hn
theorem cl_t {x : Int32} (h : 0 ≤ x.toInt) : (x.toNatClampNeg : Int) = x.toInt := Int.toNat_of_nonneg h
theorem cl_n {i : Nat} (h : i < 2147483648) : (nI i).toNatClampNeg = i := nI_clamp h
theorem span4 {σ σ1 σ2 σ3 σ4 : Mem} {k w a b : Nat} (hk : k ≠ 3 ∧ k ≠ 4) (h1 : σ1 = pI σ k 0 0 (gI σ 3 w a)) (h2 : σ2 = pI σ1 k 0 1 (gI σ1 4 w a)) (h3 : σ3 = pI σ2 k 0 2 (gI σ2 3 w b)) (h4 : σ4 = pI σ3 k 0 3 (gI σ3 4 w b)) : Eqs [k] σ σ4 ∧ lnC σ4 k = spn σ w a b := by
  have q1 : Eqs [k] σ σ1 := by rw [h1]; exact Eqs.rf.pI List.mem_cons_self
  have q2 : Eqs [k] σ σ2 := by rw [h2]; exact q1.pI List.mem_cons_self
  have q3 : Eqs [k] σ σ3 := by rw [h3]; exact q2.pI List.mem_cons_self
  have q4 : Eqs [k] σ σ4 := by rw [h4]; exact q3.pI List.mem_cons_self
  have n3 : (3 : Nat) ∉ [k] := by simp; omega
  have n4 : (4 : Nat) ∉ [k] := by simp; omega
  refine ⟨q4, ?_⟩
  have e3 : gI σ4 k 0 3 = gI σ 4 w b := by rw [h4, gI_pI, if_pos ⟨rfl, rfl, rfl⟩]; exact q3.1 _ _ _ n4
  have e2 : gI σ4 k 0 2 = gI σ 3 w b := by rw [h4, gI_pI, if_neg (by omega), h3, gI_pI, if_pos ⟨rfl, rfl, rfl⟩]; exact q2.1 _ _ _ n3
  have e1 : gI σ4 k 0 1 = gI σ 4 w a := by rw [h4, gI_pI, if_neg (by omega), h3, gI_pI, if_neg (by omega), h2, gI_pI, if_pos ⟨rfl, rfl, rfl⟩]; exact q1.1 _ _ _ n4
  have e0 : gI σ4 k 0 0 = gI σ 3 w a := by rw [h4, gI_pI, if_neg (by omega), h3, gI_pI, if_neg (by omega), h2, gI_pI, if_neg (by omega), h1, gI_pI, if_pos ⟨rfl, rfl, rfl⟩]
  unfold lnC
  rw [e0, e1, e2, e3]
  rfl
set_option maxRecDepth 4000 in
set_option maxHeartbeats 400000 in
theorem c_bringSpan {d : Nat} {σ : Mem} {Post : Option AV → Mem → Prop} {w k : Nat} {a b : Int32} (hk : isLn k) (ha : vp_in a 20) (hb : vp_in b 20) (h : ∀ τ : Mem, Eqs [k] σ τ → lnC τ k = spn σ w a.toNatClampNeg b.toNatClampNeg → Post none τ) : MM d M_Way_bringSpan [vR 2 w, vI a, vI b, vR k 0] σ Post := by
  rcases hk with rfl | rfl | rfl
  · refine MM.of ok_Way_bringSpan rfl ?_
    show WS _ M_Way_bringSpan 0 [vR 2 w, vI a, vI b, vR 11 0] [] σ _
    refine WS.run (C := [vp_in a 20]) (pc' := 10) (L' := [vR 2 w, vI a, vI b, vR 11 0]) (S' := []) (σ' := pI σ 11 0 0 (gI σ 3 w a.toNatClampNeg)) 6 rfl ⟨ha, trivial⟩ ?_
    refine WS.run (C := [vp_in a 20]) (pc' := 20) (L' := [vR 2 w, vI a, vI b, vR 11 0]) (S' := []) (σ' := pI (pI σ 11 0 0 (gI σ 3 w a.toNatClampNeg)) 11 0 1 (gI (pI σ 11 0 0 (gI σ 3 w a.toNatClampNeg)) 4 w a.toNatClampNeg)) 6 rfl ⟨ha, trivial⟩ ?_
    refine WS.run (C := [vp_in b 20]) (pc' := 30) (L' := [vR 2 w, vI a, vI b, vR 11 0]) (S' := []) (σ' := pI (pI (pI σ 11 0 0 (gI σ 3 w a.toNatClampNeg)) 11 0 1 (gI (pI σ 11 0 0 (gI σ 3 w a.toNatClampNeg)) 4 w a.toNatClampNeg)) 11 0 2 (gI (pI (pI σ 11 0 0 (gI σ 3 w a.toNatClampNeg)) 11 0 1 (gI (pI σ 11 0 0 (gI σ 3 w a.toNatClampNeg)) 4 w a.toNatClampNeg)) 3 w b.toNatClampNeg)) 6 rfl ⟨hb, trivial⟩ ?_
    refine WS.run (C := [vp_in b 20]) (pc' := 40) (L' := [vR 2 w, vI a, vI b, vR 11 0]) (S' := []) (σ' := pI (pI (pI (pI σ 11 0 0 (gI σ 3 w a.toNatClampNeg)) 11 0 1 (gI (pI σ 11 0 0 (gI σ 3 w a.toNatClampNeg)) 4 w a.toNatClampNeg)) 11 0 2 (gI (pI (pI σ 11 0 0 (gI σ 3 w a.toNatClampNeg)) 11 0 1 (gI (pI σ 11 0 0 (gI σ 3 w a.toNatClampNeg)) 4 w a.toNatClampNeg)) 3 w b.toNatClampNeg)) 11 0 3 (gI (pI (pI (pI σ 11 0 0 (gI σ 3 w a.toNatClampNeg)) 11 0 1 (gI (pI σ 11 0 0 (gI σ 3 w a.toNatClampNeg)) 4 w a.toNatClampNeg)) 11 0 2 (gI (pI (pI σ 11 0 0 (gI σ 3 w a.toNatClampNeg)) 11 0 1 (gI (pI σ 11 0 0 (gI σ 3 w a.toNatClampNeg)) 4 w a.toNatClampNeg)) 3 w b.toNatClampNeg)) 4 w b.toNatClampNeg)) 6 rfl ⟨hb, trivial⟩ ?_
    exact WS.vret rfl rfl (h _ (span4 (k := 11) (by decide) rfl rfl rfl rfl).1 (span4 (k := 11) (by decide) rfl rfl rfl rfl).2)
  · refine MM.of ok_Way_bringSpan rfl ?_
    show WS _ M_Way_bringSpan 0 [vR 2 w, vI a, vI b, vR 12 0] [] σ _
    refine WS.run (C := [vp_in a 20]) (pc' := 10) (L' := [vR 2 w, vI a, vI b, vR 12 0]) (S' := []) (σ' := pI σ 12 0 0 (gI σ 3 w a.toNatClampNeg)) 6 rfl ⟨ha, trivial⟩ ?_
    refine WS.run (C := [vp_in a 20]) (pc' := 20) (L' := [vR 2 w, vI a, vI b, vR 12 0]) (S' := []) (σ' := pI (pI σ 12 0 0 (gI σ 3 w a.toNatClampNeg)) 12 0 1 (gI (pI σ 12 0 0 (gI σ 3 w a.toNatClampNeg)) 4 w a.toNatClampNeg)) 6 rfl ⟨ha, trivial⟩ ?_
    refine WS.run (C := [vp_in b 20]) (pc' := 30) (L' := [vR 2 w, vI a, vI b, vR 12 0]) (S' := []) (σ' := pI (pI (pI σ 12 0 0 (gI σ 3 w a.toNatClampNeg)) 12 0 1 (gI (pI σ 12 0 0 (gI σ 3 w a.toNatClampNeg)) 4 w a.toNatClampNeg)) 12 0 2 (gI (pI (pI σ 12 0 0 (gI σ 3 w a.toNatClampNeg)) 12 0 1 (gI (pI σ 12 0 0 (gI σ 3 w a.toNatClampNeg)) 4 w a.toNatClampNeg)) 3 w b.toNatClampNeg)) 6 rfl ⟨hb, trivial⟩ ?_
    refine WS.run (C := [vp_in b 20]) (pc' := 40) (L' := [vR 2 w, vI a, vI b, vR 12 0]) (S' := []) (σ' := pI (pI (pI (pI σ 12 0 0 (gI σ 3 w a.toNatClampNeg)) 12 0 1 (gI (pI σ 12 0 0 (gI σ 3 w a.toNatClampNeg)) 4 w a.toNatClampNeg)) 12 0 2 (gI (pI (pI σ 12 0 0 (gI σ 3 w a.toNatClampNeg)) 12 0 1 (gI (pI σ 12 0 0 (gI σ 3 w a.toNatClampNeg)) 4 w a.toNatClampNeg)) 3 w b.toNatClampNeg)) 12 0 3 (gI (pI (pI (pI σ 12 0 0 (gI σ 3 w a.toNatClampNeg)) 12 0 1 (gI (pI σ 12 0 0 (gI σ 3 w a.toNatClampNeg)) 4 w a.toNatClampNeg)) 12 0 2 (gI (pI (pI σ 12 0 0 (gI σ 3 w a.toNatClampNeg)) 12 0 1 (gI (pI σ 12 0 0 (gI σ 3 w a.toNatClampNeg)) 4 w a.toNatClampNeg)) 3 w b.toNatClampNeg)) 4 w b.toNatClampNeg)) 6 rfl ⟨hb, trivial⟩ ?_
    exact WS.vret rfl rfl (h _ (span4 (k := 12) (by decide) rfl rfl rfl rfl).1 (span4 (k := 12) (by decide) rfl rfl rfl rfl).2)
  · refine MM.of ok_Way_bringSpan rfl ?_
    show WS _ M_Way_bringSpan 0 [vR 2 w, vI a, vI b, vR 40 0] [] σ _
    refine WS.run (C := [vp_in a 20]) (pc' := 10) (L' := [vR 2 w, vI a, vI b, vR 40 0]) (S' := []) (σ' := pI σ 40 0 0 (gI σ 3 w a.toNatClampNeg)) 6 rfl ⟨ha, trivial⟩ ?_
    refine WS.run (C := [vp_in a 20]) (pc' := 20) (L' := [vR 2 w, vI a, vI b, vR 40 0]) (S' := []) (σ' := pI (pI σ 40 0 0 (gI σ 3 w a.toNatClampNeg)) 40 0 1 (gI (pI σ 40 0 0 (gI σ 3 w a.toNatClampNeg)) 4 w a.toNatClampNeg)) 6 rfl ⟨ha, trivial⟩ ?_
    refine WS.run (C := [vp_in b 20]) (pc' := 30) (L' := [vR 2 w, vI a, vI b, vR 40 0]) (S' := []) (σ' := pI (pI (pI σ 40 0 0 (gI σ 3 w a.toNatClampNeg)) 40 0 1 (gI (pI σ 40 0 0 (gI σ 3 w a.toNatClampNeg)) 4 w a.toNatClampNeg)) 40 0 2 (gI (pI (pI σ 40 0 0 (gI σ 3 w a.toNatClampNeg)) 40 0 1 (gI (pI σ 40 0 0 (gI σ 3 w a.toNatClampNeg)) 4 w a.toNatClampNeg)) 3 w b.toNatClampNeg)) 6 rfl ⟨hb, trivial⟩ ?_
    refine WS.run (C := [vp_in b 20]) (pc' := 40) (L' := [vR 2 w, vI a, vI b, vR 40 0]) (S' := []) (σ' := pI (pI (pI (pI σ 40 0 0 (gI σ 3 w a.toNatClampNeg)) 40 0 1 (gI (pI σ 40 0 0 (gI σ 3 w a.toNatClampNeg)) 4 w a.toNatClampNeg)) 40 0 2 (gI (pI (pI σ 40 0 0 (gI σ 3 w a.toNatClampNeg)) 40 0 1 (gI (pI σ 40 0 0 (gI σ 3 w a.toNatClampNeg)) 4 w a.toNatClampNeg)) 3 w b.toNatClampNeg)) 40 0 3 (gI (pI (pI (pI σ 40 0 0 (gI σ 3 w a.toNatClampNeg)) 40 0 1 (gI (pI σ 40 0 0 (gI σ 3 w a.toNatClampNeg)) 4 w a.toNatClampNeg)) 40 0 2 (gI (pI (pI σ 40 0 0 (gI σ 3 w a.toNatClampNeg)) 40 0 1 (gI (pI σ 40 0 0 (gI σ 3 w a.toNatClampNeg)) 4 w a.toNatClampNeg)) 3 w b.toNatClampNeg)) 4 w b.toNatClampNeg)) 6 rfl ⟨hb, trivial⟩ ?_
    exact WS.vret rfl rfl (h _ (span4 (k := 40) (by decide) rfl rfl rfl rfl).1 (span4 (k := 40) (by decide) rfl rfl rfl rfl).2)
set_option maxRecDepth 4000 in
set_option maxHeartbeats 400000 in
theorem c_bringLine {d : Nat} {σ : Mem} {Post : Option AV → Mem → Prop} {w k i : Nat} (hk : isLn k) (hi : i + 1 < 20) (hn1 : vp_in (gI σ 5 w i) 20) (hn2 : vp_in (gI σ 5 w (i + 1)) 20) (h : ∀ τ : Mem, Eqs [k] σ τ → lnC τ k = lnW σ w i → Post none τ) : MM (d + 1) M_Way_bringLine [vR 2 w, vI (nI i), vR k 0] σ Post := by
  have hi2 : i < 2147483648 := by omega
  have e1i : (nI i + 1).toNatClampNeg = i + 1 := by rw [nI_1]; exact cl_n (by omega)
  rcases hk with rfl | rfl | rfl
  · refine MM.of ok_Way_bringLine rfl ?_
    show WS _ M_Way_bringLine 0 [vR 2 w, vI (nI i), vR 11 0] [] σ _
    refine WS.run (C := [vp_in (nI i) 20, vp_in ((nI i) + (1 : Int32)) 20]) (pc' := 16) (L' := [vR 2 w, vI (nI i), vR 11 0]) (S' := [vR 11 0, vI (gI σ 5 w ((nI i) + (1 : Int32)).toNatClampNeg), vI (gI σ 5 w (nI i).toNatClampNeg), vR 2 w]) (σ' := σ) 12 rfl ⟨(vp_n (by omega) (by omega)), (by rw [nI_1]; exact vp_n (by omega) (by omega)), trivial⟩ ?_
    simp only [cl_n hi2, e1i]
    refine WS.callV M_Way_bringSpan (k := 2) (i := w) (as := [vI (gI σ 5 w i), vI (gI σ 5 w (i + 1)), vR 11 0]) (rest := []) rfl lk_8_38 rfl rfl rfl (Nat.le_of_ble_eq_true rfl) ?_
    refine c_bringSpan (Or.inl rfl) hn1 hn2 (fun τ1 e1a e1b => ?_)
    show WS _ M_Way_bringLine 19 [vR 2 w, vI (nI i), vR 11 0] [] τ1 _
    exact WS.vret rfl rfl (h _ e1a e1b)
  · refine MM.of ok_Way_bringLine rfl ?_
    show WS _ M_Way_bringLine 0 [vR 2 w, vI (nI i), vR 12 0] [] σ _
    refine WS.run (C := [vp_in (nI i) 20, vp_in ((nI i) + (1 : Int32)) 20]) (pc' := 16) (L' := [vR 2 w, vI (nI i), vR 12 0]) (S' := [vR 12 0, vI (gI σ 5 w ((nI i) + (1 : Int32)).toNatClampNeg), vI (gI σ 5 w (nI i).toNatClampNeg), vR 2 w]) (σ' := σ) 12 rfl ⟨(vp_n (by omega) (by omega)), (by rw [nI_1]; exact vp_n (by omega) (by omega)), trivial⟩ ?_
    simp only [cl_n hi2, e1i]
    refine WS.callV M_Way_bringSpan (k := 2) (i := w) (as := [vI (gI σ 5 w i), vI (gI σ 5 w (i + 1)), vR 12 0]) (rest := []) rfl lk_8_38 rfl rfl rfl (Nat.le_of_ble_eq_true rfl) ?_
    refine c_bringSpan (Or.inr (Or.inl rfl)) hn1 hn2 (fun τ1 e1a e1b => ?_)
    show WS _ M_Way_bringLine 19 [vR 2 w, vI (nI i), vR 12 0] [] τ1 _
    exact WS.vret rfl rfl (h _ e1a e1b)
  · refine MM.of ok_Way_bringLine rfl ?_
    show WS _ M_Way_bringLine 0 [vR 2 w, vI (nI i), vR 40 0] [] σ _
    refine WS.run (C := [vp_in (nI i) 20, vp_in ((nI i) + (1 : Int32)) 20]) (pc' := 16) (L' := [vR 2 w, vI (nI i), vR 40 0]) (S' := [vR 40 0, vI (gI σ 5 w ((nI i) + (1 : Int32)).toNatClampNeg), vI (gI σ 5 w (nI i).toNatClampNeg), vR 2 w]) (σ' := σ) 12 rfl ⟨(vp_n (by omega) (by omega)), (by rw [nI_1]; exact vp_n (by omega) (by omega)), trivial⟩ ?_
    simp only [cl_n hi2, e1i]
    refine WS.callV M_Way_bringSpan (k := 2) (i := w) (as := [vI (gI σ 5 w i), vI (gI σ 5 w (i + 1)), vR 40 0]) (rest := []) rfl lk_8_38 rfl rfl rfl (Nat.le_of_ble_eq_true rfl) ?_
    refine c_bringSpan (Or.inr (Or.inr rfl)) hn1 hn2 (fun τ1 e1a e1b => ?_)
    show WS _ M_Way_bringLine 19 [vR 2 w, vI (nI i), vR 40 0] [] τ1 _
    exact WS.vret rfl rfl (h _ e1a e1b)
end
section
/-! contracts: the ruler -/
/-- a way of the class that may be read: c points, drawn by s of them -/
def WayV (σ : Mem) (w c s : Nat) : Prop := gI σ 2 w 3 = nI c ∧ gI σ 2 w 4 = nI s ∧ c ≤ 20 ∧ s ≤ c ∧ (∀ i, i < c → co (px σ w i) ∧ co (py σ w i)) ∧ (∀ i, i < s → nb σ w i < c ∧ gI σ 5 w i = nI (nb σ w i))
theorem px_eq {ks : List Nat} {σ τ : Mem} (h : Eqs ks σ τ) (hk : 3 ∉ ks) (w i : Nat) : px τ w i = px σ w i := by unfold px; rw [h.1 3 w i hk]
theorem py_eq {ks : List Nat} {σ τ : Mem} (h : Eqs ks σ τ) (hk : 4 ∉ ks) (w i : Nat) : py τ w i = py σ w i := by unfold py; rw [h.1 4 w i hk]
theorem nb_eq {ks : List Nat} {σ τ : Mem} (h : Eqs ks σ τ) (hk : 5 ∉ ks) (w i : Nat) : nb τ w i = nb σ w i := by unfold nb; rw [h.1 5 w i hk]
theorem spn_eq {ks : List Nat} {σ τ : Mem} (h : Eqs ks σ τ) (h3 : 3 ∉ ks) (h4 : 4 ∉ ks) (w a b : Nat) : spn τ w a b = spn σ w a b := by unfold spn; rw [px_eq h h3, py_eq h h4, px_eq h h3, py_eq h h4]
theorem lnW_eq {ks : List Nat} {σ τ : Mem} (h : Eqs ks σ τ) (h3 : 3 ∉ ks) (h4 : 4 ∉ ks) (h5 : 5 ∉ ks) (w i : Nat) : lnW τ w i = lnW σ w i := by unfold lnW; rw [spn_eq h h3 h4, nb_eq h h5, nb_eq h h5]
theorem WayV.eq {ks : List Nat} {σ τ : Mem} {w c s : Nat} (hv : WayV σ w c s) (h : Eqs ks σ τ) (h2 : 2 ∉ ks) (h3 : 3 ∉ ks) (h4 : 4 ∉ ks) (h5 : 5 ∉ ks) : WayV τ w c s := by
  obtain ⟨a1, a2, a3, a4, a5, a6⟩ := hv
  refine ⟨by rw [h.1 2 _ _ h2]; exact a1, by rw [h.1 2 _ _ h2]; exact a2, a3, a4, fun i hi => ?_, fun i hi => ?_⟩
  · rw [px_eq h h3, py_eq h h4]; exact a5 i hi
  · rw [nb_eq h h5, h.1 5 _ _ h5]; exact a6 i hi
theorem lnB_W {σ : Mem} {w c s i : Nat} (hv : WayV σ w c s) (hi : i + 1 < s) : lnB (lnW σ w i) := by
  have h1 := hv.2.2.2.2.1 (nb σ w i) (hv.2.2.2.2.2 i (by omega)).1
  have h2 := hv.2.2.2.2.1 (nb σ w (i + 1)) (hv.2.2.2.2.2 (i + 1) (by omega)).1
  exact ⟨h1.1, h1.2, h2.1, h2.2⟩
theorem vp_nb {σ : Mem} {w c s i : Nat} (hv : WayV σ w c s) (hi : i < s) : vp_in (gI σ 5 w i) 20 := by
  have h1 := hv.2.2.2.2.2 i hi
  rw [h1.2]
  exact vp_n (by have := hv.2.2.1; omega) (by omega)
theorem lc1 {x : Int32} {s i : Nat} (h : x = nI s) (hs : s ≤ 1000) (hi : i ≤ 1000) : (x - 1 ≤ nI i) ↔ s ≤ i + 1 := by
  rw [t_le, h, t_sub] <;> rw [nI_t (by omega), t_1] <;> try omega
  rw [nI_t (by omega)]; omega
theorem lnC_eq {ks : List Nat} {σ τ : Mem} {k : Nat} (h : Eqs ks σ τ) (hk : k ∉ ks) : lnC τ k = lnC σ k := by unfold lnC; rw [h.1 k _ _ hk, h.1 k _ _ hk, h.1 k _ _ hk, h.1 k _ _ hk]
def NearW (σ : Mem) (a b sa sb : Nat) (g : Int) : Prop := ∃ i j, i + 1 < sa ∧ j + 1 < sb ∧ closeZ (lnW σ a i) (lnW σ b j) g
set_option maxRecDepth 4000 in
set_option maxHeartbeats 400000 in
theorem c_areTooNear {d : Nat} {σ : Mem} {Post : Option AV → Mem → Prop} {a b ca sa cb sb : Nat} {g : Int32} (ha : WayV σ a ca sa) (hb : WayV σ b cb sb) (hg : 0 ≤ g.toInt ∧ g.toInt ≤ 100) (h1 : ∀ τ : Mem, Eqs [11, 12] σ τ → NearW σ a b sa sb g.toInt → Post (some (vI 1)) τ) (h0 : ∀ τ : Mem, Eqs [11, 12] σ τ → ¬ NearW σ a b sa sb g.toInt → Post (some (vI 0)) τ) : MM (d + 3) M_Ruler_areTooNear [vR 10 0, vR 2 a, vR 2 b, vI g] σ Post := by
  obtain ⟨hsa, hca⟩ : sa ≤ 20 ∧ sb ≤ 20 := by have := ha.2.2.1; have := ha.2.2.2.1; have := hb.2.2.1; have := hb.2.2.2.1; omega
  refine MM.of ok_Ruler_areTooNear rfl ?_
  show WS _ M_Ruler_areTooNear 0 [vR 10 0, vR 2 a, vR 2 b, vI g, vU, vU] [] σ _
  have n2 : 2 ∉ [11, 12] ∧ 3 ∉ [11, 12] ∧ 4 ∉ [11, 12] ∧ 5 ∉ [11, 12] := by decide
  have key : ∀ i, i ≤ sa - 1 → ∀ (τ : Mem) (v5 : AV), Eqs [11, 12] σ τ → (∀ i2 j2, i2 < i → i2 + 1 < sa → j2 + 1 < sb → ¬ closeZ (lnW σ a i2) (lnW σ b j2) g.toInt) → WS (d + 3) M_Ruler_areTooNear 3 [vR 10 0, vR 2 a, vR 2 b, vI g, vI (nI i), v5] [] τ Post := by
    refine upto (sa - 1) ?_ ?_
    · intro τ v5 hE hN
      have hat := ha.eq hE n2.1 n2.2.1 n2.2.2.1 n2.2.2.2
      refine WS.run (C := []) (pc' := 11) (L' := [vR 10 0, vR 2 a, vR 2 b, vI g, vI (nI (sa - 1)), v5]) (S' := [vI (gI τ 2 a 4 - (1 : Int32)), vI (nI (sa - 1))]) (σ' := τ) 5 rfl trivial ?_
      refine WS.br (P := (gI τ 2 a 4 - (1 : Int32)) ≤ (nI (sa - 1))) (a := 91) (b := 14) (S' := []) rfl (fun _ => ?_) (fun cc => absurd ((lc1 hat.2.1 (by omega) (by omega)).mpr (by omega)) cc)
      refine WS.run (C := []) (pc' := 92) (L' := [vR 10 0, vR 2 a, vR 2 b, vI g, vI (nI (sa - 1)), v5]) (S' := [vI (0 : Int32)]) (σ' := τ) 1 rfl trivial ?_
      exact WS.ret rfl rfl (by decide) rfl (h0 _ hE (by rintro ⟨i2, j2, z1, z2, z3⟩; exact hN i2 j2 (by omega) z1 z2 z3))
    · intro i hi ih τ v5 hE hN
      have hat := ha.eq hE n2.1 n2.2.1 n2.2.2.1 n2.2.2.2
      have hbt := hb.eq hE n2.1 n2.2.1 n2.2.2.1 n2.2.2.2
      refine WS.run (C := []) (pc' := 11) (L' := [vR 10 0, vR 2 a, vR 2 b, vI g, vI (nI i), v5]) (S' := [vI (gI τ 2 a 4 - (1 : Int32)), vI (nI i)]) (σ' := τ) 5 rfl trivial ?_
      refine WS.br (P := (gI τ 2 a 4 - (1 : Int32)) ≤ (nI i)) (a := 91) (b := 14) (S' := []) rfl (fun cc => absurd cc (fun z => by have := (lc1 hat.2.1 (by omega) (by omega)).mp z; omega)) (fun _ => ?_)
      refine WS.run (C := []) (pc' := 21) (L' := [vR 10 0, vR 2 a, vR 2 b, vI g, vI (nI i), v5]) (S' := [vR 11 0, vI (nI i), vR 2 a]) (σ' := τ) 4 rfl trivial ?_
      refine WS.callV M_Way_bringLine (k := 2) (i := a) (as := [vI (nI i), vR 11 0]) (rest := []) rfl lk_5_62 rfl rfl rfl (Nat.le_of_ble_eq_true rfl) ?_
      refine c_bringLine (Or.inl rfl) (by omega) (vp_nb hat (by omega)) (vp_nb hat (by omega)) (fun υ1 f1a f1b => ?_)
      show WS _ M_Ruler_areTooNear 24 [vR 10 0, vR 2 a, vR 2 b, vI g, vI (nI i), v5] [] υ1 _
      refine WS.run (C := []) (pc' := 27) (L' := [vR 10 0, vR 2 a, vR 2 b, vI g, vI (nI i), vI (0 : Int32)]) (S' := []) (σ' := υ1) 2 rfl trivial ?_
      have hE1 : Eqs [11, 12] σ υ1 := hE.tr (f1a.mono (by decide))
      have e11 : lnC υ1 11 = lnW σ a i := by rw [f1b]; exact lnW_eq hE n2.2.1 n2.2.2.1 n2.2.2.2 a i
      have inn : ∀ j, j ≤ sb - 1 → ∀ υ : Mem, Eqs [12] υ1 υ → (∀ j2, j2 < j → j2 + 1 < sb → ¬ closeZ (lnW σ a i) (lnW σ b j2) g.toInt) → WS (d + 3) M_Ruler_areTooNear 27 [vR 10 0, vR 2 a, vR 2 b, vI g, vI (nI i), vI (nI j)] [] υ Post := by
        refine upto (sb - 1) ?_ ?_
        · intro υ hF hM
          have hE2 : Eqs [11, 12] σ υ := hE1.tr (hF.mono (by decide))
          have hbu := hb.eq hE2 n2.1 n2.2.1 n2.2.2.1 n2.2.2.2
          refine WS.run (C := []) (pc' := 35) (L' := [vR 10 0, vR 2 a, vR 2 b, vI g, vI (nI i), vI (nI (sb - 1))]) (S' := [vI (gI υ 2 b 4 - (1 : Int32)), vI (nI (sb - 1))]) (σ' := υ) 5 rfl trivial ?_
          refine WS.br (P := (gI υ 2 b 4 - (1 : Int32)) ≤ (nI (sb - 1))) (a := 85) (b := 38) (S' := []) rfl (fun _ => ?_) (fun cc => absurd ((lc1 hbu.2.1 (by omega) (by omega)).mpr (by omega)) cc)
          refine WS.run (C := []) (pc' := 3) (L' := [vR 10 0, vR 2 a, vR 2 b, vI g, vI ((nI i) + (1 : Int32)), vI (nI (sb - 1))]) (S' := []) (σ' := υ) 2 rfl trivial ?_
          simp only [nI_1]
          exact ih υ _ hE2 (fun i2 j2 z1 z2 z3 => by
            rcases Nat.lt_or_ge i2 i with q | q
            · exact hN i2 j2 q z2 z3
            · have : i2 = i := by omega
              subst this
              exact hM j2 (by omega) z3)
        · intro j hj ih2 υ hF hM
          have hE2 : Eqs [11, 12] σ υ := hE1.tr (hF.mono (by decide))
          have hbu := hb.eq hE2 n2.1 n2.2.1 n2.2.2.1 n2.2.2.2
          refine WS.run (C := []) (pc' := 35) (L' := [vR 10 0, vR 2 a, vR 2 b, vI g, vI (nI i), vI (nI j)]) (S' := [vI (gI υ 2 b 4 - (1 : Int32)), vI (nI j)]) (σ' := υ) 5 rfl trivial ?_
          refine WS.br (P := (gI υ 2 b 4 - (1 : Int32)) ≤ (nI j)) (a := 85) (b := 38) (S' := []) rfl (fun cc => absurd cc (fun z => by have := (lc1 hbu.2.1 (by omega) (by omega)).mp z; omega)) (fun _ => ?_)
          refine WS.run (C := []) (pc' := 45) (L' := [vR 10 0, vR 2 a, vR 2 b, vI g, vI (nI i), vI (nI j)]) (S' := [vR 12 0, vI (nI j), vR 2 b]) (σ' := υ) 4 rfl trivial ?_
          refine WS.callV M_Way_bringLine (k := 2) (i := b) (as := [vI (nI j), vR 12 0]) (rest := []) rfl lk_5_62 rfl rfl rfl (Nat.le_of_ble_eq_true rfl) ?_
          refine c_bringLine (Or.inr (Or.inl rfl)) (by omega) (vp_nb hbu (by omega)) (vp_nb hbu (by omega)) (fun υ2 f2a f2b => ?_)
          show WS _ M_Ruler_areTooNear 48 [vR 10 0, vR 2 a, vR 2 b, vI g, vI (nI i), vI (nI j)] [] υ2 _
          refine WS.run (C := []) (pc' := 56) (L' := [vR 10 0, vR 2 a, vR 2 b, vI g, vI (nI i), vI (nI j)]) (S' := [vR 12 0, vR 11 0]) (σ' := υ2) 4 rfl trivial ?_
          refine WS.callV M_Line_sharesEnd (k := 11) (i := 0) (as := [vR 12 0]) (rest := []) rfl lk_5_66 rfl rfl rfl (Nat.le_of_ble_eq_true rfl) ?_
          have e12 : lnC υ2 12 = lnW σ b j := by rw [f2b]; exact lnW_eq hE2 n2.2.1 n2.2.2.1 n2.2.2.2 b j
          have e11u : lnC υ2 11 = lnW σ a i := by rw [← e11, lnC_eq (hF.tr f2a) (by decide)]
          refine c_sharesEnd (Or.inl ⟨rfl, rfl⟩) (fun q3 => ?_) (fun q3 => ?_)
          · show WS _ M_Ruler_areTooNear 59 [vR 10 0, vR 2 a, vR 2 b, vI g, vI (nI i), vI (nI j)] [vI (1 : Int32)] υ2 _
            refine WS.br (P := (1 : Int32) = 0) (a := 62) (b := 79) (S' := []) rfl (fun cc => absurd cc (by decide)) (fun _ => ?_)
            refine WS.run (C := []) (pc' := 27) (L' := [vR 10 0, vR 2 a, vR 2 b, vI g, vI (nI i), vI ((nI j) + (1 : Int32))]) (S' := []) (σ' := υ2) 2 rfl trivial ?_
            simp only [nI_1]
            exact ih2 υ2 (hF.tr f2a) (fun j2 z1 z2 => by
              rcases Nat.lt_or_ge j2 j with q | q
              · exact hM j2 q z2
              · have : j2 = j := by omega
                subst this
                exact fun z => z.1 (by rw [e11u, e12] at q3; exact q3))
          · show WS _ M_Ruler_areTooNear 59 [vR 10 0, vR 2 a, vR 2 b, vI g, vI (nI i), vI (nI j)] [vI (0 : Int32)] υ2 _
            refine WS.br (P := (0 : Int32) = 0) (a := 62) (b := 79) (S' := []) rfl (fun _ => ?_) (fun cc => absurd (by decide) cc)
            refine WS.run (C := []) (pc' := 71) (L' := [vR 10 0, vR 2 a, vR 2 b, vI g, vI (nI i), vI (nI j)]) (S' := [vI g, vR 12 0, vR 11 0]) (σ' := υ2) 5 rfl trivial ?_
            refine WS.callV M_Line_isNearer (k := 11) (i := 0) (as := [vR 12 0, vI g]) (rest := []) rfl lk_5_70 rfl rfl rfl (Nat.le_of_ble_eq_true rfl) ?_
            refine c_isNearer (Or.inl ⟨rfl, rfl⟩) (by rw [e11u]; exact lnB_W ha (by omega)) (by rw [e12]; exact lnB_W hb (by omega)) hg (fun q4 => ?_) (fun q4 => ?_)
            · show WS _ M_Ruler_areTooNear 74 [vR 10 0, vR 2 a, vR 2 b, vI g, vI (nI i), vI (nI j)] [vI (1 : Int32)] υ2 _
              refine WS.br (P := (1 : Int32) = 0) (a := 79) (b := 77) (S' := []) rfl (fun cc => absurd cc (by decide)) (fun _ => ?_)
              refine WS.run (C := []) (pc' := 78) (L' := [vR 10 0, vR 2 a, vR 2 b, vI g, vI (nI i), vI (nI j)]) (S' := [vI (1 : Int32)]) (σ' := υ2) 1 rfl trivial ?_
              exact WS.ret rfl rfl (by decide) rfl (h1 _ (hE2.tr (f2a.mono (by decide))) ⟨i, j, by omega, by omega, by rw [← e11u, ← e12]; exact ⟨q3, q4⟩⟩)
            · show WS _ M_Ruler_areTooNear 74 [vR 10 0, vR 2 a, vR 2 b, vI g, vI (nI i), vI (nI j)] [vI (0 : Int32)] υ2 _
              refine WS.br (P := (0 : Int32) = 0) (a := 79) (b := 77) (S' := []) rfl (fun _ => ?_) (fun cc => absurd (by decide) cc)
              refine WS.run (C := []) (pc' := 27) (L' := [vR 10 0, vR 2 a, vR 2 b, vI g, vI (nI i), vI ((nI j) + (1 : Int32))]) (S' := []) (σ' := υ2) 2 rfl trivial ?_
              simp only [nI_1]
              exact ih2 υ2 (hF.tr f2a) (fun j2 z1 z2 => by
                rcases Nat.lt_or_ge j2 j with q | q
                · exact hM j2 q z2
                · have : j2 = j := by omega
                  subst this
                  exact fun z => q4 (by rw [e11u, e12]; exact z.2))
      exact inn 0 (by omega) υ1 Eqs.rf (fun j2 z => by omega)
  refine WS.run (C := []) (pc' := 3) (L' := [vR 10 0, vR 2 a, vR 2 b, vI g, vI (0 : Int32), vU]) (S' := []) (σ' := σ) 2 rfl trivial ?_
  exact key 0 (by omega) σ vU Eqs.rf (fun i2 j2 z => by omega)
end
section
/-! contracts: the geometry of the model -/
def mX (σ : Mem) (i : Nat) : Int := (gI σ 56 0 i).toInt
def mY (σ : Mem) (i : Nat) : Int := (gI σ 57 0 i).toInt
def mP (σ : Mem) (a : Nat) : Prop := a < 240 ∧ co (mX σ a) ∧ co (mY σ a)
def lnM (σ : Mem) (a b : Nat) : Ln := (mX σ a, mY σ a, mX σ b, mY σ b)
theorem lnM_B {σ : Mem} {a b : Nat} (ha : mP σ a) (hb : mP σ b) : lnB (lnM σ a b) := ⟨ha.2.1, ha.2.2, hb.2.1, hb.2.2⟩
theorem j_co {x y : Int32} (hx : co x.toInt) (hy : co y.toInt) : (x - y).toInt64.toInt = x.toInt - y.toInt := by rw [j_of, co_sub hx hy]
theorem j_cop {a b c e : Int32} (ha : co a.toInt) (hb : co b.toInt) (hc : co c.toInt) (he : co e.toInt) : ((a - b).toInt64 * (c - e).toInt64).toInt = (a.toInt - b.toInt) * (c.toInt - e.toInt) := by
  have h := co_mul ha hb hc he
  rw [j_mul, j_co ha hb, j_co hc he] <;> rw [j_co ha hb, j_co hc he] <;> omega
theorem crossJ {x1 y1 x2 y2 x y : Int32} (h1 : co x1.toInt) (h2 : co y1.toInt) (h3 : co x2.toInt) (h4 : co y2.toInt) (h5 : co x.toInt) (h6 : co y.toInt) : ((x2 - x1).toInt64 * (y - y1).toInt64 - (y2 - y1).toInt64 * (x - x1).toInt64).toInt = sd x1.toInt y1.toInt x2.toInt y2.toInt x.toInt y.toInt := by
  have a1 := co_mul h3 h1 h6 h2
  have a2 := co_mul h4 h2 h5 h1
  have e1 := j_cop h3 h1 h6 h2
  have e2 := j_cop h4 h2 h5 h1
  rw [j_sub (by rw [e1, e2]; omega) (by rw [e1, e2]; omega), e1, e2]
  rfl
theorem alongJ {x1 y1 x2 y2 x y : Int32} (h1 : co x1.toInt) (h2 : co y1.toInt) (h3 : co x2.toInt) (h4 : co y2.toInt) (h5 : co x.toInt) (h6 : co y.toInt) : ((x - x1).toInt64 * (x2 - x1).toInt64 + (y - y1).toInt64 * (y2 - y1).toInt64).toInt = al x1.toInt y1.toInt x2.toInt y2.toInt x.toInt y.toInt := by
  have a1 := co_mul h5 h1 h3 h1
  have a2 := co_mul h6 h2 h4 h2
  have e1 := j_cop h5 h1 h3 h1
  have e2 := j_cop h6 h2 h4 h2
  rw [j_add (by rw [e1, e2]; omega) (by rw [e1, e2]; omega), e1, e2]
  unfold al
  rw [Int.mul_comm (x2.toInt - x1.toInt), Int.mul_comm (y2.toInt - y1.toInt)]
theorem dd_al (x1 y1 x2 y2 : Int) : dd x1 y1 x2 y2 = al x1 y1 x2 y2 x2 y2 := by unfold dd al; grind
set_option maxRecDepth 4000 in
set_option maxHeartbeats 400000 in
theorem c_Msquare {d : Nat} {σ : Mem} {Post : Option AV → Mem → Prop} {x : Int64} (hx : -3037000499 ≤ x.toInt ∧ x.toInt ≤ 3037000499) (h : ∀ r : Int64, r.toInt = x.toInt * x.toInt → Post (some (vJ r)) σ) : MM d M_MD_square [vJ x] σ Post := by
  refine MM.of ok_MD_square rfl ?_
  show WS _ M_MD_square 0 [vJ x, vU] [] σ _
  refine WS.run (C := []) (pc' := 3) (L' := [vJ x, vU]) (S' := [vJ (x * x)]) (σ' := σ) 3 rfl trivial ?_
  exact WS.lret rfl rfl (h _ (by have q := mul_bd (a := x.toInt) (b := x.toInt) (A := 3037000499) (B := 3037000499) hx.1 hx.2 hx.1 hx.2 (by omega) (by omega); exact j_mul (by omega) (by omega)))
theorem j_0 : (0 : Int64).toInt = 0 := by decide
set_option maxRecDepth 4000 in
set_option maxHeartbeats 400000 in
theorem c_MsignOf {d : Nat} {σ : Mem} {Post : Option AV → Mem → Prop} {x : Int64} (h : ∀ r : Int32, r.toInt = x.toInt.sign → Post (some (vI r)) σ) : MM d M_MD_signOf [vJ x] σ Post := by
  refine MM.of ok_MD_signOf rfl ?_
  show WS _ M_MD_signOf 0 [vJ x, vU] [] σ _
  refine WS.run (C := []) (pc' := 3) (L' := [vJ x, vU]) (S' := [vI (lg_cmp x (0 : Int64))]) (σ' := σ) 3 rfl trivial ?_
  refine WS.br (P := (lg_cmp x (0 : Int64)) ≤ 0) (a := 10) (b := 6) (S' := []) rfl (fun c1 => ?_) (fun c1 => ?_)
  · refine WS.run (C := []) (pc' := 13) (L' := [vJ x, vU]) (S' := [vI (lg_cmp x (0 : Int64))]) (σ' := σ) 3 rfl trivial ?_
    refine WS.br (P := 0 ≤ (lg_cmp x (0 : Int64))) (a := 20) (b := 16) (S' := []) rfl (fun c2 => ?_) (fun c2 => ?_)
    · refine WS.run (C := []) (pc' := 21) (L' := [vJ x, vU]) (S' := [vI (0 : Int32)]) (σ' := σ) 1 rfl trivial ?_
      exact WS.ret rfl rfl (by decide) rfl (h _ (by simp only [lg_lt, lg_eq, lg_le, lg_pos, lg_np, j_0] at *; rw [show x.toInt = 0 by omega]; decide))
    · refine WS.run (C := []) (pc' := 21) (L' := [vJ x, vU]) (S' := [vI (-1 : Int32)]) (σ' := σ) 2 rfl trivial ?_
      exact WS.ret rfl rfl (by decide) rfl (h _ (by simp only [lg_lt, lg_eq, lg_le, lg_pos, lg_np, j_0] at *; rw [Int.sign_eq_neg_one_of_neg (by omega)]; decide))
  · refine WS.run (C := []) (pc' := 21) (L' := [vJ x, vU]) (S' := [vI (1 : Int32)]) (σ' := σ) 2 rfl trivial ?_
    exact WS.ret rfl rfl (by decide) rfl (h _ (by simp only [lg_lt, lg_eq, lg_le, lg_pos, lg_np, j_0] at *; rw [Int.sign_eq_one_of_pos (by omega)]; decide))
set_option maxRecDepth 4000 in
set_option maxHeartbeats 400000 in
theorem c_Mcross {d : Nat} {σ : Mem} {Post : Option AV → Mem → Prop} {a b c : Nat} (ha : mP σ a) (hb : mP σ b) (hc : mP σ c) (h : ∀ r : Int64, r.toInt = sdL (lnM σ a b) (mX σ c) (mY σ c) → Post (some (vJ r)) σ) : MM d M_MD_cross [vR 51 0, vI (nI a), vI (nI b), vI (nI c)] σ Post := by
  have e_a : (nI a).toNatClampNeg = a := cl_n (by have := ha.1; omega)
  have e_b : (nI b).toNatClampNeg = b := cl_n (by have := hb.1; omega)
  have e_c : (nI c).toNatClampNeg = c := cl_n (by have := hc.1; omega)
  refine MM.of ok_MD_cross rfl ?_
  show WS _ M_MD_cross 0 [vR 51 0, vI (nI a), vI (nI b), vI (nI c)] [] σ _
  refine WS.run (C := [vp_in (nI b) 240, vp_in (nI a) 240, vp_in (nI c) 240, vp_in (nI a) 240, vp_in (nI b) 240, vp_in (nI a) 240, vp_in (nI c) 240, vp_in (nI a) 240]) (pc' := 59) (L' := [vR 51 0, vI (nI a), vI (nI b), vI (nI c)]) (S' := [vJ (((gI σ 56 0 (nI b).toNatClampNeg - gI σ 56 0 (nI a).toNatClampNeg).toInt64 * (gI σ 57 0 (nI c).toNatClampNeg - gI σ 57 0 (nI a).toNatClampNeg).toInt64) - ((gI σ 57 0 (nI b).toNatClampNeg - gI σ 57 0 (nI a).toNatClampNeg).toInt64 * (gI σ 56 0 (nI c).toNatClampNeg - gI σ 56 0 (nI a).toNatClampNeg).toInt64))]) (σ' := σ) 43 rfl ⟨(vp_n (by have := hb.1; omega) (by omega)), (vp_n (by have := ha.1; omega) (by omega)), (vp_n (by have := hc.1; omega) (by omega)), (vp_n (by have := ha.1; omega) (by omega)), (vp_n (by have := hb.1; omega) (by omega)), (vp_n (by have := ha.1; omega) (by omega)), (vp_n (by have := hc.1; omega) (by omega)), (vp_n (by have := ha.1; omega) (by omega)), trivial⟩ ?_
  simp only [e_a, e_b, e_c]
  exact WS.lret rfl rfl (h _ (crossJ ha.2.1 ha.2.2 hb.2.1 hb.2.2 hc.2.1 hc.2.2))
set_option maxRecDepth 4000 in
set_option maxHeartbeats 400000 in
theorem c_Mapart {d : Nat} {σ : Mem} {Post : Option AV → Mem → Prop} {a b : Nat} (ha : mP σ a) (hb : mP σ b) (h : ∀ r : Int64, r.toInt = dd (mX σ a) (mY σ a) (mX σ b) (mY σ b) → Post (some (vJ r)) σ) : MM (d + 1) M_MD_apart [vR 51 0, vI (nI a), vI (nI b)] σ Post := by
  have e_a : (nI a).toNatClampNeg = a := cl_n (by have := ha.1; omega)
  have e_b : (nI b).toNatClampNeg = b := cl_n (by have := hb.1; omega)
  have k1 : ((gI σ 56 0 a) - (gI σ 56 0 b)).toInt64.toInt = mX σ a - mX σ b := j_co ha.2.1 hb.2.1
  have k2 : ((gI σ 57 0 a) - (gI σ 57 0 b)).toInt64.toInt = mY σ a - mY σ b := j_co ha.2.2 hb.2.2
  obtain ⟨hax, hay⟩ := ha.2
  obtain ⟨hbx, hby⟩ := hb.2
  unfold co at hax hay hbx hby
  refine MM.of ok_MD_apart rfl ?_
  show WS _ M_MD_apart 0 [vR 51 0, vI (nI a), vI (nI b)] [] σ _
  refine WS.run (C := [vp_in (nI a) 240, vp_in (nI b) 240]) (pc' := 14) (L' := [vR 51 0, vI (nI a), vI (nI b)]) (S' := [vJ ((gI σ 56 0 (nI a).toNatClampNeg - gI σ 56 0 (nI b).toNatClampNeg).toInt64)]) (σ' := σ) 10 rfl ⟨(vp_n (by have := ha.1; omega) (by omega)), (vp_n (by have := hb.1; omega) (by omega)), trivial⟩ ?_
  simp only [e_a, e_b]
  refine WS.callS M_MD_square (as := [vJ ((gI σ 56 0 a - gI σ 56 0 b).toInt64)]) (rest := []) rfl lk_11_122 rfl rfl (Nat.le_of_ble_eq_true rfl) ?_
  refine c_Msquare (by rw [k1]; omega) (fun r1 e1 => ?_)
  show WS _ M_MD_apart 17 [vR 51 0, vI (nI a), vI (nI b)] [vJ r1] σ _
  refine WS.run (C := [vp_in (nI a) 240, vp_in (nI b) 240]) (pc' := 31) (L' := [vR 51 0, vI (nI a), vI (nI b)]) (S' := [vJ ((gI σ 57 0 (nI a).toNatClampNeg - gI σ 57 0 (nI b).toNatClampNeg).toInt64), vJ r1]) (σ' := σ) 10 rfl ⟨(vp_n (by have := ha.1; omega) (by omega)), (vp_n (by have := hb.1; omega) (by omega)), trivial⟩ ?_
  simp only [e_a, e_b]
  refine WS.callS M_MD_square (as := [vJ ((gI σ 57 0 a - gI σ 57 0 b).toInt64)]) (rest := [vJ r1]) rfl lk_11_122 rfl rfl (Nat.le_of_ble_eq_true rfl) ?_
  refine c_Msquare (by rw [k2]; omega) (fun r2 e2 => ?_)
  show WS _ M_MD_apart 34 [vR 51 0, vI (nI a), vI (nI b)] [vJ r2, vJ r1] σ _
  refine WS.run (C := []) (pc' := 35) (L' := [vR 51 0, vI (nI a), vI (nI b)]) (S' := [vJ (r1 + r2)]) (σ' := σ) 1 rfl trivial ?_
  exact WS.lret rfl rfl (h _ (by have q := dd_bd ha.2.1 ha.2.2 hb.2.1 hb.2.2; have q2 := sq_nn (mX σ a - mX σ b); have q3 := sq_nn (mY σ a - mY σ b); unfold dd at *; rw [j_add (by rw [e1, e2, k1, k2]; omega) (by rw [e1, e2, k1, k2]; omega), e1, e2, k1, k2]))
theorem fr_1 {l : Ln} {x y : Int} {u t : Int64} {T : Int32} (ht : 0 ≤ T.toInt ∧ T.toInt ≤ 100) (hb : lnB l) (hx : co x) (hy : co y) (eu : u.toInt = dd x y l.1 l.2.1) (et : t.toInt = T.toInt64.toInt * T.toInt64.toInt) (c : al l.1 l.2.1 l.2.2.1 l.2.2.2 x y ≤ 0) : (u - t).toInt = cmL l x y T.toInt := by
  have q := sq64 ht
  have d1 := dd_bd hx hy hb.1 hb.2.1
  rw [j_of] at et
  rw [j_sub (by rw [eu, et]; omega) (by rw [eu, et]; omega), eu, et]
  unfold cmL cmS
  rw [if_pos c]
theorem fr_2 {l : Ln} {x y : Int} {u t : Int64} {T : Int32} (ht : 0 ≤ T.toInt ∧ T.toInt ≤ 100) (hb : lnB l) (hx : co x) (hy : co y) (eu : u.toInt = dd x y l.2.2.1 l.2.2.2) (et : t.toInt = T.toInt64.toInt * T.toInt64.toInt) (c : ¬ al l.1 l.2.1 l.2.2.1 l.2.2.2 x y ≤ 0) (c2 : al l.1 l.2.1 l.2.2.1 l.2.2.2 l.2.2.1 l.2.2.2 ≤ al l.1 l.2.1 l.2.2.1 l.2.2.2 x y) : (u - t).toInt = cmL l x y T.toInt := by
  have q := sq64 ht
  have d1 := dd_bd hx hy hb.2.2.1 hb.2.2.2
  rw [j_of] at et
  rw [j_sub (by rw [eu, et]; omega) (by rw [eu, et]; omega), eu, et]
  unfold cmL cmS
  rw [if_neg c, if_pos c2]
theorem fr_3 {l : Ln} {x y : Int} {u v w t : Int64} {T : Int32} (ht : 0 ≤ T.toInt ∧ T.toInt ≤ 100) (hb : lnB l) (hx : co x) (hy : co y) (eu : u.toInt = sdL l x y) (ev : v.toInt = u.toInt * u.toInt) (et : t.toInt = T.toInt64.toInt * T.toInt64.toInt) (ew : w.toInt = al l.1 l.2.1 l.2.2.1 l.2.2.2 l.2.2.1 l.2.2.2) (c : ¬ al l.1 l.2.1 l.2.2.1 l.2.2.2 x y ≤ 0) (c2 : ¬ al l.1 l.2.1 l.2.2.1 l.2.2.2 l.2.2.1 l.2.2.2 ≤ al l.1 l.2.1 l.2.2.1 l.2.2.2 x y) : (v - t * w).toInt = cmL l x y T.toInt := by
  have q := sq64 ht
  have b1 := sd_bd hb.1 hb.2.1 hb.2.2.1 hb.2.2.2 hx hy
  have b2 := al_bd hb.1 hb.2.1 hb.2.2.1 hb.2.2.2 hb.2.2.1 hb.2.2.2
  unfold sdL at eu
  have m1 := mul_bd (a := u.toInt) (b := u.toInt) (A := 320000) (B := 320000) (by rw [eu]; exact b1.1) (by rw [eu]; exact b1.2) (by rw [eu]; exact b1.1) (by rw [eu]; exact b1.2) (by omega) (by omega)
  have m2 := mul_bd (a := T.toInt * T.toInt) (b := w.toInt) (A := 10000) (B := 320000) (by omega) (by omega) (by rw [ew]; exact b2.1) (by rw [ew]; exact b2.2) (by omega) (by omega)
  rw [j_of] at et
  have k2 : (t * w).toInt = T.toInt * T.toInt * w.toInt := by rw [j_mul, et] <;> rw [et] <;> omega
  rw [j_sub (by rw [ev, k2]; omega) (by rw [ev, k2]; omega), ev, k2, eu, ew]
  unfold cmL cmS
  rw [if_neg c, if_neg c2]
theorem al0 {x1 y1 x2 y2 x y : Int} (h : al x1 y1 x2 y2 x2 y2 = 0) : al x1 y1 x2 y2 x y ≤ 0 := by
  have q1 := sq_nn (x2 - x1)
  have q2 := sq_nn (y2 - y1)
  unfold al at h
  have e1 : (x2 - x1) * (x2 - x1) = 0 := by omega
  have e2 : (y2 - y1) * (y2 - y1) = 0 := by omega
  have f1 : x2 - x1 = 0 := by rcases Int.mul_eq_zero.mp e1 with h | h <;> exact h
  have f2 : y2 - y1 = 0 := by rcases Int.mul_eq_zero.mp e2 with h | h <;> exact h
  unfold al
  rw [f1, f2]
  simp
set_option maxRecDepth 4000 in
set_option maxHeartbeats 400000 in
theorem c_Mfar {d : Nat} {σ : Mem} {Post : Option AV → Mem → Prop} {p a b : Nat} {t : Int32} (hp : mP σ p) (ha : mP σ a) (hb : mP σ b) (ht : 0 ≤ t.toInt ∧ t.toInt ≤ 100) (h : ∀ r : Int32, r.toInt = (cmL (lnM σ a b) (mX σ p) (mY σ p) t.toInt).sign → Post (some (vI r)) σ) : MM (d + 2) M_MD_far [vR 51 0, vI (nI p), vI (nI a), vI (nI b), vI t] σ Post := by
  have e_p : (nI p).toNatClampNeg = p := cl_n (by have := hp.1; omega)
  have e_a : (nI a).toNatClampNeg = a := cl_n (by have := ha.1; omega)
  have e_b : (nI b).toNatClampNeg = b := cl_n (by have := hb.1; omega)
  have kal : (((gI σ 56 0 p) - (gI σ 56 0 a)).toInt64 * ((gI σ 56 0 b) - (gI σ 56 0 a)).toInt64 + ((gI σ 57 0 p) - (gI σ 57 0 a)).toInt64 * ((gI σ 57 0 b) - (gI σ 57 0 a)).toInt64).toInt = al (mX σ a) (mY σ a) (mX σ b) (mY σ b) (mX σ p) (mY σ p) := alongJ ha.2.1 ha.2.2 hb.2.1 hb.2.2 hp.2.1 hp.2.2
  obtain ⟨hT1, hT2⟩ := ht
  have ht : 0 ≤ t.toInt ∧ t.toInt ≤ 100 := ⟨hT1, hT2⟩
  refine MM.of ok_MD_far rfl ?_
  show WS _ M_MD_far 0 [vR 51 0, vI (nI p), vI (nI a), vI (nI b), vI t, vU, vU, vU, vU] [] σ _
  refine WS.run (C := []) (pc' := 3) (L' := [vR 51 0, vI (nI p), vI (nI a), vI (nI b), vI t, vU, vU, vU, vU]) (S' := [vI (nI b), vI (nI a), vR 51 0]) (σ' := σ) 3 rfl trivial ?_
  refine WS.callV M_MD_apart (k := 51) (i := 0) (as := [vI (nI a), vI (nI b)]) (rest := []) rfl lk_11_126 rfl rfl rfl (Nat.le_of_ble_eq_true rfl) ?_
  refine c_Mapart ha hb (fun r1 e1 => ?_)
  have e_all := e1
  rw [dd_al] at e_all
  show WS _ M_MD_far 6 [vR 51 0, vI (nI p), vI (nI a), vI (nI b), vI t, vU, vU, vU, vU] [vJ r1] σ _
  refine WS.run (C := [vp_in (nI p) 240, vp_in (nI a) 240, vp_in (nI b) 240, vp_in (nI a) 240, vp_in (nI p) 240, vp_in (nI a) 240, vp_in (nI b) 240, vp_in (nI a) 240]) (pc' := 73) (L' := [vR 51 0, vI (nI p), vI (nI a), vI (nI b), vI t, vJ r1, vU, vJ (((gI σ 56 0 (nI p).toNatClampNeg - gI σ 56 0 (nI a).toNatClampNeg).toInt64 * (gI σ 56 0 (nI b).toNatClampNeg - gI σ 56 0 (nI a).toNatClampNeg).toInt64) + ((gI σ 57 0 (nI p).toNatClampNeg - gI σ 57 0 (nI a).toNatClampNeg).toInt64 * (gI σ 57 0 (nI b).toNatClampNeg - gI σ 57 0 (nI a).toNatClampNeg).toInt64)), vU]) (S' := [vI (lg_cmp r1 (0 : Int64))]) (σ' := σ) 48 rfl ⟨(vp_n (by have := hp.1; omega) (by omega)), (vp_n (by have := ha.1; omega) (by omega)), (vp_n (by have := hb.1; omega) (by omega)), (vp_n (by have := ha.1; omega) (by omega)), (vp_n (by have := hp.1; omega) (by omega)), (vp_n (by have := ha.1; omega) (by omega)), (vp_n (by have := hb.1; omega) (by omega)), (vp_n (by have := ha.1; omega) (by omega)), trivial⟩ ?_
  simp only [e_a, e_b, e_p]
  refine WS.br (P := (lg_cmp r1 (0 : Int64)) = 0) (a := 83) (b := 76) (S' := []) rfl (fun c2 => ?_) (fun c2 => ?_)
  · refine WS.run (C := []) (pc' := 86) (L' := [vR 51 0, vI (nI p), vI (nI a), vI (nI b), vI t, vJ r1, vU, vJ (((gI σ 56 0 p - gI σ 56 0 a).toInt64 * (gI σ 56 0 b - gI σ 56 0 a).toInt64) + ((gI σ 57 0 p - gI σ 57 0 a).toInt64 * (gI σ 57 0 b - gI σ 57 0 a).toInt64)), vU]) (S' := [vI (nI a), vI (nI p), vR 51 0]) (σ' := σ) 3 rfl trivial ?_
    refine WS.callV M_MD_apart (k := 51) (i := 0) (as := [vI (nI p), vI (nI a)]) (rest := []) rfl lk_11_126 rfl rfl rfl (Nat.le_of_ble_eq_true rfl) ?_
    refine c_Mapart hp ha (fun r3 e3 => ?_)
    show WS _ M_MD_far 89 [vR 51 0, vI (nI p), vI (nI a), vI (nI b), vI t, vJ r1, vU, vJ (((gI σ 56 0 p - gI σ 56 0 a).toInt64 * (gI σ 56 0 b - gI σ 56 0 a).toInt64) + ((gI σ 57 0 p - gI σ 57 0 a).toInt64 * (gI σ 57 0 b - gI σ 57 0 a).toInt64)), vU] [vJ r3] σ _
    refine WS.run (C := []) (pc' := 92) (L' := [vR 51 0, vI (nI p), vI (nI a), vI (nI b), vI t, vJ r1, vU, vJ (((gI σ 56 0 p - gI σ 56 0 a).toInt64 * (gI σ 56 0 b - gI σ 56 0 a).toInt64) + ((gI σ 57 0 p - gI σ 57 0 a).toInt64 * (gI σ 57 0 b - gI σ 57 0 a).toInt64)), vU]) (S' := [vJ t.toInt64, vJ r3]) (σ' := σ) 2 rfl trivial ?_
    refine WS.callS M_MD_square (as := [vJ t.toInt64]) (rest := [vJ r3]) rfl lk_11_122 rfl rfl (Nat.le_of_ble_eq_true rfl) ?_
    refine c_Msquare (by rw [j_of]; omega) (fun r4 e4 => ?_)
    show WS _ M_MD_far 95 [vR 51 0, vI (nI p), vI (nI a), vI (nI b), vI t, vJ r1, vU, vJ (((gI σ 56 0 p - gI σ 56 0 a).toInt64 * (gI σ 56 0 b - gI σ 56 0 a).toInt64) + ((gI σ 57 0 p - gI σ 57 0 a).toInt64 * (gI σ 57 0 b - gI σ 57 0 a).toInt64)), vU] [vJ r4, vJ r3] σ _
    refine WS.run (C := []) (pc' := 96) (L' := [vR 51 0, vI (nI p), vI (nI a), vI (nI b), vI t, vJ r1, vU, vJ (((gI σ 56 0 p - gI σ 56 0 a).toInt64 * (gI σ 56 0 b - gI σ 56 0 a).toInt64) + ((gI σ 57 0 p - gI σ 57 0 a).toInt64 * (gI σ 57 0 b - gI σ 57 0 a).toInt64)), vU]) (S' := [vJ (r3 - r4)]) (σ' := σ) 1 rfl trivial ?_
    refine WS.callS M_MD_signOf (as := [vJ (r3 - r4)]) (rest := []) rfl lk_11_130 rfl rfl (Nat.le_of_ble_eq_true rfl) ?_
    refine c_MsignOf  (fun r5 e5 => ?_)
    show WS _ M_MD_far 99 [vR 51 0, vI (nI p), vI (nI a), vI (nI b), vI t, vJ r1, vU, vJ (((gI σ 56 0 p - gI σ 56 0 a).toInt64 * (gI σ 56 0 b - gI σ 56 0 a).toInt64) + ((gI σ 57 0 p - gI σ 57 0 a).toInt64 * (gI σ 57 0 b - gI σ 57 0 a).toInt64)), vU] [vI r5] σ _
    exact WS.ret rfl rfl (by decide) rfl (h _ (by rw [e5, fr_1 ht (lnM_B ha hb) hp.2.1 hp.2.2 e3 e4 (by simp only [lg_lt, lg_eq, lg_le, lg_pos, lg_np, j_0, kal] at *; rw [e_all] at *; unfold lnM; dsimp only; first | omega | exact al0 ‹_›)]))
  · refine WS.run (C := []) (pc' := 80) (L' := [vR 51 0, vI (nI p), vI (nI a), vI (nI b), vI t, vJ r1, vU, vJ (((gI σ 56 0 p - gI σ 56 0 a).toInt64 * (gI σ 56 0 b - gI σ 56 0 a).toInt64) + ((gI σ 57 0 p - gI σ 57 0 a).toInt64 * (gI σ 57 0 b - gI σ 57 0 a).toInt64)), vU]) (S' := [vI (lg_cmp (((gI σ 56 0 p - gI σ 56 0 a).toInt64 * (gI σ 56 0 b - gI σ 56 0 a).toInt64) + ((gI σ 57 0 p - gI σ 57 0 a).toInt64 * (gI σ 57 0 b - gI σ 57 0 a).toInt64)) (0 : Int64))]) (σ' := σ) 3 rfl trivial ?_
    refine WS.br (P := 0 < (lg_cmp (((gI σ 56 0 p - gI σ 56 0 a).toInt64 * (gI σ 56 0 b - gI σ 56 0 a).toInt64) + ((gI σ 57 0 p - gI σ 57 0 a).toInt64 * (gI σ 57 0 b - gI σ 57 0 a).toInt64)) (0 : Int64))) (a := 100) (b := 83) (S' := []) rfl (fun c6 => ?_) (fun c6 => ?_)
    · refine WS.run (C := []) (pc' := 105) (L' := [vR 51 0, vI (nI p), vI (nI a), vI (nI b), vI t, vJ r1, vU, vJ (((gI σ 56 0 p - gI σ 56 0 a).toInt64 * (gI σ 56 0 b - gI σ 56 0 a).toInt64) + ((gI σ 57 0 p - gI σ 57 0 a).toInt64 * (gI σ 57 0 b - gI σ 57 0 a).toInt64)), vU]) (S' := [vI (lg_cmp (((gI σ 56 0 p - gI σ 56 0 a).toInt64 * (gI σ 56 0 b - gI σ 56 0 a).toInt64) + ((gI σ 57 0 p - gI σ 57 0 a).toInt64 * (gI σ 57 0 b - gI σ 57 0 a).toInt64)) r1)]) (σ' := σ) 3 rfl trivial ?_
      refine WS.br (P := (lg_cmp (((gI σ 56 0 p - gI σ 56 0 a).toInt64 * (gI σ 56 0 b - gI σ 56 0 a).toInt64) + ((gI σ 57 0 p - gI σ 57 0 a).toInt64 * (gI σ 57 0 b - gI σ 57 0 a).toInt64)) r1) < 0) (a := 125) (b := 108) (S' := []) rfl (fun c7 => ?_) (fun c7 => ?_)
      · refine WS.run (C := []) (pc' := 129) (L' := [vR 51 0, vI (nI p), vI (nI a), vI (nI b), vI t, vJ r1, vU, vJ (((gI σ 56 0 p - gI σ 56 0 a).toInt64 * (gI σ 56 0 b - gI σ 56 0 a).toInt64) + ((gI σ 57 0 p - gI σ 57 0 a).toInt64 * (gI σ 57 0 b - gI σ 57 0 a).toInt64)), vU]) (S' := [vI (nI p), vI (nI b), vI (nI a), vR 51 0]) (σ' := σ) 4 rfl trivial ?_
        refine WS.callV M_MD_cross (k := 51) (i := 0) (as := [vI (nI a), vI (nI b), vI (nI p)]) (rest := []) rfl lk_11_134 rfl rfl rfl (Nat.le_of_ble_eq_true rfl) ?_
        refine c_Mcross ha hb hp (fun r8 e8 => ?_)
        have e_crs := e8
        show WS _ M_MD_far 132 [vR 51 0, vI (nI p), vI (nI a), vI (nI b), vI t, vJ r1, vU, vJ (((gI σ 56 0 p - gI σ 56 0 a).toInt64 * (gI σ 56 0 b - gI σ 56 0 a).toInt64) + ((gI σ 57 0 p - gI σ 57 0 a).toInt64 * (gI σ 57 0 b - gI σ 57 0 a).toInt64)), vU] [vJ r8] σ _
        refine WS.callS M_MD_square (as := [vJ r8]) (rest := []) rfl lk_11_122 rfl rfl (Nat.le_of_ble_eq_true rfl) ?_
        refine c_Msquare (by have q := sd_bd ha.2.1 ha.2.2 hb.2.1 hb.2.2 hp.2.1 hp.2.2; rw [e_crs]; unfold sdL lnM; dsimp only; omega) (fun r9 e9 => ?_)
        show WS _ M_MD_far 135 [vR 51 0, vI (nI p), vI (nI a), vI (nI b), vI t, vJ r1, vU, vJ (((gI σ 56 0 p - gI σ 56 0 a).toInt64 * (gI σ 56 0 b - gI σ 56 0 a).toInt64) + ((gI σ 57 0 p - gI σ 57 0 a).toInt64 * (gI σ 57 0 b - gI σ 57 0 a).toInt64)), vU] [vJ r9] σ _
        refine WS.run (C := []) (pc' := 138) (L' := [vR 51 0, vI (nI p), vI (nI a), vI (nI b), vI t, vJ r1, vU, vJ (((gI σ 56 0 p - gI σ 56 0 a).toInt64 * (gI σ 56 0 b - gI σ 56 0 a).toInt64) + ((gI σ 57 0 p - gI σ 57 0 a).toInt64 * (gI σ 57 0 b - gI σ 57 0 a).toInt64)), vU]) (S' := [vJ t.toInt64, vJ r9]) (σ' := σ) 2 rfl trivial ?_
        refine WS.callS M_MD_square (as := [vJ t.toInt64]) (rest := [vJ r9]) rfl lk_11_122 rfl rfl (Nat.le_of_ble_eq_true rfl) ?_
        refine c_Msquare (by rw [j_of]; omega) (fun r10 e10 => ?_)
        show WS _ M_MD_far 141 [vR 51 0, vI (nI p), vI (nI a), vI (nI b), vI t, vJ r1, vU, vJ (((gI σ 56 0 p - gI σ 56 0 a).toInt64 * (gI σ 56 0 b - gI σ 56 0 a).toInt64) + ((gI σ 57 0 p - gI σ 57 0 a).toInt64 * (gI σ 57 0 b - gI σ 57 0 a).toInt64)), vU] [vJ r10, vJ r9] σ _
        refine WS.run (C := []) (pc' := 145) (L' := [vR 51 0, vI (nI p), vI (nI a), vI (nI b), vI t, vJ r1, vU, vJ (((gI σ 56 0 p - gI σ 56 0 a).toInt64 * (gI σ 56 0 b - gI σ 56 0 a).toInt64) + ((gI σ 57 0 p - gI σ 57 0 a).toInt64 * (gI σ 57 0 b - gI σ 57 0 a).toInt64)), vU]) (S' := [vJ (r9 - (r10 * r1))]) (σ' := σ) 3 rfl trivial ?_
        refine WS.callS M_MD_signOf (as := [vJ (r9 - (r10 * r1))]) (rest := []) rfl lk_11_130 rfl rfl (Nat.le_of_ble_eq_true rfl) ?_
        refine c_MsignOf  (fun r11 e11 => ?_)
        show WS _ M_MD_far 148 [vR 51 0, vI (nI p), vI (nI a), vI (nI b), vI t, vJ r1, vU, vJ (((gI σ 56 0 p - gI σ 56 0 a).toInt64 * (gI σ 56 0 b - gI σ 56 0 a).toInt64) + ((gI σ 57 0 p - gI σ 57 0 a).toInt64 * (gI σ 57 0 b - gI σ 57 0 a).toInt64)), vU] [vI r11] σ _
        exact WS.ret rfl rfl (by decide) rfl (h _ (by rw [e11, fr_3 ht (lnM_B ha hb) hp.2.1 hp.2.2 e8 e9 e10 (by rw [e1]; exact dd_al _ _ _ _) (by simp only [lg_lt, lg_eq, lg_le, lg_pos, lg_np, j_0, kal] at *; rw [e_all] at *; unfold lnM; dsimp only; omega) (by simp only [lg_lt, lg_eq, lg_le, lg_pos, lg_np, j_0, kal] at *; rw [e_all] at *; unfold lnM; dsimp only; omega)]))
      · refine WS.run (C := []) (pc' := 111) (L' := [vR 51 0, vI (nI p), vI (nI a), vI (nI b), vI t, vJ r1, vU, vJ (((gI σ 56 0 p - gI σ 56 0 a).toInt64 * (gI σ 56 0 b - gI σ 56 0 a).toInt64) + ((gI σ 57 0 p - gI σ 57 0 a).toInt64 * (gI σ 57 0 b - gI σ 57 0 a).toInt64)), vU]) (S' := [vI (nI b), vI (nI p), vR 51 0]) (σ' := σ) 3 rfl trivial ?_
        refine WS.callV M_MD_apart (k := 51) (i := 0) (as := [vI (nI p), vI (nI b)]) (rest := []) rfl lk_11_126 rfl rfl rfl (Nat.le_of_ble_eq_true rfl) ?_
        refine c_Mapart hp hb (fun r12 e12 => ?_)
        show WS _ M_MD_far 114 [vR 51 0, vI (nI p), vI (nI a), vI (nI b), vI t, vJ r1, vU, vJ (((gI σ 56 0 p - gI σ 56 0 a).toInt64 * (gI σ 56 0 b - gI σ 56 0 a).toInt64) + ((gI σ 57 0 p - gI σ 57 0 a).toInt64 * (gI σ 57 0 b - gI σ 57 0 a).toInt64)), vU] [vJ r12] σ _
        refine WS.run (C := []) (pc' := 117) (L' := [vR 51 0, vI (nI p), vI (nI a), vI (nI b), vI t, vJ r1, vU, vJ (((gI σ 56 0 p - gI σ 56 0 a).toInt64 * (gI σ 56 0 b - gI σ 56 0 a).toInt64) + ((gI σ 57 0 p - gI σ 57 0 a).toInt64 * (gI σ 57 0 b - gI σ 57 0 a).toInt64)), vU]) (S' := [vJ t.toInt64, vJ r12]) (σ' := σ) 2 rfl trivial ?_
        refine WS.callS M_MD_square (as := [vJ t.toInt64]) (rest := [vJ r12]) rfl lk_11_122 rfl rfl (Nat.le_of_ble_eq_true rfl) ?_
        refine c_Msquare (by rw [j_of]; omega) (fun r13 e13 => ?_)
        show WS _ M_MD_far 120 [vR 51 0, vI (nI p), vI (nI a), vI (nI b), vI t, vJ r1, vU, vJ (((gI σ 56 0 p - gI σ 56 0 a).toInt64 * (gI σ 56 0 b - gI σ 56 0 a).toInt64) + ((gI σ 57 0 p - gI σ 57 0 a).toInt64 * (gI σ 57 0 b - gI σ 57 0 a).toInt64)), vU] [vJ r13, vJ r12] σ _
        refine WS.run (C := []) (pc' := 121) (L' := [vR 51 0, vI (nI p), vI (nI a), vI (nI b), vI t, vJ r1, vU, vJ (((gI σ 56 0 p - gI σ 56 0 a).toInt64 * (gI σ 56 0 b - gI σ 56 0 a).toInt64) + ((gI σ 57 0 p - gI σ 57 0 a).toInt64 * (gI σ 57 0 b - gI σ 57 0 a).toInt64)), vU]) (S' := [vJ (r12 - r13)]) (σ' := σ) 1 rfl trivial ?_
        refine WS.callS M_MD_signOf (as := [vJ (r12 - r13)]) (rest := []) rfl lk_11_130 rfl rfl (Nat.le_of_ble_eq_true rfl) ?_
        refine c_MsignOf  (fun r14 e14 => ?_)
        show WS _ M_MD_far 124 [vR 51 0, vI (nI p), vI (nI a), vI (nI b), vI t, vJ r1, vU, vJ (((gI σ 56 0 p - gI σ 56 0 a).toInt64 * (gI σ 56 0 b - gI σ 56 0 a).toInt64) + ((gI σ 57 0 p - gI σ 57 0 a).toInt64 * (gI σ 57 0 b - gI σ 57 0 a).toInt64)), vU] [vI r14] σ _
        exact WS.ret rfl rfl (by decide) rfl (h _ (by rw [e14, fr_2 ht (lnM_B ha hb) hp.2.1 hp.2.2 e12 e13 (by simp only [lg_lt, lg_eq, lg_le, lg_pos, lg_np, j_0, kal] at *; rw [e_all] at *; unfold lnM; dsimp only; omega) (by simp only [lg_lt, lg_eq, lg_le, lg_pos, lg_np, j_0, kal] at *; rw [e_all] at *; unfold lnM; dsimp only; omega)]))
    · refine WS.run (C := []) (pc' := 86) (L' := [vR 51 0, vI (nI p), vI (nI a), vI (nI b), vI t, vJ r1, vU, vJ (((gI σ 56 0 p - gI σ 56 0 a).toInt64 * (gI σ 56 0 b - gI σ 56 0 a).toInt64) + ((gI σ 57 0 p - gI σ 57 0 a).toInt64 * (gI σ 57 0 b - gI σ 57 0 a).toInt64)), vU]) (S' := [vI (nI a), vI (nI p), vR 51 0]) (σ' := σ) 3 rfl trivial ?_
      refine WS.callV M_MD_apart (k := 51) (i := 0) (as := [vI (nI p), vI (nI a)]) (rest := []) rfl lk_11_126 rfl rfl rfl (Nat.le_of_ble_eq_true rfl) ?_
      refine c_Mapart hp ha (fun r15 e15 => ?_)
      show WS _ M_MD_far 89 [vR 51 0, vI (nI p), vI (nI a), vI (nI b), vI t, vJ r1, vU, vJ (((gI σ 56 0 p - gI σ 56 0 a).toInt64 * (gI σ 56 0 b - gI σ 56 0 a).toInt64) + ((gI σ 57 0 p - gI σ 57 0 a).toInt64 * (gI σ 57 0 b - gI σ 57 0 a).toInt64)), vU] [vJ r15] σ _
      refine WS.run (C := []) (pc' := 92) (L' := [vR 51 0, vI (nI p), vI (nI a), vI (nI b), vI t, vJ r1, vU, vJ (((gI σ 56 0 p - gI σ 56 0 a).toInt64 * (gI σ 56 0 b - gI σ 56 0 a).toInt64) + ((gI σ 57 0 p - gI σ 57 0 a).toInt64 * (gI σ 57 0 b - gI σ 57 0 a).toInt64)), vU]) (S' := [vJ t.toInt64, vJ r15]) (σ' := σ) 2 rfl trivial ?_
      refine WS.callS M_MD_square (as := [vJ t.toInt64]) (rest := [vJ r15]) rfl lk_11_122 rfl rfl (Nat.le_of_ble_eq_true rfl) ?_
      refine c_Msquare (by rw [j_of]; omega) (fun r16 e16 => ?_)
      show WS _ M_MD_far 95 [vR 51 0, vI (nI p), vI (nI a), vI (nI b), vI t, vJ r1, vU, vJ (((gI σ 56 0 p - gI σ 56 0 a).toInt64 * (gI σ 56 0 b - gI σ 56 0 a).toInt64) + ((gI σ 57 0 p - gI σ 57 0 a).toInt64 * (gI σ 57 0 b - gI σ 57 0 a).toInt64)), vU] [vJ r16, vJ r15] σ _
      refine WS.run (C := []) (pc' := 96) (L' := [vR 51 0, vI (nI p), vI (nI a), vI (nI b), vI t, vJ r1, vU, vJ (((gI σ 56 0 p - gI σ 56 0 a).toInt64 * (gI σ 56 0 b - gI σ 56 0 a).toInt64) + ((gI σ 57 0 p - gI σ 57 0 a).toInt64 * (gI σ 57 0 b - gI σ 57 0 a).toInt64)), vU]) (S' := [vJ (r15 - r16)]) (σ' := σ) 1 rfl trivial ?_
      refine WS.callS M_MD_signOf (as := [vJ (r15 - r16)]) (rest := []) rfl lk_11_130 rfl rfl (Nat.le_of_ble_eq_true rfl) ?_
      refine c_MsignOf  (fun r17 e17 => ?_)
      show WS _ M_MD_far 99 [vR 51 0, vI (nI p), vI (nI a), vI (nI b), vI t, vJ r1, vU, vJ (((gI σ 56 0 p - gI σ 56 0 a).toInt64 * (gI σ 56 0 b - gI σ 56 0 a).toInt64) + ((gI σ 57 0 p - gI σ 57 0 a).toInt64 * (gI σ 57 0 b - gI σ 57 0 a).toInt64)), vU] [vI r17] σ _
      exact WS.ret rfl rfl (by decide) rfl (h _ (by rw [e17, fr_1 ht (lnM_B ha hb) hp.2.1 hp.2.2 e15 e16 (by simp only [lg_lt, lg_eq, lg_le, lg_pos, lg_np, j_0, kal] at *; rw [e_all] at *; unfold lnM; dsimp only; first | omega | exact al0 ‹_›)]))
end
section
/-! pure geometry: what the two sides say of lines is the same -/
theorem on_near {l : Ln} {x y g : Int} (h : cmL l x y 0 = 0) (hg : 0 < g) : cmL l x y g < 0 := by
  have q := Int.mul_pos hg hg
  unfold cmL cmS at *
  by_cases h1 : al l.1 l.2.1 l.2.2.1 l.2.2.2 x y ≤ 0
  · rw [if_pos h1] at *; omega
  · rw [if_neg h1] at *
    by_cases h2 : al l.1 l.2.1 l.2.2.1 l.2.2.2 l.2.2.1 l.2.2.2 ≤ al l.1 l.2.1 l.2.2.1 l.2.2.2 x y
    · rw [if_pos h2] at *; omega
    · rw [if_neg h2] at *
      have q2 := Int.mul_pos q (show 0 < al l.1 l.2.1 l.2.2.1 l.2.2.2 l.2.2.1 l.2.2.2 by omega)
      have e : (0 : Int) * 0 * al l.1 l.2.1 l.2.2.1 l.2.2.2 l.2.2.1 l.2.2.2 = 0 := by simp
      rw [e] at h
      omega
def meetZ (l m : Ln) : Prop := (cmL m l.1 l.2.1 0 = 0 ∨ cmL m l.2.2.1 l.2.2.2 0 = 0 ∨ cmL l m.1 m.2.1 0 = 0 ∨ cmL l m.2.2.1 m.2.2.2 0 = 0) ∨ cutZ l m
theorem near_meet (l m : Ln) (g : Int) : nearZ l m g ↔ (0 < g ∧ (meetZ l m ∨ cmL m l.1 l.2.1 g < 0 ∨ cmL m l.2.2.1 l.2.2.2 g < 0 ∨ cmL l m.1 m.2.1 g < 0 ∨ cmL l m.2.2.1 m.2.2.2 g < 0)) := by
  unfold nearZ meetZ
  constructor
  · rintro ⟨hg, h | h | h | h | h⟩
    · exact ⟨hg, Or.inl (Or.inr h)⟩
    · exact ⟨hg, Or.inr (Or.inr (Or.inr (Or.inl h)))⟩
    · exact ⟨hg, Or.inr (Or.inr (Or.inr (Or.inr h)))⟩
    · exact ⟨hg, Or.inr (Or.inl h)⟩
    · exact ⟨hg, Or.inr (Or.inr (Or.inl h))⟩
  · rintro ⟨hg, ((h | h | h | h) | h) | h | h | h | h⟩
    · exact ⟨hg, Or.inr (Or.inr (Or.inr (Or.inl (on_near h hg))))⟩
    · exact ⟨hg, Or.inr (Or.inr (Or.inr (Or.inr (on_near h hg))))⟩
    · exact ⟨hg, Or.inr (Or.inl (on_near h hg))⟩
    · exact ⟨hg, Or.inr (Or.inr (Or.inl (on_near h hg)))⟩
    · exact ⟨hg, Or.inl h⟩
    · exact ⟨hg, Or.inr (Or.inr (Or.inr (Or.inl h)))⟩
    · exact ⟨hg, Or.inr (Or.inr (Or.inr (Or.inr h)))⟩
    · exact ⟨hg, Or.inr (Or.inl h)⟩
    · exact ⟨hg, Or.inr (Or.inr (Or.inl h))⟩
theorem sc_p {N dx a b u v : Int} (hN : 0 < N) (hd : 0 < dx) (ha : a * dx = N * u) (hb : b * dx = N * v) : a < b ↔ u < v := by
  constructor
  · intro h
    have h1 : a * dx < b * dx := Int.mul_lt_mul_of_pos_right h hd
    rw [ha, hb] at h1
    exact Int.lt_of_mul_lt_mul_left h1 (by omega)
  · intro h
    have h1 : N * u < N * v := Int.mul_lt_mul_of_pos_left h hN
    rw [← ha, ← hb] at h1
    exact Int.lt_of_mul_lt_mul_right h1 (by omega)
theorem sc_n {N dx a b u v : Int} (hN : 0 < N) (hd : dx < 0) (ha : a * dx = N * u) (hb : b * dx = N * v) : a < b ↔ v < u := by
  have h := sc_p (N := N) (dx := -dx) (a := a) (b := b) (u := -u) (v := -v) hN (by omega) (by rw [Int.mul_neg, Int.mul_neg, ha]) (by rw [Int.mul_neg, Int.mul_neg, hb])
  rw [h]; omega
theorem mm_iff (A C P R : Int) : (max A (min P R) < min C (max P R)) ↔ (A < C ∧ (A < P ∨ A < R) ∧ (P < C ∨ R < C) ∧ (P < R ∨ R < P)) := by omega
theorem seg_p {X1 X2 P R a b N : Int} (hX : X1 < X2) (hN : 0 < N) (k1 : 0 < a ↔ X1 < P) (k2 : 0 < b ↔ X1 < R) (k3 : a < N ↔ P < X2) (k4 : b < N ↔ R < X2) (k5 : a < b ↔ P < R) (k6 : b < a ↔ R < P) : (max (min X1 X2) (min P R) < min (max X1 X2) (max P R)) ↔ max 0 (min a b) < min N (max a b) := by
  rw [show min X1 X2 = X1 by omega, show max X1 X2 = X2 by omega, mm_iff, mm_iff, k1, k2, k3, k4, k5, k6]
  exact ⟨fun h => ⟨hN, h.2⟩, fun h => ⟨hX, h.2⟩⟩
theorem seg_n {X1 X2 P R a b N : Int} (hX : X2 < X1) (hN : 0 < N) (k1 : 0 < a ↔ P < X1) (k2 : 0 < b ↔ R < X1) (k3 : a < N ↔ X2 < P) (k4 : b < N ↔ X2 < R) (k5 : a < b ↔ R < P) (k6 : b < a ↔ P < R) : (max (min X1 X2) (min P R) < min (max X1 X2) (max P R)) ↔ max 0 (min a b) < min N (max a b) := by
  rw [show min X1 X2 = X2 by omega, show max X1 X2 = X1 by omega, mm_iff, mm_iff, k1, k2, k3, k4, k5, k6]
  exact ⟨fun h => ⟨hN, h.2.2.1, h.2.1, h.2.2.2.symm⟩, fun h => ⟨hX, h.2.2.1, h.2.1, h.2.2.2.symm⟩⟩
/-- the model's way: both on one straight line, with more than a place in common -/
def overM (l m : Ln) : Prop := sdL l m.1 m.2.1 = 0 ∧ sdL l m.2.2.1 m.2.2.2 = 0 ∧ sdL m l.1 l.2.1 = 0 ∧ sdL m l.2.2.1 l.2.2.2 = 0 ∧ ¬ (l.1 = l.2.2.1 ∧ l.2.1 = l.2.2.2) ∧ ¬ (m.1 = m.2.2.1 ∧ m.2.1 = m.2.2.2) ∧ ((l.1 ≠ l.2.2.1 ∧ max (min l.1 l.2.2.1) (min m.1 m.2.2.1) < min (max l.1 l.2.2.1) (max m.1 m.2.2.1)) ∨ (l.1 = l.2.2.1 ∧ max (min l.2.1 l.2.2.2) (min m.2.1 m.2.2.2) < min (max l.2.1 l.2.2.2) (max m.2.1 m.2.2.2)))
theorem lg_id (dx dy ux uy vx vy : Int) : (dx * dx + dy * dy) * (ux * vy - uy * vx) = (dx * ux + dy * uy) * (dx * vy - dy * vx) - (dx * uy - dy * ux) * (dx * vx + dy * vy) := by grind
theorem over_iff (l m : Ln) : overM l m ↔ overZ l m := by
  obtain ⟨x1, y1, x2, y2⟩ := l
  obtain ⟨p, q, r, s⟩ := m
  unfold overM overZ sdL
  dsimp only
  by_cases hs1 : sd x1 y1 x2 y2 p q = 0
  case neg => constructor <;> intro h <;> exact absurd h.1 hs1
  by_cases hs2 : sd x1 y1 x2 y2 r s = 0
  case neg => constructor <;> intro h <;> exact absurd h.2.1 hs2
  obtain ⟨dx, hdx⟩ : ∃ dx, dx = x2 - x1 := ⟨_, rfl⟩
  obtain ⟨dy, hdy⟩ : ∃ dy, dy = y2 - y1 := ⟨_, rfl⟩
  obtain ⟨N, hNe⟩ : ∃ N, N = dx * dx + dy * dy := ⟨_, rfl⟩
  obtain ⟨a, ha⟩ : ∃ a, a = al x1 y1 x2 y2 p q := ⟨_, rfl⟩
  obtain ⟨b, hb⟩ : ∃ b, b = al x1 y1 x2 y2 r s := ⟨_, rfl⟩
  have hN2 : al x1 y1 x2 y2 x2 y2 = N := by rw [hNe, hdx, hdy]; rfl
  rw [hN2, ← ha, ← hb]
  have t1 : dx * (q - y1) - dy * (p - x1) = 0 := by rw [hdx, hdy]; exact hs1
  have t2 : dx * (s - y1) - dy * (r - x1) = 0 := by rw [hdx, hdy]; exact hs2
  have a1 : a = dx * (p - x1) + dy * (q - y1) := by rw [ha, hdx, hdy]; rfl
  have b1 : b = dx * (r - x1) + dy * (s - y1) := by rw [hb, hdx, hdy]; rfl
  have ax : a * dx = N * (p - x1) := by rw [a1, hNe]; grind
  have ay : a * dy = N * (q - y1) := by rw [a1, hNe]; grind
  have bx : b * dx = N * (r - x1) := by rw [b1, hNe]; grind
  have by' : b * dy = N * (s - y1) := by rw [b1, hNe]; grind
  have qx := sq_nn dx
  have qy := sq_nn dy
  by_cases hN : N = 0
  · have f1 : dx = 0 := by rcases Int.mul_eq_zero.mp (show dx * dx = 0 by omega) with h | h <;> exact h
    have f2 : dy = 0 := by rcases Int.mul_eq_zero.mp (show dy * dy = 0 by omega) with h | h <;> exact h
    rw [f1, f2] at a1 b1
    simp only [Int.zero_mul, Int.add_zero] at a1 b1
    constructor
    · intro h; exact absurd ⟨by omega, by omega⟩ h.2.2.2.2.1
    · intro h; omega
  · have hNp : 0 < N := by omega
    have nd : ¬ (x1 = x2 ∧ y1 = y2) := by
      rintro ⟨h1, h2⟩
      have f1 : dx = 0 := by omega
      have f2 : dy = 0 := by omega
      rw [f1, f2] at hNe
      simp at hNe
      exact hN hNe
    have c1 : sd p q r s x1 y1 = 0 := by
      have id1 := lg_id dx dy (p - x1) (q - y1) (r - x1) (s - y1)
      rw [t1, t2, ← hNe] at id1
      simp only [Int.mul_zero, Int.zero_mul, Int.sub_self] at id1
      have e : sd p q r s x1 y1 = (p - x1) * (s - y1) - (q - y1) * (r - x1) := by unfold sd; grind
      rw [e]
      rcases Int.mul_eq_zero.mp id1 with h | h
      · exact absurd h hN
      · exact h
    have c2 : sd p q r s x2 y2 = 0 := by
      have e : sd p q r s x2 y2 = sd p q r s x1 y1 - ((dx * (s - y1) - dy * (r - x1)) - (dx * (q - y1) - dy * (p - x1))) := by rw [hdx, hdy]; unfold sd; grind
      rw [e, c1, t1, t2]; simp
    have mk : (¬ (p = r ∧ q = s) ∧ ((x1 ≠ x2 ∧ max (min x1 x2) (min p r) < min (max x1 x2) (max p r)) ∨ (x1 = x2 ∧ max (min y1 y2) (min q s) < min (max y1 y2) (max q s)))) ↔ max 0 (min a b) < min N (max a b) := by
      by_cases hx : x1 = x2
      · have f1 : dx = 0 := by omega
        have hyn : dy ≠ 0 := fun z => nd ⟨hx, by omega⟩
        rw [f1] at t1 t2
        simp only [Int.zero_mul, Int.zero_sub] at t1 t2
        have pz : p = x1 := by
          rcases Int.mul_eq_zero.mp (show dy * (p - x1) = 0 by omega) with h | h
          · exact absurd h hyn
          · omega
        have rz : r = x1 := by
          rcases Int.mul_eq_zero.mp (show dy * (r - x1) = 0 by omega) with h | h
          · exact absurd h hyn
          · omega
        have main : (max (min y1 y2) (min q s) < min (max y1 y2) (max q s)) ↔ max 0 (min a b) < min N (max a b) := by
          rcases Int.lt_or_lt_of_ne hyn with hd | hd
          · refine seg_n (by omega) hNp ((sc_n hNp hd (show (0 : Int) * dy = N * 0 by simp) ay).trans ?_) ((sc_n hNp hd (show (0 : Int) * dy = N * 0 by simp) by').trans ?_) ((sc_n hNp hd ay (show N * dy = N * dy from rfl)).trans ?_) ((sc_n hNp hd by' (show N * dy = N * dy from rfl)).trans ?_) ((sc_n hNp hd ay by').trans ?_) ((sc_n hNp hd by' ay).trans ?_)
            all_goals (clear ay by' ax bx t1 t2 a1 b1 hNe qx qy; omega)
          · refine seg_p (by omega) hNp ((sc_p hNp hd (show (0 : Int) * dy = N * 0 by simp) ay).trans ?_) ((sc_p hNp hd (show (0 : Int) * dy = N * 0 by simp) by').trans ?_) ((sc_p hNp hd ay (show N * dy = N * dy from rfl)).trans ?_) ((sc_p hNp hd by' (show N * dy = N * dy from rfl)).trans ?_) ((sc_p hNp hd ay by').trans ?_) ((sc_p hNp hd by' ay).trans ?_)
            all_goals (clear ay by' ax bx t1 t2 a1 b1 hNe qx qy; omega)
        constructor
        · rintro ⟨_, ⟨h, _⟩ | ⟨_, h⟩⟩
          · exact absurd hx h
          · exact main.mp h
        · intro h
          have h2 := main.mpr h
          refine ⟨fun z => ?_, Or.inr ⟨hx, h2⟩⟩
          rw [z.2] at h2
          clear ay by' ax bx t1 t2 a1 b1 hNe qx qy main h
          omega
      · have hxn : dx ≠ 0 := by omega
        have main : (max (min x1 x2) (min p r) < min (max x1 x2) (max p r)) ↔ max 0 (min a b) < min N (max a b) := by
          rcases Int.lt_or_lt_of_ne hxn with hd | hd
          · refine seg_n (by omega) hNp ((sc_n hNp hd (show (0 : Int) * dx = N * 0 by simp) ax).trans ?_) ((sc_n hNp hd (show (0 : Int) * dx = N * 0 by simp) bx).trans ?_) ((sc_n hNp hd ax (show N * dx = N * dx from rfl)).trans ?_) ((sc_n hNp hd bx (show N * dx = N * dx from rfl)).trans ?_) ((sc_n hNp hd ax bx).trans ?_) ((sc_n hNp hd bx ax).trans ?_)
            all_goals (clear ay by' ax bx t1 t2 a1 b1 hNe qx qy; omega)
          · refine seg_p (by omega) hNp ((sc_p hNp hd (show (0 : Int) * dx = N * 0 by simp) ax).trans ?_) ((sc_p hNp hd (show (0 : Int) * dx = N * 0 by simp) bx).trans ?_) ((sc_p hNp hd ax (show N * dx = N * dx from rfl)).trans ?_) ((sc_p hNp hd bx (show N * dx = N * dx from rfl)).trans ?_) ((sc_p hNp hd ax bx).trans ?_) ((sc_p hNp hd bx ax).trans ?_)
            all_goals (clear ay by' ax bx t1 t2 a1 b1 hNe qx qy; omega)
        constructor
        · rintro ⟨_, ⟨_, h⟩ | ⟨h, _⟩⟩
          · exact main.mp h
          · exact absurd h hx
        · intro h
          have h2 := main.mpr h
          refine ⟨fun z => ?_, Or.inl ⟨hx, h2⟩⟩
          rw [z.1] at h2
          clear ay by' ax bx t1 t2 a1 b1 hNe qx qy main h
          omega
    constructor
    · intro h
      exact ⟨hs1, hs2, mk.mp ⟨h.2.2.2.2.2.1, h.2.2.2.2.2.2⟩⟩
    · intro h
      have k := mk.mpr h.2.2
      exact ⟨hs1, hs2, c1, c2, nd, k.1, k.2⟩
end
section
/-! contracts: nearness and crossings of the model -/
set_option maxRecDepth 4000 in
set_option maxHeartbeats 400000 in
theorem c_MisSame {d : Nat} {σ : Mem} {Post : Option AV → Mem → Prop} {a b : Nat} (ha : mP σ a) (hb : mP σ b) (h1 : mX σ a = mX σ b ∧ mY σ a = mY σ b → Post (some (vI 1)) σ) (h0 : ¬ (mX σ a = mX σ b ∧ mY σ a = mY σ b) → Post (some (vI 0)) σ) : MM d M_MD_isSame [vR 51 0, vI (nI a), vI (nI b)] σ Post := by
  have e_a : (nI a).toNatClampNeg = a := cl_n (by have := ha.1; omega)
  have e_b : (nI b).toNatClampNeg = b := cl_n (by have := hb.1; omega)
  refine MM.of ok_MD_isSame rfl ?_
  show WS _ M_MD_isSame 0 [vR 51 0, vI (nI a), vI (nI b)] [] σ _
  refine WS.run (C := [vp_in (nI a) 240, vp_in (nI b) 240]) (pc' := 12) (L' := [vR 51 0, vI (nI a), vI (nI b)]) (S' := [vI (gI σ 56 0 (nI b).toNatClampNeg), vI (gI σ 56 0 (nI a).toNatClampNeg)]) (σ' := σ) 8 rfl ⟨(vp_n (by have := ha.1; omega) (by omega)), (vp_n (by have := hb.1; omega) (by omega)), trivial⟩ ?_
  simp only [e_a, e_b]
  refine WS.br (P := (gI σ 56 0 a) = (gI σ 56 0 b)) (a := 15) (b := 34) (S' := []) rfl (fun c1 => ?_) (fun c1 => ?_)
  · refine WS.run (C := [vp_in (nI a) 240, vp_in (nI b) 240]) (pc' := 27) (L' := [vR 51 0, vI (nI a), vI (nI b)]) (S' := [vI (gI σ 57 0 (nI b).toNatClampNeg), vI (gI σ 57 0 (nI a).toNatClampNeg)]) (σ' := σ) 8 rfl ⟨(vp_n (by have := ha.1; omega) (by omega)), (vp_n (by have := hb.1; omega) (by omega)), trivial⟩ ?_
    simp only [e_a, e_b]
    refine WS.br (P := (gI σ 57 0 a) = (gI σ 57 0 b)) (a := 30) (b := 34) (S' := []) rfl (fun c2 => ?_) (fun c2 => ?_)
    · refine WS.run (C := []) (pc' := 35) (L' := [vR 51 0, vI (nI a), vI (nI b)]) (S' := [vI (1 : Int32)]) (σ' := σ) 2 rfl trivial ?_
      exact WS.ret rfl rfl (by decide) rfl (by simp only [t_eq] at *; exact h1 ⟨by unfold mX; omega, by unfold mY; omega⟩)
    · refine WS.run (C := []) (pc' := 35) (L' := [vR 51 0, vI (nI a), vI (nI b)]) (S' := [vI (0 : Int32)]) (σ' := σ) 1 rfl trivial ?_
      exact WS.ret rfl rfl (by decide) rfl (by simp only [t_eq] at *; exact h0 (by unfold mX mY; omega))
  · refine WS.run (C := []) (pc' := 35) (L' := [vR 51 0, vI (nI a), vI (nI b)]) (S' := [vI (0 : Int32)]) (σ' := σ) 1 rfl trivial ?_
    exact WS.ret rfl rfl (by decide) rfl (by simp only [t_eq] at *; exact h0 (by unfold mX mY; omega))
set_option maxRecDepth 4000 in
set_option maxHeartbeats 400000 in
theorem c_MisOn {d : Nat} {σ : Mem} {Post : Option AV → Mem → Prop} {p a b : Nat} (hp : mP σ p) (ha : mP σ a) (hb : mP σ b) (h1 : cmL (lnM σ a b) (mX σ p) (mY σ p) 0 = 0 → Post (some (vI 1)) σ) (h0 : ¬ cmL (lnM σ a b) (mX σ p) (mY σ p) 0 = 0 → Post (some (vI 0)) σ) : MM (d + 3) M_MD_isOn [vR 51 0, vI (nI p), vI (nI a), vI (nI b)] σ Post := by
  refine MM.of ok_MD_isOn rfl ?_
  show WS _ M_MD_isOn 0 [vR 51 0, vI (nI p), vI (nI a), vI (nI b)] [] σ _
  refine WS.run (C := []) (pc' := 5) (L' := [vR 51 0, vI (nI p), vI (nI a), vI (nI b)]) (S' := [vI (0 : Int32), vI (nI b), vI (nI a), vI (nI p), vR 51 0]) (σ' := σ) 5 rfl trivial ?_
  refine WS.callV M_MD_far (k := 51) (i := 0) (as := [vI (nI p), vI (nI a), vI (nI b), vI (0 : Int32)]) (rest := []) rfl lk_11_138 rfl rfl rfl (Nat.le_of_ble_eq_true rfl) ?_
  refine c_Mfar hp ha hb (by decide) (fun r1 e1 => ?_)
  show WS _ M_MD_isOn 8 [vR 51 0, vI (nI p), vI (nI a), vI (nI b)] [vI r1] σ _
  refine WS.br (P := r1 = 0) (a := 11) (b := 15) (S' := []) rfl (fun c2 => ?_) (fun c2 => ?_)
  · refine WS.run (C := []) (pc' := 16) (L' := [vR 51 0, vI (nI p), vI (nI a), vI (nI b)]) (S' := [vI (1 : Int32)]) (σ' := σ) 2 rfl trivial ?_
    exact WS.ret rfl rfl (by decide) rfl (h1 (sgn_eq.mp (by rw [t_eq, t_0] at c2; rw [t_0] at e1; omega)))
  · refine WS.run (C := []) (pc' := 16) (L' := [vR 51 0, vI (nI p), vI (nI a), vI (nI b)]) (S' := [vI (0 : Int32)]) (σ' := σ) 1 rfl trivial ?_
    exact WS.ret rfl rfl (by decide) rfl (h0 (fun z => c2 (by rw [t_eq, t_0]; rw [t_0] at e1; have := sgn_eq.mpr z; omega)))
theorem sg_prod {r s : Int32} {x y : Int} (e1 : r.toInt = x.sign) (e2 : s.toInt = y.sign) : (r * s).toInt < 0 ↔ opp x y := by
  have k1 := sgn_3 x
  have k2 := sgn_3 y
  have l1 := sgn_lt (z := x)
  have l2 := sgn_gt (z := x)
  have l3 := sgn_lt (z := y)
  have l4 := sgn_gt (z := y)
  have m := mul_bd (a := r.toInt) (b := s.toInt) (A := 1) (B := 1) (by omega) (by omega) (by omega) (by omega) (by omega) (by omega)
  rw [t_mul (by omega) (by omega), e1, e2]
  unfold opp
  rcases k1 with h | h | h <;> rcases k2 with h' | h' | h' <;> rw [h, h'] <;> simp only [h, h'] at * <;> omega
theorem cut_of {l m : Ln} {r1 r2 r3 r4 : Int32} (e1 : r1.toInt = (sdL l m.1 m.2.1).sign) (e2 : r2.toInt = (sdL l m.2.2.1 m.2.2.2).sign) (e3 : r3.toInt = (sdL m l.1 l.2.1).sign) (e4 : r4.toInt = (sdL m l.2.2.1 l.2.2.2).sign) : cutZ l m ↔ (r1 * r2).toInt < 0 ∧ (r3 * r4).toInt < 0 := by
  rw [sg_prod e1 e2, sg_prod e3 e4]
  rfl
set_option maxRecDepth 4000 in
set_option maxHeartbeats 400000 in
theorem c_Mmeets {d : Nat} {σ : Mem} {Post : Option AV → Mem → Prop} {a b c e : Nat} (ha : mP σ a) (hb : mP σ b) (hc : mP σ c) (he : mP σ e) (h1 : meetZ (lnM σ a b) (lnM σ c e) → Post (some (vI 1)) σ) (h0 : ¬ meetZ (lnM σ a b) (lnM σ c e) → Post (some (vI 0)) σ) : MM (d + 4) M_MD_meets [vR 51 0, vI (nI a), vI (nI b), vI (nI c), vI (nI e)] σ Post := by
  refine MM.of ok_MD_meets rfl ?_
  show WS _ M_MD_meets 0 [vR 51 0, vI (nI a), vI (nI b), vI (nI c), vI (nI e)] [] σ _
  refine WS.run (C := []) (pc' := 5) (L' := [vR 51 0, vI (nI a), vI (nI b), vI (nI c), vI (nI e)]) (S' := [vI (nI e), vI (nI c), vI (nI a), vR 51 0]) (σ' := σ) 4 rfl trivial ?_
  refine WS.callV M_MD_isOn (k := 51) (i := 0) (as := [vI (nI a), vI (nI c), vI (nI e)]) (rest := []) rfl lk_11_154 rfl rfl rfl (Nat.le_of_ble_eq_true rfl) ?_
  refine c_MisOn ha hc he (fun q1 => ?_) (fun q1 => ?_)
  · show WS _ M_MD_meets 8 [vR 51 0, vI (nI a), vI (nI b), vI (nI c), vI (nI e)] [vI (1 : Int32)] σ _
    refine WS.br (P := (1 : Int32) = 0) (a := 11) (b := 43) (S' := []) rfl (fun cc => absurd cc (by decide)) (fun _ => ?_)
    refine WS.run (C := []) (pc' := 44) (L' := [vR 51 0, vI (nI a), vI (nI b), vI (nI c), vI (nI e)]) (S' := [vI (1 : Int32)]) (σ' := σ) 1 rfl trivial ?_
    exact WS.ret rfl rfl (by decide) rfl (h1 (Or.inl (Or.inl q1)))
  · show WS _ M_MD_meets 8 [vR 51 0, vI (nI a), vI (nI b), vI (nI c), vI (nI e)] [vI (0 : Int32)] σ _
    refine WS.br (P := (0 : Int32) = 0) (a := 11) (b := 43) (S' := []) rfl (fun _ => ?_) (fun cc => absurd (by decide) cc)
    refine WS.run (C := []) (pc' := 16) (L' := [vR 51 0, vI (nI a), vI (nI b), vI (nI c), vI (nI e)]) (S' := [vI (nI e), vI (nI c), vI (nI b), vR 51 0]) (σ' := σ) 4 rfl trivial ?_
    refine WS.callV M_MD_isOn (k := 51) (i := 0) (as := [vI (nI b), vI (nI c), vI (nI e)]) (rest := []) rfl lk_11_154 rfl rfl rfl (Nat.le_of_ble_eq_true rfl) ?_
    refine c_MisOn hb hc he (fun q2 => ?_) (fun q2 => ?_)
    · show WS _ M_MD_meets 19 [vR 51 0, vI (nI a), vI (nI b), vI (nI c), vI (nI e)] [vI (1 : Int32)] σ _
      refine WS.br (P := (1 : Int32) = 0) (a := 22) (b := 43) (S' := []) rfl (fun cc => absurd cc (by decide)) (fun _ => ?_)
      refine WS.run (C := []) (pc' := 44) (L' := [vR 51 0, vI (nI a), vI (nI b), vI (nI c), vI (nI e)]) (S' := [vI (1 : Int32)]) (σ' := σ) 1 rfl trivial ?_
      exact WS.ret rfl rfl (by decide) rfl (h1 (Or.inl (Or.inr (Or.inl q2))))
    · show WS _ M_MD_meets 19 [vR 51 0, vI (nI a), vI (nI b), vI (nI c), vI (nI e)] [vI (0 : Int32)] σ _
      refine WS.br (P := (0 : Int32) = 0) (a := 22) (b := 43) (S' := []) rfl (fun _ => ?_) (fun cc => absurd (by decide) cc)
      refine WS.run (C := []) (pc' := 26) (L' := [vR 51 0, vI (nI a), vI (nI b), vI (nI c), vI (nI e)]) (S' := [vI (nI b), vI (nI a), vI (nI c), vR 51 0]) (σ' := σ) 4 rfl trivial ?_
      refine WS.callV M_MD_isOn (k := 51) (i := 0) (as := [vI (nI c), vI (nI a), vI (nI b)]) (rest := []) rfl lk_11_154 rfl rfl rfl (Nat.le_of_ble_eq_true rfl) ?_
      refine c_MisOn hc ha hb (fun q3 => ?_) (fun q3 => ?_)
      · show WS _ M_MD_meets 29 [vR 51 0, vI (nI a), vI (nI b), vI (nI c), vI (nI e)] [vI (1 : Int32)] σ _
        refine WS.br (P := (1 : Int32) = 0) (a := 32) (b := 43) (S' := []) rfl (fun cc => absurd cc (by decide)) (fun _ => ?_)
        refine WS.run (C := []) (pc' := 44) (L' := [vR 51 0, vI (nI a), vI (nI b), vI (nI c), vI (nI e)]) (S' := [vI (1 : Int32)]) (σ' := σ) 1 rfl trivial ?_
        exact WS.ret rfl rfl (by decide) rfl (h1 (Or.inl (Or.inr (Or.inr (Or.inl q3)))))
      · show WS _ M_MD_meets 29 [vR 51 0, vI (nI a), vI (nI b), vI (nI c), vI (nI e)] [vI (0 : Int32)] σ _
        refine WS.br (P := (0 : Int32) = 0) (a := 32) (b := 43) (S' := []) rfl (fun _ => ?_) (fun cc => absurd (by decide) cc)
        refine WS.run (C := []) (pc' := 37) (L' := [vR 51 0, vI (nI a), vI (nI b), vI (nI c), vI (nI e)]) (S' := [vI (nI b), vI (nI a), vI (nI e), vR 51 0]) (σ' := σ) 4 rfl trivial ?_
        refine WS.callV M_MD_isOn (k := 51) (i := 0) (as := [vI (nI e), vI (nI a), vI (nI b)]) (rest := []) rfl lk_11_154 rfl rfl rfl (Nat.le_of_ble_eq_true rfl) ?_
        refine c_MisOn he ha hb (fun q4 => ?_) (fun q4 => ?_)
        · show WS _ M_MD_meets 40 [vR 51 0, vI (nI a), vI (nI b), vI (nI c), vI (nI e)] [vI (1 : Int32)] σ _
          refine WS.br (P := (1 : Int32) = 0) (a := 45) (b := 43) (S' := []) rfl (fun cc => absurd cc (by decide)) (fun _ => ?_)
          refine WS.run (C := []) (pc' := 44) (L' := [vR 51 0, vI (nI a), vI (nI b), vI (nI c), vI (nI e)]) (S' := [vI (1 : Int32)]) (σ' := σ) 1 rfl trivial ?_
          exact WS.ret rfl rfl (by decide) rfl (h1 (Or.inl (Or.inr (Or.inr (Or.inr q4)))))
        · show WS _ M_MD_meets 40 [vR 51 0, vI (nI a), vI (nI b), vI (nI c), vI (nI e)] [vI (0 : Int32)] σ _
          refine WS.br (P := (0 : Int32) = 0) (a := 45) (b := 43) (S' := []) rfl (fun _ => ?_) (fun cc => absurd (by decide) cc)
          refine WS.run (C := []) (pc' := 49) (L' := [vR 51 0, vI (nI a), vI (nI b), vI (nI c), vI (nI e)]) (S' := [vI (nI c), vI (nI b), vI (nI a), vR 51 0]) (σ' := σ) 4 rfl trivial ?_
          refine WS.callV M_MD_cross (k := 51) (i := 0) (as := [vI (nI a), vI (nI b), vI (nI c)]) (rest := []) rfl lk_11_134 rfl rfl rfl (Nat.le_of_ble_eq_true rfl) ?_
          refine c_Mcross ha hb hc (fun r5 e5 => ?_)
          show WS _ M_MD_meets 52 [vR 51 0, vI (nI a), vI (nI b), vI (nI c), vI (nI e)] [vJ r5] σ _
          refine WS.callS M_MD_signOf (as := [vJ r5]) (rest := []) rfl lk_11_130 rfl rfl (Nat.le_of_ble_eq_true rfl) ?_
          refine c_MsignOf  (fun r6 e6 => ?_)
          show WS _ M_MD_meets 55 [vR 51 0, vI (nI a), vI (nI b), vI (nI c), vI (nI e)] [vI r6] σ _
          refine WS.run (C := []) (pc' := 60) (L' := [vR 51 0, vI (nI a), vI (nI b), vI (nI c), vI (nI e)]) (S' := [vI (nI e), vI (nI b), vI (nI a), vR 51 0, vI r6]) (σ' := σ) 4 rfl trivial ?_
          refine WS.callV M_MD_cross (k := 51) (i := 0) (as := [vI (nI a), vI (nI b), vI (nI e)]) (rest := [vI r6]) rfl lk_11_134 rfl rfl rfl (Nat.le_of_ble_eq_true rfl) ?_
          refine c_Mcross ha hb he (fun r7 e7 => ?_)
          show WS _ M_MD_meets 63 [vR 51 0, vI (nI a), vI (nI b), vI (nI c), vI (nI e)] [vJ r7, vI r6] σ _
          refine WS.callS M_MD_signOf (as := [vJ r7]) (rest := [vI r6]) rfl lk_11_130 rfl rfl (Nat.le_of_ble_eq_true rfl) ?_
          refine c_MsignOf  (fun r8 e8 => ?_)
          show WS _ M_MD_meets 66 [vR 51 0, vI (nI a), vI (nI b), vI (nI c), vI (nI e)] [vI r8, vI r6] σ _
          refine WS.run (C := []) (pc' := 67) (L' := [vR 51 0, vI (nI a), vI (nI b), vI (nI c), vI (nI e)]) (S' := [vI (r6 * r8)]) (σ' := σ) 1 rfl trivial ?_
          refine WS.br (P := 0 ≤ (r6 * r8)) (a := 100) (b := 70) (S' := []) rfl (fun c9 => ?_) (fun c9 => ?_)
          · refine WS.run (C := []) (pc' := 101) (L' := [vR 51 0, vI (nI a), vI (nI b), vI (nI c), vI (nI e)]) (S' := [vI (0 : Int32)]) (σ' := σ) 1 rfl trivial ?_
            exact WS.ret rfl rfl (by decide) rfl (h0 (fun z => z.elim (fun z => z.elim q1 (fun z => z.elim q2 (fun z => z.elim q3 q4))) (fun z => by have q := (sg_prod (by rw [e6, e5]; rfl) (by rw [e8, e7]; rfl)).mpr z.1; simp only [t_lt, t_le, t_0] at *; omega)))
          · refine WS.run (C := []) (pc' := 75) (L' := [vR 51 0, vI (nI a), vI (nI b), vI (nI c), vI (nI e)]) (S' := [vI (nI a), vI (nI e), vI (nI c), vR 51 0]) (σ' := σ) 4 rfl trivial ?_
            refine WS.callV M_MD_cross (k := 51) (i := 0) (as := [vI (nI c), vI (nI e), vI (nI a)]) (rest := []) rfl lk_11_134 rfl rfl rfl (Nat.le_of_ble_eq_true rfl) ?_
            refine c_Mcross hc he ha (fun r10 e10 => ?_)
            show WS _ M_MD_meets 78 [vR 51 0, vI (nI a), vI (nI b), vI (nI c), vI (nI e)] [vJ r10] σ _
            refine WS.callS M_MD_signOf (as := [vJ r10]) (rest := []) rfl lk_11_130 rfl rfl (Nat.le_of_ble_eq_true rfl) ?_
            refine c_MsignOf  (fun r11 e11 => ?_)
            show WS _ M_MD_meets 81 [vR 51 0, vI (nI a), vI (nI b), vI (nI c), vI (nI e)] [vI r11] σ _
            refine WS.run (C := []) (pc' := 86) (L' := [vR 51 0, vI (nI a), vI (nI b), vI (nI c), vI (nI e)]) (S' := [vI (nI b), vI (nI e), vI (nI c), vR 51 0, vI r11]) (σ' := σ) 4 rfl trivial ?_
            refine WS.callV M_MD_cross (k := 51) (i := 0) (as := [vI (nI c), vI (nI e), vI (nI b)]) (rest := [vI r11]) rfl lk_11_134 rfl rfl rfl (Nat.le_of_ble_eq_true rfl) ?_
            refine c_Mcross hc he hb (fun r12 e12 => ?_)
            show WS _ M_MD_meets 89 [vR 51 0, vI (nI a), vI (nI b), vI (nI c), vI (nI e)] [vJ r12, vI r11] σ _
            refine WS.callS M_MD_signOf (as := [vJ r12]) (rest := [vI r11]) rfl lk_11_130 rfl rfl (Nat.le_of_ble_eq_true rfl) ?_
            refine c_MsignOf  (fun r13 e13 => ?_)
            show WS _ M_MD_meets 92 [vR 51 0, vI (nI a), vI (nI b), vI (nI c), vI (nI e)] [vI r13, vI r11] σ _
            refine WS.run (C := []) (pc' := 93) (L' := [vR 51 0, vI (nI a), vI (nI b), vI (nI c), vI (nI e)]) (S' := [vI (r11 * r13)]) (σ' := σ) 1 rfl trivial ?_
            refine WS.br (P := 0 ≤ (r11 * r13)) (a := 100) (b := 96) (S' := []) rfl (fun c14 => ?_) (fun c14 => ?_)
            · refine WS.run (C := []) (pc' := 101) (L' := [vR 51 0, vI (nI a), vI (nI b), vI (nI c), vI (nI e)]) (S' := [vI (0 : Int32)]) (σ' := σ) 1 rfl trivial ?_
              exact WS.ret rfl rfl (by decide) rfl (h0 (fun z => z.elim (fun z => z.elim q1 (fun z => z.elim q2 (fun z => z.elim q3 q4))) (fun z => by have q := (cut_of (l := lnM σ a b) (m := lnM σ c e) (by rw [e6, e5]; rfl) (by rw [e8, e7]; rfl) (by rw [e11, e10]; rfl) (by rw [e13, e12]; rfl)).mp z; simp only [t_lt, t_le, t_0] at *; omega)))
            · refine WS.run (C := []) (pc' := 101) (L' := [vR 51 0, vI (nI a), vI (nI b), vI (nI c), vI (nI e)]) (S' := [vI (1 : Int32)]) (σ' := σ) 2 rfl trivial ?_
              exact WS.ret rfl rfl (by decide) rfl (h1 (Or.inr ((cut_of (l := lnM σ a b) (m := lnM σ c e) (by rw [e6, e5]; rfl) (by rw [e8, e7]; rfl) (by rw [e11, e10]; rfl) (by rw [e13, e12]; rfl)).mpr ⟨by simp only [t_lt, t_le, t_0] at *; omega, by simp only [t_lt, t_le, t_0] at *; omega⟩)))
set_option maxRecDepth 4000 in
set_option maxHeartbeats 400000 in
theorem c_MisClose {d : Nat} {σ : Mem} {Post : Option AV → Mem → Prop} {a b c e : Nat} (ha : mP σ a) (hb : mP σ b) (hc : mP σ c) (he : mP σ e) (hg : 0 ≤ (gI σ 51 0 9).toInt ∧ (gI σ 51 0 9).toInt ≤ 100) (h1 : closeZ (lnM σ a b) (lnM σ c e) (gI σ 51 0 9).toInt → Post (some (vI 1)) σ) (h0 : ¬ closeZ (lnM σ a b) (lnM σ c e) (gI σ 51 0 9).toInt → Post (some (vI 0)) σ) : MM (d + 5) M_MD_isClose [vR 51 0, vI (nI a), vI (nI b), vI (nI c), vI (nI e)] σ Post := by
  refine MM.of ok_MD_isClose rfl ?_
  show WS _ M_MD_isClose 0 [vR 51 0, vI (nI a), vI (nI b), vI (nI c), vI (nI e)] [] σ _
  refine WS.run (C := []) (pc' := 3) (L' := [vR 51 0, vI (nI a), vI (nI b), vI (nI c), vI (nI e)]) (S' := [vI (nI c), vI (nI a), vR 51 0]) (σ' := σ) 3 rfl trivial ?_
  refine WS.callV M_MD_isSame (k := 51) (i := 0) (as := [vI (nI a), vI (nI c)]) (rest := []) rfl lk_11_157 rfl rfl rfl (Nat.le_of_ble_eq_true rfl) ?_
  refine c_MisSame ha hc (fun q1 => ?_) (fun q1 => ?_)
  · show WS _ M_MD_isClose 6 [vR 51 0, vI (nI a), vI (nI b), vI (nI c), vI (nI e)] [vI (1 : Int32)] σ _
    refine WS.br (P := (1 : Int32) = 0) (a := 9) (b := 45) (S' := []) rfl (fun cc => absurd cc (by decide)) (fun _ => ?_)
    refine WS.run (C := []) (pc' := 46) (L' := [vR 51 0, vI (nI a), vI (nI b), vI (nI c), vI (nI e)]) (S' := [vI (0 : Int32)]) (σ' := σ) 1 rfl trivial ?_
    exact WS.ret rfl rfl (by decide) rfl (h0 (fun z => z.1 (Or.inl (Or.inl q1))))
  · show WS _ M_MD_isClose 6 [vR 51 0, vI (nI a), vI (nI b), vI (nI c), vI (nI e)] [vI (0 : Int32)] σ _
    refine WS.br (P := (0 : Int32) = 0) (a := 9) (b := 45) (S' := []) rfl (fun _ => ?_) (fun cc => absurd (by decide) cc)
    refine WS.run (C := []) (pc' := 13) (L' := [vR 51 0, vI (nI a), vI (nI b), vI (nI c), vI (nI e)]) (S' := [vI (nI e), vI (nI a), vR 51 0]) (σ' := σ) 3 rfl trivial ?_
    refine WS.callV M_MD_isSame (k := 51) (i := 0) (as := [vI (nI a), vI (nI e)]) (rest := []) rfl lk_11_157 rfl rfl rfl (Nat.le_of_ble_eq_true rfl) ?_
    refine c_MisSame ha he (fun q2 => ?_) (fun q2 => ?_)
    · show WS _ M_MD_isClose 16 [vR 51 0, vI (nI a), vI (nI b), vI (nI c), vI (nI e)] [vI (1 : Int32)] σ _
      refine WS.br (P := (1 : Int32) = 0) (a := 19) (b := 45) (S' := []) rfl (fun cc => absurd cc (by decide)) (fun _ => ?_)
      refine WS.run (C := []) (pc' := 46) (L' := [vR 51 0, vI (nI a), vI (nI b), vI (nI c), vI (nI e)]) (S' := [vI (0 : Int32)]) (σ' := σ) 1 rfl trivial ?_
      exact WS.ret rfl rfl (by decide) rfl (h0 (fun z => z.1 (Or.inr (Or.inl q2))))
    · show WS _ M_MD_isClose 16 [vR 51 0, vI (nI a), vI (nI b), vI (nI c), vI (nI e)] [vI (0 : Int32)] σ _
      refine WS.br (P := (0 : Int32) = 0) (a := 19) (b := 45) (S' := []) rfl (fun _ => ?_) (fun cc => absurd (by decide) cc)
      refine WS.run (C := []) (pc' := 22) (L' := [vR 51 0, vI (nI a), vI (nI b), vI (nI c), vI (nI e)]) (S' := [vI (nI c), vI (nI b), vR 51 0]) (σ' := σ) 3 rfl trivial ?_
      refine WS.callV M_MD_isSame (k := 51) (i := 0) (as := [vI (nI b), vI (nI c)]) (rest := []) rfl lk_11_157 rfl rfl rfl (Nat.le_of_ble_eq_true rfl) ?_
      refine c_MisSame hb hc (fun q3 => ?_) (fun q3 => ?_)
      · show WS _ M_MD_isClose 25 [vR 51 0, vI (nI a), vI (nI b), vI (nI c), vI (nI e)] [vI (1 : Int32)] σ _
        refine WS.br (P := (1 : Int32) = 0) (a := 28) (b := 45) (S' := []) rfl (fun cc => absurd cc (by decide)) (fun _ => ?_)
        refine WS.run (C := []) (pc' := 46) (L' := [vR 51 0, vI (nI a), vI (nI b), vI (nI c), vI (nI e)]) (S' := [vI (0 : Int32)]) (σ' := σ) 1 rfl trivial ?_
        exact WS.ret rfl rfl (by decide) rfl (h0 (fun z => z.1 (Or.inl (Or.inr q3))))
      · show WS _ M_MD_isClose 25 [vR 51 0, vI (nI a), vI (nI b), vI (nI c), vI (nI e)] [vI (0 : Int32)] σ _
        refine WS.br (P := (0 : Int32) = 0) (a := 28) (b := 45) (S' := []) rfl (fun _ => ?_) (fun cc => absurd (by decide) cc)
        refine WS.run (C := []) (pc' := 32) (L' := [vR 51 0, vI (nI a), vI (nI b), vI (nI c), vI (nI e)]) (S' := [vI (nI e), vI (nI b), vR 51 0]) (σ' := σ) 3 rfl trivial ?_
        refine WS.callV M_MD_isSame (k := 51) (i := 0) (as := [vI (nI b), vI (nI e)]) (rest := []) rfl lk_11_157 rfl rfl rfl (Nat.le_of_ble_eq_true rfl) ?_
        refine c_MisSame hb he (fun q4 => ?_) (fun q4 => ?_)
        · show WS _ M_MD_isClose 35 [vR 51 0, vI (nI a), vI (nI b), vI (nI c), vI (nI e)] [vI (1 : Int32)] σ _
          refine WS.br (P := (1 : Int32) = 0) (a := 38) (b := 45) (S' := []) rfl (fun cc => absurd cc (by decide)) (fun _ => ?_)
          refine WS.run (C := []) (pc' := 46) (L' := [vR 51 0, vI (nI a), vI (nI b), vI (nI c), vI (nI e)]) (S' := [vI (0 : Int32)]) (σ' := σ) 1 rfl trivial ?_
          exact WS.ret rfl rfl (by decide) rfl (h0 (fun z => z.1 (Or.inr (Or.inr q4))))
        · show WS _ M_MD_isClose 35 [vR 51 0, vI (nI a), vI (nI b), vI (nI c), vI (nI e)] [vI (0 : Int32)] σ _
          refine WS.br (P := (0 : Int32) = 0) (a := 38) (b := 45) (S' := []) rfl (fun _ => ?_) (fun cc => absurd (by decide) cc)
          refine WS.run (C := []) (pc' := 42) (L' := [vR 51 0, vI (nI a), vI (nI b), vI (nI c), vI (nI e)]) (S' := [vI (gI σ 51 0 9)]) (σ' := σ) 2 rfl trivial ?_
          refine WS.br (P := (gI σ 51 0 9) = 0) (a := 45) (b := 47) (S' := []) rfl (fun c5 => ?_) (fun c5 => ?_)
          · refine WS.run (C := []) (pc' := 46) (L' := [vR 51 0, vI (nI a), vI (nI b), vI (nI c), vI (nI e)]) (S' := [vI (0 : Int32)]) (σ' := σ) 1 rfl trivial ?_
            exact WS.ret rfl rfl (by decide) rfl (h0 (fun z => by have := z.2.1; rw [t_eq, t_0] at c5; omega))
          · refine WS.run (C := []) (pc' := 53) (L' := [vR 51 0, vI (nI a), vI (nI b), vI (nI c), vI (nI e)]) (S' := [vI (nI e), vI (nI c), vI (nI b), vI (nI a), vR 51 0]) (σ' := σ) 5 rfl trivial ?_
            refine WS.callV M_MD_meets (k := 51) (i := 0) (as := [vI (nI a), vI (nI b), vI (nI c), vI (nI e)]) (rest := []) rfl lk_11_161 rfl rfl rfl (Nat.le_of_ble_eq_true rfl) ?_
            refine c_Mmeets ha hb hc he (fun q6 => ?_) (fun q6 => ?_)
            · show WS _ M_MD_isClose 56 [vR 51 0, vI (nI a), vI (nI b), vI (nI c), vI (nI e)] [vI (1 : Int32)] σ _
              refine WS.br (P := (1 : Int32) = 0) (a := 59) (b := 118) (S' := []) rfl (fun cc => absurd cc (by decide)) (fun _ => ?_)
              refine WS.run (C := []) (pc' := 123) (L' := [vR 51 0, vI (nI a), vI (nI b), vI (nI c), vI (nI e)]) (S' := [vI (1 : Int32)]) (σ' := σ) 2 rfl trivial ?_
              exact WS.ret rfl rfl (by decide) rfl (h1 ⟨(fun z => z.elim (fun z => z.elim q1 q3) (fun z => z.elim q2 q4)), (near_meet _ _ _).mpr ⟨(by rw [t_eq, t_0] at c5; omega), Or.inl q6⟩⟩)
            · show WS _ M_MD_isClose 56 [vR 51 0, vI (nI a), vI (nI b), vI (nI c), vI (nI e)] [vI (0 : Int32)] σ _
              refine WS.br (P := (0 : Int32) = 0) (a := 59) (b := 118) (S' := []) rfl (fun _ => ?_) (fun cc => absurd (by decide) cc)
              refine WS.run (C := []) (pc' := 68) (L' := [vR 51 0, vI (nI a), vI (nI b), vI (nI c), vI (nI e)]) (S' := [vI (gI σ 51 0 9), vI (nI e), vI (nI c), vI (nI a), vR 51 0]) (σ' := σ) 6 rfl trivial ?_
              refine WS.callV M_MD_far (k := 51) (i := 0) (as := [vI (nI a), vI (nI c), vI (nI e), vI (gI σ 51 0 9)]) (rest := []) rfl lk_11_138 rfl rfl rfl (Nat.le_of_ble_eq_true rfl) ?_
              refine c_Mfar ha hc he hg (fun r7 e7 => ?_)
              show WS _ M_MD_isClose 71 [vR 51 0, vI (nI a), vI (nI b), vI (nI c), vI (nI e)] [vI r7] σ _
              refine WS.br (P := r7 < 0) (a := 118) (b := 74) (S' := []) rfl (fun c8 => ?_) (fun c8 => ?_)
              · refine WS.run (C := []) (pc' := 123) (L' := [vR 51 0, vI (nI a), vI (nI b), vI (nI c), vI (nI e)]) (S' := [vI (1 : Int32)]) (σ' := σ) 2 rfl trivial ?_
                exact WS.ret rfl rfl (by decide) rfl (h1 ⟨(fun z => z.elim (fun z => z.elim q1 q3) (fun z => z.elim q2 q4)), (near_meet _ _ _).mpr ⟨(by rw [t_eq, t_0] at c5; omega), Or.inr (Or.inl (sg_p e7 c8))⟩⟩)
              · refine WS.run (C := []) (pc' := 83) (L' := [vR 51 0, vI (nI a), vI (nI b), vI (nI c), vI (nI e)]) (S' := [vI (gI σ 51 0 9), vI (nI e), vI (nI c), vI (nI b), vR 51 0]) (σ' := σ) 6 rfl trivial ?_
                refine WS.callV M_MD_far (k := 51) (i := 0) (as := [vI (nI b), vI (nI c), vI (nI e), vI (gI σ 51 0 9)]) (rest := []) rfl lk_11_138 rfl rfl rfl (Nat.le_of_ble_eq_true rfl) ?_
                refine c_Mfar hb hc he hg (fun r9 e9 => ?_)
                show WS _ M_MD_isClose 86 [vR 51 0, vI (nI a), vI (nI b), vI (nI c), vI (nI e)] [vI r9] σ _
                refine WS.br (P := r9 < 0) (a := 118) (b := 89) (S' := []) rfl (fun c10 => ?_) (fun c10 => ?_)
                · refine WS.run (C := []) (pc' := 123) (L' := [vR 51 0, vI (nI a), vI (nI b), vI (nI c), vI (nI e)]) (S' := [vI (1 : Int32)]) (σ' := σ) 2 rfl trivial ?_
                  exact WS.ret rfl rfl (by decide) rfl (h1 ⟨(fun z => z.elim (fun z => z.elim q1 q3) (fun z => z.elim q2 q4)), (near_meet _ _ _).mpr ⟨(by rw [t_eq, t_0] at c5; omega), Or.inr (Or.inr (Or.inl (sg_p e9 c10)))⟩⟩)
                · refine WS.run (C := []) (pc' := 97) (L' := [vR 51 0, vI (nI a), vI (nI b), vI (nI c), vI (nI e)]) (S' := [vI (gI σ 51 0 9), vI (nI b), vI (nI a), vI (nI c), vR 51 0]) (σ' := σ) 6 rfl trivial ?_
                  refine WS.callV M_MD_far (k := 51) (i := 0) (as := [vI (nI c), vI (nI a), vI (nI b), vI (gI σ 51 0 9)]) (rest := []) rfl lk_11_138 rfl rfl rfl (Nat.le_of_ble_eq_true rfl) ?_
                  refine c_Mfar hc ha hb hg (fun r11 e11 => ?_)
                  show WS _ M_MD_isClose 100 [vR 51 0, vI (nI a), vI (nI b), vI (nI c), vI (nI e)] [vI r11] σ _
                  refine WS.br (P := r11 < 0) (a := 118) (b := 103) (S' := []) rfl (fun c12 => ?_) (fun c12 => ?_)
                  · refine WS.run (C := []) (pc' := 123) (L' := [vR 51 0, vI (nI a), vI (nI b), vI (nI c), vI (nI e)]) (S' := [vI (1 : Int32)]) (σ' := σ) 2 rfl trivial ?_
                    exact WS.ret rfl rfl (by decide) rfl (h1 ⟨(fun z => z.elim (fun z => z.elim q1 q3) (fun z => z.elim q2 q4)), (near_meet _ _ _).mpr ⟨(by rw [t_eq, t_0] at c5; omega), Or.inr (Or.inr (Or.inr (Or.inl (sg_p e11 c12))))⟩⟩)
                  · refine WS.run (C := []) (pc' := 112) (L' := [vR 51 0, vI (nI a), vI (nI b), vI (nI c), vI (nI e)]) (S' := [vI (gI σ 51 0 9), vI (nI b), vI (nI a), vI (nI e), vR 51 0]) (σ' := σ) 6 rfl trivial ?_
                    refine WS.callV M_MD_far (k := 51) (i := 0) (as := [vI (nI e), vI (nI a), vI (nI b), vI (gI σ 51 0 9)]) (rest := []) rfl lk_11_138 rfl rfl rfl (Nat.le_of_ble_eq_true rfl) ?_
                    refine c_Mfar he ha hb hg (fun r13 e13 => ?_)
                    show WS _ M_MD_isClose 115 [vR 51 0, vI (nI a), vI (nI b), vI (nI c), vI (nI e)] [vI r13] σ _
                    refine WS.br (P := 0 ≤ r13) (a := 122) (b := 118) (S' := []) rfl (fun c14 => ?_) (fun c14 => ?_)
                    · refine WS.run (C := []) (pc' := 123) (L' := [vR 51 0, vI (nI a), vI (nI b), vI (nI c), vI (nI e)]) (S' := [vI (0 : Int32)]) (σ' := σ) 1 rfl trivial ?_
                      exact WS.ret rfl rfl (by decide) rfl (h0 (fun z => ((near_meet _ _ _).mp z.2).2.elim q6 (fun z => z.elim (sg_n e7 c8) (fun z => z.elim (sg_n e9 c10) (fun z => z.elim (sg_n e11 c12) (sg_n2 e13 c14))))))
                    · refine WS.run (C := []) (pc' := 123) (L' := [vR 51 0, vI (nI a), vI (nI b), vI (nI c), vI (nI e)]) (S' := [vI (1 : Int32)]) (σ' := σ) 2 rfl trivial ?_
                      exact WS.ret rfl rfl (by decide) rfl (h1 ⟨(fun z => z.elim (fun z => z.elim q1 q3) (fun z => z.elim q2 q4)), (near_meet _ _ _).mpr ⟨(by rw [t_eq, t_0] at c5; omega), Or.inr (Or.inr (Or.inr (Or.inr (sg_p2 e13 c14))))⟩⟩)
set_option maxRecDepth 4000 in
set_option maxHeartbeats 400000 in
theorem c_Mleast {d : Nat} {σ : Mem} {Post : Option AV → Mem → Prop} {x y : Int32} (h : ∀ r : Int32, r.toInt = min x.toInt y.toInt → Post (some (vI r)) σ) : MM d M_MD_least [vI x, vI y] σ Post := by
  refine MM.of ok_MD_least rfl ?_
  show WS _ M_MD_least 0 [vI x, vI y] [] σ _
  refine WS.run (C := []) (pc' := 2) (L' := [vI x, vI y]) (S' := [vI y, vI x]) (σ' := σ) 2 rfl trivial ?_
  refine WS.br (P := y ≤ x) (a := 9) (b := 5) (S' := []) rfl (fun c1 => ?_) (fun c1 => ?_)
  · refine WS.run (C := []) (pc' := 10) (L' := [vI x, vI y]) (S' := [vI y]) (σ' := σ) 1 rfl trivial ?_
    exact WS.ret rfl rfl (by decide) rfl (h _ (by simp only [t_lt, t_le] at *; omega))
  · refine WS.run (C := []) (pc' := 10) (L' := [vI x, vI y]) (S' := [vI x]) (σ' := σ) 2 rfl trivial ?_
    exact WS.ret rfl rfl (by decide) rfl (h _ (by simp only [t_lt, t_le] at *; omega))
set_option maxRecDepth 4000 in
set_option maxHeartbeats 400000 in
theorem c_Mmost {d : Nat} {σ : Mem} {Post : Option AV → Mem → Prop} {x y : Int32} (h : ∀ r : Int32, r.toInt = max x.toInt y.toInt → Post (some (vI r)) σ) : MM d M_MD_most [vI x, vI y] σ Post := by
  refine MM.of ok_MD_most rfl ?_
  show WS _ M_MD_most 0 [vI x, vI y] [] σ _
  refine WS.run (C := []) (pc' := 2) (L' := [vI x, vI y]) (S' := [vI y, vI x]) (σ' := σ) 2 rfl trivial ?_
  refine WS.br (P := x ≤ y) (a := 9) (b := 5) (S' := []) rfl (fun c1 => ?_) (fun c1 => ?_)
  · refine WS.run (C := []) (pc' := 10) (L' := [vI x, vI y]) (S' := [vI y]) (σ' := σ) 1 rfl trivial ?_
    exact WS.ret rfl rfl (by decide) rfl (h _ (by simp only [t_lt, t_le] at *; omega))
  · refine WS.run (C := []) (pc' := 10) (L' := [vI x, vI y]) (S' := [vI x]) (σ' := σ) 2 rfl trivial ?_
    exact WS.ret rfl rfl (by decide) rfl (h _ (by simp only [t_lt, t_le] at *; omega))
set_option maxRecDepth 4000 in
set_option maxHeartbeats 400000 in
theorem c_Mcrosses {d : Nat} {σ : Mem} {Post : Option AV → Mem → Prop} {a b c e : Nat} (ha : mP σ a) (hb : mP σ b) (hc : mP σ c) (he : mP σ e) (h1 : crossZ (lnM σ a b) (lnM σ c e) → Post (some (vI 1)) σ) (h0 : ¬ crossZ (lnM σ a b) (lnM σ c e) → Post (some (vI 0)) σ) : MM (d + 1) M_MD_crosses [vR 51 0, vI (nI a), vI (nI b), vI (nI c), vI (nI e)] σ Post := by
  have e_a : (nI a).toNatClampNeg = a := cl_n (by have := ha.1; omega)
  have e_b : (nI b).toNatClampNeg = b := cl_n (by have := hb.1; omega)
  have e_c : (nI c).toNatClampNeg = c := cl_n (by have := hc.1; omega)
  have e_e : (nI e).toNatClampNeg = e := cl_n (by have := he.1; omega)
  refine MM.of ok_MD_crosses rfl ?_
  show WS _ M_MD_crosses 0 [vR 51 0, vI (nI a), vI (nI b), vI (nI c), vI (nI e), vU, vU, vU, vU] [] σ _
  refine WS.run (C := []) (pc' := 4) (L' := [vR 51 0, vI (nI a), vI (nI b), vI (nI c), vI (nI e), vU, vU, vU, vU]) (S' := [vI (nI c), vI (nI b), vI (nI a), vR 51 0]) (σ' := σ) 4 rfl trivial ?_
  refine WS.callV M_MD_cross (k := 51) (i := 0) (as := [vI (nI a), vI (nI b), vI (nI c)]) (rest := []) rfl lk_11_134 rfl rfl rfl (Nat.le_of_ble_eq_true rfl) ?_
  refine c_Mcross ha hb hc (fun r1 e1 => ?_)
  show WS _ M_MD_crosses 7 [vR 51 0, vI (nI a), vI (nI b), vI (nI c), vI (nI e), vU, vU, vU, vU] [vJ r1] σ _
  refine WS.callS M_MD_signOf (as := [vJ r1]) (rest := []) rfl lk_11_130 rfl rfl (Nat.le_of_ble_eq_true rfl) ?_
  refine c_MsignOf  (fun r2 e2 => ?_)
  show WS _ M_MD_crosses 10 [vR 51 0, vI (nI a), vI (nI b), vI (nI c), vI (nI e), vU, vU, vU, vU] [vI r2] σ _
  refine WS.run (C := []) (pc' := 17) (L' := [vR 51 0, vI (nI a), vI (nI b), vI (nI c), vI (nI e), vI r2, vU, vU, vU]) (S' := [vI (nI e), vI (nI b), vI (nI a), vR 51 0]) (σ' := σ) 5 rfl trivial ?_
  refine WS.callV M_MD_cross (k := 51) (i := 0) (as := [vI (nI a), vI (nI b), vI (nI e)]) (rest := []) rfl lk_11_134 rfl rfl rfl (Nat.le_of_ble_eq_true rfl) ?_
  refine c_Mcross ha hb he (fun r3 e3 => ?_)
  show WS _ M_MD_crosses 20 [vR 51 0, vI (nI a), vI (nI b), vI (nI c), vI (nI e), vI r2, vU, vU, vU] [vJ r3] σ _
  refine WS.callS M_MD_signOf (as := [vJ r3]) (rest := []) rfl lk_11_130 rfl rfl (Nat.le_of_ble_eq_true rfl) ?_
  refine c_MsignOf  (fun r4 e4 => ?_)
  show WS _ M_MD_crosses 23 [vR 51 0, vI (nI a), vI (nI b), vI (nI c), vI (nI e), vI r2, vU, vU, vU] [vI r4] σ _
  refine WS.run (C := []) (pc' := 30) (L' := [vR 51 0, vI (nI a), vI (nI b), vI (nI c), vI (nI e), vI r2, vI r4, vU, vU]) (S' := [vI (nI a), vI (nI e), vI (nI c), vR 51 0]) (σ' := σ) 5 rfl trivial ?_
  refine WS.callV M_MD_cross (k := 51) (i := 0) (as := [vI (nI c), vI (nI e), vI (nI a)]) (rest := []) rfl lk_11_134 rfl rfl rfl (Nat.le_of_ble_eq_true rfl) ?_
  refine c_Mcross hc he ha (fun r5 e5 => ?_)
  show WS _ M_MD_crosses 33 [vR 51 0, vI (nI a), vI (nI b), vI (nI c), vI (nI e), vI r2, vI r4, vU, vU] [vJ r5] σ _
  refine WS.callS M_MD_signOf (as := [vJ r5]) (rest := []) rfl lk_11_130 rfl rfl (Nat.le_of_ble_eq_true rfl) ?_
  refine c_MsignOf  (fun r6 e6 => ?_)
  show WS _ M_MD_crosses 36 [vR 51 0, vI (nI a), vI (nI b), vI (nI c), vI (nI e), vI r2, vI r4, vU, vU] [vI r6] σ _
  refine WS.run (C := []) (pc' := 43) (L' := [vR 51 0, vI (nI a), vI (nI b), vI (nI c), vI (nI e), vI r2, vI r4, vI r6, vU]) (S' := [vI (nI b), vI (nI e), vI (nI c), vR 51 0]) (σ' := σ) 5 rfl trivial ?_
  refine WS.callV M_MD_cross (k := 51) (i := 0) (as := [vI (nI c), vI (nI e), vI (nI b)]) (rest := []) rfl lk_11_134 rfl rfl rfl (Nat.le_of_ble_eq_true rfl) ?_
  refine c_Mcross hc he hb (fun r7 e7 => ?_)
  show WS _ M_MD_crosses 46 [vR 51 0, vI (nI a), vI (nI b), vI (nI c), vI (nI e), vI r2, vI r4, vI r6, vU] [vJ r7] σ _
  refine WS.callS M_MD_signOf (as := [vJ r7]) (rest := []) rfl lk_11_130 rfl rfl (Nat.le_of_ble_eq_true rfl) ?_
  refine c_MsignOf  (fun r8 e8 => ?_)
  show WS _ M_MD_crosses 49 [vR 51 0, vI (nI a), vI (nI b), vI (nI c), vI (nI e), vI r2, vI r4, vI r6, vU] [vI r8] σ _
  refine WS.run (C := []) (pc' := 56) (L' := [vR 51 0, vI (nI a), vI (nI b), vI (nI c), vI (nI e), vI r2, vI r4, vI r6, vI r8]) (S' := [vI (r2 * r4)]) (σ' := σ) 4 rfl trivial ?_
  refine WS.br (P := 0 ≤ (r2 * r4)) (a := 69) (b := 59) (S' := []) rfl (fun c9 => ?_) (fun c9 => ?_)
  · refine WS.run (C := []) (pc' := 71) (L' := [vR 51 0, vI (nI a), vI (nI b), vI (nI c), vI (nI e), vI r2, vI r4, vI r6, vI r8]) (S' := [vI r2]) (σ' := σ) 1 rfl trivial ?_
    refine WS.br (P := r2 = 0) (a := 74) (b := 108) (S' := []) rfl (fun c10 => ?_) (fun c10 => ?_)
    · refine WS.run (C := []) (pc' := 76) (L' := [vR 51 0, vI (nI a), vI (nI b), vI (nI c), vI (nI e), vI r2, vI r4, vI r6, vI r8]) (S' := [vI r4]) (σ' := σ) 1 rfl trivial ?_
      refine WS.br (P := r4 = 0) (a := 79) (b := 108) (S' := []) rfl (fun c11 => ?_) (fun c11 => ?_)
      · refine WS.run (C := []) (pc' := 81) (L' := [vR 51 0, vI (nI a), vI (nI b), vI (nI c), vI (nI e), vI r2, vI r4, vI r6, vI r8]) (S' := [vI r6]) (σ' := σ) 1 rfl trivial ?_
        refine WS.br (P := r6 = 0) (a := 84) (b := 108) (S' := []) rfl (fun c12 => ?_) (fun c12 => ?_)
        · refine WS.run (C := []) (pc' := 86) (L' := [vR 51 0, vI (nI a), vI (nI b), vI (nI c), vI (nI e), vI r2, vI r4, vI r6, vI r8]) (S' := [vI r8]) (σ' := σ) 1 rfl trivial ?_
          refine WS.br (P := r8 = 0) (a := 89) (b := 108) (S' := []) rfl (fun c13 => ?_) (fun c13 => ?_)
          · refine WS.run (C := []) (pc' := 92) (L' := [vR 51 0, vI (nI a), vI (nI b), vI (nI c), vI (nI e), vI r2, vI r4, vI r6, vI r8]) (S' := [vI (nI b), vI (nI a), vR 51 0]) (σ' := σ) 3 rfl trivial ?_
            refine WS.callV M_MD_isSame (k := 51) (i := 0) (as := [vI (nI a), vI (nI b)]) (rest := []) rfl lk_11_157 rfl rfl rfl (Nat.le_of_ble_eq_true rfl) ?_
            refine c_MisSame ha hb (fun q14 => ?_) (fun q14 => ?_)
            · show WS _ M_MD_crosses 95 [vR 51 0, vI (nI a), vI (nI b), vI (nI c), vI (nI e), vI r2, vI r4, vI r6, vI r8] [vI (1 : Int32)] σ _
              refine WS.br (P := (1 : Int32) = 0) (a := 98) (b := 108) (S' := []) rfl (fun cc => absurd cc (by decide)) (fun _ => ?_)
              refine WS.run (C := []) (pc' := 109) (L' := [vR 51 0, vI (nI a), vI (nI b), vI (nI c), vI (nI e), vI r2, vI r4, vI r6, vI r8]) (S' := [vI (0 : Int32)]) (σ' := σ) 1 rfl trivial ?_
              exact WS.ret rfl rfl (by decide) rfl (h0 (fun z => z.elim (fun z => by have w := (cut_of (l := lnM σ a b) (m := lnM σ c e) (by rw [e2, e1]; rfl) (by rw [e4, e3]; rfl) (by rw [e6, e5]; rfl) (by rw [e8, e7]; rfl)).mp z; simp only [t_le, t_0] at c9; omega) (fun z => ((over_iff _ _).mpr z).2.2.2.2.1 q14)))
            · show WS _ M_MD_crosses 95 [vR 51 0, vI (nI a), vI (nI b), vI (nI c), vI (nI e), vI r2, vI r4, vI r6, vI r8] [vI (0 : Int32)] σ _
              refine WS.br (P := (0 : Int32) = 0) (a := 98) (b := 108) (S' := []) rfl (fun _ => ?_) (fun cc => absurd (by decide) cc)
              refine WS.run (C := []) (pc' := 102) (L' := [vR 51 0, vI (nI a), vI (nI b), vI (nI c), vI (nI e), vI r2, vI r4, vI r6, vI r8]) (S' := [vI (nI e), vI (nI c), vR 51 0]) (σ' := σ) 3 rfl trivial ?_
              refine WS.callV M_MD_isSame (k := 51) (i := 0) (as := [vI (nI c), vI (nI e)]) (rest := []) rfl lk_11_157 rfl rfl rfl (Nat.le_of_ble_eq_true rfl) ?_
              refine c_MisSame hc he (fun q15 => ?_) (fun q15 => ?_)
              · show WS _ M_MD_crosses 105 [vR 51 0, vI (nI a), vI (nI b), vI (nI c), vI (nI e), vI r2, vI r4, vI r6, vI r8] [vI (1 : Int32)] σ _
                refine WS.br (P := (1 : Int32) = 0) (a := 110) (b := 108) (S' := []) rfl (fun cc => absurd cc (by decide)) (fun _ => ?_)
                refine WS.run (C := []) (pc' := 109) (L' := [vR 51 0, vI (nI a), vI (nI b), vI (nI c), vI (nI e), vI r2, vI r4, vI r6, vI r8]) (S' := [vI (0 : Int32)]) (σ' := σ) 1 rfl trivial ?_
                exact WS.ret rfl rfl (by decide) rfl (h0 (fun z => z.elim (fun z => by have w := (cut_of (l := lnM σ a b) (m := lnM σ c e) (by rw [e2, e1]; rfl) (by rw [e4, e3]; rfl) (by rw [e6, e5]; rfl) (by rw [e8, e7]; rfl)).mp z; simp only [t_le, t_0] at c9; omega) (fun z => ((over_iff _ _).mpr z).2.2.2.2.2.1 q15)))
              · show WS _ M_MD_crosses 105 [vR 51 0, vI (nI a), vI (nI b), vI (nI c), vI (nI e), vI r2, vI r4, vI r6, vI r8] [vI (0 : Int32)] σ _
                refine WS.br (P := (0 : Int32) = 0) (a := 110) (b := 108) (S' := []) rfl (fun _ => ?_) (fun cc => absurd (by decide) cc)
                refine WS.run (C := [vp_in (nI a) 240, vp_in (nI b) 240]) (pc' := 122) (L' := [vR 51 0, vI (nI a), vI (nI b), vI (nI c), vI (nI e), vI r2, vI r4, vI r6, vI r8]) (S' := [vI (gI σ 56 0 (nI b).toNatClampNeg), vI (gI σ 56 0 (nI a).toNatClampNeg)]) (σ' := σ) 8 rfl ⟨(vp_n (by have := ha.1; omega) (by omega)), (vp_n (by have := hb.1; omega) (by omega)), trivial⟩ ?_
                simp only [e_a, e_b, e_c, e_e]
                refine WS.br (P := (gI σ 56 0 a) = (gI σ 56 0 b)) (a := 202) (b := 125) (S' := []) rfl (fun c16 => ?_) (fun c16 => ?_)
                · refine WS.run (C := [vp_in (nI a) 240, vp_in (nI b) 240]) (pc' := 214) (L' := [vR 51 0, vI (nI a), vI (nI b), vI (nI c), vI (nI e), vI r2, vI r4, vI r6, vI r8]) (S' := [vI (gI σ 57 0 (nI b).toNatClampNeg), vI (gI σ 57 0 (nI a).toNatClampNeg)]) (σ' := σ) 8 rfl ⟨(vp_n (by have := ha.1; omega) (by omega)), (vp_n (by have := hb.1; omega) (by omega)), trivial⟩ ?_
                  simp only [e_a, e_b, e_c, e_e]
                  refine WS.callS M_MD_least (as := [vI (gI σ 57 0 a), vI (gI σ 57 0 b)]) (rest := []) rfl lk_11_164 rfl rfl (Nat.le_of_ble_eq_true rfl) ?_
                  refine c_Mleast  (fun r17 e17 => ?_)
                  show WS _ M_MD_crosses 217 [vR 51 0, vI (nI a), vI (nI b), vI (nI c), vI (nI e), vI r2, vI r4, vI r6, vI r8] [vI r17] σ _
                  refine WS.run (C := [vp_in (nI c) 240, vp_in (nI e) 240]) (pc' := 230) (L' := [vR 51 0, vI (nI a), vI (nI b), vI (nI c), vI (nI e), vI r2, vI r4, vI r6, vI r8]) (S' := [vI (gI σ 57 0 (nI e).toNatClampNeg), vI (gI σ 57 0 (nI c).toNatClampNeg), vI r17]) (σ' := σ) 8 rfl ⟨(vp_n (by have := hc.1; omega) (by omega)), (vp_n (by have := he.1; omega) (by omega)), trivial⟩ ?_
                  simp only [e_a, e_b, e_c, e_e]
                  refine WS.callS M_MD_least (as := [vI (gI σ 57 0 c), vI (gI σ 57 0 e)]) (rest := [vI r17]) rfl lk_11_164 rfl rfl (Nat.le_of_ble_eq_true rfl) ?_
                  refine c_Mleast  (fun r18 e18 => ?_)
                  show WS _ M_MD_crosses 233 [vR 51 0, vI (nI a), vI (nI b), vI (nI c), vI (nI e), vI r2, vI r4, vI r6, vI r8] [vI r18, vI r17] σ _
                  refine WS.callS M_MD_most (as := [vI r17, vI r18]) (rest := []) rfl lk_11_167 rfl rfl (Nat.le_of_ble_eq_true rfl) ?_
                  refine c_Mmost  (fun r19 e19 => ?_)
                  show WS _ M_MD_crosses 236 [vR 51 0, vI (nI a), vI (nI b), vI (nI c), vI (nI e), vI r2, vI r4, vI r6, vI r8] [vI r19] σ _
                  refine WS.run (C := [vp_in (nI a) 240, vp_in (nI b) 240]) (pc' := 248) (L' := [vR 51 0, vI (nI a), vI (nI b), vI (nI c), vI (nI e), vI r2, vI r4, vI r6, vI r8]) (S' := [vI (gI σ 57 0 (nI b).toNatClampNeg), vI (gI σ 57 0 (nI a).toNatClampNeg), vI r19]) (σ' := σ) 8 rfl ⟨(vp_n (by have := ha.1; omega) (by omega)), (vp_n (by have := hb.1; omega) (by omega)), trivial⟩ ?_
                  simp only [e_a, e_b, e_c, e_e]
                  refine WS.callS M_MD_most (as := [vI (gI σ 57 0 a), vI (gI σ 57 0 b)]) (rest := [vI r19]) rfl lk_11_167 rfl rfl (Nat.le_of_ble_eq_true rfl) ?_
                  refine c_Mmost  (fun r20 e20 => ?_)
                  show WS _ M_MD_crosses 251 [vR 51 0, vI (nI a), vI (nI b), vI (nI c), vI (nI e), vI r2, vI r4, vI r6, vI r8] [vI r20, vI r19] σ _
                  refine WS.run (C := [vp_in (nI c) 240, vp_in (nI e) 240]) (pc' := 264) (L' := [vR 51 0, vI (nI a), vI (nI b), vI (nI c), vI (nI e), vI r2, vI r4, vI r6, vI r8]) (S' := [vI (gI σ 57 0 (nI e).toNatClampNeg), vI (gI σ 57 0 (nI c).toNatClampNeg), vI r20, vI r19]) (σ' := σ) 8 rfl ⟨(vp_n (by have := hc.1; omega) (by omega)), (vp_n (by have := he.1; omega) (by omega)), trivial⟩ ?_
                  simp only [e_a, e_b, e_c, e_e]
                  refine WS.callS M_MD_most (as := [vI (gI σ 57 0 c), vI (gI σ 57 0 e)]) (rest := [vI r20, vI r19]) rfl lk_11_167 rfl rfl (Nat.le_of_ble_eq_true rfl) ?_
                  refine c_Mmost  (fun r21 e21 => ?_)
                  show WS _ M_MD_crosses 267 [vR 51 0, vI (nI a), vI (nI b), vI (nI c), vI (nI e), vI r2, vI r4, vI r6, vI r8] [vI r21, vI r20, vI r19] σ _
                  refine WS.callS M_MD_least (as := [vI r20, vI r21]) (rest := [vI r19]) rfl lk_11_164 rfl rfl (Nat.le_of_ble_eq_true rfl) ?_
                  refine c_Mleast  (fun r22 e22 => ?_)
                  show WS _ M_MD_crosses 270 [vR 51 0, vI (nI a), vI (nI b), vI (nI c), vI (nI e), vI r2, vI r4, vI r6, vI r8] [vI r22, vI r19] σ _
                  refine WS.br (P := r22 ≤ r19) (a := 277) (b := 273) (S' := []) rfl (fun c23 => ?_) (fun c23 => ?_)
                  · refine WS.run (C := []) (pc' := 278) (L' := [vR 51 0, vI (nI a), vI (nI b), vI (nI c), vI (nI e), vI r2, vI r4, vI r6, vI r8]) (S' := [vI (0 : Int32)]) (σ' := σ) 1 rfl trivial ?_
                    exact WS.ret rfl rfl (by decide) rfl (h0 (fun z => z.elim (fun z => by have w := (cut_of (l := lnM σ a b) (m := lnM σ c e) (by rw [e2, e1]; rfl) (by rw [e4, e3]; rfl) (by rw [e6, e5]; rfl) (by rw [e8, e7]; rfl)).mp z; simp only [t_le, t_0] at c9; omega) (fun z => by have w := ((over_iff _ _).mpr z).2.2.2.2.2.2; clear h1 h0 z; unfold lnM mX mY at w; dsimp only at w; simp only [t_lt, t_le, t_eq] at c16 c23; omega)))
                  · refine WS.run (C := []) (pc' := 278) (L' := [vR 51 0, vI (nI a), vI (nI b), vI (nI c), vI (nI e), vI r2, vI r4, vI r6, vI r8]) (S' := [vI (1 : Int32)]) (σ' := σ) 2 rfl trivial ?_
                    exact WS.ret rfl rfl (by decide) rfl (h1 (Or.inr ((over_iff _ _).mp ⟨(sgn_eq.mp (by have y := c10; rw [t_eq, t_0, e2, e1] at y; exact y)), (sgn_eq.mp (by have y := c11; rw [t_eq, t_0, e4, e3] at y; exact y)), (sgn_eq.mp (by have y := c12; rw [t_eq, t_0, e6, e5] at y; exact y)), (sgn_eq.mp (by have y := c13; rw [t_eq, t_0, e8, e7] at y; exact y)), q14, q15, (by clear h1 h0; unfold lnM mX mY; dsimp only; simp only [t_lt, t_le, t_eq] at c16 c23; omega)⟩)))
                · refine WS.run (C := [vp_in (nI a) 240, vp_in (nI b) 240]) (pc' := 137) (L' := [vR 51 0, vI (nI a), vI (nI b), vI (nI c), vI (nI e), vI r2, vI r4, vI r6, vI r8]) (S' := [vI (gI σ 56 0 (nI b).toNatClampNeg), vI (gI σ 56 0 (nI a).toNatClampNeg)]) (σ' := σ) 8 rfl ⟨(vp_n (by have := ha.1; omega) (by omega)), (vp_n (by have := hb.1; omega) (by omega)), trivial⟩ ?_
                  simp only [e_a, e_b, e_c, e_e]
                  refine WS.callS M_MD_least (as := [vI (gI σ 56 0 a), vI (gI σ 56 0 b)]) (rest := []) rfl lk_11_164 rfl rfl (Nat.le_of_ble_eq_true rfl) ?_
                  refine c_Mleast  (fun r24 e24 => ?_)
                  show WS _ M_MD_crosses 140 [vR 51 0, vI (nI a), vI (nI b), vI (nI c), vI (nI e), vI r2, vI r4, vI r6, vI r8] [vI r24] σ _
                  refine WS.run (C := [vp_in (nI c) 240, vp_in (nI e) 240]) (pc' := 153) (L' := [vR 51 0, vI (nI a), vI (nI b), vI (nI c), vI (nI e), vI r2, vI r4, vI r6, vI r8]) (S' := [vI (gI σ 56 0 (nI e).toNatClampNeg), vI (gI σ 56 0 (nI c).toNatClampNeg), vI r24]) (σ' := σ) 8 rfl ⟨(vp_n (by have := hc.1; omega) (by omega)), (vp_n (by have := he.1; omega) (by omega)), trivial⟩ ?_
                  simp only [e_a, e_b, e_c, e_e]
                  refine WS.callS M_MD_least (as := [vI (gI σ 56 0 c), vI (gI σ 56 0 e)]) (rest := [vI r24]) rfl lk_11_164 rfl rfl (Nat.le_of_ble_eq_true rfl) ?_
                  refine c_Mleast  (fun r25 e25 => ?_)
                  show WS _ M_MD_crosses 156 [vR 51 0, vI (nI a), vI (nI b), vI (nI c), vI (nI e), vI r2, vI r4, vI r6, vI r8] [vI r25, vI r24] σ _
                  refine WS.callS M_MD_most (as := [vI r24, vI r25]) (rest := []) rfl lk_11_167 rfl rfl (Nat.le_of_ble_eq_true rfl) ?_
                  refine c_Mmost  (fun r26 e26 => ?_)
                  show WS _ M_MD_crosses 159 [vR 51 0, vI (nI a), vI (nI b), vI (nI c), vI (nI e), vI r2, vI r4, vI r6, vI r8] [vI r26] σ _
                  refine WS.run (C := [vp_in (nI a) 240, vp_in (nI b) 240]) (pc' := 171) (L' := [vR 51 0, vI (nI a), vI (nI b), vI (nI c), vI (nI e), vI r2, vI r4, vI r6, vI r8]) (S' := [vI (gI σ 56 0 (nI b).toNatClampNeg), vI (gI σ 56 0 (nI a).toNatClampNeg), vI r26]) (σ' := σ) 8 rfl ⟨(vp_n (by have := ha.1; omega) (by omega)), (vp_n (by have := hb.1; omega) (by omega)), trivial⟩ ?_
                  simp only [e_a, e_b, e_c, e_e]
                  refine WS.callS M_MD_most (as := [vI (gI σ 56 0 a), vI (gI σ 56 0 b)]) (rest := [vI r26]) rfl lk_11_167 rfl rfl (Nat.le_of_ble_eq_true rfl) ?_
                  refine c_Mmost  (fun r27 e27 => ?_)
                  show WS _ M_MD_crosses 174 [vR 51 0, vI (nI a), vI (nI b), vI (nI c), vI (nI e), vI r2, vI r4, vI r6, vI r8] [vI r27, vI r26] σ _
                  refine WS.run (C := [vp_in (nI c) 240, vp_in (nI e) 240]) (pc' := 187) (L' := [vR 51 0, vI (nI a), vI (nI b), vI (nI c), vI (nI e), vI r2, vI r4, vI r6, vI r8]) (S' := [vI (gI σ 56 0 (nI e).toNatClampNeg), vI (gI σ 56 0 (nI c).toNatClampNeg), vI r27, vI r26]) (σ' := σ) 8 rfl ⟨(vp_n (by have := hc.1; omega) (by omega)), (vp_n (by have := he.1; omega) (by omega)), trivial⟩ ?_
                  simp only [e_a, e_b, e_c, e_e]
                  refine WS.callS M_MD_most (as := [vI (gI σ 56 0 c), vI (gI σ 56 0 e)]) (rest := [vI r27, vI r26]) rfl lk_11_167 rfl rfl (Nat.le_of_ble_eq_true rfl) ?_
                  refine c_Mmost  (fun r28 e28 => ?_)
                  show WS _ M_MD_crosses 190 [vR 51 0, vI (nI a), vI (nI b), vI (nI c), vI (nI e), vI r2, vI r4, vI r6, vI r8] [vI r28, vI r27, vI r26] σ _
                  refine WS.callS M_MD_least (as := [vI r27, vI r28]) (rest := [vI r26]) rfl lk_11_164 rfl rfl (Nat.le_of_ble_eq_true rfl) ?_
                  refine c_Mleast  (fun r29 e29 => ?_)
                  show WS _ M_MD_crosses 193 [vR 51 0, vI (nI a), vI (nI b), vI (nI c), vI (nI e), vI r2, vI r4, vI r6, vI r8] [vI r29, vI r26] σ _
                  refine WS.br (P := r29 ≤ r26) (a := 200) (b := 196) (S' := []) rfl (fun c30 => ?_) (fun c30 => ?_)
                  · refine WS.run (C := []) (pc' := 201) (L' := [vR 51 0, vI (nI a), vI (nI b), vI (nI c), vI (nI e), vI r2, vI r4, vI r6, vI r8]) (S' := [vI (0 : Int32)]) (σ' := σ) 1 rfl trivial ?_
                    exact WS.ret rfl rfl (by decide) rfl (h0 (fun z => z.elim (fun z => by have w := (cut_of (l := lnM σ a b) (m := lnM σ c e) (by rw [e2, e1]; rfl) (by rw [e4, e3]; rfl) (by rw [e6, e5]; rfl) (by rw [e8, e7]; rfl)).mp z; simp only [t_le, t_0] at c9; omega) (fun z => by have w := ((over_iff _ _).mpr z).2.2.2.2.2.2; clear h1 h0 z; unfold lnM mX mY at w; dsimp only at w; simp only [t_lt, t_le, t_eq] at c16 c30; omega)))
                  · refine WS.run (C := []) (pc' := 201) (L' := [vR 51 0, vI (nI a), vI (nI b), vI (nI c), vI (nI e), vI r2, vI r4, vI r6, vI r8]) (S' := [vI (1 : Int32)]) (σ' := σ) 2 rfl trivial ?_
                    exact WS.ret rfl rfl (by decide) rfl (h1 (Or.inr ((over_iff _ _).mp ⟨(sgn_eq.mp (by have y := c10; rw [t_eq, t_0, e2, e1] at y; exact y)), (sgn_eq.mp (by have y := c11; rw [t_eq, t_0, e4, e3] at y; exact y)), (sgn_eq.mp (by have y := c12; rw [t_eq, t_0, e6, e5] at y; exact y)), (sgn_eq.mp (by have y := c13; rw [t_eq, t_0, e8, e7] at y; exact y)), q14, q15, (by clear h1 h0; unfold lnM mX mY; dsimp only; simp only [t_lt, t_le, t_eq] at c16 c30; omega)⟩)))
          · refine WS.run (C := []) (pc' := 109) (L' := [vR 51 0, vI (nI a), vI (nI b), vI (nI c), vI (nI e), vI r2, vI r4, vI r6, vI r8]) (S' := [vI (0 : Int32)]) (σ' := σ) 1 rfl trivial ?_
            exact WS.ret rfl rfl (by decide) rfl (h0 (fun z => z.elim (fun z => by have w := (cut_of (l := lnM σ a b) (m := lnM σ c e) (by rw [e2, e1]; rfl) (by rw [e4, e3]; rfl) (by rw [e6, e5]; rfl) (by rw [e8, e7]; rfl)).mp z; simp only [t_le, t_0] at c9; omega) (fun z => c13 (by rw [t_eq, t_0, e8, e7]; exact sgn_eq.mpr ((over_iff _ _).mpr z).2.2.2.1))))
        · refine WS.run (C := []) (pc' := 109) (L' := [vR 51 0, vI (nI a), vI (nI b), vI (nI c), vI (nI e), vI r2, vI r4, vI r6, vI r8]) (S' := [vI (0 : Int32)]) (σ' := σ) 1 rfl trivial ?_
          exact WS.ret rfl rfl (by decide) rfl (h0 (fun z => z.elim (fun z => by have w := (cut_of (l := lnM σ a b) (m := lnM σ c e) (by rw [e2, e1]; rfl) (by rw [e4, e3]; rfl) (by rw [e6, e5]; rfl) (by rw [e8, e7]; rfl)).mp z; simp only [t_le, t_0] at c9; omega) (fun z => c12 (by rw [t_eq, t_0, e6, e5]; exact sgn_eq.mpr ((over_iff _ _).mpr z).2.2.1))))
      · refine WS.run (C := []) (pc' := 109) (L' := [vR 51 0, vI (nI a), vI (nI b), vI (nI c), vI (nI e), vI r2, vI r4, vI r6, vI r8]) (S' := [vI (0 : Int32)]) (σ' := σ) 1 rfl trivial ?_
        exact WS.ret rfl rfl (by decide) rfl (h0 (fun z => z.elim (fun z => by have w := (cut_of (l := lnM σ a b) (m := lnM σ c e) (by rw [e2, e1]; rfl) (by rw [e4, e3]; rfl) (by rw [e6, e5]; rfl) (by rw [e8, e7]; rfl)).mp z; simp only [t_le, t_0] at c9; omega) (fun z => c11 (by rw [t_eq, t_0, e4, e3]; exact sgn_eq.mpr ((over_iff _ _).mpr z).2.1))))
    · refine WS.run (C := []) (pc' := 109) (L' := [vR 51 0, vI (nI a), vI (nI b), vI (nI c), vI (nI e), vI r2, vI r4, vI r6, vI r8]) (S' := [vI (0 : Int32)]) (σ' := σ) 1 rfl trivial ?_
      exact WS.ret rfl rfl (by decide) rfl (h0 (fun z => z.elim (fun z => by have w := (cut_of (l := lnM σ a b) (m := lnM σ c e) (by rw [e2, e1]; rfl) (by rw [e4, e3]; rfl) (by rw [e6, e5]; rfl) (by rw [e8, e7]; rfl)).mp z; simp only [t_le, t_0] at c9; omega) (fun z => c10 (by rw [t_eq, t_0, e2, e1]; exact sgn_eq.mpr ((over_iff _ _).mpr z).1))))
  · refine WS.run (C := []) (pc' := 64) (L' := [vR 51 0, vI (nI a), vI (nI b), vI (nI c), vI (nI e), vI r2, vI r4, vI r6, vI r8]) (S' := [vI (r6 * r8)]) (σ' := σ) 3 rfl trivial ?_
    refine WS.br (P := 0 ≤ (r6 * r8)) (a := 69) (b := 67) (S' := []) rfl (fun c31 => ?_) (fun c31 => ?_)
    · refine WS.run (C := []) (pc' := 71) (L' := [vR 51 0, vI (nI a), vI (nI b), vI (nI c), vI (nI e), vI r2, vI r4, vI r6, vI r8]) (S' := [vI r2]) (σ' := σ) 1 rfl trivial ?_
      refine WS.br (P := r2 = 0) (a := 74) (b := 108) (S' := []) rfl (fun c32 => ?_) (fun c32 => ?_)
      · refine WS.run (C := []) (pc' := 76) (L' := [vR 51 0, vI (nI a), vI (nI b), vI (nI c), vI (nI e), vI r2, vI r4, vI r6, vI r8]) (S' := [vI r4]) (σ' := σ) 1 rfl trivial ?_
        refine WS.br (P := r4 = 0) (a := 79) (b := 108) (S' := []) rfl (fun c33 => ?_) (fun c33 => ?_)
        · refine WS.run (C := []) (pc' := 81) (L' := [vR 51 0, vI (nI a), vI (nI b), vI (nI c), vI (nI e), vI r2, vI r4, vI r6, vI r8]) (S' := [vI r6]) (σ' := σ) 1 rfl trivial ?_
          refine WS.br (P := r6 = 0) (a := 84) (b := 108) (S' := []) rfl (fun c34 => ?_) (fun c34 => ?_)
          · refine WS.run (C := []) (pc' := 86) (L' := [vR 51 0, vI (nI a), vI (nI b), vI (nI c), vI (nI e), vI r2, vI r4, vI r6, vI r8]) (S' := [vI r8]) (σ' := σ) 1 rfl trivial ?_
            refine WS.br (P := r8 = 0) (a := 89) (b := 108) (S' := []) rfl (fun c35 => ?_) (fun c35 => ?_)
            · refine WS.run (C := []) (pc' := 92) (L' := [vR 51 0, vI (nI a), vI (nI b), vI (nI c), vI (nI e), vI r2, vI r4, vI r6, vI r8]) (S' := [vI (nI b), vI (nI a), vR 51 0]) (σ' := σ) 3 rfl trivial ?_
              refine WS.callV M_MD_isSame (k := 51) (i := 0) (as := [vI (nI a), vI (nI b)]) (rest := []) rfl lk_11_157 rfl rfl rfl (Nat.le_of_ble_eq_true rfl) ?_
              refine c_MisSame ha hb (fun q36 => ?_) (fun q36 => ?_)
              · show WS _ M_MD_crosses 95 [vR 51 0, vI (nI a), vI (nI b), vI (nI c), vI (nI e), vI r2, vI r4, vI r6, vI r8] [vI (1 : Int32)] σ _
                refine WS.br (P := (1 : Int32) = 0) (a := 98) (b := 108) (S' := []) rfl (fun cc => absurd cc (by decide)) (fun _ => ?_)
                refine WS.run (C := []) (pc' := 109) (L' := [vR 51 0, vI (nI a), vI (nI b), vI (nI c), vI (nI e), vI r2, vI r4, vI r6, vI r8]) (S' := [vI (0 : Int32)]) (σ' := σ) 1 rfl trivial ?_
                exact WS.ret rfl rfl (by decide) rfl (h0 (fun z => z.elim (fun z => by have w := (cut_of (l := lnM σ a b) (m := lnM σ c e) (by rw [e2, e1]; rfl) (by rw [e4, e3]; rfl) (by rw [e6, e5]; rfl) (by rw [e8, e7]; rfl)).mp z; simp only [t_le, t_0] at c31; omega) (fun z => ((over_iff _ _).mpr z).2.2.2.2.1 q36)))
              · show WS _ M_MD_crosses 95 [vR 51 0, vI (nI a), vI (nI b), vI (nI c), vI (nI e), vI r2, vI r4, vI r6, vI r8] [vI (0 : Int32)] σ _
                refine WS.br (P := (0 : Int32) = 0) (a := 98) (b := 108) (S' := []) rfl (fun _ => ?_) (fun cc => absurd (by decide) cc)
                refine WS.run (C := []) (pc' := 102) (L' := [vR 51 0, vI (nI a), vI (nI b), vI (nI c), vI (nI e), vI r2, vI r4, vI r6, vI r8]) (S' := [vI (nI e), vI (nI c), vR 51 0]) (σ' := σ) 3 rfl trivial ?_
                refine WS.callV M_MD_isSame (k := 51) (i := 0) (as := [vI (nI c), vI (nI e)]) (rest := []) rfl lk_11_157 rfl rfl rfl (Nat.le_of_ble_eq_true rfl) ?_
                refine c_MisSame hc he (fun q37 => ?_) (fun q37 => ?_)
                · show WS _ M_MD_crosses 105 [vR 51 0, vI (nI a), vI (nI b), vI (nI c), vI (nI e), vI r2, vI r4, vI r6, vI r8] [vI (1 : Int32)] σ _
                  refine WS.br (P := (1 : Int32) = 0) (a := 110) (b := 108) (S' := []) rfl (fun cc => absurd cc (by decide)) (fun _ => ?_)
                  refine WS.run (C := []) (pc' := 109) (L' := [vR 51 0, vI (nI a), vI (nI b), vI (nI c), vI (nI e), vI r2, vI r4, vI r6, vI r8]) (S' := [vI (0 : Int32)]) (σ' := σ) 1 rfl trivial ?_
                  exact WS.ret rfl rfl (by decide) rfl (h0 (fun z => z.elim (fun z => by have w := (cut_of (l := lnM σ a b) (m := lnM σ c e) (by rw [e2, e1]; rfl) (by rw [e4, e3]; rfl) (by rw [e6, e5]; rfl) (by rw [e8, e7]; rfl)).mp z; simp only [t_le, t_0] at c31; omega) (fun z => ((over_iff _ _).mpr z).2.2.2.2.2.1 q37)))
                · show WS _ M_MD_crosses 105 [vR 51 0, vI (nI a), vI (nI b), vI (nI c), vI (nI e), vI r2, vI r4, vI r6, vI r8] [vI (0 : Int32)] σ _
                  refine WS.br (P := (0 : Int32) = 0) (a := 110) (b := 108) (S' := []) rfl (fun _ => ?_) (fun cc => absurd (by decide) cc)
                  refine WS.run (C := [vp_in (nI a) 240, vp_in (nI b) 240]) (pc' := 122) (L' := [vR 51 0, vI (nI a), vI (nI b), vI (nI c), vI (nI e), vI r2, vI r4, vI r6, vI r8]) (S' := [vI (gI σ 56 0 (nI b).toNatClampNeg), vI (gI σ 56 0 (nI a).toNatClampNeg)]) (σ' := σ) 8 rfl ⟨(vp_n (by have := ha.1; omega) (by omega)), (vp_n (by have := hb.1; omega) (by omega)), trivial⟩ ?_
                  simp only [e_a, e_b, e_c, e_e]
                  refine WS.br (P := (gI σ 56 0 a) = (gI σ 56 0 b)) (a := 202) (b := 125) (S' := []) rfl (fun c38 => ?_) (fun c38 => ?_)
                  · refine WS.run (C := [vp_in (nI a) 240, vp_in (nI b) 240]) (pc' := 214) (L' := [vR 51 0, vI (nI a), vI (nI b), vI (nI c), vI (nI e), vI r2, vI r4, vI r6, vI r8]) (S' := [vI (gI σ 57 0 (nI b).toNatClampNeg), vI (gI σ 57 0 (nI a).toNatClampNeg)]) (σ' := σ) 8 rfl ⟨(vp_n (by have := ha.1; omega) (by omega)), (vp_n (by have := hb.1; omega) (by omega)), trivial⟩ ?_
                    simp only [e_a, e_b, e_c, e_e]
                    refine WS.callS M_MD_least (as := [vI (gI σ 57 0 a), vI (gI σ 57 0 b)]) (rest := []) rfl lk_11_164 rfl rfl (Nat.le_of_ble_eq_true rfl) ?_
                    refine c_Mleast  (fun r39 e39 => ?_)
                    show WS _ M_MD_crosses 217 [vR 51 0, vI (nI a), vI (nI b), vI (nI c), vI (nI e), vI r2, vI r4, vI r6, vI r8] [vI r39] σ _
                    refine WS.run (C := [vp_in (nI c) 240, vp_in (nI e) 240]) (pc' := 230) (L' := [vR 51 0, vI (nI a), vI (nI b), vI (nI c), vI (nI e), vI r2, vI r4, vI r6, vI r8]) (S' := [vI (gI σ 57 0 (nI e).toNatClampNeg), vI (gI σ 57 0 (nI c).toNatClampNeg), vI r39]) (σ' := σ) 8 rfl ⟨(vp_n (by have := hc.1; omega) (by omega)), (vp_n (by have := he.1; omega) (by omega)), trivial⟩ ?_
                    simp only [e_a, e_b, e_c, e_e]
                    refine WS.callS M_MD_least (as := [vI (gI σ 57 0 c), vI (gI σ 57 0 e)]) (rest := [vI r39]) rfl lk_11_164 rfl rfl (Nat.le_of_ble_eq_true rfl) ?_
                    refine c_Mleast  (fun r40 e40 => ?_)
                    show WS _ M_MD_crosses 233 [vR 51 0, vI (nI a), vI (nI b), vI (nI c), vI (nI e), vI r2, vI r4, vI r6, vI r8] [vI r40, vI r39] σ _
                    refine WS.callS M_MD_most (as := [vI r39, vI r40]) (rest := []) rfl lk_11_167 rfl rfl (Nat.le_of_ble_eq_true rfl) ?_
                    refine c_Mmost  (fun r41 e41 => ?_)
                    show WS _ M_MD_crosses 236 [vR 51 0, vI (nI a), vI (nI b), vI (nI c), vI (nI e), vI r2, vI r4, vI r6, vI r8] [vI r41] σ _
                    refine WS.run (C := [vp_in (nI a) 240, vp_in (nI b) 240]) (pc' := 248) (L' := [vR 51 0, vI (nI a), vI (nI b), vI (nI c), vI (nI e), vI r2, vI r4, vI r6, vI r8]) (S' := [vI (gI σ 57 0 (nI b).toNatClampNeg), vI (gI σ 57 0 (nI a).toNatClampNeg), vI r41]) (σ' := σ) 8 rfl ⟨(vp_n (by have := ha.1; omega) (by omega)), (vp_n (by have := hb.1; omega) (by omega)), trivial⟩ ?_
                    simp only [e_a, e_b, e_c, e_e]
                    refine WS.callS M_MD_most (as := [vI (gI σ 57 0 a), vI (gI σ 57 0 b)]) (rest := [vI r41]) rfl lk_11_167 rfl rfl (Nat.le_of_ble_eq_true rfl) ?_
                    refine c_Mmost  (fun r42 e42 => ?_)
                    show WS _ M_MD_crosses 251 [vR 51 0, vI (nI a), vI (nI b), vI (nI c), vI (nI e), vI r2, vI r4, vI r6, vI r8] [vI r42, vI r41] σ _
                    refine WS.run (C := [vp_in (nI c) 240, vp_in (nI e) 240]) (pc' := 264) (L' := [vR 51 0, vI (nI a), vI (nI b), vI (nI c), vI (nI e), vI r2, vI r4, vI r6, vI r8]) (S' := [vI (gI σ 57 0 (nI e).toNatClampNeg), vI (gI σ 57 0 (nI c).toNatClampNeg), vI r42, vI r41]) (σ' := σ) 8 rfl ⟨(vp_n (by have := hc.1; omega) (by omega)), (vp_n (by have := he.1; omega) (by omega)), trivial⟩ ?_
                    simp only [e_a, e_b, e_c, e_e]
                    refine WS.callS M_MD_most (as := [vI (gI σ 57 0 c), vI (gI σ 57 0 e)]) (rest := [vI r42, vI r41]) rfl lk_11_167 rfl rfl (Nat.le_of_ble_eq_true rfl) ?_
                    refine c_Mmost  (fun r43 e43 => ?_)
                    show WS _ M_MD_crosses 267 [vR 51 0, vI (nI a), vI (nI b), vI (nI c), vI (nI e), vI r2, vI r4, vI r6, vI r8] [vI r43, vI r42, vI r41] σ _
                    refine WS.callS M_MD_least (as := [vI r42, vI r43]) (rest := [vI r41]) rfl lk_11_164 rfl rfl (Nat.le_of_ble_eq_true rfl) ?_
                    refine c_Mleast  (fun r44 e44 => ?_)
                    show WS _ M_MD_crosses 270 [vR 51 0, vI (nI a), vI (nI b), vI (nI c), vI (nI e), vI r2, vI r4, vI r6, vI r8] [vI r44, vI r41] σ _
                    refine WS.br (P := r44 ≤ r41) (a := 277) (b := 273) (S' := []) rfl (fun c45 => ?_) (fun c45 => ?_)
                    · refine WS.run (C := []) (pc' := 278) (L' := [vR 51 0, vI (nI a), vI (nI b), vI (nI c), vI (nI e), vI r2, vI r4, vI r6, vI r8]) (S' := [vI (0 : Int32)]) (σ' := σ) 1 rfl trivial ?_
                      exact WS.ret rfl rfl (by decide) rfl (h0 (fun z => z.elim (fun z => by have w := (cut_of (l := lnM σ a b) (m := lnM σ c e) (by rw [e2, e1]; rfl) (by rw [e4, e3]; rfl) (by rw [e6, e5]; rfl) (by rw [e8, e7]; rfl)).mp z; simp only [t_le, t_0] at c31; omega) (fun z => by have w := ((over_iff _ _).mpr z).2.2.2.2.2.2; clear h1 h0 z; unfold lnM mX mY at w; dsimp only at w; simp only [t_lt, t_le, t_eq] at c38 c45; omega)))
                    · refine WS.run (C := []) (pc' := 278) (L' := [vR 51 0, vI (nI a), vI (nI b), vI (nI c), vI (nI e), vI r2, vI r4, vI r6, vI r8]) (S' := [vI (1 : Int32)]) (σ' := σ) 2 rfl trivial ?_
                      exact WS.ret rfl rfl (by decide) rfl (h1 (Or.inr ((over_iff _ _).mp ⟨(sgn_eq.mp (by have y := c32; rw [t_eq, t_0, e2, e1] at y; exact y)), (sgn_eq.mp (by have y := c33; rw [t_eq, t_0, e4, e3] at y; exact y)), (sgn_eq.mp (by have y := c34; rw [t_eq, t_0, e6, e5] at y; exact y)), (sgn_eq.mp (by have y := c35; rw [t_eq, t_0, e8, e7] at y; exact y)), q36, q37, (by clear h1 h0; unfold lnM mX mY; dsimp only; simp only [t_lt, t_le, t_eq] at c38 c45; omega)⟩)))
                  · refine WS.run (C := [vp_in (nI a) 240, vp_in (nI b) 240]) (pc' := 137) (L' := [vR 51 0, vI (nI a), vI (nI b), vI (nI c), vI (nI e), vI r2, vI r4, vI r6, vI r8]) (S' := [vI (gI σ 56 0 (nI b).toNatClampNeg), vI (gI σ 56 0 (nI a).toNatClampNeg)]) (σ' := σ) 8 rfl ⟨(vp_n (by have := ha.1; omega) (by omega)), (vp_n (by have := hb.1; omega) (by omega)), trivial⟩ ?_
                    simp only [e_a, e_b, e_c, e_e]
                    refine WS.callS M_MD_least (as := [vI (gI σ 56 0 a), vI (gI σ 56 0 b)]) (rest := []) rfl lk_11_164 rfl rfl (Nat.le_of_ble_eq_true rfl) ?_
                    refine c_Mleast  (fun r46 e46 => ?_)
                    show WS _ M_MD_crosses 140 [vR 51 0, vI (nI a), vI (nI b), vI (nI c), vI (nI e), vI r2, vI r4, vI r6, vI r8] [vI r46] σ _
                    refine WS.run (C := [vp_in (nI c) 240, vp_in (nI e) 240]) (pc' := 153) (L' := [vR 51 0, vI (nI a), vI (nI b), vI (nI c), vI (nI e), vI r2, vI r4, vI r6, vI r8]) (S' := [vI (gI σ 56 0 (nI e).toNatClampNeg), vI (gI σ 56 0 (nI c).toNatClampNeg), vI r46]) (σ' := σ) 8 rfl ⟨(vp_n (by have := hc.1; omega) (by omega)), (vp_n (by have := he.1; omega) (by omega)), trivial⟩ ?_
                    simp only [e_a, e_b, e_c, e_e]
                    refine WS.callS M_MD_least (as := [vI (gI σ 56 0 c), vI (gI σ 56 0 e)]) (rest := [vI r46]) rfl lk_11_164 rfl rfl (Nat.le_of_ble_eq_true rfl) ?_
                    refine c_Mleast  (fun r47 e47 => ?_)
                    show WS _ M_MD_crosses 156 [vR 51 0, vI (nI a), vI (nI b), vI (nI c), vI (nI e), vI r2, vI r4, vI r6, vI r8] [vI r47, vI r46] σ _
                    refine WS.callS M_MD_most (as := [vI r46, vI r47]) (rest := []) rfl lk_11_167 rfl rfl (Nat.le_of_ble_eq_true rfl) ?_
                    refine c_Mmost  (fun r48 e48 => ?_)
                    show WS _ M_MD_crosses 159 [vR 51 0, vI (nI a), vI (nI b), vI (nI c), vI (nI e), vI r2, vI r4, vI r6, vI r8] [vI r48] σ _
                    refine WS.run (C := [vp_in (nI a) 240, vp_in (nI b) 240]) (pc' := 171) (L' := [vR 51 0, vI (nI a), vI (nI b), vI (nI c), vI (nI e), vI r2, vI r4, vI r6, vI r8]) (S' := [vI (gI σ 56 0 (nI b).toNatClampNeg), vI (gI σ 56 0 (nI a).toNatClampNeg), vI r48]) (σ' := σ) 8 rfl ⟨(vp_n (by have := ha.1; omega) (by omega)), (vp_n (by have := hb.1; omega) (by omega)), trivial⟩ ?_
                    simp only [e_a, e_b, e_c, e_e]
                    refine WS.callS M_MD_most (as := [vI (gI σ 56 0 a), vI (gI σ 56 0 b)]) (rest := [vI r48]) rfl lk_11_167 rfl rfl (Nat.le_of_ble_eq_true rfl) ?_
                    refine c_Mmost  (fun r49 e49 => ?_)
                    show WS _ M_MD_crosses 174 [vR 51 0, vI (nI a), vI (nI b), vI (nI c), vI (nI e), vI r2, vI r4, vI r6, vI r8] [vI r49, vI r48] σ _
                    refine WS.run (C := [vp_in (nI c) 240, vp_in (nI e) 240]) (pc' := 187) (L' := [vR 51 0, vI (nI a), vI (nI b), vI (nI c), vI (nI e), vI r2, vI r4, vI r6, vI r8]) (S' := [vI (gI σ 56 0 (nI e).toNatClampNeg), vI (gI σ 56 0 (nI c).toNatClampNeg), vI r49, vI r48]) (σ' := σ) 8 rfl ⟨(vp_n (by have := hc.1; omega) (by omega)), (vp_n (by have := he.1; omega) (by omega)), trivial⟩ ?_
                    simp only [e_a, e_b, e_c, e_e]
                    refine WS.callS M_MD_most (as := [vI (gI σ 56 0 c), vI (gI σ 56 0 e)]) (rest := [vI r49, vI r48]) rfl lk_11_167 rfl rfl (Nat.le_of_ble_eq_true rfl) ?_
                    refine c_Mmost  (fun r50 e50 => ?_)
                    show WS _ M_MD_crosses 190 [vR 51 0, vI (nI a), vI (nI b), vI (nI c), vI (nI e), vI r2, vI r4, vI r6, vI r8] [vI r50, vI r49, vI r48] σ _
                    refine WS.callS M_MD_least (as := [vI r49, vI r50]) (rest := [vI r48]) rfl lk_11_164 rfl rfl (Nat.le_of_ble_eq_true rfl) ?_
                    refine c_Mleast  (fun r51 e51 => ?_)
                    show WS _ M_MD_crosses 193 [vR 51 0, vI (nI a), vI (nI b), vI (nI c), vI (nI e), vI r2, vI r4, vI r6, vI r8] [vI r51, vI r48] σ _
                    refine WS.br (P := r51 ≤ r48) (a := 200) (b := 196) (S' := []) rfl (fun c52 => ?_) (fun c52 => ?_)
                    · refine WS.run (C := []) (pc' := 201) (L' := [vR 51 0, vI (nI a), vI (nI b), vI (nI c), vI (nI e), vI r2, vI r4, vI r6, vI r8]) (S' := [vI (0 : Int32)]) (σ' := σ) 1 rfl trivial ?_
                      exact WS.ret rfl rfl (by decide) rfl (h0 (fun z => z.elim (fun z => by have w := (cut_of (l := lnM σ a b) (m := lnM σ c e) (by rw [e2, e1]; rfl) (by rw [e4, e3]; rfl) (by rw [e6, e5]; rfl) (by rw [e8, e7]; rfl)).mp z; simp only [t_le, t_0] at c31; omega) (fun z => by have w := ((over_iff _ _).mpr z).2.2.2.2.2.2; clear h1 h0 z; unfold lnM mX mY at w; dsimp only at w; simp only [t_lt, t_le, t_eq] at c38 c52; omega)))
                    · refine WS.run (C := []) (pc' := 201) (L' := [vR 51 0, vI (nI a), vI (nI b), vI (nI c), vI (nI e), vI r2, vI r4, vI r6, vI r8]) (S' := [vI (1 : Int32)]) (σ' := σ) 2 rfl trivial ?_
                      exact WS.ret rfl rfl (by decide) rfl (h1 (Or.inr ((over_iff _ _).mp ⟨(sgn_eq.mp (by have y := c32; rw [t_eq, t_0, e2, e1] at y; exact y)), (sgn_eq.mp (by have y := c33; rw [t_eq, t_0, e4, e3] at y; exact y)), (sgn_eq.mp (by have y := c34; rw [t_eq, t_0, e6, e5] at y; exact y)), (sgn_eq.mp (by have y := c35; rw [t_eq, t_0, e8, e7] at y; exact y)), q36, q37, (by clear h1 h0; unfold lnM mX mY; dsimp only; simp only [t_lt, t_le, t_eq] at c38 c52; omega)⟩)))
            · refine WS.run (C := []) (pc' := 109) (L' := [vR 51 0, vI (nI a), vI (nI b), vI (nI c), vI (nI e), vI r2, vI r4, vI r6, vI r8]) (S' := [vI (0 : Int32)]) (σ' := σ) 1 rfl trivial ?_
              exact WS.ret rfl rfl (by decide) rfl (h0 (fun z => z.elim (fun z => by have w := (cut_of (l := lnM σ a b) (m := lnM σ c e) (by rw [e2, e1]; rfl) (by rw [e4, e3]; rfl) (by rw [e6, e5]; rfl) (by rw [e8, e7]; rfl)).mp z; simp only [t_le, t_0] at c31; omega) (fun z => c35 (by rw [t_eq, t_0, e8, e7]; exact sgn_eq.mpr ((over_iff _ _).mpr z).2.2.2.1))))
          · refine WS.run (C := []) (pc' := 109) (L' := [vR 51 0, vI (nI a), vI (nI b), vI (nI c), vI (nI e), vI r2, vI r4, vI r6, vI r8]) (S' := [vI (0 : Int32)]) (σ' := σ) 1 rfl trivial ?_
            exact WS.ret rfl rfl (by decide) rfl (h0 (fun z => z.elim (fun z => by have w := (cut_of (l := lnM σ a b) (m := lnM σ c e) (by rw [e2, e1]; rfl) (by rw [e4, e3]; rfl) (by rw [e6, e5]; rfl) (by rw [e8, e7]; rfl)).mp z; simp only [t_le, t_0] at c31; omega) (fun z => c34 (by rw [t_eq, t_0, e6, e5]; exact sgn_eq.mpr ((over_iff _ _).mpr z).2.2.1))))
        · refine WS.run (C := []) (pc' := 109) (L' := [vR 51 0, vI (nI a), vI (nI b), vI (nI c), vI (nI e), vI r2, vI r4, vI r6, vI r8]) (S' := [vI (0 : Int32)]) (σ' := σ) 1 rfl trivial ?_
          exact WS.ret rfl rfl (by decide) rfl (h0 (fun z => z.elim (fun z => by have w := (cut_of (l := lnM σ a b) (m := lnM σ c e) (by rw [e2, e1]; rfl) (by rw [e4, e3]; rfl) (by rw [e6, e5]; rfl) (by rw [e8, e7]; rfl)).mp z; simp only [t_le, t_0] at c31; omega) (fun z => c33 (by rw [t_eq, t_0, e4, e3]; exact sgn_eq.mpr ((over_iff _ _).mpr z).2.1))))
      · refine WS.run (C := []) (pc' := 109) (L' := [vR 51 0, vI (nI a), vI (nI b), vI (nI c), vI (nI e), vI r2, vI r4, vI r6, vI r8]) (S' := [vI (0 : Int32)]) (σ' := σ) 1 rfl trivial ?_
        exact WS.ret rfl rfl (by decide) rfl (h0 (fun z => z.elim (fun z => by have w := (cut_of (l := lnM σ a b) (m := lnM σ c e) (by rw [e2, e1]; rfl) (by rw [e4, e3]; rfl) (by rw [e6, e5]; rfl) (by rw [e8, e7]; rfl)).mp z; simp only [t_le, t_0] at c31; omega) (fun z => c32 (by rw [t_eq, t_0, e2, e1]; exact sgn_eq.mpr ((over_iff _ _).mpr z).1))))
    · refine WS.run (C := []) (pc' := 68) (L' := [vR 51 0, vI (nI a), vI (nI b), vI (nI c), vI (nI e), vI r2, vI r4, vI r6, vI r8]) (S' := [vI (1 : Int32)]) (σ' := σ) 1 rfl trivial ?_
      exact WS.ret rfl rfl (by decide) rfl (h1 (Or.inl ((cut_of (l := lnM σ a b) (m := lnM σ c e) (by rw [e2, e1]; rfl) (by rw [e4, e3]; rfl) (by rw [e6, e5]; rfl) (by rw [e8, e7]; rfl)).mpr ⟨by simp only [t_le, t_0] at c9; omega, by simp only [t_le, t_0] at c31; omega⟩)))
end
section
/-! contracts: which ways there are; nearness of ways -/
theorem t_11 : (11 : Int32).toInt = 11 := by decide
set_option maxRecDepth 4000 in
set_option maxHeartbeats 400000 in
theorem c_MisIn {d : Nat} {σ : Mem} {Post : Option AV → Mem → Prop} {v m n : Int32} (h1 : m.toInt ≤ v.toInt → v.toInt ≤ n.toInt → Post (some (vI 1)) σ) (h0 : ¬ (m.toInt ≤ v.toInt ∧ v.toInt ≤ n.toInt) → Post (some (vI 0)) σ) : MM d M_MD_isIn [vI v, vI m, vI n] σ Post := by
  refine MM.of ok_MD_isIn rfl ?_
  show WS _ M_MD_isIn 0 [vI v, vI m, vI n] [] σ _
  refine WS.run (C := []) (pc' := 2) (L' := [vI v, vI m, vI n]) (S' := [vI m, vI v]) (σ' := σ) 2 rfl trivial ?_
  refine WS.br (P := v < m) (a := 14) (b := 5) (S' := []) rfl (fun c1 => ?_) (fun c1 => ?_)
  · refine WS.run (C := []) (pc' := 15) (L' := [vI v, vI m, vI n]) (S' := [vI (0 : Int32)]) (σ' := σ) 1 rfl trivial ?_
    exact WS.ret rfl rfl (by decide) rfl (by simp only [t_lt, t_le] at *; exact h0 (by omega))
  · refine WS.run (C := []) (pc' := 7) (L' := [vI v, vI m, vI n]) (S' := [vI n, vI v]) (σ' := σ) 2 rfl trivial ?_
    refine WS.br (P := n < v) (a := 14) (b := 10) (S' := []) rfl (fun c2 => ?_) (fun c2 => ?_)
    · refine WS.run (C := []) (pc' := 15) (L' := [vI v, vI m, vI n]) (S' := [vI (0 : Int32)]) (σ' := σ) 1 rfl trivial ?_
      exact WS.ret rfl rfl (by decide) rfl (by simp only [t_lt, t_le] at *; exact h0 (by omega))
    · refine WS.run (C := []) (pc' := 15) (L' := [vI v, vI m, vI n]) (S' := [vI (1 : Int32)]) (σ' := σ) 2 rfl trivial ?_
      exact WS.ret rfl rfl (by decide) rfl (by simp only [t_lt, t_le] at *; exact h1 (by omega) (by omega))
set_option maxRecDepth 4000 in
set_option maxHeartbeats 400000 in
theorem c_hasPoints {d : Nat} {σ : Mem} {Post : Option AV → Mem → Prop} {w : Int32} (h1 : ∀ j : Nat, j ≤ 11 → w = nI j → 0 < (gI σ 2 j 3).toInt → Post (some (vI 1)) σ) (h0 : (∀ j : Nat, j ≤ 11 → w = nI j → ¬ 0 < (gI σ 2 j 3).toInt) → Post (some (vI 0)) σ) : MM (d + 1) M_TM_hasPoints [vR 0 0, vI w] σ Post := by
  refine MM.of ok_TM_hasPoints rfl ?_
  show WS _ M_TM_hasPoints 0 [vR 0 0, vI w] [] σ _
  refine WS.run (C := []) (pc' := 3) (L' := [vR 0 0, vI w]) (S' := [vI (11 : Int32), vI w]) (σ' := σ) 2 rfl trivial ?_
  refine WS.callS M_TM_inRange (as := [vI w, vI (11 : Int32)]) (rest := []) rfl lk_10_71 rfl rfl (Nat.le_of_ble_eq_true rfl) ?_
  refine c_inRange (fun q1a q1b => ?_) (fun q1 => ?_)
  · obtain ⟨j, hj, rfl⟩ := t_nat (x := w) (n := 11) (by first | omega | (simp only [t_0] at *; omega)) (by first | omega | (simp only [t_11] at *; omega)) (by omega)
    have e_j : (nI j).toNatClampNeg = j := cl_n (by omega)
    show WS _ M_TM_hasPoints 6 [vR 0 0, vI (nI j)] [vI (1 : Int32)] σ _
    refine WS.br (P := (1 : Int32) = 0) (a := 25) (b := 9) (S' := []) rfl (fun cc => absurd cc (by decide)) (fun _ => ?_)
    refine WS.run (C := [vp_in (nI j) 12]) (pc' := 18) (L' := [vR 0 0, vI (nI j)]) (S' := [vI (gI σ 2 ((nI j).toNatClampNeg) 3)]) (σ' := σ) 5 rfl ⟨(vp_n (by omega) (by omega)), trivial⟩ ?_
    simp only [e_j]
    refine WS.br (P := (gI σ 2 (j) 3) ≤ 0) (a := 25) (b := 21) (S' := []) rfl (fun c2 => ?_) (fun c2 => ?_)
    · refine WS.run (C := []) (pc' := 26) (L' := [vR 0 0, vI (nI j)]) (S' := [vI (0 : Int32)]) (σ' := σ) 1 rfl trivial ?_
      exact WS.ret rfl rfl (by decide) rfl (by simp only [t_le, t_0] at *; refine h0 (fun i hi ei => ?_); obtain rfl : i = j := (nI_eq (by omega) (by omega)).mp ei.symm; omega)
    · refine WS.run (C := []) (pc' := 26) (L' := [vR 0 0, vI (nI j)]) (S' := [vI (1 : Int32)]) (σ' := σ) 2 rfl trivial ?_
      exact WS.ret rfl rfl (by decide) rfl (by simp only [t_le, t_0] at *; exact h1 j hj rfl (by omega))
  · show WS _ M_TM_hasPoints 6 [vR 0 0, vI w] [vI (0 : Int32)] σ _
    refine WS.br (P := (0 : Int32) = 0) (a := 25) (b := 9) (S' := []) rfl (fun _ => ?_) (fun cc => absurd (by decide) cc)
    refine WS.run (C := []) (pc' := 26) (L' := [vR 0 0, vI w]) (S' := [vI (0 : Int32)]) (σ' := σ) 1 rfl trivial ?_
    exact WS.ret rfl rfl (by decide) rfl (h0 (fun i hi ei => absurd (by rw [ei, nI_t (by omega), t_11]; omega) q1))
set_option maxRecDepth 4000 in
set_option maxHeartbeats 400000 in
theorem c_MisWay {d : Nat} {σ : Mem} {Post : Option AV → Mem → Prop} {w : Int32} (h1 : ∀ j : Nat, j ≤ 11 → w = nI j → gI σ 52 0 j ≠ 0 → Post (some (vI 1)) σ) (h0 : (∀ j : Nat, j ≤ 11 → w = nI j → gI σ 52 0 j = 0) → Post (some (vI 0)) σ) : MM (d + 1) M_MD_isWay [vR 51 0, vI w] σ Post := by
  refine MM.of ok_MD_isWay rfl ?_
  show WS _ M_MD_isWay 0 [vR 51 0, vI w] [] σ _
  refine WS.run (C := []) (pc' := 4) (L' := [vR 51 0, vI w]) (S' := [vI (11 : Int32), vI (0 : Int32), vI w]) (σ' := σ) 3 rfl trivial ?_
  refine WS.callS M_MD_isIn (as := [vI w, vI (0 : Int32), vI (11 : Int32)]) (rest := []) rfl lk_11_114 rfl rfl (Nat.le_of_ble_eq_true rfl) ?_
  refine c_MisIn (fun q1a q1b => ?_) (fun q1 => ?_)
  · obtain ⟨j, hj, rfl⟩ := t_nat (x := w) (n := 11) (by first | omega | (simp only [t_0] at *; omega)) (by first | omega | (simp only [t_11] at *; omega)) (by omega)
    have e_j : (nI j).toNatClampNeg = j := cl_n (by omega)
    show WS _ M_MD_isWay 7 [vR 51 0, vI (nI j)] [vI (1 : Int32)] σ _
    refine WS.br (P := (1 : Int32) = 0) (a := 23) (b := 10) (S' := []) rfl (fun cc => absurd cc (by decide)) (fun _ => ?_)
    refine WS.run (C := [vp_in (nI j) 12]) (pc' := 16) (L' := [vR 51 0, vI (nI j)]) (S' := [vI (gI σ 52 0 (nI j).toNatClampNeg)]) (σ' := σ) 4 rfl ⟨(vp_n (by omega) (by omega)), trivial⟩ ?_
    simp only [e_j]
    refine WS.br (P := (gI σ 52 0 j) = 0) (a := 23) (b := 19) (S' := []) rfl (fun c2 => ?_) (fun c2 => ?_)
    · refine WS.run (C := []) (pc' := 24) (L' := [vR 51 0, vI (nI j)]) (S' := [vI (0 : Int32)]) (σ' := σ) 1 rfl trivial ?_
      exact WS.ret rfl rfl (by decide) rfl (h0 (fun i hi ei => by obtain rfl : i = j := (nI_eq (by omega) (by omega)).mp ei.symm; exact c2))
    · refine WS.run (C := []) (pc' := 24) (L' := [vR 51 0, vI (nI j)]) (S' := [vI (1 : Int32)]) (σ' := σ) 2 rfl trivial ?_
      exact WS.ret rfl rfl (by decide) rfl (h1 j hj rfl c2)
  · show WS _ M_MD_isWay 7 [vR 51 0, vI w] [vI (0 : Int32)] σ _
    refine WS.br (P := (0 : Int32) = 0) (a := 23) (b := 10) (S' := []) rfl (fun _ => ?_) (fun cc => absurd (by decide) cc)
    refine WS.run (C := []) (pc' := 24) (L' := [vR 51 0, vI w]) (S' := [vI (0 : Int32)]) (σ' := σ) 1 rfl trivial ?_
    exact WS.ret rfl rfl (by decide) rfl (h0 (fun i hi ei => absurd (by rw [ei, nI_t (by omega), t_0, t_11]; omega) q1))
set_option maxRecDepth 4000 in
set_option maxHeartbeats 400000 in
theorem c_MisThere {d : Nat} {σ : Mem} {Post : Option AV → Mem → Prop} {w : Int32} (h1 : ∀ j : Nat, j ≤ 11 → w = nI j → gI σ 52 0 j ≠ 0 → 0 < (gI σ 55 0 j).toInt → Post (some (vI 1)) σ) (h0 : (∀ j : Nat, j ≤ 11 → w = nI j → gI σ 52 0 j ≠ 0 → ¬ 0 < (gI σ 55 0 j).toInt) → Post (some (vI 0)) σ) : MM (d + 2) M_MD_isThere [vR 51 0, vI w] σ Post := by
  refine MM.of ok_MD_isThere rfl ?_
  show WS _ M_MD_isThere 0 [vR 51 0, vI w] [] σ _
  refine WS.run (C := []) (pc' := 2) (L' := [vR 51 0, vI w]) (S' := [vI w, vR 51 0]) (σ' := σ) 2 rfl trivial ?_
  refine WS.callV M_MD_isWay (k := 51) (i := 0) (as := [vI w]) (rest := []) rfl lk_11_118 rfl rfl rfl (Nat.le_of_ble_eq_true rfl) ?_
  refine c_MisWay (fun j hj ej q1 => ?_) (fun q1 => ?_)
  · subst ej
    have e_j : (nI j).toNatClampNeg = j := cl_n (by omega)
    show WS _ M_MD_isThere 5 [vR 51 0, vI (nI j)] [vI (1 : Int32)] σ _
    refine WS.br (P := (1 : Int32) = 0) (a := 21) (b := 8) (S' := []) rfl (fun cc => absurd cc (by decide)) (fun _ => ?_)
    refine WS.run (C := [vp_in (nI j) 12]) (pc' := 14) (L' := [vR 51 0, vI (nI j)]) (S' := [vI (gI σ 55 0 (nI j).toNatClampNeg)]) (σ' := σ) 4 rfl ⟨(vp_n (by omega) (by omega)), trivial⟩ ?_
    simp only [e_j]
    refine WS.br (P := (gI σ 55 0 j) ≤ 0) (a := 21) (b := 17) (S' := []) rfl (fun c2 => ?_) (fun c2 => ?_)
    · refine WS.run (C := []) (pc' := 22) (L' := [vR 51 0, vI (nI j)]) (S' := [vI (0 : Int32)]) (σ' := σ) 1 rfl trivial ?_
      exact WS.ret rfl rfl (by decide) rfl (by simp only [t_le, t_0] at *; refine h0 (fun i hi ei _ => ?_); obtain rfl : i = j := (nI_eq (by omega) (by omega)).mp ei.symm; omega)
    · refine WS.run (C := []) (pc' := 22) (L' := [vR 51 0, vI (nI j)]) (S' := [vI (1 : Int32)]) (σ' := σ) 2 rfl trivial ?_
      exact WS.ret rfl rfl (by decide) rfl (by simp only [t_le, t_0] at *; exact h1 j hj rfl q1 (by omega))
  · show WS _ M_MD_isThere 5 [vR 51 0, vI w] [vI (0 : Int32)] σ _
    refine WS.br (P := (0 : Int32) = 0) (a := 21) (b := 8) (S' := []) rfl (fun _ => ?_) (fun cc => absurd (by decide) cc)
    refine WS.run (C := []) (pc' := 22) (L' := [vR 51 0, vI w]) (S' := [vI (0 : Int32)]) (σ' := σ) 1 rfl trivial ?_
    exact WS.ret rfl rfl (by decide) rfl (h0 (fun i hi ei z => absurd (q1 i hi ei) z))
def mn (σ : Mem) (w i : Nat) : Nat := (gI σ 59 0 (20 * w + i)).toNatClampNeg
def lnMW (σ : Mem) (w i : Nat) : Ln := lnM σ (20 * w + mn σ w i) (20 * w + mn σ w (i + 1))
/-- a way of the model that may be read -/
def WayM (σ : Mem) (w c s : Nat) : Prop := gI σ 55 0 w = nI c ∧ gI σ 58 0 w = nI s ∧ c ≤ 20 ∧ s ≤ c ∧ (∀ i, i < c → mP σ (20 * w + i)) ∧ (∀ i, i < s → mn σ w i < c ∧ gI σ 59 0 (20 * w + i) = nI (mn σ w i))
theorem m20 (w : Nat) : (20 : Int32) * nI w = nI (20 * w) := pk_mul 20 w
def NearM (σ : Mem) (a b sa sb : Nat) (g : Int) : Prop := ∃ i j, i + 1 < sa ∧ j + 1 < sb ∧ closeZ (lnMW σ a i) (lnMW σ b j) g
set_option maxRecDepth 4000 in
set_option maxHeartbeats 400000 in
theorem c_Mat {d : Nat} {σ : Mem} {Post : Option AV → Mem → Prop} {w k c s : Nat} (hw : w < 12) (hv : WayM σ w c s) (hk : k < s) (h : Post (some (vI (nI (20 * w + mn σ w k)))) σ) : MM d M_MD_at [vR 51 0, vI (nI w), vI (nI k)] σ Post := by
  have hs : s ≤ 20 := by have := hv.2.2.1; have := hv.2.2.2.1; omega
  refine MM.of ok_MD_at rfl ?_
  show WS _ M_MD_at 0 [vR 51 0, vI (nI w), vI (nI k)] [] σ _
  refine WS.run (C := [vp_in (((20 : Int32) * (nI w)) + (nI k)) 240]) (pc' := 16) (L' := [vR 51 0, vI (nI w), vI (nI k)]) (S' := [vI (((20 : Int32) * (nI w)) + gI σ 59 0 (((20 : Int32) * (nI w)) + (nI k)).toNatClampNeg)]) (σ' := σ) 12 rfl ⟨(by rw [m20, nI_add]; exact vp_n (by omega) (by omega)), trivial⟩ ?_
  exact WS.ret rfl rfl (by decide) rfl (by rw [m20, nI_add, cl_n (by omega), (hv.2.2.2.2.2 k hk).2, nI_add]; exact h)
theorem mP_at {σ : Mem} {w c s k : Nat} (hv : WayM σ w c s) (hk : k < s) : mP σ (20 * w + mn σ w k) := hv.2.2.2.2.1 _ (hv.2.2.2.2.2 k hk).1
theorem lc2 {x : Int32} {s i : Nat} (h : x = nI s) (hs : s ≤ 1000) (hi : i ≤ 1000) : (x ≤ nI i + 1) ↔ s ≤ i + 1 := by
  rw [h, nI_1, t_le, nI_t (by omega), nI_t (by omega)]; omega
theorem lc3 {x : Int32} {s i : Nat} (h : x = nI s) (hs : s ≤ 1000) (hi : i ≤ 1000) : (x ≤ nI (i + 1)) ↔ s ≤ i + 1 := by
  rw [h, t_le, nI_t (by omega), nI_t (by omega)]; omega
set_option maxRecDepth 4000 in
set_option maxHeartbeats 400000 in
theorem c_MareNear {d : Nat} {σ : Mem} {Post : Option AV → Mem → Prop} {a b ca sa cb sb : Nat} (ha : a < 12) (hb : b < 12) (va : WayM σ a ca sa) (vb : WayM σ b cb sb) (hg : 0 ≤ (gI σ 51 0 9).toInt ∧ (gI σ 51 0 9).toInt ≤ 100) (h1 : NearM σ a b sa sb (gI σ 51 0 9).toInt → Post (some (vI 1)) σ) (h0 : ¬ NearM σ a b sa sb (gI σ 51 0 9).toInt → Post (some (vI 0)) σ) : MM (d + 6) M_MD_areNear [vR 51 0, vI (nI a), vI (nI b)] σ Post := by
  have e_a : (nI a).toNatClampNeg = a := cl_n (by omega)
  have e_b : (nI b).toNatClampNeg = b := cl_n (by omega)
  obtain ⟨hsa, hsb⟩ : sa ≤ 20 ∧ sb ≤ 20 := by have := va.2.2.1; have := va.2.2.2.1; have := vb.2.2.1; have := vb.2.2.2.1; omega
  refine MM.of ok_MD_areNear rfl ?_
  show WS _ M_MD_areNear 0 [vR 51 0, vI (nI a), vI (nI b), vU, vU] [] σ _
  have key : ∀ i, i ≤ sa - 1 → ∀ (v5 : AV), (∀ i2 j2, i2 < i → i2 + 1 < sa → j2 + 1 < sb → ¬ closeZ (lnMW σ a i2) (lnMW σ b j2) (gI σ 51 0 9).toInt) → WS (d + 6) M_MD_areNear 2 [vR 51 0, vI (nI a), vI (nI b), vI (nI i), v5] [] σ Post := by
    refine upto (sa - 1) ?_ ?_
    · intro v5 hN
      refine WS.run (C := [vp_in (nI a) 12]) (pc' := 11) (L' := [vR 51 0, vI (nI a), vI (nI b), vI (nI (sa - 1)), v5]) (S' := [vI (gI σ 58 0 (nI a).toNatClampNeg), vI ((nI (sa - 1)) + (1 : Int32))]) (σ' := σ) 7 rfl ⟨(vp_n (by omega) (by omega)), trivial⟩ ?_
      simp only [nI_1, e_a, e_b]
      refine WS.br (P := (gI σ 58 0 a) ≤ (nI ((sa - 1) + 1))) (a := 81) (b := 14) (S' := []) rfl (fun _ => ?_) (fun cc => absurd ((lc3 va.2.1 (by omega) (by omega)).mpr (by omega)) cc)
      refine WS.run (C := []) (pc' := 82) (L' := [vR 51 0, vI (nI a), vI (nI b), vI (nI (sa - 1)), v5]) (S' := [vI (0 : Int32)]) (σ' := σ) 1 rfl trivial ?_
      exact WS.ret rfl rfl (by decide) rfl (h0 (by rintro ⟨i2, j2, z1, z2, z3⟩; exact hN i2 j2 (by omega) z1 z2 z3))
    · intro i hi ih v5 hN
      refine WS.run (C := [vp_in (nI a) 12]) (pc' := 11) (L' := [vR 51 0, vI (nI a), vI (nI b), vI (nI i), v5]) (S' := [vI (gI σ 58 0 (nI a).toNatClampNeg), vI ((nI i) + (1 : Int32))]) (σ' := σ) 7 rfl ⟨(vp_n (by omega) (by omega)), trivial⟩ ?_
      simp only [nI_1, e_a, e_b]
      refine WS.br (P := (gI σ 58 0 a) ≤ (nI (i + 1))) (a := 81) (b := 14) (S' := []) rfl (fun cc => absurd cc (fun z => by have := (lc3 va.2.1 (by omega) (by omega)).mp z; omega)) (fun _ => ?_)
      refine WS.run (C := []) (pc' := 17) (L' := [vR 51 0, vI (nI a), vI (nI b), vI (nI i), vI (0 : Int32)]) (S' := []) (σ' := σ) 2 rfl trivial ?_
      have inn : ∀ j, j ≤ sb - 1 → (∀ j2, j2 < j → j2 + 1 < sb → ¬ closeZ (lnMW σ a i) (lnMW σ b j2) (gI σ 51 0 9).toInt) → WS (d + 6) M_MD_areNear 17 [vR 51 0, vI (nI a), vI (nI b), vI (nI i), vI (nI j)] [] σ Post := by
        refine upto (sb - 1) ?_ ?_
        · intro hM
          refine WS.run (C := [vp_in (nI b) 12]) (pc' := 27) (L' := [vR 51 0, vI (nI a), vI (nI b), vI (nI i), vI (nI (sb - 1))]) (S' := [vI (gI σ 58 0 (nI b).toNatClampNeg), vI ((nI (sb - 1)) + (1 : Int32))]) (σ' := σ) 7 rfl ⟨(vp_n (by omega) (by omega)), trivial⟩ ?_
          simp only [nI_1, e_a, e_b]
          refine WS.br (P := (gI σ 58 0 b) ≤ (nI ((sb - 1) + 1))) (a := 75) (b := 30) (S' := []) rfl (fun _ => ?_) (fun cc => absurd ((lc3 vb.2.1 (by omega) (by omega)).mpr (by omega)) cc)
          refine WS.run (C := []) (pc' := 2) (L' := [vR 51 0, vI (nI a), vI (nI b), vI ((nI i) + (1 : Int32)), vI (nI (sb - 1))]) (S' := []) (σ' := σ) 2 rfl trivial ?_
          simp only [nI_1, e_a, e_b]
          exact ih _ (fun i2 j2 z1 z2 z3 => by
            rcases Nat.lt_or_ge i2 i with q | q
            · exact hN i2 j2 q z2 z3
            · have : i2 = i := by omega
              subst this
              exact hM j2 (by omega) z3)
        · intro j hj ih2 hM
          refine WS.run (C := [vp_in (nI b) 12]) (pc' := 27) (L' := [vR 51 0, vI (nI a), vI (nI b), vI (nI i), vI (nI j)]) (S' := [vI (gI σ 58 0 (nI b).toNatClampNeg), vI ((nI j) + (1 : Int32))]) (σ' := σ) 7 rfl ⟨(vp_n (by omega) (by omega)), trivial⟩ ?_
          simp only [nI_1, e_a, e_b]
          refine WS.br (P := (gI σ 58 0 b) ≤ (nI (j + 1))) (a := 75) (b := 30) (S' := []) rfl (fun cc => absurd cc (fun z => by have := (lc3 vb.2.1 (by omega) (by omega)).mp z; omega)) (fun _ => ?_)
          refine WS.run (C := []) (pc' := 34) (L' := [vR 51 0, vI (nI a), vI (nI b), vI (nI i), vI (nI j)]) (S' := [vI (nI i), vI (nI a), vR 51 0, vR 51 0]) (σ' := σ) 4 rfl trivial ?_
          refine WS.callV M_MD_at (k := 51) (i := 0) (as := [vI (nI a), vI (nI i)]) (rest := [vR 51 0]) rfl lk_11_150 rfl rfl rfl (Nat.le_of_ble_eq_true rfl) ?_
          refine c_Mat ha va (by omega) ?_
          show WS _ M_MD_areNear 37 [vR 51 0, vI (nI a), vI (nI b), vI (nI i), vI (nI j)] [vI (nI (20 * a + mn σ a i)), vR 51 0] σ _
          refine WS.run (C := []) (pc' := 42) (L' := [vR 51 0, vI (nI a), vI (nI b), vI (nI i), vI (nI j)]) (S' := [vI ((nI i) + (1 : Int32)), vI (nI a), vR 51 0, vI (nI (20 * a + mn σ a i)), vR 51 0]) (σ' := σ) 5 rfl trivial ?_
          simp only [nI_1, e_a, e_b]
          refine WS.callV M_MD_at (k := 51) (i := 0) (as := [vI (nI a), vI (nI (i + 1))]) (rest := [vI (nI (20 * a + mn σ a i)), vR 51 0]) rfl lk_11_150 rfl rfl rfl (Nat.le_of_ble_eq_true rfl) ?_
          refine c_Mat ha va (by omega) ?_
          show WS _ M_MD_areNear 45 [vR 51 0, vI (nI a), vI (nI b), vI (nI i), vI (nI j)] [vI (nI (20 * a + mn σ a (i + 1))), vI (nI (20 * a + mn σ a i)), vR 51 0] σ _
          refine WS.run (C := []) (pc' := 49) (L' := [vR 51 0, vI (nI a), vI (nI b), vI (nI i), vI (nI j)]) (S' := [vI (nI j), vI (nI b), vR 51 0, vI (nI (20 * a + mn σ a (i + 1))), vI (nI (20 * a + mn σ a i)), vR 51 0]) (σ' := σ) 3 rfl trivial ?_
          refine WS.callV M_MD_at (k := 51) (i := 0) (as := [vI (nI b), vI (nI j)]) (rest := [vI (nI (20 * a + mn σ a (i + 1))), vI (nI (20 * a + mn σ a i)), vR 51 0]) rfl lk_11_150 rfl rfl rfl (Nat.le_of_ble_eq_true rfl) ?_
          refine c_Mat hb vb (by omega) ?_
          show WS _ M_MD_areNear 52 [vR 51 0, vI (nI a), vI (nI b), vI (nI i), vI (nI j)] [vI (nI (20 * b + mn σ b j)), vI (nI (20 * a + mn σ a (i + 1))), vI (nI (20 * a + mn σ a i)), vR 51 0] σ _
          refine WS.run (C := []) (pc' := 58) (L' := [vR 51 0, vI (nI a), vI (nI b), vI (nI i), vI (nI j)]) (S' := [vI ((nI j) + (1 : Int32)), vI (nI b), vR 51 0, vI (nI (20 * b + mn σ b j)), vI (nI (20 * a + mn σ a (i + 1))), vI (nI (20 * a + mn σ a i)), vR 51 0]) (σ' := σ) 5 rfl trivial ?_
          simp only [nI_1, e_a, e_b]
          refine WS.callV M_MD_at (k := 51) (i := 0) (as := [vI (nI b), vI (nI (j + 1))]) (rest := [vI (nI (20 * b + mn σ b j)), vI (nI (20 * a + mn σ a (i + 1))), vI (nI (20 * a + mn σ a i)), vR 51 0]) rfl lk_11_150 rfl rfl rfl (Nat.le_of_ble_eq_true rfl) ?_
          refine c_Mat hb vb (by omega) ?_
          show WS _ M_MD_areNear 61 [vR 51 0, vI (nI a), vI (nI b), vI (nI i), vI (nI j)] [vI (nI (20 * b + mn σ b (j + 1))), vI (nI (20 * b + mn σ b j)), vI (nI (20 * a + mn σ a (i + 1))), vI (nI (20 * a + mn σ a i)), vR 51 0] σ _
          refine WS.callV M_MD_isClose (k := 51) (i := 0) (as := [vI (nI (20 * a + mn σ a i)), vI (nI (20 * a + mn σ a (i + 1))), vI (nI (20 * b + mn σ b j)), vI (nI (20 * b + mn σ b (j + 1)))]) (rest := []) rfl lk_11_170 rfl rfl rfl (Nat.le_of_ble_eq_true rfl) ?_
          refine c_MisClose (mP_at va (by omega)) (mP_at va (by omega)) (mP_at vb (by omega)) (mP_at vb (by omega)) hg (fun q1 => ?_) (fun q1 => ?_)
          · show WS _ M_MD_areNear 64 [vR 51 0, vI (nI a), vI (nI b), vI (nI i), vI (nI j)] [vI (1 : Int32)] σ _
            refine WS.br (P := (1 : Int32) = 0) (a := 69) (b := 67) (S' := []) rfl (fun cc => absurd cc (by decide)) (fun _ => ?_)
            refine WS.run (C := []) (pc' := 68) (L' := [vR 51 0, vI (nI a), vI (nI b), vI (nI i), vI (nI j)]) (S' := [vI (1 : Int32)]) (σ' := σ) 1 rfl trivial ?_
            exact WS.ret rfl rfl (by decide) rfl (h1 ⟨i, j, by omega, by omega, q1⟩)
          · show WS _ M_MD_areNear 64 [vR 51 0, vI (nI a), vI (nI b), vI (nI i), vI (nI j)] [vI (0 : Int32)] σ _
            refine WS.br (P := (0 : Int32) = 0) (a := 69) (b := 67) (S' := []) rfl (fun _ => ?_) (fun cc => absurd (by decide) cc)
            refine WS.run (C := []) (pc' := 17) (L' := [vR 51 0, vI (nI a), vI (nI b), vI (nI i), vI ((nI j) + (1 : Int32))]) (S' := []) (σ' := σ) 2 rfl trivial ?_
            simp only [nI_1, e_a, e_b]
            exact ih2 (fun j2 z1 z2 => by
              rcases Nat.lt_or_ge j2 j with q | q
              · exact hM j2 q z2
              · have : j2 = j := by omega
                subst this
                exact q1)
      exact inn 0 (by omega) (fun j2 z => by omega)
  refine WS.run (C := []) (pc' := 2) (L' := [vR 51 0, vI (nI a), vI (nI b), vI (0 : Int32), vU]) (S' := []) (σ' := σ) 2 rfl trivial ?_
  exact key 0 (by omega) vU (fun i2 j2 z => by omega)
end
section
/-! contracts: crossings -/
/-- how many of the first n -/
noncomputable def cN (p : Nat → Prop) : Nat → Nat
  | 0 => 0
  | n + 1 => cN p n + @ite _ (p n) (Classical.propDecidable _) 1 0
def sN (f : Nat → Nat) : Nat → Nat
  | 0 => 0
  | n + 1 => sN f n + f n
theorem cN_s (p : Nat → Prop) (n : Nat) : cN p (n + 1) = cN p n + @ite _ (p n) (Classical.propDecidable _) 1 0 := rfl
theorem cN_t {p : Nat → Prop} {n : Nat} (h : p n) : cN p (n + 1) = cN p n + 1 := by rw [cN_s, if_pos h]
theorem cN_f {p : Nat → Prop} {n : Nat} (h : ¬ p n) : cN p (n + 1) = cN p n := by rw [cN_s, if_neg h]; rfl
theorem sN_s (f : Nat → Nat) (n : Nat) : sN f (n + 1) = sN f n + f n := rfl
theorem cN_le (p : Nat → Prop) (n : Nat) : cN p n ≤ n := by
  induction n with
  | zero => exact Nat.le_refl 0
  | succ n ih =>
    by_cases h : p n
    · rw [cN_t h]; omega
    · rw [cN_f h]; omega
theorem cN_congr {p q : Nat → Prop} {n : Nat} (h : ∀ i, i < n → (p i ↔ q i)) : cN p n = cN q n := by
  induction n with
  | zero => rfl
  | succ n ih =>
    have e := ih (fun i hi => h i (by omega))
    by_cases hp : p n
    · rw [cN_t hp, cN_t ((h n (by omega)).mp hp), e]
    · rw [cN_f hp, cN_f (fun z => hp ((h n (by omega)).mpr z)), e]
theorem sN_congr {f g : Nat → Nat} {n : Nat} (h : ∀ i, i < n → f i = g i) : sN f n = sN g n := by
  induction n with
  | zero => rfl
  | succ n ih => rw [sN_s, sN_s, ih (fun i hi => h i (by omega)), h n (by omega)]
theorem sN_le {f : Nat → Nat} {m : Nat} (h : ∀ i, f i ≤ m) (n : Nat) : sN f n ≤ n * m := by
  induction n with
  | zero => simp [sN]
  | succ n ih => rw [sN_s]; have := h n; rw [Nat.succ_mul]; omega
noncomputable def crW (σ : Mem) (a b sa sb : Nat) : Nat := sN (fun i => cN (fun j => crossZ (lnW σ a i) (lnW σ b j)) (sb - 1)) (sa - 1)
noncomputable def crM (σ : Mem) (a b sa sb : Nat) : Nat := sN (fun i => cN (fun j => crossZ (lnMW σ a i) (lnMW σ b j)) (sb - 1)) (sa - 1)
set_option maxRecDepth 4000 in
set_option maxHeartbeats 400000 in
theorem c_countCrossed {d : Nat} {σ : Mem} {Post : Option AV → Mem → Prop} {a b ca sa cb sb : Nat} (ha : WayV σ a ca sa) (hb : WayV σ b cb sb) (h : ∀ τ : Mem, Eqs [11, 12] σ τ → Post (some (vI (nI (crW σ a b sa sb)))) τ) : MM (d + 3) M_Ruler_countCrossed [vR 10 0, vR 2 a, vR 2 b] σ Post := by
  obtain ⟨hsa, hsb⟩ : sa ≤ 20 ∧ sb ≤ 20 := by have := ha.2.2.1; have := ha.2.2.2.1; have := hb.2.2.1; have := hb.2.2.2.1; omega
  have n2 : 2 ∉ [11, 12] ∧ 3 ∉ [11, 12] ∧ 4 ∉ [11, 12] ∧ 5 ∉ [11, 12] := by decide
  refine MM.of ok_Ruler_countCrossed rfl ?_
  show WS _ M_Ruler_countCrossed 0 [vR 10 0, vR 2 a, vR 2 b, vU, vU, vU] [] σ _
  have key : ∀ i, i ≤ sa - 1 → ∀ (τ : Mem) (n : Int32) (v5 : AV), Eqs [11, 12] σ τ → n = (nI (sN (fun i => cN (fun j => crossZ (lnW σ a i) (lnW σ b j)) (sb - 1)) i)) → WS (d + 3) M_Ruler_countCrossed 5 [vR 10 0, vR 2 a, vR 2 b, vI n, vI (nI i), v5] [] τ Post := by
    refine upto (sa - 1) ?_ ?_
    · intro τ n v5 hE hn
      have hat := ha.eq hE n2.1 n2.2.1 n2.2.2.1 n2.2.2.2
      refine WS.run (C := []) (pc' := 13) (L' := [vR 10 0, vR 2 a, vR 2 b, vI n, vI (nI (sa - 1)), v5]) (S' := [vI (gI τ 2 a 4 - (1 : Int32)), vI (nI (sa - 1))]) (σ' := τ) 5 rfl trivial ?_
      refine WS.br (P := (gI τ 2 a 4 - (1 : Int32)) ≤ (nI (sa - 1))) (a := 79) (b := 16) (S' := []) rfl (fun _ => ?_) (fun cc => absurd ((lc1 hat.2.1 (by omega) (by omega)).mpr (by omega)) cc)
      refine WS.run (C := []) (pc' := 80) (L' := [vR 10 0, vR 2 a, vR 2 b, vI n, vI (nI (sa - 1)), v5]) (S' := [vI n]) (σ' := τ) 1 rfl trivial ?_
      exact WS.ret rfl rfl (by decide) rfl (by rw [hn]; exact h _ hE)
    · intro i hi ih τ n v5 hE hn
      have hat := ha.eq hE n2.1 n2.2.1 n2.2.2.1 n2.2.2.2
      refine WS.run (C := []) (pc' := 13) (L' := [vR 10 0, vR 2 a, vR 2 b, vI n, vI (nI i), v5]) (S' := [vI (gI τ 2 a 4 - (1 : Int32)), vI (nI i)]) (σ' := τ) 5 rfl trivial ?_
      refine WS.br (P := (gI τ 2 a 4 - (1 : Int32)) ≤ (nI i)) (a := 79) (b := 16) (S' := []) rfl (fun cc => absurd cc (fun z => by have := (lc1 hat.2.1 (by omega) (by omega)).mp z; omega)) (fun _ => ?_)
      refine WS.run (C := []) (pc' := 23) (L' := [vR 10 0, vR 2 a, vR 2 b, vI n, vI (nI i), v5]) (S' := [vR 11 0, vI (nI i), vR 2 a]) (σ' := τ) 4 rfl trivial ?_
      refine WS.callV M_Way_bringLine (k := 2) (i := a) (as := [vI (nI i), vR 11 0]) (rest := []) rfl lk_5_62 rfl rfl rfl (Nat.le_of_ble_eq_true rfl) ?_
      refine c_bringLine (Or.inl rfl) (by omega) (vp_nb hat (by omega)) (vp_nb hat (by omega)) (fun υ1 f1a f1b => ?_)
      show WS _ M_Ruler_countCrossed 26 [vR 10 0, vR 2 a, vR 2 b, vI n, vI (nI i), v5] [] υ1 _
      refine WS.run (C := []) (pc' := 29) (L' := [vR 10 0, vR 2 a, vR 2 b, vI n, vI (nI i), vI (0 : Int32)]) (S' := []) (σ' := υ1) 2 rfl trivial ?_
      have hE1 : Eqs [11, 12] σ υ1 := hE.tr (f1a.mono (by decide))
      have e11 : lnC υ1 11 = lnW σ a i := by rw [f1b]; exact lnW_eq hE n2.2.1 n2.2.2.1 n2.2.2.2 a i
      have inn : ∀ j, j ≤ sb - 1 → ∀ (υ : Mem) (m : Int32), Eqs [12] υ1 υ → m = (nI (sN (fun i => cN (fun j => crossZ (lnW σ a i) (lnW σ b j)) (sb - 1)) i + cN (fun j => crossZ (lnW σ a i) (lnW σ b j)) j)) → WS (d + 3) M_Ruler_countCrossed 29 [vR 10 0, vR 2 a, vR 2 b, vI m, vI (nI i), vI (nI j)] [] υ Post := by
        refine upto (sb - 1) ?_ ?_
        · intro υ m hF hm
          have hE2 : Eqs [11, 12] σ υ := hE1.tr (hF.mono (by decide))
          have hbu := hb.eq hE2 n2.1 n2.2.1 n2.2.2.1 n2.2.2.2
          refine WS.run (C := []) (pc' := 37) (L' := [vR 10 0, vR 2 a, vR 2 b, vI m, vI (nI i), vI (nI (sb - 1))]) (S' := [vI (gI υ 2 b 4 - (1 : Int32)), vI (nI (sb - 1))]) (σ' := υ) 5 rfl trivial ?_
          refine WS.br (P := (gI υ 2 b 4 - (1 : Int32)) ≤ (nI (sb - 1))) (a := 73) (b := 40) (S' := []) rfl (fun _ => ?_) (fun cc => absurd ((lc1 hbu.2.1 (by omega) (by omega)).mpr (by omega)) cc)
          refine WS.run (C := []) (pc' := 5) (L' := [vR 10 0, vR 2 a, vR 2 b, vI m, vI ((nI i) + (1 : Int32)), vI (nI (sb - 1))]) (S' := []) (σ' := υ) 2 rfl trivial ?_
          simp only [nI_1]
          exact ih υ _ _ hE2 (by rw [hm]; rfl)
        · intro j hj ih2 υ m hF hm
          have hE2 : Eqs [11, 12] σ υ := hE1.tr (hF.mono (by decide))
          have hbu := hb.eq hE2 n2.1 n2.2.1 n2.2.2.1 n2.2.2.2
          refine WS.run (C := []) (pc' := 37) (L' := [vR 10 0, vR 2 a, vR 2 b, vI m, vI (nI i), vI (nI j)]) (S' := [vI (gI υ 2 b 4 - (1 : Int32)), vI (nI j)]) (σ' := υ) 5 rfl trivial ?_
          refine WS.br (P := (gI υ 2 b 4 - (1 : Int32)) ≤ (nI j)) (a := 73) (b := 40) (S' := []) rfl (fun cc => absurd cc (fun z => by have := (lc1 hbu.2.1 (by omega) (by omega)).mp z; omega)) (fun _ => ?_)
          refine WS.run (C := []) (pc' := 47) (L' := [vR 10 0, vR 2 a, vR 2 b, vI m, vI (nI i), vI (nI j)]) (S' := [vR 12 0, vI (nI j), vR 2 b]) (σ' := υ) 4 rfl trivial ?_
          refine WS.callV M_Way_bringLine (k := 2) (i := b) (as := [vI (nI j), vR 12 0]) (rest := []) rfl lk_5_62 rfl rfl rfl (Nat.le_of_ble_eq_true rfl) ?_
          refine c_bringLine (Or.inr (Or.inl rfl)) (by omega) (vp_nb hbu (by omega)) (vp_nb hbu (by omega)) (fun υ2 f2a f2b => ?_)
          show WS _ M_Ruler_countCrossed 50 [vR 10 0, vR 2 a, vR 2 b, vI m, vI (nI i), vI (nI j)] [] υ2 _
          refine WS.run (C := []) (pc' := 58) (L' := [vR 10 0, vR 2 a, vR 2 b, vI m, vI (nI i), vI (nI j)]) (S' := [vR 12 0, vR 11 0]) (σ' := υ2) 4 rfl trivial ?_
          refine WS.callV M_Line_crosses (k := 11) (i := 0) (as := [vR 12 0]) (rest := []) rfl lk_5_74 rfl rfl rfl (Nat.le_of_ble_eq_true rfl) ?_
          have e12 : lnC υ2 12 = lnW σ b j := by rw [f2b]; exact lnW_eq hE2 n2.2.1 n2.2.2.1 n2.2.2.2 b j
          have e11u : lnC υ2 11 = lnW σ a i := by rw [← e11, lnC_eq (hF.tr f2a) (by decide)]
          refine c_crosses (Or.inl ⟨rfl, rfl⟩) (by rw [e11u]; exact lnB_W ha (by omega)) (by rw [e12]; exact lnB_W hb (by omega)) (fun q3 => ?_) (fun q3 => ?_)
          · rw [e11u, e12] at q3
            show WS _ M_Ruler_countCrossed 61 [vR 10 0, vR 2 a, vR 2 b, vI m, vI (nI i), vI (nI j)] [vI (1 : Int32)] υ2 _
            refine WS.br (P := (1 : Int32) = 0) (a := 67) (b := 64) (S' := []) rfl (fun cc => absurd cc (by decide)) (fun _ => ?_)
            refine WS.run (C := []) (pc' := 29) (L' := [vR 10 0, vR 2 a, vR 2 b, vI (m + (1 : Int32)), vI (nI i), vI ((nI j) + (1 : Int32))]) (S' := []) (σ' := υ2) 3 rfl trivial ?_
            simp only [nI_1]
            exact ih2 υ2 _ (hF.tr f2a) (by rw [hm, cN_t (p := fun j => crossZ (lnW σ a i) (lnW σ b j)) q3, nI_1, Nat.add_assoc])
          · rw [e11u, e12] at q3
            show WS _ M_Ruler_countCrossed 61 [vR 10 0, vR 2 a, vR 2 b, vI m, vI (nI i), vI (nI j)] [vI (0 : Int32)] υ2 _
            refine WS.br (P := (0 : Int32) = 0) (a := 67) (b := 64) (S' := []) rfl (fun _ => ?_) (fun cc => absurd (by decide) cc)
            refine WS.run (C := []) (pc' := 29) (L' := [vR 10 0, vR 2 a, vR 2 b, vI m, vI (nI i), vI ((nI j) + (1 : Int32))]) (S' := []) (σ' := υ2) 2 rfl trivial ?_
            simp only [nI_1]
            exact ih2 υ2 _ (hF.tr f2a) (by rw [hm, cN_f (p := fun j => crossZ (lnW σ a i) (lnW σ b j)) q3])
      exact inn 0 (by omega) υ1 _ Eqs.rf (by rw [hn]; rfl)
  refine WS.run (C := []) (pc' := 5) (L' := [vR 10 0, vR 2 a, vR 2 b, vI (0 : Int32), vI (0 : Int32), vU]) (S' := []) (σ' := σ) 4 rfl trivial ?_
  exact key 0 (by omega) σ _ vU Eqs.rf rfl
end
section
/-! contracts: near and crossings -/
def ctW (σ : Mem) (w : Nat) : Nat := (gI σ 2 w 3).toNatClampNeg
def shW (σ : Mem) (w : Nat) : Nat := (gI σ 2 w 4).toNatClampNeg
def ctM (σ : Mem) (w : Nat) : Nat := (gI σ 55 0 w).toNatClampNeg
def shM (σ : Mem) (w : Nat) : Nat := (gI σ 58 0 w).toNatClampNeg
def AllV (σ : Mem) : Prop := ∀ w, w < 12 → WayV σ w (ctW σ w) (shW σ w)
def AllM (σ : Mem) : Prop := ∀ w, w < 12 → WayM σ w (ctM σ w) (shM σ w)
/-- two unlike ways of the class that have points -/
def TwoW (σ : Mem) (v w : Int32) (i j : Nat) : Prop := i < 12 ∧ j < 12 ∧ i ≠ j ∧ v = nI i ∧ w = nI j ∧ 0 < (gI σ 2 i 3).toInt ∧ 0 < (gI σ 2 j 3).toInt
def TwoM (σ : Mem) (v w : Int32) (i j : Nat) : Prop := i < 12 ∧ j < 12 ∧ i ≠ j ∧ v = nI i ∧ w = nI j ∧ (gI σ 52 0 i ≠ 0 ∧ 0 < (gI σ 55 0 i).toInt) ∧ gI σ 52 0 j ≠ 0 ∧ 0 < (gI σ 55 0 j).toInt
theorem nI_ne {i j : Nat} (h : ¬ nI i = nI j) : i ≠ j := fun e => h (by rw [e])
set_option maxRecDepth 4000 in
set_option maxHeartbeats 400000 in
theorem c_areTwoWays {d : Nat} {σ : Mem} {Post : Option AV → Mem → Prop} {v w : Int32} (h1 : ∀ i j : Nat, TwoW σ v w i j → Post (some (vI 1)) σ) (h0 : (∀ i j : Nat, ¬ TwoW σ v w i j) → Post (some (vI 0)) σ) : MM (d + 2) M_TM_areTwoWays [vR 0 0, vI v, vI w] σ Post := by
  refine MM.of ok_TM_areTwoWays rfl ?_
  show WS _ M_TM_areTwoWays 0 [vR 0 0, vI v, vI w] [] σ _
  refine WS.run (C := []) (pc' := 2) (L' := [vR 0 0, vI v, vI w]) (S' := [vI w, vI v]) (σ' := σ) 2 rfl trivial ?_
  refine WS.br (P := v = w) (a := 25) (b := 5) (S' := []) rfl (fun c1 => ?_) (fun c1 => ?_)
  · refine WS.run (C := []) (pc' := 26) (L' := [vR 0 0, vI v, vI w]) (S' := [vI (0 : Int32)]) (σ' := σ) 1 rfl trivial ?_
    exact WS.ret rfl rfl (by decide) rfl (h0 (fun i j z => z.2.2.1 ((nI_eq (by have := z.1; omega) (by have := z.2.1; omega)).mp (z.2.2.2.1.symm.trans (c1.trans z.2.2.2.2.1)))))
  · refine WS.run (C := []) (pc' := 7) (L' := [vR 0 0, vI v, vI w]) (S' := [vI v, vR 0 0]) (σ' := σ) 2 rfl trivial ?_
    refine WS.callV M_TM_hasPoints (k := 0) (i := 0) (as := [vI v]) (rest := []) rfl lk_10_92 rfl rfl rfl (Nat.le_of_ble_eq_true rfl) ?_
    refine c_hasPoints (fun i hi ei qi => ?_) (fun q2 => ?_)
    · subst ei
      have e_i : (nI i).toNatClampNeg = i := cl_n (by omega)
      show WS _ M_TM_areTwoWays 10 [vR 0 0, vI (nI i), vI w] [vI (1 : Int32)] σ _
      refine WS.br (P := (1 : Int32) = 0) (a := 25) (b := 13) (S' := []) rfl (fun cc => absurd cc (by decide)) (fun _ => ?_)
      refine WS.run (C := []) (pc' := 15) (L' := [vR 0 0, vI (nI i), vI w]) (S' := [vI w, vR 0 0]) (σ' := σ) 2 rfl trivial ?_
      refine WS.callV M_TM_hasPoints (k := 0) (i := 0) (as := [vI w]) (rest := []) rfl lk_10_92 rfl rfl rfl (Nat.le_of_ble_eq_true rfl) ?_
      refine c_hasPoints (fun j hj ej qj => ?_) (fun q3 => ?_)
      · subst ej
        have e_j : (nI j).toNatClampNeg = j := cl_n (by omega)
        show WS _ M_TM_areTwoWays 18 [vR 0 0, vI (nI i), vI (nI j)] [vI (1 : Int32)] σ _
        refine WS.br (P := (1 : Int32) = 0) (a := 25) (b := 21) (S' := []) rfl (fun cc => absurd cc (by decide)) (fun _ => ?_)
        refine WS.run (C := []) (pc' := 26) (L' := [vR 0 0, vI (nI i), vI (nI j)]) (S' := [vI (1 : Int32)]) (σ' := σ) 2 rfl trivial ?_
        exact WS.ret rfl rfl (by decide) rfl (h1 i j ⟨by omega, by omega, nI_ne c1, rfl, rfl, qi, qj⟩)
      · show WS _ M_TM_areTwoWays 18 [vR 0 0, vI (nI i), vI w] [vI (0 : Int32)] σ _
        refine WS.br (P := (0 : Int32) = 0) (a := 25) (b := 21) (S' := []) rfl (fun _ => ?_) (fun cc => absurd (by decide) cc)
        refine WS.run (C := []) (pc' := 26) (L' := [vR 0 0, vI (nI i), vI w]) (S' := [vI (0 : Int32)]) (σ' := σ) 1 rfl trivial ?_
        exact WS.ret rfl rfl (by decide) rfl (h0 (fun i2 j2 z => q3 j2 (by have := z.2.1; omega) z.2.2.2.2.1 z.2.2.2.2.2.2))
    · show WS _ M_TM_areTwoWays 10 [vR 0 0, vI v, vI w] [vI (0 : Int32)] σ _
      refine WS.br (P := (0 : Int32) = 0) (a := 25) (b := 13) (S' := []) rfl (fun _ => ?_) (fun cc => absurd (by decide) cc)
      refine WS.run (C := []) (pc' := 26) (L' := [vR 0 0, vI v, vI w]) (S' := [vI (0 : Int32)]) (σ' := σ) 1 rfl trivial ?_
      exact WS.ret rfl rfl (by decide) rfl (h0 (fun i j z => q2 i (by have := z.1; omega) z.2.2.2.1 z.2.2.2.2.2.1))
set_option maxRecDepth 4000 in
set_option maxHeartbeats 400000 in
theorem c_TMnear {d : Nat} {σ : Mem} {Post : Option AV → Mem → Prop} {v w : Int32} (hv : AllV σ) (hg : 0 ≤ (gI σ 0 0 8).toInt ∧ (gI σ 0 0 8).toInt ≤ 100) (h1 : ∀ (i j : Nat) (τ : Mem), TwoW σ v w i j → Eqs [11, 12] σ τ → NearW σ i j (shW σ i) (shW σ j) (gI σ 0 0 8).toInt → Post (some (vI 1)) τ) (h0 : ∀ (i j : Nat) (τ : Mem), TwoW σ v w i j → Eqs [11, 12] σ τ → ¬ NearW σ i j (shW σ i) (shW σ j) (gI σ 0 0 8).toInt → Post (some (vI 0)) τ) (hn : (∀ i j : Nat, ¬ TwoW σ v w i j) → Post (some (vI (-1))) σ) : MM (d + 4) M_TM_near [vR 0 0, vI v, vI w] σ Post := by
  refine MM.of ok_TM_near rfl ?_
  show WS _ M_TM_near 0 [vR 0 0, vI v, vI w] [] σ _
  refine WS.run (C := []) (pc' := 3) (L' := [vR 0 0, vI v, vI w]) (S' := [vI w, vI v, vR 0 0]) (σ' := σ) 3 rfl trivial ?_
  refine WS.callV M_TM_areTwoWays (k := 0) (i := 0) (as := [vI v, vI w]) (rest := []) rfl lk_10_111 rfl rfl rfl (Nat.le_of_ble_eq_true rfl) ?_
  refine c_areTwoWays (fun i j hij => ?_) (fun q1 => ?_)
  · obtain ⟨hi, hj, hne, rfl, rfl, qi, qj⟩ := id hij
    have e_i : (nI i).toNatClampNeg = i := cl_n (by omega)
    have e_j : (nI j).toNatClampNeg = j := cl_n (by omega)
    show WS _ M_TM_near 6 [vR 0 0, vI (nI i), vI (nI j)] [vI (1 : Int32)] σ _
    refine WS.br (P := (1 : Int32) = 0) (a := 9) (b := 11) (S' := []) rfl (fun cc => absurd cc (by decide)) (fun _ => ?_)
    refine WS.run (C := [vp_in (nI i) 12, vp_in (nI j) 12]) (pc' := 31) (L' := [vR 0 0, vI (nI i), vI (nI j)]) (S' := [vI (gI σ 0 0 8), vR 2 ((nI j).toNatClampNeg), vR 2 ((nI i).toNatClampNeg), vR 10 0]) (σ' := σ) 12 rfl ⟨(vp_n (by omega) (by omega)), (vp_n (by omega) (by omega)), trivial⟩ ?_
    simp only [e_i, e_j]
    refine WS.callV M_Ruler_areTooNear (k := 10) (i := 0) (as := [vR 2 i, vR 2 j, vI (gI σ 0 0 8)]) (rest := []) rfl lk_10_114 rfl rfl rfl (Nat.le_of_ble_eq_true rfl) ?_
    refine c_areTooNear (hv i hi) (hv j hj) hg (fun τ2 e2 q2 => ?_) (fun τ2 e2 q2 => ?_)
    · show WS _ M_TM_near 34 [vR 0 0, vI (nI i), vI (nI j)] [vI (1 : Int32)] τ2 _
      refine WS.br (P := (1 : Int32) = 0) (a := 41) (b := 37) (S' := []) rfl (fun cc => absurd cc (by decide)) (fun _ => ?_)
      refine WS.run (C := []) (pc' := 42) (L' := [vR 0 0, vI (nI i), vI (nI j)]) (S' := [vI (1 : Int32)]) (σ' := τ2) 2 rfl trivial ?_
      exact WS.ret rfl rfl (by decide) rfl (h1 i j _ hij e2 q2)
    · show WS _ M_TM_near 34 [vR 0 0, vI (nI i), vI (nI j)] [vI (0 : Int32)] τ2 _
      refine WS.br (P := (0 : Int32) = 0) (a := 41) (b := 37) (S' := []) rfl (fun _ => ?_) (fun cc => absurd (by decide) cc)
      refine WS.run (C := []) (pc' := 42) (L' := [vR 0 0, vI (nI i), vI (nI j)]) (S' := [vI (0 : Int32)]) (σ' := τ2) 1 rfl trivial ?_
      exact WS.ret rfl rfl (by decide) rfl (h0 i j _ hij e2 q2)
  · show WS _ M_TM_near 6 [vR 0 0, vI v, vI w] [vI (0 : Int32)] σ _
    refine WS.br (P := (0 : Int32) = 0) (a := 9) (b := 11) (S' := []) rfl (fun _ => ?_) (fun cc => absurd (by decide) cc)
    refine WS.run (C := []) (pc' := 10) (L' := [vR 0 0, vI v, vI w]) (S' := [vI (-1 : Int32)]) (σ' := σ) 1 rfl trivial ?_
    exact WS.ret rfl rfl (by decide) rfl (hn q1)
set_option maxRecDepth 4000 in
set_option maxHeartbeats 400000 in
theorem c_TMcrossings {d : Nat} {σ : Mem} {Post : Option AV → Mem → Prop} {v w : Int32} (hv : AllV σ) (h : ∀ (i j : Nat) (τ : Mem), TwoW σ v w i j → Eqs [11, 12] σ τ → Post (some (vI (nI (crW σ i j (shW σ i) (shW σ j))))) τ) (hn : (∀ i j : Nat, ¬ TwoW σ v w i j) → Post (some (vI (-1))) σ) : MM (d + 4) M_TM_crossings [vR 0 0, vI v, vI w] σ Post := by
  refine MM.of ok_TM_crossings rfl ?_
  show WS _ M_TM_crossings 0 [vR 0 0, vI v, vI w] [] σ _
  refine WS.run (C := []) (pc' := 3) (L' := [vR 0 0, vI v, vI w]) (S' := [vI w, vI v, vR 0 0]) (σ' := σ) 3 rfl trivial ?_
  refine WS.callV M_TM_areTwoWays (k := 0) (i := 0) (as := [vI v, vI w]) (rest := []) rfl lk_10_111 rfl rfl rfl (Nat.le_of_ble_eq_true rfl) ?_
  refine c_areTwoWays (fun i j hij => ?_) (fun q1 => ?_)
  · obtain ⟨hi, hj, hne, rfl, rfl, qi, qj⟩ := id hij
    have e_i : (nI i).toNatClampNeg = i := cl_n (by omega)
    have e_j : (nI j).toNatClampNeg = j := cl_n (by omega)
    show WS _ M_TM_crossings 6 [vR 0 0, vI (nI i), vI (nI j)] [vI (1 : Int32)] σ _
    refine WS.br (P := (1 : Int32) = 0) (a := 9) (b := 11) (S' := []) rfl (fun cc => absurd cc (by decide)) (fun _ => ?_)
    refine WS.run (C := [vp_in (nI i) 12, vp_in (nI j) 12]) (pc' := 27) (L' := [vR 0 0, vI (nI i), vI (nI j)]) (S' := [vR 2 ((nI j).toNatClampNeg), vR 2 ((nI i).toNatClampNeg), vR 10 0]) (σ' := σ) 10 rfl ⟨(vp_n (by omega) (by omega)), (vp_n (by omega) (by omega)), trivial⟩ ?_
    simp only [e_i, e_j]
    refine WS.callV M_Ruler_countCrossed (k := 10) (i := 0) (as := [vR 2 i, vR 2 j]) (rest := []) rfl lk_10_118 rfl rfl rfl (Nat.le_of_ble_eq_true rfl) ?_
    refine c_countCrossed (hv i hi) (hv j hj) (fun τ2 e2 => ?_)
    show WS _ M_TM_crossings 30 [vR 0 0, vI (nI i), vI (nI j)] [vI (nI (crW σ i j (shW σ i) (shW σ j)))] τ2 _
    exact WS.ret rfl rfl (by decide) rfl (h i j _ hij e2)
  · show WS _ M_TM_crossings 6 [vR 0 0, vI v, vI w] [vI (0 : Int32)] σ _
    refine WS.br (P := (0 : Int32) = 0) (a := 9) (b := 11) (S' := []) rfl (fun _ => ?_) (fun cc => absurd (by decide) cc)
    refine WS.run (C := []) (pc' := 10) (L' := [vR 0 0, vI v, vI w]) (S' := [vI (-1 : Int32)]) (σ' := σ) 1 rfl trivial ?_
    exact WS.ret rfl rfl (by decide) rfl (hn q1)
set_option maxRecDepth 4000 in
set_option maxHeartbeats 400000 in
theorem c_Mnear {d : Nat} {σ : Mem} {Post : Option AV → Mem → Prop} {v w : Int32} (hv : AllM σ) (hg : 0 ≤ (gI σ 51 0 9).toInt ∧ (gI σ 51 0 9).toInt ≤ 100) (h1 : ∀ (i j : Nat), TwoM σ v w i j → NearM σ i j (shM σ i) (shM σ j) (gI σ 51 0 9).toInt → Post (some (vI 1)) σ) (h0 : ∀ (i j : Nat), TwoM σ v w i j → ¬ NearM σ i j (shM σ i) (shM σ j) (gI σ 51 0 9).toInt → Post (some (vI 0)) σ) (hn : (∀ i j : Nat, ¬ TwoM σ v w i j) → Post (some (vI (-1))) σ) : MM (d + 7) M_MD_near [vR 51 0, vI v, vI w] σ Post := by
  refine MM.of ok_MD_near rfl ?_
  show WS _ M_MD_near 0 [vR 51 0, vI v, vI w] [] σ _
  refine WS.run (C := []) (pc' := 2) (L' := [vR 51 0, vI v, vI w]) (S' := [vI v, vR 51 0]) (σ' := σ) 2 rfl trivial ?_
  refine WS.callV M_MD_isThere (k := 51) (i := 0) (as := [vI v]) (rest := []) rfl lk_11_173 rfl rfl rfl (Nat.le_of_ble_eq_true rfl) ?_
  refine c_MisThere (fun i hi ei qia qib => ?_) (fun q1 => ?_)
  · subst ei
    have e_i : (nI i).toNatClampNeg = i := cl_n (by omega)
    show WS _ M_MD_near 5 [vR 51 0, vI (nI i), vI w] [vI (1 : Int32)] σ _
    refine WS.br (P := (1 : Int32) = 0) (a := 21) (b := 8) (S' := []) rfl (fun cc => absurd cc (by decide)) (fun _ => ?_)
    refine WS.run (C := []) (pc' := 10) (L' := [vR 51 0, vI (nI i), vI w]) (S' := [vI w, vR 51 0]) (σ' := σ) 2 rfl trivial ?_
    refine WS.callV M_MD_isThere (k := 51) (i := 0) (as := [vI w]) (rest := []) rfl lk_11_173 rfl rfl rfl (Nat.le_of_ble_eq_true rfl) ?_
    refine c_MisThere (fun j hj ej qja qjb => ?_) (fun q2 => ?_)
    · subst ej
      have e_j : (nI j).toNatClampNeg = j := cl_n (by omega)
      show WS _ M_MD_near 13 [vR 51 0, vI (nI i), vI (nI j)] [vI (1 : Int32)] σ _
      refine WS.br (P := (1 : Int32) = 0) (a := 21) (b := 16) (S' := []) rfl (fun cc => absurd cc (by decide)) (fun _ => ?_)
      refine WS.run (C := []) (pc' := 18) (L' := [vR 51 0, vI (nI i), vI (nI j)]) (S' := [vI (nI j), vI (nI i)]) (σ' := σ) 2 rfl trivial ?_
      refine WS.br (P := (nI i) = (nI j)) (a := 21) (b := 23) (S' := []) rfl (fun c3 => ?_) (fun c3 => ?_)
      · refine WS.run (C := []) (pc' := 22) (L' := [vR 51 0, vI (nI i), vI (nI j)]) (S' := [vI (-1 : Int32)]) (σ' := σ) 1 rfl trivial ?_
        exact WS.ret rfl rfl (by decide) rfl (hn (fun i2 j2 z => z.2.2.1 ((nI_eq (by have := z.1; omega) (by have := z.2.1; omega)).mp (z.2.2.2.1.symm.trans (c3.trans z.2.2.2.2.1)))))
      · refine WS.run (C := []) (pc' := 26) (L' := [vR 51 0, vI (nI i), vI (nI j)]) (S' := [vI (nI j), vI (nI i), vR 51 0]) (σ' := σ) 3 rfl trivial ?_
        refine WS.callV M_MD_areNear (k := 51) (i := 0) (as := [vI (nI i), vI (nI j)]) (rest := []) rfl lk_11_176 rfl rfl rfl (Nat.le_of_ble_eq_true rfl) ?_
        refine c_MareNear (by omega) (by omega) (hv i (by omega)) (hv j (by omega)) hg (fun q4 => ?_) (fun q4 => ?_)
        · show WS _ M_MD_near 29 [vR 51 0, vI (nI i), vI (nI j)] [vI (1 : Int32)] σ _
          refine WS.br (P := (1 : Int32) = 0) (a := 36) (b := 32) (S' := []) rfl (fun cc => absurd cc (by decide)) (fun _ => ?_)
          refine WS.run (C := []) (pc' := 37) (L' := [vR 51 0, vI (nI i), vI (nI j)]) (S' := [vI (1 : Int32)]) (σ' := σ) 2 rfl trivial ?_
          exact WS.ret rfl rfl (by decide) rfl (h1 i j ⟨by omega, by omega, nI_ne c3, rfl, rfl, ⟨qia, qib⟩, qja, qjb⟩ q4)
        · show WS _ M_MD_near 29 [vR 51 0, vI (nI i), vI (nI j)] [vI (0 : Int32)] σ _
          refine WS.br (P := (0 : Int32) = 0) (a := 36) (b := 32) (S' := []) rfl (fun _ => ?_) (fun cc => absurd (by decide) cc)
          refine WS.run (C := []) (pc' := 37) (L' := [vR 51 0, vI (nI i), vI (nI j)]) (S' := [vI (0 : Int32)]) (σ' := σ) 1 rfl trivial ?_
          exact WS.ret rfl rfl (by decide) rfl (h0 i j ⟨by omega, by omega, nI_ne c3, rfl, rfl, ⟨qia, qib⟩, qja, qjb⟩ q4)
    · show WS _ M_MD_near 13 [vR 51 0, vI (nI i), vI w] [vI (0 : Int32)] σ _
      refine WS.br (P := (0 : Int32) = 0) (a := 21) (b := 16) (S' := []) rfl (fun _ => ?_) (fun cc => absurd (by decide) cc)
      refine WS.run (C := []) (pc' := 22) (L' := [vR 51 0, vI (nI i), vI w]) (S' := [vI (-1 : Int32)]) (σ' := σ) 1 rfl trivial ?_
      exact WS.ret rfl rfl (by decide) rfl (hn (fun i2 j2 z => q2 j2 (by have := z.2.1; omega) z.2.2.2.2.1 z.2.2.2.2.2.2.1 z.2.2.2.2.2.2.2))
  · show WS _ M_MD_near 5 [vR 51 0, vI v, vI w] [vI (0 : Int32)] σ _
    refine WS.br (P := (0 : Int32) = 0) (a := 21) (b := 8) (S' := []) rfl (fun _ => ?_) (fun cc => absurd (by decide) cc)
    refine WS.run (C := []) (pc' := 22) (L' := [vR 51 0, vI v, vI w]) (S' := [vI (-1 : Int32)]) (σ' := σ) 1 rfl trivial ?_
    exact WS.ret rfl rfl (by decide) rfl (hn (fun i j z => q1 i (by have := z.1; omega) z.2.2.2.1 z.2.2.2.2.2.1.1 z.2.2.2.2.2.1.2))
end
section
/-! contracts: gap, way -/
theorem t_100 : (100 : Int32).toInt = 100 := by decide
theorem t_1000 : (1000 : Int32).toInt = 1000 := by decide
def gapO (g : Int32) : Prop := 0 ≤ g.toInt ∧ g.toInt ≤ 100
set_option maxRecDepth 4000 in
set_option maxHeartbeats 400000 in
theorem c_TMgap {d : Nat} {σ : Mem} {Post : Option AV → Mem → Prop} {g : Int32} (h1 : gapO g → Post (some (vI (gI σ 0 0 8))) (pI σ 0 0 8 g)) (h0 : ¬ gapO g → Post (some (vI (-1))) σ) : MM (d + 1) M_TM_gap [vR 0 0, vI g] σ Post := by
  refine MM.of ok_TM_gap rfl ?_
  show WS _ M_TM_gap 0 [vR 0 0, vI g, vU] [] σ _
  refine WS.run (C := []) (pc' := 3) (L' := [vR 0 0, vI g, vU]) (S' := [vI (100 : Int32), vI g]) (σ' := σ) 2 rfl trivial ?_
  refine WS.callS M_TM_inRange (as := [vI g, vI (100 : Int32)]) (rest := []) rfl lk_10_71 rfl rfl (Nat.le_of_ble_eq_true rfl) ?_
  refine c_inRange  (fun q1a q1b => ?_) (fun q1 => ?_)
  · show WS _ M_TM_gap 6 [vR 0 0, vI g, vU] [vI (1 : Int32)] σ _
    refine WS.br (P := (1 : Int32) = 0) (a := 9) (b := 11) (S' := []) rfl (fun cc => absurd cc (by decide)) (fun _ => ?_)
    refine WS.run (C := []) (pc' := 21) (L' := [vR 0 0, vI g, vI (gI σ 0 0 8)]) (S' := []) (σ' := pI σ 0 0 8 g) 6 rfl trivial ?_
    refine WS.run (C := []) (pc' := 22) (L' := [vR 0 0, vI g, vI (gI σ 0 0 8)]) (S' := [vI (gI σ 0 0 8)]) (σ' := pI σ 0 0 8 g) 1 rfl trivial ?_
    exact WS.ret rfl rfl (by decide) rfl (h1 ⟨q1a, by have z := q1b; rw [t_100] at z; exact z⟩)
  · show WS _ M_TM_gap 6 [vR 0 0, vI g, vU] [vI (0 : Int32)] σ _
    refine WS.br (P := (0 : Int32) = 0) (a := 9) (b := 11) (S' := []) rfl (fun _ => ?_) (fun cc => absurd (by decide) cc)
    refine WS.run (C := []) (pc' := 10) (L' := [vR 0 0, vI g, vU]) (S' := [vI (-1 : Int32)]) (σ' := σ) 1 rfl trivial ?_
    exact WS.ret rfl rfl (by decide) rfl (h0 (fun z => q1 ⟨z.1, by rw [t_100]; exact z.2⟩))
set_option maxRecDepth 4000 in
set_option maxHeartbeats 400000 in
theorem c_Mgap {d : Nat} {σ : Mem} {Post : Option AV → Mem → Prop} {g : Int32} (h1 : gapO g → Post (some (vI (gI σ 51 0 9))) (pI σ 51 0 9 g)) (h0 : ¬ gapO g → Post (some (vI (-1))) σ) : MM (d + 1) M_MD_gap [vR 51 0, vI g] σ Post := by
  refine MM.of ok_MD_gap rfl ?_
  show WS _ M_MD_gap 0 [vR 51 0, vI g, vU] [] σ _
  refine WS.run (C := []) (pc' := 4) (L' := [vR 51 0, vI g, vU]) (S' := [vI (100 : Int32), vI (0 : Int32), vI g]) (σ' := σ) 3 rfl trivial ?_
  refine WS.callS M_MD_isIn (as := [vI g, vI (0 : Int32), vI (100 : Int32)]) (rest := []) rfl lk_11_114 rfl rfl (Nat.le_of_ble_eq_true rfl) ?_
  refine c_MisIn  (fun q1a q1b => ?_) (fun q1 => ?_)
  · show WS _ M_MD_gap 7 [vR 51 0, vI g, vU] [vI (1 : Int32)] σ _
    refine WS.br (P := (1 : Int32) = 0) (a := 10) (b := 12) (S' := []) rfl (fun cc => absurd cc (by decide)) (fun _ => ?_)
    refine WS.run (C := []) (pc' := 22) (L' := [vR 51 0, vI g, vI (gI σ 51 0 9)]) (S' := []) (σ' := pI σ 51 0 9 g) 6 rfl trivial ?_
    refine WS.run (C := []) (pc' := 23) (L' := [vR 51 0, vI g, vI (gI σ 51 0 9)]) (S' := [vI (gI σ 51 0 9)]) (σ' := pI σ 51 0 9 g) 1 rfl trivial ?_
    exact WS.ret rfl rfl (by decide) rfl (h1 ⟨by have z := q1a; rw [t_0] at z; exact z, by have z := q1b; rw [t_100] at z; exact z⟩)
  · show WS _ M_MD_gap 7 [vR 51 0, vI g, vU] [vI (0 : Int32)] σ _
    refine WS.br (P := (0 : Int32) = 0) (a := 10) (b := 12) (S' := []) rfl (fun _ => ?_) (fun cc => absurd (by decide) cc)
    refine WS.run (C := []) (pc' := 11) (L' := [vR 51 0, vI g, vU]) (S' := [vI (-1 : Int32)]) (σ' := σ) 1 rfl trivial ?_
    exact WS.ret rfl rfl (by decide) rfl (h0 (fun z => q1 ⟨by rw [t_0]; exact z.1, by rw [t_100]; exact z.2⟩))
/-- a way of the class that has begun anew -/
def BegW (σ τ : Mem) (j : Nat) (x y : Int32) : Prop := Eqs [2] σ τ ∧ (∀ k f, k ≠ j → gI τ 2 k f = gI σ 2 k f) ∧ gI τ 2 j 3 = 0 ∧ gI τ 2 j 4 = 0 ∧ gI τ 2 j 5 = x ∧ gI τ 2 j 6 = y ∧ gI τ 2 j 7 = 1
theorem begW {σ : Mem} {j : Nat} {x y : Int32} : BegW σ (pI (pI (pI (pI (pI σ 2 j 5 x) 2 j 6 y) 2 j 7 1) 2 j 3 0) 2 j 4 0) j x y := by
  refine ⟨Eqs.pI (Eqs.pI (Eqs.pI (Eqs.pI (Eqs.pI Eqs.rf List.mem_cons_self) List.mem_cons_self) List.mem_cons_self) List.mem_cons_self) List.mem_cons_self, fun k f hk => ?_, ?_, ?_, ?_, ?_, ?_⟩
  · rw [gI_pI, if_neg (by omega), gI_pI, if_neg (by omega), gI_pI, if_neg (by omega), gI_pI, if_neg (by omega), gI_pI, if_neg (by omega)]
  · rw [gI_pI, if_neg (by omega), gI_pI, if_pos ⟨rfl, rfl, rfl⟩]
  · rw [gI_pI, if_pos ⟨rfl, rfl, rfl⟩]
  · rw [gI_pI, if_neg (by omega), gI_pI, if_neg (by omega), gI_pI, if_neg (by omega), gI_pI, if_neg (by omega), gI_pI, if_pos ⟨rfl, rfl, rfl⟩]
  · rw [gI_pI, if_neg (by omega), gI_pI, if_neg (by omega), gI_pI, if_neg (by omega), gI_pI, if_pos ⟨rfl, rfl, rfl⟩]
  · rw [gI_pI, if_neg (by omega), gI_pI, if_neg (by omega), gI_pI, if_pos ⟨rfl, rfl, rfl⟩]
def wayO (w v : Int32) (j : Nat) : Prop := j < 12 ∧ w = nI j ∧ 0 ≤ v.toInt ∧ v.toInt ≤ 1000
set_option maxRecDepth 4000 in
set_option maxHeartbeats 400000 in
theorem c_begin {d : Nat} {σ : Mem} {Post : Option AV → Mem → Prop} {j : Nat} {x y : Int32} (hy : y = 0 ∨ y = 1) (h : ∀ τ : Mem, BegW σ τ j x y → Post none τ) : MM d M_Way_begin [vR 2 j, vI x, vI y] σ Post := by
  refine MM.of ok_Way_begin rfl ?_
  show WS _ M_Way_begin 0 [vR 2 j, vI x, vI y] [] σ _
  refine WS.run (C := []) (pc' := 5) (L' := [vR 2 j, vI x, vI y]) (S' := []) (σ' := pI σ 2 j 5 x) 3 rfl trivial ?_
  refine WS.run (C := [y = 0 ∨ y = 1]) (pc' := 10) (L' := [vR 2 j, vI x, vI y]) (S' := []) (σ' := pI (pI σ 2 j 5 x) 2 j 6 y) 3 rfl ⟨hy, trivial⟩ ?_
  refine WS.run (C := [(1 : Int32) = 0 ∨ (1 : Int32) = 1]) (pc' := 15) (L' := [vR 2 j, vI x, vI y]) (S' := []) (σ' := pI (pI (pI σ 2 j 5 x) 2 j 6 y) 2 j 7 (1 : Int32)) 3 rfl ⟨(Or.inr rfl), trivial⟩ ?_
  refine WS.run (C := []) (pc' := 20) (L' := [vR 2 j, vI x, vI y]) (S' := []) (σ' := pI (pI (pI (pI σ 2 j 5 x) 2 j 6 y) 2 j 7 (1 : Int32)) 2 j 3 (0 : Int32)) 3 rfl trivial ?_
  refine WS.run (C := []) (pc' := 25) (L' := [vR 2 j, vI x, vI y]) (S' := []) (σ' := pI (pI (pI (pI (pI σ 2 j 5 x) 2 j 6 y) 2 j 7 (1 : Int32)) 2 j 3 (0 : Int32)) 2 j 4 (0 : Int32)) 3 rfl trivial ?_
  exact WS.vret rfl rfl (h _ begW)
set_option maxRecDepth 4000 in
set_option maxHeartbeats 400000 in
theorem c_TMway {d : Nat} {σ : Mem} {Post : Option AV → Mem → Prop} {w v y : Int32} (hy : y = 0 ∨ y = 1) (h1 : ∀ (j : Nat) (τ : Mem), wayO w v j → BegW σ τ j v y → Post (some (vI 1)) τ) (h0 : (∀ j : Nat, ¬ wayO w v j) → Post (some (vI 0)) σ) : MM (d + 1) M_TM_way [vR 0 0, vI w, vI v, vI y] σ Post := by
  refine MM.of ok_TM_way rfl ?_
  show WS _ M_TM_way 0 [vR 0 0, vI w, vI v, vI y] [] σ _
  refine WS.run (C := []) (pc' := 3) (L' := [vR 0 0, vI w, vI v, vI y]) (S' := [vI (11 : Int32), vI w]) (σ' := σ) 2 rfl trivial ?_
  refine WS.callS M_TM_inRange (as := [vI w, vI (11 : Int32)]) (rest := []) rfl lk_10_71 rfl rfl (Nat.le_of_ble_eq_true rfl) ?_
  refine c_inRange (fun q1a q1b => ?_) (fun q1 => ?_)
  · obtain ⟨j, hj, rfl⟩ := t_nat (x := w) (n := 11) (by first | omega | (simp only [t_0] at *; omega)) (by first | omega | (simp only [t_11] at *; omega)) (by omega)
    have e_j : (nI j).toNatClampNeg = j := cl_n (by omega)
    show WS _ M_TM_way 6 [vR 0 0, vI (nI j), vI v, vI y] [vI (1 : Int32)] σ _
    refine WS.br (P := (1 : Int32) = 0) (a := 19) (b := 9) (S' := []) rfl (fun cc => absurd cc (by decide)) (fun _ => ?_)
    refine WS.run (C := []) (pc' := 13) (L' := [vR 0 0, vI (nI j), vI v, vI y]) (S' := [vI (1000 : Int32), vI v]) (σ' := σ) 2 rfl trivial ?_
    refine WS.callS M_TM_inRange (as := [vI v, vI (1000 : Int32)]) (rest := []) rfl lk_10_71 rfl rfl (Nat.le_of_ble_eq_true rfl) ?_
    refine c_inRange (fun q2a q2b => ?_) (fun q2 => ?_)
    · show WS _ M_TM_way 16 [vR 0 0, vI (nI j), vI v, vI y] [vI (1 : Int32)] σ _
      refine WS.br (P := (1 : Int32) = 0) (a := 19) (b := 21) (S' := []) rfl (fun cc => absurd cc (by decide)) (fun _ => ?_)
      refine WS.run (C := [vp_in (nI j) 12]) (pc' := 29) (L' := [vR 0 0, vI (nI j), vI v, vI y]) (S' := [vI y, vI v, vR 2 ((nI j).toNatClampNeg)]) (σ' := σ) 6 rfl ⟨(vp_n (by omega) (by omega)), trivial⟩ ?_
      simp only [e_j]
      refine WS.callV M_Way_begin (k := 2) (i := j) (as := [vI v, vI y]) (rest := []) rfl lk_10_75 rfl rfl rfl (Nat.le_of_ble_eq_true rfl) ?_
      refine c_begin hy (fun τ3 e3 => ?_)
      show WS _ M_TM_way 32 [vR 0 0, vI (nI j), vI v, vI y] [] τ3 _
      refine WS.run (C := []) (pc' := 33) (L' := [vR 0 0, vI (nI j), vI v, vI y]) (S' := [vI (1 : Int32)]) (σ' := τ3) 1 rfl trivial ?_
      exact WS.ret rfl rfl (by decide) rfl (h1 j _ ⟨by omega, rfl, by first | exact q2a | (have y := q2a; simp only [t_0, t_1000] at y; exact y), by first | exact q2b | (have y := q2b; simp only [t_0, t_1000] at y; exact y)⟩ e3)
    · show WS _ M_TM_way 16 [vR 0 0, vI (nI j), vI v, vI y] [vI (0 : Int32)] σ _
      refine WS.br (P := (0 : Int32) = 0) (a := 19) (b := 21) (S' := []) rfl (fun _ => ?_) (fun cc => absurd (by decide) cc)
      refine WS.run (C := []) (pc' := 20) (L' := [vR 0 0, vI (nI j), vI v, vI y]) (S' := [vI (0 : Int32)]) (σ' := σ) 1 rfl trivial ?_
      exact WS.ret rfl rfl (by decide) rfl (h0 (fun i z => q2 ⟨z.2.2.1, by rw [t_1000]; exact z.2.2.2⟩))
  · show WS _ M_TM_way 6 [vR 0 0, vI w, vI v, vI y] [vI (0 : Int32)] σ _
    refine WS.br (P := (0 : Int32) = 0) (a := 19) (b := 9) (S' := []) rfl (fun _ => ?_) (fun cc => absurd (by decide) cc)
    refine WS.run (C := []) (pc' := 20) (L' := [vR 0 0, vI w, vI v, vI y]) (S' := [vI (0 : Int32)]) (σ' := σ) 1 rfl trivial ?_
    exact WS.ret rfl rfl (by decide) rfl (h0 (fun i z => q1 (by rw [z.2.1, nI_t (by have := z.1; omega), t_11]; have := z.1; omega)))
def BegM (σ τ : Mem) (j : Nat) (x y : Int32) : Prop := Eqs [52, 53, 54, 55, 58] σ τ ∧ (∀ a k, k ≠ j → gI τ a 0 k = gI σ a 0 k) ∧ gI τ 52 0 j = 1 ∧ gI τ 53 0 j = x ∧ gI τ 54 0 j = y ∧ gI τ 55 0 j = 0 ∧ gI τ 58 0 j = 0
theorem begM {σ : Mem} {j : Nat} {x y : Int32} : BegM σ (pI (pI (pI (pI (pI σ 52 0 j 1) 53 0 j x) 54 0 j y) 55 0 j 0) 58 0 j 0) j x y := by
  refine ⟨Eqs.pI (Eqs.pI (Eqs.pI (Eqs.pI (Eqs.pI Eqs.rf (by decide)) (by decide)) (by decide)) (by decide)) (by decide), fun a k hk => ?_, ?_, ?_, ?_, ?_, ?_⟩
  · rw [gI_pI, if_neg (by omega), gI_pI, if_neg (by omega), gI_pI, if_neg (by omega), gI_pI, if_neg (by omega), gI_pI, if_neg (by omega)]
  · rw [gI_pI, if_neg (by omega), gI_pI, if_neg (by omega), gI_pI, if_neg (by omega), gI_pI, if_neg (by omega), gI_pI, if_pos ⟨rfl, rfl, rfl⟩]
  · rw [gI_pI, if_neg (by omega), gI_pI, if_neg (by omega), gI_pI, if_neg (by omega), gI_pI, if_pos ⟨rfl, rfl, rfl⟩]
  · rw [gI_pI, if_neg (by omega), gI_pI, if_neg (by omega), gI_pI, if_pos ⟨rfl, rfl, rfl⟩]
  · rw [gI_pI, if_neg (by omega), gI_pI, if_pos ⟨rfl, rfl, rfl⟩]
  · rw [gI_pI, if_pos ⟨rfl, rfl, rfl⟩]
set_option maxRecDepth 4000 in
set_option maxHeartbeats 400000 in
theorem c_Mway {d : Nat} {σ : Mem} {Post : Option AV → Mem → Prop} {w v y : Int32} (hy : y = 0 ∨ y = 1) (h1 : ∀ (j : Nat) (τ : Mem), wayO w v j → BegM σ τ j v y → Post (some (vI 1)) τ) (h0 : (∀ j : Nat, ¬ wayO w v j) → Post (some (vI 0)) σ) : MM (d + 1) M_MD_way [vR 51 0, vI w, vI v, vI y] σ Post := by
  refine MM.of ok_MD_way rfl ?_
  show WS _ M_MD_way 0 [vR 51 0, vI w, vI v, vI y] [] σ _
  refine WS.run (C := []) (pc' := 4) (L' := [vR 51 0, vI w, vI v, vI y]) (S' := [vI (11 : Int32), vI (0 : Int32), vI w]) (σ' := σ) 3 rfl trivial ?_
  refine WS.callS M_MD_isIn (as := [vI w, vI (0 : Int32), vI (11 : Int32)]) (rest := []) rfl lk_11_114 rfl rfl (Nat.le_of_ble_eq_true rfl) ?_
  refine c_MisIn (fun q1a q1b => ?_) (fun q1 => ?_)
  · obtain ⟨j, hj, rfl⟩ := t_nat (x := w) (n := 11) (by first | omega | (simp only [t_0] at *; omega)) (by first | omega | (simp only [t_11] at *; omega)) (by omega)
    have e_j : (nI j).toNatClampNeg = j := cl_n (by omega)
    show WS _ M_MD_way 7 [vR 51 0, vI (nI j), vI v, vI y] [vI (1 : Int32)] σ _
    refine WS.br (P := (1 : Int32) = 0) (a := 21) (b := 10) (S' := []) rfl (fun cc => absurd cc (by decide)) (fun _ => ?_)
    refine WS.run (C := []) (pc' := 15) (L' := [vR 51 0, vI (nI j), vI v, vI y]) (S' := [vI (1000 : Int32), vI (0 : Int32), vI v]) (σ' := σ) 3 rfl trivial ?_
    refine WS.callS M_MD_isIn (as := [vI v, vI (0 : Int32), vI (1000 : Int32)]) (rest := []) rfl lk_11_114 rfl rfl (Nat.le_of_ble_eq_true rfl) ?_
    refine c_MisIn (fun q2a q2b => ?_) (fun q2 => ?_)
    · show WS _ M_MD_way 18 [vR 51 0, vI (nI j), vI v, vI y] [vI (1 : Int32)] σ _
      refine WS.br (P := (1 : Int32) = 0) (a := 21) (b := 23) (S' := []) rfl (fun cc => absurd cc (by decide)) (fun _ => ?_)
      refine WS.run (C := [vp_in (nI j) 12, (1 : Int32) = 0 ∨ (1 : Int32) = 1]) (pc' := 30) (L' := [vR 51 0, vI (nI j), vI v, vI y]) (S' := []) (σ' := pI σ 52 0 (nI j).toNatClampNeg (1 : Int32)) 5 rfl ⟨(vp_n (by omega) (by omega)), (Or.inr rfl), trivial⟩ ?_
      simp only [e_j]
      refine WS.run (C := [vp_in (nI j) 12]) (pc' := 37) (L' := [vR 51 0, vI (nI j), vI v, vI y]) (S' := []) (σ' := pI (pI σ 52 0 j (1 : Int32)) 53 0 (nI j).toNatClampNeg v) 5 rfl ⟨(vp_n (by omega) (by omega)), trivial⟩ ?_
      simp only [e_j]
      refine WS.run (C := [vp_in (nI j) 12, y = 0 ∨ y = 1]) (pc' := 44) (L' := [vR 51 0, vI (nI j), vI v, vI y]) (S' := []) (σ' := pI (pI (pI σ 52 0 j (1 : Int32)) 53 0 j v) 54 0 (nI j).toNatClampNeg y) 5 rfl ⟨(vp_n (by omega) (by omega)), hy, trivial⟩ ?_
      simp only [e_j]
      refine WS.run (C := [vp_in (nI j) 12]) (pc' := 51) (L' := [vR 51 0, vI (nI j), vI v, vI y]) (S' := []) (σ' := pI (pI (pI (pI σ 52 0 j (1 : Int32)) 53 0 j v) 54 0 j y) 55 0 (nI j).toNatClampNeg (0 : Int32)) 5 rfl ⟨(vp_n (by omega) (by omega)), trivial⟩ ?_
      simp only [e_j]
      refine WS.run (C := [vp_in (nI j) 12]) (pc' := 58) (L' := [vR 51 0, vI (nI j), vI v, vI y]) (S' := []) (σ' := pI (pI (pI (pI (pI σ 52 0 j (1 : Int32)) 53 0 j v) 54 0 j y) 55 0 j (0 : Int32)) 58 0 (nI j).toNatClampNeg (0 : Int32)) 5 rfl ⟨(vp_n (by omega) (by omega)), trivial⟩ ?_
      simp only [e_j]
      refine WS.run (C := []) (pc' := 59) (L' := [vR 51 0, vI (nI j), vI v, vI y]) (S' := [vI (1 : Int32)]) (σ' := pI (pI (pI (pI (pI σ 52 0 j (1 : Int32)) 53 0 j v) 54 0 j y) 55 0 j (0 : Int32)) 58 0 j (0 : Int32)) 1 rfl trivial ?_
      exact WS.ret rfl rfl (by decide) rfl (h1 j _ ⟨by omega, rfl, by first | exact q2a | (have y := q2a; simp only [t_0, t_1000] at y; exact y), by first | exact q2b | (have y := q2b; simp only [t_0, t_1000] at y; exact y)⟩ begM)
    · show WS _ M_MD_way 18 [vR 51 0, vI (nI j), vI v, vI y] [vI (0 : Int32)] σ _
      refine WS.br (P := (0 : Int32) = 0) (a := 21) (b := 23) (S' := []) rfl (fun _ => ?_) (fun cc => absurd (by decide) cc)
      refine WS.run (C := []) (pc' := 22) (L' := [vR 51 0, vI (nI j), vI v, vI y]) (S' := [vI (0 : Int32)]) (σ' := σ) 1 rfl trivial ?_
      exact WS.ret rfl rfl (by decide) rfl (h0 (fun i z => q2 ⟨by rw [t_0]; exact z.2.2.1, by rw [t_1000]; exact z.2.2.2⟩))
  · show WS _ M_MD_way 7 [vR 51 0, vI w, vI v, vI y] [vI (0 : Int32)] σ _
    refine WS.br (P := (0 : Int32) = 0) (a := 21) (b := 10) (S' := []) rfl (fun _ => ?_) (fun cc => absurd (by decide) cc)
    refine WS.run (C := []) (pc' := 22) (L' := [vR 51 0, vI w, vI v, vI y]) (S' := [vI (0 : Int32)]) (σ' := σ) 1 rfl trivial ?_
    exact WS.ret rfl rfl (by decide) rfl (h0 (fun i z => q1 (by rw [z.2.1, nI_t (by have := z.1; omega), t_0, t_11]; have := z.1; omega)))
end
section
/-! contracts: letters, spot, texture -/
theorem t_7 : (7 : Int32).toInt = 7 := by decide
theorem t_97 : (97 : Int32).toInt = 97 := by decide
theorem t_122 : (122 : Int32).toInt = 122 := by decide
theorem t_12 : (12 : Int32).toInt = 12 := by decide
set_option maxRecDepth 4000 in
set_option maxHeartbeats 400000 in
theorem c_TMspot {d : Nat} {σ : Mem} {Post : Option AV → Mem → Prop} {v : Int32} (h1 : ∀ j : Nat, j < 8 → v = nI j → Post (some (vI (gI σ 44 0 j))) σ) (h0 : (∀ j : Nat, j < 8 → v ≠ nI j) → Post (some (vI (-1))) σ) : MM (d + 1) M_TM_spot [vR 0 0, vI v] σ Post := by
  refine MM.of ok_TM_spot rfl ?_
  show WS _ M_TM_spot 0 [vR 0 0, vI v] [] σ _
  refine WS.run (C := []) (pc' := 3) (L' := [vR 0 0, vI v]) (S' := [vI (7 : Int32), vI v]) (σ' := σ) 2 rfl trivial ?_
  refine WS.callS M_TM_inRange (as := [vI v, vI (7 : Int32)]) (rest := []) rfl lk_10_71 rfl rfl (Nat.le_of_ble_eq_true rfl) ?_
  refine c_inRange (fun q1a q1b => ?_) (fun q1 => ?_)
  · obtain ⟨j, hj, rfl⟩ := t_nat (x := v) (n := 7) (by first | omega | (simp only [t_0] at *; omega)) (by first | omega | (simp only [t_7] at *; omega)) (by omega)
    have e_j : (nI j).toNatClampNeg = j := cl_n (by omega)
    show WS _ M_TM_spot 6 [vR 0 0, vI (nI j)] [vI (1 : Int32)] σ _
    refine WS.br (P := (1 : Int32) = 0) (a := 21) (b := 9) (S' := []) rfl (fun cc => absurd cc (by decide)) (fun _ => ?_)
    refine WS.run (C := [vp_in (nI j) 8]) (pc' := 22) (L' := [vR 0 0, vI (nI j)]) (S' := [vI (gI σ 44 0 (nI j).toNatClampNeg)]) (σ' := σ) 6 rfl ⟨(vp_n (by omega) (by omega)), trivial⟩ ?_
    simp only [e_j]
    exact WS.ret rfl rfl (by decide) rfl (h1 j (by omega) rfl)
  · show WS _ M_TM_spot 6 [vR 0 0, vI v] [vI (0 : Int32)] σ _
    refine WS.br (P := (0 : Int32) = 0) (a := 21) (b := 9) (S' := []) rfl (fun _ => ?_) (fun cc => absurd (by decide) cc)
    refine WS.run (C := []) (pc' := 22) (L' := [vR 0 0, vI v]) (S' := [vI (-1 : Int32)]) (σ' := σ) 1 rfl trivial ?_
    exact WS.ret rfl rfl (by decide) rfl (h0 (fun i hi e => q1 (by rw [e, nI_t (by omega), t_7]; omega)))
set_option maxRecDepth 4000 in
set_option maxHeartbeats 400000 in
theorem c_Mspot {d : Nat} {σ : Mem} {Post : Option AV → Mem → Prop} {v : Int32} (h1 : ∀ j : Nat, j < 8 → v = nI j → Post (some (vI (gI σ 80 0 j))) σ) (h0 : (∀ j : Nat, j < 8 → v ≠ nI j) → Post (some (vI (-1))) σ) : MM (d + 1) M_MD_spot [vR 51 0, vI v] σ Post := by
  refine MM.of ok_MD_spot rfl ?_
  show WS _ M_MD_spot 0 [vR 51 0, vI v] [] σ _
  refine WS.run (C := []) (pc' := 4) (L' := [vR 51 0, vI v]) (S' := [vI (7 : Int32), vI (0 : Int32), vI v]) (σ' := σ) 3 rfl trivial ?_
  refine WS.callS M_MD_isIn (as := [vI v, vI (0 : Int32), vI (7 : Int32)]) (rest := []) rfl lk_11_114 rfl rfl (Nat.le_of_ble_eq_true rfl) ?_
  refine c_MisIn (fun q1a q1b => ?_) (fun q1 => ?_)
  · obtain ⟨j, hj, rfl⟩ := t_nat (x := v) (n := 7) (by first | omega | (simp only [t_0] at *; omega)) (by first | omega | (simp only [t_7] at *; omega)) (by omega)
    have e_j : (nI j).toNatClampNeg = j := cl_n (by omega)
    show WS _ M_MD_spot 7 [vR 51 0, vI (nI j)] [vI (1 : Int32)] σ _
    refine WS.br (P := (1 : Int32) = 0) (a := 19) (b := 10) (S' := []) rfl (fun cc => absurd cc (by decide)) (fun _ => ?_)
    refine WS.run (C := [vp_in (nI j) 8]) (pc' := 20) (L' := [vR 51 0, vI (nI j)]) (S' := [vI (gI σ 80 0 (nI j).toNatClampNeg)]) (σ' := σ) 5 rfl ⟨(vp_n (by omega) (by omega)), trivial⟩ ?_
    simp only [e_j]
    exact WS.ret rfl rfl (by decide) rfl (h1 j (by omega) rfl)
  · show WS _ M_MD_spot 7 [vR 51 0, vI v] [vI (0 : Int32)] σ _
    refine WS.br (P := (0 : Int32) = 0) (a := 19) (b := 10) (S' := []) rfl (fun _ => ?_) (fun cc => absurd (by decide) cc)
    refine WS.run (C := []) (pc' := 20) (L' := [vR 51 0, vI v]) (S' := [vI (-1 : Int32)]) (σ' := σ) 1 rfl trivial ?_
    exact WS.ret rfl rfl (by decide) rfl (h0 (fun i hi e => q1 (by rw [e, nI_t (by omega), t_0, t_7]; omega)))
def letO (c : Int32) (l : Nat) : Prop := 97 ≤ c.toInt ∧ c.toInt ≤ 122 ∧ l < 12
theorem of12 : Int32.ofNat 12 = nI 12 := rfl
theorem of4 : Int32.ofNat 4 = nI 4 := rfl
set_option maxRecDepth 4000 in
set_option maxHeartbeats 400000 in
theorem c_append22 {d : Nat} {σ : Mem} {Post : Option AV → Mem → Prop} {i l : Nat} {c : Int32} (hl : gI σ 22 i 1 = nI l) (hn : l ≤ 12) (h1 : l < 12 → Post none (pI (pI σ 23 i l c) 22 i 1 (nI (l + 1)))) (h0 : ¬ l < 12 → Post none σ) : MM d M_Word_append [vR 22 i, vI c] σ Post := by
  have e_l : (nI l).toNatClampNeg = l := cl_n (by omega)
  have hl2 : gI (pI σ 23 i l c) 22 i 1 = nI l := by rw [gI_pI, if_neg (by omega)]; exact hl
  refine MM.of ok_Word_append rfl ?_
  show WS _ M_Word_append 0 [vR 22 i, vI c] [] σ _
  refine WS.run (C := []) (pc' := 9) (L' := [vR 22 i, vI c]) (S' := [vI (Int32.ofNat 12), vI (gI σ 22 i 1)]) (σ' := σ) 5 rfl trivial ?_
  simp only [hl, e_l]
  refine WS.br (P := (Int32.ofNat 12) ≤ (nI l)) (a := 32) (b := 12) (S' := []) rfl (fun c1 => ?_) (fun c1 => ?_)
  · exact WS.vret rfl rfl (h0 (by simp only [of12, of4, t_le] at c1; rw [nI_t (by omega), nI_t (by omega)] at c1; omega))
  · refine WS.run (C := [vp_in (gI σ 22 i 1) 12]) (pc' := 22) (L' := [vR 22 i, vI c]) (S' := []) (σ' := pI σ 23 i (gI σ 22 i 1).toNatClampNeg c) 6 rfl ⟨(by rw [hl]; exact vp_n (by simp only [of12, of4, t_le] at c1; rw [nI_t (by omega), nI_t (by omega)] at c1; omega) (by omega)), trivial⟩ ?_
    simp only [hl, e_l]
    refine WS.run (C := []) (pc' := 32) (L' := [vR 22 i, vI c]) (S' := []) (σ' := pI (pI σ 23 i l c) 22 i 1 (gI (pI σ 23 i l c) 22 i 1 + (1 : Int32))) 6 rfl trivial ?_
    exact WS.vret rfl rfl (by simp only [of12, of4, t_le] at c1; rw [nI_t (by omega), nI_t (by omega)] at c1; rw [hl2, nI_1]; exact h1 (by omega))
set_option maxRecDepth 4000 in
set_option maxHeartbeats 400000 in
theorem c_append8 {d : Nat} {σ : Mem} {Post : Option AV → Mem → Prop} {i l : Nat} {c : Int32} (hl : gI σ 8 i 1 = nI l) (hn : l ≤ 12) (h1 : l < 12 → Post none (pI (pI σ 9 i l c) 8 i 1 (nI (l + 1)))) (h0 : ¬ l < 12 → Post none σ) : MM d M_Word_append [vR 8 i, vI c] σ Post := by
  have e_l : (nI l).toNatClampNeg = l := cl_n (by omega)
  have hl2 : gI (pI σ 9 i l c) 8 i 1 = nI l := by rw [gI_pI, if_neg (by omega)]; exact hl
  refine MM.of ok_Word_append rfl ?_
  show WS _ M_Word_append 0 [vR 8 i, vI c] [] σ _
  refine WS.run (C := []) (pc' := 9) (L' := [vR 8 i, vI c]) (S' := [vI (Int32.ofNat 12), vI (gI σ 8 i 1)]) (σ' := σ) 5 rfl trivial ?_
  simp only [hl, e_l]
  refine WS.br (P := (Int32.ofNat 12) ≤ (nI l)) (a := 32) (b := 12) (S' := []) rfl (fun c1 => ?_) (fun c1 => ?_)
  · exact WS.vret rfl rfl (h0 (by simp only [of12, of4, t_le] at c1; rw [nI_t (by omega), nI_t (by omega)] at c1; omega))
  · refine WS.run (C := [vp_in (gI σ 8 i 1) 12]) (pc' := 22) (L' := [vR 8 i, vI c]) (S' := []) (σ' := pI σ 9 i (gI σ 8 i 1).toNatClampNeg c) 6 rfl ⟨(by rw [hl]; exact vp_n (by simp only [of12, of4, t_le] at c1; rw [nI_t (by omega), nI_t (by omega)] at c1; omega) (by omega)), trivial⟩ ?_
    simp only [hl, e_l]
    refine WS.run (C := []) (pc' := 32) (L' := [vR 8 i, vI c]) (S' := []) (σ' := pI (pI σ 9 i l c) 8 i 1 (gI (pI σ 9 i l c) 8 i 1 + (1 : Int32))) 6 rfl trivial ?_
    exact WS.vret rfl rfl (by simp only [of12, of4, t_le] at c1; rw [nI_t (by omega), nI_t (by omega)] at c1; rw [hl2, nI_1]; exact h1 (by omega))
set_option maxRecDepth 4000 in
set_option maxHeartbeats 400000 in
theorem c_append31 {d : Nat} {σ : Mem} {Post : Option AV → Mem → Prop} {i l : Nat} {c : Int32} (hl : gI σ 31 i 1 = nI l) (hn : l ≤ 4) (h1 : l < 4 → Post none (pI (pI σ 32 i l c) 31 i 1 (nI (l + 1)))) (h0 : ¬ l < 4 → Post none σ) : MM d M_Word_append [vR 31 i, vI c] σ Post := by
  have e_l : (nI l).toNatClampNeg = l := cl_n (by omega)
  have hl2 : gI (pI σ 32 i l c) 31 i 1 = nI l := by rw [gI_pI, if_neg (by omega)]; exact hl
  refine MM.of ok_Word_append rfl ?_
  show WS _ M_Word_append 0 [vR 31 i, vI c] [] σ _
  refine WS.run (C := []) (pc' := 9) (L' := [vR 31 i, vI c]) (S' := [vI (Int32.ofNat 4), vI (gI σ 31 i 1)]) (σ' := σ) 5 rfl trivial ?_
  simp only [hl, e_l]
  refine WS.br (P := (Int32.ofNat 4) ≤ (nI l)) (a := 32) (b := 12) (S' := []) rfl (fun c1 => ?_) (fun c1 => ?_)
  · exact WS.vret rfl rfl (h0 (by simp only [of12, of4, t_le] at c1; rw [nI_t (by omega), nI_t (by omega)] at c1; omega))
  · refine WS.run (C := [vp_in (gI σ 31 i 1) 4]) (pc' := 22) (L' := [vR 31 i, vI c]) (S' := []) (σ' := pI σ 32 i (gI σ 31 i 1).toNatClampNeg c) 6 rfl ⟨(by rw [hl]; exact vp_n (by simp only [of12, of4, t_le] at c1; rw [nI_t (by omega), nI_t (by omega)] at c1; omega) (by omega)), trivial⟩ ?_
    simp only [hl, e_l]
    refine WS.run (C := []) (pc' := 32) (L' := [vR 31 i, vI c]) (S' := []) (σ' := pI (pI σ 32 i l c) 31 i 1 (gI (pI σ 32 i l c) 31 i 1 + (1 : Int32))) 6 rfl trivial ?_
    exact WS.vret rfl rfl (by simp only [of12, of4, t_le] at c1; rw [nI_t (by omega), nI_t (by omega)] at c1; rw [hl2, nI_1]; exact h1 (by omega))
end
section
/-! contracts: letter, clear, texture -/
set_option maxRecDepth 4000 in
set_option maxHeartbeats 400000 in
theorem c_clear22 {d : Nat} {σ : Mem} {Post : Option AV → Mem → Prop} {i : Nat} (h : Post none (pI σ 22 i 1 0)) : MM d M_Word_clear [vR 22 i] σ Post := by
  refine MM.of ok_Word_clear rfl ?_
  show WS _ M_Word_clear 0 [vR 22 i] [] σ _
  refine WS.run (C := []) (pc' := 5) (L' := [vR 22 i]) (S' := []) (σ' := pI σ 22 i 1 (0 : Int32)) 3 rfl trivial ?_
  exact WS.vret rfl rfl h
set_option maxRecDepth 4000 in
set_option maxHeartbeats 400000 in
theorem c_clear8 {d : Nat} {σ : Mem} {Post : Option AV → Mem → Prop} {i : Nat} (h : Post none (pI σ 8 i 1 0)) : MM d M_Word_clear [vR 8 i] σ Post := by
  refine MM.of ok_Word_clear rfl ?_
  show WS _ M_Word_clear 0 [vR 8 i] [] σ _
  refine WS.run (C := []) (pc' := 5) (L' := [vR 8 i]) (S' := []) (σ' := pI σ 8 i 1 (0 : Int32)) 3 rfl trivial ?_
  exact WS.vret rfl rfl h
set_option maxRecDepth 4000 in
set_option maxHeartbeats 400000 in
theorem c_clear31 {d : Nat} {σ : Mem} {Post : Option AV → Mem → Prop} {i : Nat} (h : Post none (pI σ 31 i 1 0)) : MM d M_Word_clear [vR 31 i] σ Post := by
  refine MM.of ok_Word_clear rfl ?_
  show WS _ M_Word_clear 0 [vR 31 i] [] σ _
  refine WS.run (C := []) (pc' := 5) (L' := [vR 31 i]) (S' := []) (σ' := pI σ 31 i 1 (0 : Int32)) 3 rfl trivial ?_
  exact WS.vret rfl rfl h
set_option maxRecDepth 4000 in
set_option maxHeartbeats 400000 in
theorem c_TMletter {d : Nat} {σ : Mem} {Post : Option AV → Mem → Prop} {l : Nat} {c : Int32} (hl : gI σ 22 0 1 = nI l) (hn : l ≤ 12) (h1 : letO c l → Post (some (vI (nI (l + 1)))) (pI (pI σ 23 0 l c) 22 0 1 (nI (l + 1)))) (h0 : ¬ letO c l → Post (some (vI (-1))) σ) : MM (d + 1) M_TM_letter [vR 0 0, vI c] σ Post := by
  refine MM.of ok_TM_letter rfl ?_
  show WS _ M_TM_letter 0 [vR 0 0, vI c] [] σ _
  refine WS.run (C := []) (pc' := 3) (L' := [vR 0 0, vI c]) (S' := [vI (97 : Int32), vI c]) (σ' := σ) 2 rfl trivial ?_
  refine WS.br (P := c < (97 : Int32)) (a := 24) (b := 6) (S' := []) rfl (fun c1 => ?_) (fun c1 => ?_)
  · refine WS.run (C := []) (pc' := 25) (L' := [vR 0 0, vI c]) (S' := [vI (-1 : Int32)]) (σ' := σ) 1 rfl trivial ?_
    exact WS.ret rfl rfl (by decide) rfl (h0 (by unfold letO; simp only [hl, t_lt, t_le, t_97, t_122, t_12] at *; omega))
  · refine WS.run (C := []) (pc' := 9) (L' := [vR 0 0, vI c]) (S' := [vI (122 : Int32), vI c]) (σ' := σ) 2 rfl trivial ?_
    refine WS.br (P := (122 : Int32) < c) (a := 24) (b := 12) (S' := []) rfl (fun c2 => ?_) (fun c2 => ?_)
    · refine WS.run (C := []) (pc' := 25) (L' := [vR 0 0, vI c]) (S' := [vI (-1 : Int32)]) (σ' := σ) 1 rfl trivial ?_
      exact WS.ret rfl rfl (by decide) rfl (h0 (by unfold letO; simp only [hl, t_lt, t_le, t_97, t_122, t_12] at *; omega))
    · refine WS.run (C := []) (pc' := 21) (L' := [vR 0 0, vI c]) (S' := [vI (12 : Int32), vI (gI σ 22 0 1)]) (σ' := σ) 4 rfl trivial ?_
      refine WS.br (P := (gI σ 22 0 1) < (12 : Int32)) (a := 26) (b := 24) (S' := []) rfl (fun c3 => ?_) (fun c3 => ?_)
      · refine WS.run (C := []) (pc' := 31) (L' := [vR 0 0, vI c]) (S' := [vI c, vR 22 0]) (σ' := σ) 3 rfl trivial ?_
        refine WS.callV M_Word_append (k := 22) (i := 0) (as := [vI c]) (rest := []) rfl lk_10_136 rfl rfl rfl (Nat.le_of_ble_eq_true rfl) ?_
        have hl12 : l < 12 := by
          have z := c3
          rw [hl, t_lt, nI_t (by omega), t_12] at z
          omega
        refine c_append22 hl (by omega) (fun _ => ?_) (fun z => absurd hl12 z)
        show WS _ M_TM_letter 34 [vR 0 0, vI c] [] (pI (pI σ 23 0 l c) 22 0 1 (nI (l + 1))) _
        refine WS.run (C := []) (pc' := 41) (L' := [vR 0 0, vI c]) (S' := [vI (gI (pI (pI σ 23 0 l c) 22 0 1 (nI (l + 1))) 22 0 1)]) (σ' := (pI (pI σ 23 0 l c) 22 0 1 (nI (l + 1)))) 3 rfl trivial ?_
        exact WS.ret rfl rfl (by decide) rfl (by rw [gI_pI, if_pos ⟨rfl, rfl, rfl⟩]; exact h1 ⟨by simp only [t_lt, t_97] at *; omega, by simp only [t_lt, t_122] at *; omega, hl12⟩)
      · refine WS.run (C := []) (pc' := 25) (L' := [vR 0 0, vI c]) (S' := [vI (-1 : Int32)]) (σ' := σ) 1 rfl trivial ?_
        exact WS.ret rfl rfl (by decide) rfl (h0 (by unfold letO; simp only [hl, t_lt, t_le, t_97, t_122, t_12] at *; rw [nI_t (by omega)] at *; omega))
set_option maxRecDepth 4000 in
set_option maxHeartbeats 400000 in
theorem c_Mletter {d : Nat} {σ : Mem} {Post : Option AV → Mem → Prop} {l : Nat} {c : Int32} (hl : gI σ 51 0 15 = nI l) (hn : l ≤ 12) (h1 : letO c l → Post (some (vI (nI (l + 1)))) (pI (pI σ 63 0 l c) 51 0 15 (nI l + 1))) (h0 : ¬ letO c l → Post (some (vI (-1))) σ) : MM d M_MD_letter [vR 51 0, vI c] σ Post := by
  have e_l : (nI l).toNatClampNeg = l := cl_n (by omega)
  have hl2 : gI (pI σ 63 0 l c) 51 0 15 = nI l := by rw [gI_pI, if_neg (by omega)]; exact hl
  have hl12 : ¬ nI l = 12 → l < 12 := by
    intro z
    rw [t_eq, nI_t (by omega), t_12] at z
    omega
  refine MM.of ok_MD_letter rfl ?_
  show WS _ M_MD_letter 0 [vR 51 0, vI c] [] σ _
  refine WS.run (C := []) (pc' := 3) (L' := [vR 51 0, vI c]) (S' := [vI (97 : Int32), vI c]) (σ' := σ) 2 rfl trivial ?_
  refine WS.br (P := c < (97 : Int32)) (a := 21) (b := 6) (S' := []) rfl (fun c1 => ?_) (fun c1 => ?_)
  · refine WS.run (C := []) (pc' := 22) (L' := [vR 51 0, vI c]) (S' := [vI (-1 : Int32)]) (σ' := σ) 1 rfl trivial ?_
    exact WS.ret rfl rfl (by decide) rfl (h0 (by unfold letO; simp only [t_lt, t_97, t_122] at *; omega))
  · refine WS.run (C := []) (pc' := 9) (L' := [vR 51 0, vI c]) (S' := [vI (122 : Int32), vI c]) (σ' := σ) 2 rfl trivial ?_
    refine WS.br (P := (122 : Int32) < c) (a := 21) (b := 12) (S' := []) rfl (fun c2 => ?_) (fun c2 => ?_)
    · refine WS.run (C := []) (pc' := 22) (L' := [vR 51 0, vI c]) (S' := [vI (-1 : Int32)]) (σ' := σ) 1 rfl trivial ?_
      exact WS.ret rfl rfl (by decide) rfl (h0 (by unfold letO; simp only [t_lt, t_97, t_122] at *; omega))
    · refine WS.run (C := []) (pc' := 18) (L' := [vR 51 0, vI c]) (S' := [vI (12 : Int32), vI (gI σ 51 0 15)]) (σ' := σ) 3 rfl trivial ?_
      simp only [hl, e_l]
      refine WS.br (P := (nI l) = (12 : Int32)) (a := 21) (b := 23) (S' := []) rfl (fun c3 => ?_) (fun c3 => ?_)
      · refine WS.run (C := []) (pc' := 22) (L' := [vR 51 0, vI c]) (S' := [vI (-1 : Int32)]) (σ' := σ) 1 rfl trivial ?_
        exact WS.ret rfl rfl (by decide) rfl (h0 (by unfold letO; have z := c3; rw [t_eq, nI_t (by omega), t_12] at z; omega))
      · refine WS.run (C := [vp_in (gI σ 51 0 15) 12]) (pc' := 33) (L' := [vR 51 0, vI c]) (S' := []) (σ' := pI σ 63 0 (gI σ 51 0 15).toNatClampNeg c) 6 rfl ⟨(by rw [hl]; exact vp_n (hl12 c3) (by omega)), trivial⟩ ?_
        simp only [hl, e_l]
        refine WS.run (C := []) (pc' := 43) (L' := [vR 51 0, vI c]) (S' := []) (σ' := pI (pI σ 63 0 l c) 51 0 15 (gI (pI σ 63 0 l c) 51 0 15 + (1 : Int32))) 6 rfl trivial ?_
        refine WS.run (C := []) (pc' := 47) (L' := [vR 51 0, vI c]) (S' := [vI (gI (pI (pI σ 63 0 l c) 51 0 15 (gI (pI σ 63 0 l c) 51 0 15 + (1 : Int32))) 51 0 15)]) (σ' := pI (pI σ 63 0 l c) 51 0 15 (gI (pI σ 63 0 l c) 51 0 15 + (1 : Int32))) 2 rfl trivial ?_
        exact WS.ret rfl rfl (by decide) rfl (by rw [gI_pI, if_pos ⟨rfl, rfl, rfl⟩, hl2, nI_1]; have y := h1 ⟨by simp only [t_lt, t_97] at *; omega, by simp only [t_lt, t_122] at *; omega, hl12 c3⟩; rw [nI_1] at y; exact y)
end
section
/-! contracts: a point of a way of the class -/
/-- a row of numbers filled up to k -/
def Fil (σ τ : Mem) (a b k : Nat) : Prop := (∀ p q f, ¬ (p = a ∧ q = b) → gI τ p q f = gI σ p q f) ∧ (∀ p q f, gJ τ p q f = gJ σ p q f) ∧ ∀ i, i < k → gI τ a b i = nI i
theorem Fil.z {σ : Mem} {a b : Nat} : Fil σ σ a b 0 := ⟨fun _ _ _ _ => rfl, fun _ _ _ => rfl, fun _ h => absurd h (Nat.not_lt_zero _)⟩
theorem Fil.s {σ τ : Mem} {a b k : Nat} (h : Fil σ τ a b k) : Fil σ (pI τ a b k (nI k)) a b (k + 1) := by
  refine ⟨fun p q f hn => ?_, fun p q f => h.2.1 p q f, fun i hi => ?_⟩
  · rw [gI_pI, if_neg (fun z => hn ⟨z.1, z.2.1⟩)]; exact h.1 p q f hn
  · rw [gI_pI]
    by_cases e : i = k
    · rw [if_pos ⟨rfl, rfl, e⟩, e]
    · rw [if_neg (fun z => e z.2.2)]; exact h.2.2 i (by omega)
/-- a point more -/
def AddW (σ τ : Mem) (w c : Nat) (x y : Int32) : Prop := (∀ a k f, ¬ ((a = 2 ∨ a = 3 ∨ a = 4 ∨ a = 5) ∧ k = w) → gI τ a k f = gI σ a k f) ∧ (∀ a k f, gJ τ a k f = gJ σ a k f) ∧ (∀ f, f ≠ 3 → f ≠ 4 → gI τ 2 w f = gI σ 2 w f) ∧ gI τ 2 w 3 = nI (c + 1) ∧ gI τ 2 w 4 = nI (c + 1) ∧ (∀ i, i ≠ c → gI τ 3 w i = gI σ 3 w i) ∧ gI τ 3 w c = x ∧ (∀ i, i ≠ c → gI τ 4 w i = gI σ 4 w i) ∧ gI τ 4 w c = y ∧ ∀ i, i < c + 1 → gI τ 5 w i = nI i
theorem addW {σ σ1 σ2 σ3 τ υ : Mem} {w c : Nat} {x y : Int32} (h1 : σ1 = pI σ 3 w c x) (h2 : σ2 = pI σ1 4 w c y) (h3 : σ3 = pI σ2 2 w 3 (nI (c + 1))) (hf : Fil σ3 τ 5 w (c + 1)) (h4 : υ = pI τ 2 w 4 (nI (c + 1))) : AddW σ υ w c x y := by
  have k3 : ∀ a k f, gI σ3 a k f = if a = 2 ∧ k = w ∧ f = 3 then nI (c + 1) else if a = 4 ∧ k = w ∧ f = c then y else if a = 3 ∧ k = w ∧ f = c then x else gI σ a k f := by
    intro a k f
    rw [h3, gI_pI, h2, gI_pI, h1, gI_pI]
  have ku : ∀ a k f, ¬ (a = 5 ∧ k = w) → gI υ a k f = if a = 2 ∧ k = w ∧ f = 4 then nI (c + 1) else gI σ3 a k f := by
    intro a k f hn
    rw [h4, gI_pI, hf.1 a k f hn]
  refine ⟨fun a k f hn => ?_, fun a k f => ?_, fun f n3 n4 => ?_, ?_, ?_, fun i hi => ?_, ?_, fun i hi => ?_, ?_, fun i hi => ?_⟩
  · rw [ku a k f (fun z => hn ⟨Or.inr (Or.inr (Or.inr z.1)), z.2⟩), if_neg (fun z => hn ⟨Or.inl z.1, z.2.1⟩), k3, if_neg (fun z => hn ⟨Or.inl z.1, z.2.1⟩), if_neg (fun z => hn ⟨Or.inr (Or.inr (Or.inl z.1)), z.2.1⟩), if_neg (fun z => hn ⟨Or.inr (Or.inl z.1), z.2.1⟩)]
  · rw [h4, gJ_pI, hf.2.1, h3, gJ_pI, h2, gJ_pI, h1, gJ_pI]
  · rw [ku 2 w f (by omega), if_neg (fun z => n4 z.2.2), k3, if_neg (fun z => n3 z.2.2), if_neg (by omega), if_neg (by omega)]
  · rw [ku 2 w 3 (by omega), if_neg (by omega), k3, if_pos ⟨rfl, rfl, rfl⟩]
  · rw [ku 2 w 4 (by omega), if_pos ⟨rfl, rfl, rfl⟩]
  · rw [ku 3 w i (by omega), if_neg (by omega), k3, if_neg (by omega), if_neg (by omega), if_neg (fun z => hi z.2.2)]
  · rw [ku 3 w c (by omega), if_neg (by omega), k3, if_neg (by omega), if_neg (by omega), if_pos ⟨rfl, rfl, rfl⟩]
  · rw [ku 4 w i (by omega), if_neg (by omega), k3, if_neg (by omega), if_neg (fun z => hi z.2.2), if_neg (by omega)]
  · rw [ku 4 w c (by omega), if_neg (by omega), k3, if_neg (by omega), if_pos ⟨rfl, rfl, rfl⟩]
  · rw [h4, gI_pI, if_neg (by omega)]; exact hf.2.2 i hi
theorem lc4 {x : Int32} {s i : Nat} (h : x = nI s) (hs : s ≤ 1000) (hi : i ≤ 1000) : (x ≤ nI i) ↔ s ≤ i := by
  rw [h, t_le, nI_t (by omega), nI_t (by omega)]; omega
set_option maxRecDepth 4000 in
set_option maxHeartbeats 400000 in
theorem c_add {d : Nat} {σ : Mem} {Post : Option AV → Mem → Prop} {w c : Nat} {x y : Int32} (hc : gI σ 2 w 3 = nI c) (hn : c < 20) (h : ∀ τ : Mem, AddW σ τ w c x y → Post none τ) : MM d M_Way_add [vR 2 w, vI x, vI y] σ Post := by
  have e_c : (nI c).toNatClampNeg = c := cl_n (by omega)
  refine MM.of ok_Way_add rfl ?_
  show WS _ M_Way_add 0 [vR 2 w, vI x, vI y, vU] [] σ _
  obtain ⟨σ1, m1⟩ : ∃ z, z = pI σ 3 w c x := ⟨_, rfl⟩
  obtain ⟨σ2, m2⟩ : ∃ z, z = pI σ1 4 w c y := ⟨_, rfl⟩
  obtain ⟨σ3, m3⟩ : ∃ z, z = pI σ2 2 w 3 (nI (c + 1)) := ⟨_, rfl⟩
  have c1 : gI σ1 2 w 3 = nI c := by rw [m1, gI_pI, if_neg (by omega)]; exact hc
  have c2 : gI σ2 2 w 3 = nI c := by rw [m2, gI_pI, if_neg (by omega)]; exact c1
  have c3 : gI σ3 2 w 3 = nI (c + 1) := by rw [m3, gI_pI, if_pos ⟨rfl, rfl, rfl⟩]
  have key : ∀ k, k ≤ c + 1 → ∀ τ : Mem, Fil σ3 τ 5 w k → WS d M_Way_add 32 [vR 2 w, vI x, vI y, vI (nI k)] [] τ Post := by
    refine upto (c + 1) ?_ ?_
    · intro τ hF
      have ct : gI τ 2 w 3 = nI (c + 1) := by rw [hF.1 2 w 3 (by omega)]; exact c3
      refine WS.run (C := []) (pc' := 37) (L' := [vR 2 w, vI x, vI y, vI (nI (c + 1))]) (S' := [vI (gI τ 2 w 3), vI (nI (c + 1))]) (σ' := τ) 3 rfl trivial ?_
      refine WS.br (P := (gI τ 2 w 3) ≤ (nI (c + 1))) (a := 53) (b := 40) (S' := []) rfl (fun _ => ?_) (fun cc => absurd ((lc4 ct (by omega) (by omega)).mpr (by omega)) cc)
      refine WS.run (C := []) (pc' := 61) (L' := [vR 2 w, vI x, vI y, vI (nI (c + 1))]) (S' := []) (σ' := pI τ 2 w 4 (gI τ 2 w 3)) 4 rfl trivial ?_
      exact WS.vret rfl rfl (by rw [ct]; exact h _ (addW m1 m2 m3 hF rfl))
    · intro k hk ih τ hF
      have ct : gI τ 2 w 3 = nI (c + 1) := by rw [hF.1 2 w 3 (by omega)]; exact c3
      have e_k : (nI k).toNatClampNeg = k := cl_n (by omega)
      refine WS.run (C := []) (pc' := 37) (L' := [vR 2 w, vI x, vI y, vI (nI k)]) (S' := [vI (gI τ 2 w 3), vI (nI k)]) (σ' := τ) 3 rfl trivial ?_
      refine WS.br (P := (gI τ 2 w 3) ≤ (nI k)) (a := 53) (b := 40) (S' := []) rfl (fun cc => absurd cc (fun z => by have := (lc4 ct (by omega) (by omega)).mp z; omega)) (fun _ => ?_)
      refine WS.run (C := [vp_in (nI k) 20]) (pc' := 47) (L' := [vR 2 w, vI x, vI y, vI (nI k)]) (S' := []) (σ' := pI τ 5 w (nI k).toNatClampNeg (nI k)) 5 rfl ⟨(vp_n (by omega) (by omega)), trivial⟩ ?_
      simp only [nI_1, e_k]
      refine WS.run (C := []) (pc' := 32) (L' := [vR 2 w, vI x, vI y, vI ((nI k) + (1 : Int32))]) (S' := []) (σ' := pI τ 5 w k (nI k)) 2 rfl trivial ?_
      simp only [nI_1, e_k]
      exact ih _ hF.s
  refine WS.run (C := [vp_in (gI σ 2 w 3) 20]) (pc' := 10) (L' := [vR 2 w, vI x, vI y, vU]) (S' := []) (σ' := pI σ 3 w (gI σ 2 w 3).toNatClampNeg x) 6 rfl ⟨by rw [hc]; exact vp_n (by omega) (by omega), trivial⟩ ?_
  rw [hc, e_c, ← m1]
  refine WS.run (C := [vp_in (gI σ1 2 w 3) 20]) (pc' := 20) (L' := [vR 2 w, vI x, vI y, vU]) (S' := []) (σ' := pI σ1 4 w (gI σ1 2 w 3).toNatClampNeg y) 6 rfl ⟨by rw [c1]; exact vp_n (by omega) (by omega), trivial⟩ ?_
  rw [c1, e_c, ← m2]
  refine WS.run (C := []) (pc' := 30) (L' := [vR 2 w, vI x, vI y, vU]) (S' := []) (σ' := pI σ2 2 w 3 (gI σ2 2 w 3 + (1 : Int32))) 6 rfl trivial ?_
  rw [c2, nI_1, ← m3]
  refine WS.run (C := []) (pc' := 32) (L' := [vR 2 w, vI x, vI y, vI (0 : Int32)]) (S' := []) (σ' := σ3) 2 rfl trivial ?_
  exact key 0 (by omega) σ3 Fil.z
end
section
/-! contracts: takes -/
def takO (σ : Mem) (w c : Nat) (x y : Int32) : Prop := gI σ 2 w 7 ≠ 0 ∧ c < 20 ∧ (c = 0 ∨ gI σ 3 w (c - 1) ≠ x ∨ gI σ 4 w (c - 1) ≠ y)
theorem t_20 : (20 : Int32).toInt = 20 := by decide
set_option maxRecDepth 4000 in
set_option maxHeartbeats 400000 in
theorem c_takes {d : Nat} {σ : Mem} {Post : Option AV → Mem → Prop} {w c : Nat} {x y : Int32} (hc : gI σ 2 w 3 = nI c) (hn : c ≤ 20) (h1 : takO σ w c x y → Post (some (vI 1)) σ) (h0 : ¬ takO σ w c x y → Post (some (vI 0)) σ) : MM d M_Way_takes [vR 2 w, vI x, vI y] σ Post := by
  rcases c with _ | e
  · refine MM.of ok_Way_takes rfl ?_
    show WS _ M_Way_takes 0 [vR 2 w, vI x, vI y] [] σ _
    refine WS.run (C := []) (pc' := 4) (L' := [vR 2 w, vI x, vI y]) (S' := [vI (gI σ 2 w 7)]) (σ' := σ) 2 rfl trivial ?_
    refine WS.br (P := (gI σ 2 w 7) = 0) (a := 16) (b := 7) (S' := []) rfl (fun c1 => ?_) (fun c1 => ?_)
    · refine WS.run (C := []) (pc' := 17) (L' := [vR 2 w, vI x, vI y]) (S' := [vI (0 : Int32)]) (σ' := σ) 1 rfl trivial ?_
      exact WS.ret rfl rfl (by decide) rfl (h0 (fun z => z.1 c1))
    · refine WS.run (C := []) (pc' := 13) (L' := [vR 2 w, vI x, vI y]) (S' := [vI (20 : Int32), vI (gI σ 2 w 3)]) (σ' := σ) 3 rfl trivial ?_
      simp only [hc]
      refine WS.br (P := (nI 0) < (20 : Int32)) (a := 18) (b := 16) (S' := []) rfl (fun _ => ?_) (fun cc => absurd (by decide) cc)
      refine WS.run (C := []) (pc' := 22) (L' := [vR 2 w, vI x, vI y]) (S' := [vI (gI σ 2 w 3)]) (σ' := σ) 2 rfl trivial ?_
      simp only [hc]
      refine WS.br (P := (nI 0) = 0) (a := 55) (b := 25) (S' := []) rfl (fun _ => ?_) (fun cc => absurd (by decide) cc)
      refine WS.run (C := []) (pc' := 60) (L' := [vR 2 w, vI x, vI y]) (S' := [vI (1 : Int32)]) (σ' := σ) 2 rfl trivial ?_
      exact WS.ret rfl rfl (by decide) rfl (h1 ⟨c1, by omega, Or.inl rfl⟩)
  · have e_e : (nI e).toNatClampNeg = e := cl_n (by omega)
    refine MM.of ok_Way_takes rfl ?_
    show WS _ M_Way_takes 0 [vR 2 w, vI x, vI y] [] σ _
    refine WS.run (C := []) (pc' := 4) (L' := [vR 2 w, vI x, vI y]) (S' := [vI (gI σ 2 w 7)]) (σ' := σ) 2 rfl trivial ?_
    refine WS.br (P := (gI σ 2 w 7) = 0) (a := 16) (b := 7) (S' := []) rfl (fun c2 => ?_) (fun c2 => ?_)
    · refine WS.run (C := []) (pc' := 17) (L' := [vR 2 w, vI x, vI y]) (S' := [vI (0 : Int32)]) (σ' := σ) 1 rfl trivial ?_
      exact WS.ret rfl rfl (by decide) rfl (h0 (fun z => z.1 c2))
    · refine WS.run (C := []) (pc' := 13) (L' := [vR 2 w, vI x, vI y]) (S' := [vI (20 : Int32), vI (gI σ 2 w 3)]) (σ' := σ) 3 rfl trivial ?_
      simp only [hc, nI_pred, e_e]
      refine WS.br (P := (nI (e + 1)) < (20 : Int32)) (a := 18) (b := 16) (S' := []) rfl (fun c3 => ?_) (fun c3 => ?_)
      · refine WS.run (C := []) (pc' := 22) (L' := [vR 2 w, vI x, vI y]) (S' := [vI (gI σ 2 w 3)]) (σ' := σ) 2 rfl trivial ?_
        simp only [hc, nI_pred, e_e]
        refine WS.br (P := (nI (e + 1)) = 0) (a := 55) (b := 25) (S' := []) rfl (fun cc => absurd cc (nI_ne0 (by omega) (by omega))) (fun _ => ?_)
        refine WS.run (C := [vp_in (gI σ 2 w 3 - (1 : Int32)) 20]) (pc' := 37) (L' := [vR 2 w, vI x, vI y]) (S' := [vI x, vI (gI σ 3 w (gI σ 2 w 3 - (1 : Int32)).toNatClampNeg)]) (σ' := σ) 8 rfl ⟨(by rw [hc, nI_pred]; exact vp_n (by omega) (by omega)), trivial⟩ ?_
        simp only [hc, nI_pred, e_e]
        refine WS.br (P := (gI σ 3 w e) = x) (a := 40) (b := 55) (S' := []) rfl (fun c4 => ?_) (fun c4 => ?_)
        · refine WS.run (C := [vp_in (gI σ 2 w 3 - (1 : Int32)) 20]) (pc' := 52) (L' := [vR 2 w, vI x, vI y]) (S' := [vI y, vI (gI σ 4 w (gI σ 2 w 3 - (1 : Int32)).toNatClampNeg)]) (σ' := σ) 8 rfl ⟨(by rw [hc, nI_pred]; exact vp_n (by omega) (by omega)), trivial⟩ ?_
          simp only [hc, nI_pred, e_e]
          refine WS.br (P := (gI σ 4 w e) = y) (a := 59) (b := 55) (S' := []) rfl (fun c5 => ?_) (fun c5 => ?_)
          · refine WS.run (C := []) (pc' := 60) (L' := [vR 2 w, vI x, vI y]) (S' := [vI (0 : Int32)]) (σ' := σ) 1 rfl trivial ?_
            exact WS.ret rfl rfl (by decide) rfl (h0 (fun z => z.2.2.elim (fun q => by omega) (fun q => q.elim (fun q => q c4) (fun q => q c5))))
          · refine WS.run (C := []) (pc' := 60) (L' := [vR 2 w, vI x, vI y]) (S' := [vI (1 : Int32)]) (σ' := σ) 2 rfl trivial ?_
            exact WS.ret rfl rfl (by decide) rfl (h1 ⟨c2, (by have q := c3; rw [t_lt, nI_t (by omega), t_20] at q; omega), Or.inr (Or.inr c5)⟩)
        · refine WS.run (C := []) (pc' := 60) (L' := [vR 2 w, vI x, vI y]) (S' := [vI (1 : Int32)]) (σ' := σ) 2 rfl trivial ?_
          exact WS.ret rfl rfl (by decide) rfl (h1 ⟨c2, (by have q := c3; rw [t_lt, nI_t (by omega), t_20] at q; omega), Or.inr (Or.inl c4)⟩)
      · refine WS.run (C := []) (pc' := 17) (L' := [vR 2 w, vI x, vI y]) (S' := [vI (0 : Int32)]) (σ' := σ) 1 rfl trivial ?_
        exact WS.ret rfl rfl (by decide) rfl (h0 (fun z => by have q := c3; rw [t_lt, nI_t (by omega), t_20] at q; have := z.2.1; omega))
end
section
/-! contracts: point of the class -/
def poiO (σ : Mem) (v x y : Int32) (j : Nat) : Prop := j < 12 ∧ v = nI j ∧ co x.toInt ∧ co y.toInt ∧ takO σ j (ctW σ j) x y
set_option maxRecDepth 4000 in
set_option maxHeartbeats 400000 in
theorem c_TMpoint {d : Nat} {σ : Mem} {Post : Option AV → Mem → Prop} {v x y : Int32} (hv : AllV σ) (h1 : ∀ (j : Nat) (τ : Mem), poiO σ v x y j → AddW σ τ j (ctW σ j) x y → Post (some (vI (nI (ctW σ j + 1)))) τ) (h0 : (∀ j : Nat, ¬ poiO σ v x y j) → Post (some (vI (-1))) σ) : MM (d + 2) M_TM_point [vR 0 0, vI v, vI x, vI y] σ Post := by
  refine MM.of ok_TM_point rfl ?_
  show WS _ M_TM_point 0 [vR 0 0, vI v, vI x, vI y] [] σ _
  refine WS.run (C := []) (pc' := 3) (L' := [vR 0 0, vI v, vI x, vI y]) (S' := [vI (11 : Int32), vI v]) (σ' := σ) 2 rfl trivial ?_
  refine WS.callS M_TM_inRange (as := [vI v, vI (11 : Int32)]) (rest := []) rfl lk_10_71 rfl rfl (Nat.le_of_ble_eq_true rfl) ?_
  refine c_inRange (fun q1a q1b => ?_) (fun q1 => ?_)
  · obtain ⟨j, hj, rfl⟩ := t_nat (x := v) (n := 11) (by omega) (by first | omega | (simp only [t_11] at *; omega)) (by omega)
    have e_j : (nI j).toNatClampNeg = j := cl_n (by omega)
    have hvj := hv j (by omega)
    have hcj := hvj.2.2.1
    show WS _ M_TM_point 6 [vR 0 0, vI (nI j), vI x, vI y] [vI (1 : Int32)] σ _
    refine WS.br (P := (1 : Int32) = 0) (a := 31) (b := 9) (S' := []) rfl (fun cc => absurd cc (by decide)) (fun _ => ?_)
    refine WS.run (C := []) (pc' := 11) (L' := [vR 0 0, vI (nI j), vI x, vI y]) (S' := [vI y, vI x]) (σ' := σ) 2 rfl trivial ?_
    refine WS.callS M_TM_isPlace (as := [vI x, vI y]) (rest := []) rfl lk_10_79 rfl rfl (Nat.le_of_ble_eq_true rfl) ?_
    refine c_isPlace  (fun q2a q2b => ?_) (fun q2 => ?_)
    · show WS _ M_TM_point 14 [vR 0 0, vI (nI j), vI x, vI y] [vI (1 : Int32)] σ _
      refine WS.br (P := (1 : Int32) = 0) (a := 31) (b := 17) (S' := []) rfl (fun cc => absurd cc (by decide)) (fun _ => ?_)
      refine WS.run (C := [vp_in (nI j) 12]) (pc' := 25) (L' := [vR 0 0, vI (nI j), vI x, vI y]) (S' := [vI y, vI x, vR 2 ((nI j).toNatClampNeg)]) (σ' := σ) 6 rfl ⟨(vp_n (by omega) (by omega)), trivial⟩ ?_
      simp only [e_j]
      refine WS.callV M_Way_takes (k := 2) (i := j) (as := [vI x, vI y]) (rest := []) rfl lk_10_82 rfl rfl rfl (Nat.le_of_ble_eq_true rfl) ?_
      refine c_takes hvj.1 hcj (fun q3 => ?_) (fun q3 => ?_)
      · show WS _ M_TM_point 28 [vR 0 0, vI (nI j), vI x, vI y] [vI (1 : Int32)] σ _
        refine WS.br (P := (1 : Int32) = 0) (a := 31) (b := 33) (S' := []) rfl (fun cc => absurd cc (by decide)) (fun _ => ?_)
        refine WS.run (C := [vp_in (nI j) 12]) (pc' := 41) (L' := [vR 0 0, vI (nI j), vI x, vI y]) (S' := [vI y, vI x, vR 2 ((nI j).toNatClampNeg)]) (σ' := σ) 6 rfl ⟨(vp_n (by omega) (by omega)), trivial⟩ ?_
        simp only [e_j]
        refine WS.callV M_Way_add (k := 2) (i := j) (as := [vI x, vI y]) (rest := []) rfl lk_10_85 rfl rfl rfl (Nat.le_of_ble_eq_true rfl) ?_
        refine c_add hvj.1 q3.2.1 (fun τ4 e4 => ?_)
        show WS _ M_TM_point 44 [vR 0 0, vI (nI j), vI x, vI y] [] τ4 _
        refine WS.run (C := [vp_in (nI j) 12]) (pc' := 53) (L' := [vR 0 0, vI (nI j), vI x, vI y]) (S' := [vI (gI τ4 2 ((nI j).toNatClampNeg) 3)]) (σ' := τ4) 5 rfl ⟨(vp_n (by omega) (by omega)), trivial⟩ ?_
        simp only [e_j]
        exact WS.ret rfl rfl (by decide) rfl (by rw [e4.2.2.2.1]; exact h1 j _ ⟨by omega, rfl, q2a, q2b, q3⟩ e4)
      · show WS _ M_TM_point 28 [vR 0 0, vI (nI j), vI x, vI y] [vI (0 : Int32)] σ _
        refine WS.br (P := (0 : Int32) = 0) (a := 31) (b := 33) (S' := []) rfl (fun _ => ?_) (fun cc => absurd (by decide) cc)
        refine WS.run (C := []) (pc' := 32) (L' := [vR 0 0, vI (nI j), vI x, vI y]) (S' := [vI (-1 : Int32)]) (σ' := σ) 1 rfl trivial ?_
        exact WS.ret rfl rfl (by decide) rfl (h0 (fun i z => by obtain rfl : i = j := (nI_eq (by have := z.1; omega) (by omega)).mp z.2.1.symm; exact q3 z.2.2.2.2))
    · show WS _ M_TM_point 14 [vR 0 0, vI (nI j), vI x, vI y] [vI (0 : Int32)] σ _
      refine WS.br (P := (0 : Int32) = 0) (a := 31) (b := 17) (S' := []) rfl (fun _ => ?_) (fun cc => absurd (by decide) cc)
      refine WS.run (C := []) (pc' := 32) (L' := [vR 0 0, vI (nI j), vI x, vI y]) (S' := [vI (-1 : Int32)]) (σ' := σ) 1 rfl trivial ?_
      exact WS.ret rfl rfl (by decide) rfl (h0 (fun i z => q2 ⟨z.2.2.1, z.2.2.2.1⟩))
  · show WS _ M_TM_point 6 [vR 0 0, vI v, vI x, vI y] [vI (0 : Int32)] σ _
    refine WS.br (P := (0 : Int32) = 0) (a := 31) (b := 9) (S' := []) rfl (fun _ => ?_) (fun cc => absurd (by decide) cc)
    refine WS.run (C := []) (pc' := 32) (L' := [vR 0 0, vI v, vI x, vI y]) (S' := [vI (-1 : Int32)]) (σ' := σ) 1 rfl trivial ?_
    exact WS.ret rfl rfl (by decide) rfl (h0 (fun i z => q1 (by rw [z.2.1, nI_t (by have := z.1; omega), t_11]; have := z.1; omega)))
end
section
/-! contracts: small ones of the class -/
set_option maxRecDepth 4000 in
set_option maxHeartbeats 400000 in
theorem c_holds {d : Nat} {σ : Mem} {Post : Option AV → Mem → Prop} {j : Nat} (hj : j < 12) (h1 : gI σ 15 0 1 ≠ 0 ∧ gI σ 21 0 j = 0 → Post (some (vI 1)) σ) (h0 : ¬ (gI σ 15 0 1 ≠ 0 ∧ gI σ 21 0 j = 0) → Post (some (vI 0)) σ) : MM d M_Keeper_holds [vR 15 0, vI (nI j)] σ Post := by
  have e_j : (nI j).toNatClampNeg = j := cl_n (by omega)
  refine MM.of ok_Keeper_holds rfl ?_
  show WS _ M_Keeper_holds 0 [vR 15 0, vI (nI j)] [] σ _
  refine WS.run (C := []) (pc' := 4) (L' := [vR 15 0, vI (nI j)]) (S' := [vI (gI σ 15 0 1)]) (σ' := σ) 2 rfl trivial ?_
  refine WS.br (P := (gI σ 15 0 1) = 0) (a := 23) (b := 7) (S' := []) rfl (fun c1 => ?_) (fun c1 => ?_)
  · refine WS.run (C := []) (pc' := 24) (L' := [vR 15 0, vI (nI j)]) (S' := [vI (0 : Int32)]) (σ' := σ) 1 rfl trivial ?_
    exact WS.ret rfl rfl (by decide) rfl (h0 (fun z => z.1 c1))
  · refine WS.run (C := [vp_in (nI j) 12]) (pc' := 16) (L' := [vR 15 0, vI (nI j)]) (S' := [vI (gI σ 21 0 (nI j).toNatClampNeg)]) (σ' := σ) 5 rfl ⟨(vp_n (by omega) (by omega)), trivial⟩ ?_
    simp only [e_j]
    refine WS.br (P := (gI σ 21 0 j) = 0) (a := 19) (b := 23) (S' := []) rfl (fun c2 => ?_) (fun c2 => ?_)
    · refine WS.run (C := []) (pc' := 24) (L' := [vR 15 0, vI (nI j)]) (S' := [vI (1 : Int32)]) (σ' := σ) 2 rfl trivial ?_
      exact WS.ret rfl rfl (by decide) rfl (h1 ⟨c1, c2⟩)
    · refine WS.run (C := []) (pc' := 24) (L' := [vR 15 0, vI (nI j)]) (S' := [vI (0 : Int32)]) (σ' := σ) 1 rfl trivial ?_
      exact WS.ret rfl rfl (by decide) rfl (h0 (fun z => c2 z.2))
set_option maxRecDepth 4000 in
set_option maxHeartbeats 400000 in
theorem c_isDangerThere {d : Nat} {σ : Mem} {Post : Option AV → Mem → Prop} {w : Nat} (h1 : gI σ 2 w 6 ≠ 0 ∧ 0 < (gI σ 2 w 3).toInt → Post (some (vI 1)) σ) (h0 : ¬ (gI σ 2 w 6 ≠ 0 ∧ 0 < (gI σ 2 w 3).toInt) → Post (some (vI 0)) σ) : MM d M_Keeper_isDangerThere [vR 2 w] σ Post := by
  refine MM.of ok_Keeper_isDangerThere rfl ?_
  show WS _ M_Keeper_isDangerThere 0 [vR 2 w] [] σ _
  refine WS.run (C := []) (pc' := 4) (L' := [vR 2 w]) (S' := [vI (gI σ 2 w 6)]) (σ' := σ) 2 rfl trivial ?_
  refine WS.br (P := (gI σ 2 w 6) = 0) (a := 18) (b := 7) (S' := []) rfl (fun c1 => ?_) (fun c1 => ?_)
  · refine WS.run (C := []) (pc' := 19) (L' := [vR 2 w]) (S' := [vI (0 : Int32)]) (σ' := σ) 1 rfl trivial ?_
    exact WS.ret rfl rfl (by decide) rfl (h0 (fun z => z.1 c1))
  · refine WS.run (C := []) (pc' := 11) (L' := [vR 2 w]) (S' := [vI (gI σ 2 w 3)]) (σ' := σ) 2 rfl trivial ?_
    refine WS.br (P := (gI σ 2 w 3) ≤ 0) (a := 18) (b := 14) (S' := []) rfl (fun c2 => ?_) (fun c2 => ?_)
    · refine WS.run (C := []) (pc' := 19) (L' := [vR 2 w]) (S' := [vI (0 : Int32)]) (σ' := σ) 1 rfl trivial ?_
      exact WS.ret rfl rfl (by decide) rfl (h0 (fun z => by have q := c2; rw [t_le, t_0] at q; have := z.2; omega))
    · refine WS.run (C := []) (pc' := 19) (L' := [vR 2 w]) (S' := [vI (1 : Int32)]) (σ' := σ) 2 rfl trivial ?_
      exact WS.ret rfl rfl (by decide) rfl (h1 ⟨c1, by have q := c2; rw [t_le, t_0] at q; omega⟩)
def namO (σ : Mem) (v : Int32) (j : Nat) : Prop := j < 8 ∧ v = nI j ∧ gI σ 7 j 4 ≠ 0
set_option maxRecDepth 4000 in
set_option maxHeartbeats 400000 in
theorem c_isName {d : Nat} {σ : Mem} {Post : Option AV → Mem → Prop} {v : Int32} (h1 : ∀ j : Nat, namO σ v j → Post (some (vI 1)) σ) (h0 : (∀ j : Nat, ¬ namO σ v j) → Post (some (vI 0)) σ) : MM (d + 1) M_TM_isName [vR 0 0, vI v] σ Post := by
  refine MM.of ok_TM_isName rfl ?_
  show WS _ M_TM_isName 0 [vR 0 0, vI v] [] σ _
  refine WS.run (C := []) (pc' := 3) (L' := [vR 0 0, vI v]) (S' := [vI (7 : Int32), vI v]) (σ' := σ) 2 rfl trivial ?_
  refine WS.callS M_TM_inRange (as := [vI v, vI (7 : Int32)]) (rest := []) rfl lk_10_71 rfl rfl (Nat.le_of_ble_eq_true rfl) ?_
  refine c_inRange (fun q1a q1b => ?_) (fun q1 => ?_)
  · obtain ⟨j, hj, rfl⟩ := t_nat (x := v) (n := 7) (by omega) (by first | omega | (simp only [t_7] at *; omega)) (by omega)
    have e_j : (nI j).toNatClampNeg = j := cl_n (by omega)
    show WS _ M_TM_isName 6 [vR 0 0, vI (nI j)] [vI (1 : Int32)] σ _
    refine WS.br (P := (1 : Int32) = 0) (a := 25) (b := 9) (S' := []) rfl (fun cc => absurd cc (by decide)) (fun _ => ?_)
    refine WS.run (C := [vp_in (nI j) 8]) (pc' := 18) (L' := [vR 0 0, vI (nI j)]) (S' := [vI (gI σ 7 ((nI j).toNatClampNeg) 4)]) (σ' := σ) 5 rfl ⟨(vp_n (by omega) (by omega)), trivial⟩ ?_
    simp only [e_j]
    refine WS.br (P := (gI σ 7 (j) 4) = 0) (a := 25) (b := 21) (S' := []) rfl (fun c2 => ?_) (fun c2 => ?_)
    · refine WS.run (C := []) (pc' := 26) (L' := [vR 0 0, vI (nI j)]) (S' := [vI (0 : Int32)]) (σ' := σ) 1 rfl trivial ?_
      exact WS.ret rfl rfl (by decide) rfl (h0 (fun i z => by obtain rfl : i = j := (nI_eq (by have := z.1; omega) (by omega)).mp z.2.1.symm; exact z.2.2 c2))
    · refine WS.run (C := []) (pc' := 26) (L' := [vR 0 0, vI (nI j)]) (S' := [vI (1 : Int32)]) (σ' := σ) 2 rfl trivial ?_
      exact WS.ret rfl rfl (by decide) rfl (h1 j ⟨by omega, rfl, c2⟩)
  · show WS _ M_TM_isName 6 [vR 0 0, vI v] [vI (0 : Int32)] σ _
    refine WS.br (P := (0 : Int32) = 0) (a := 25) (b := 9) (S' := []) rfl (fun _ => ?_) (fun cc => absurd (by decide) cc)
    refine WS.run (C := []) (pc' := 26) (L' := [vR 0 0, vI v]) (S' := [vI (0 : Int32)]) (σ' := σ) 1 rfl trivial ?_
    exact WS.ret rfl rfl (by decide) rfl (h0 (fun i z => q1 (by rw [z.2.1, nI_t (by have := z.1; omega), t_7]; have := z.1; omega)))
set_option maxRecDepth 4000 in
set_option maxHeartbeats 400000 in
theorem c_TMerase {d : Nat} {σ : Mem} {Post : Option AV → Mem → Prop} {v : Int32} (h1 : ∀ j : Nat, namO σ v j → Post (some (vI 1)) (pI σ 7 j 4 0)) (h0 : (∀ j : Nat, ¬ namO σ v j) → Post (some (vI 0)) σ) : MM (d + 2) M_TM_erase [vR 0 0, vI v] σ Post := by
  refine MM.of ok_TM_erase rfl ?_
  show WS _ M_TM_erase 0 [vR 0 0, vI v] [] σ _
  refine WS.run (C := []) (pc' := 2) (L' := [vR 0 0, vI v]) (S' := [vI v, vR 0 0]) (σ' := σ) 2 rfl trivial ?_
  refine WS.callV M_TM_isName (k := 0) (i := 0) (as := [vI v]) (rest := []) rfl lk_10_153 rfl rfl rfl (Nat.le_of_ble_eq_true rfl) ?_
  refine c_isName (fun j hj => ?_) (fun q1 => ?_)
  · obtain ⟨hj8, rfl, hj2⟩ := id hj
    have e_j : (nI j).toNatClampNeg = j := cl_n (by omega)
    show WS _ M_TM_erase 5 [vR 0 0, vI (nI j)] [vI (1 : Int32)] σ _
    refine WS.br (P := (1 : Int32) = 0) (a := 8) (b := 10) (S' := []) rfl (fun cc => absurd cc (by decide)) (fun _ => ?_)
    refine WS.run (C := [vp_in (nI j) 8, (0 : Int32) = 0 ∨ (0 : Int32) = 1]) (pc' := 20) (L' := [vR 0 0, vI (nI j)]) (S' := []) (σ' := pI σ 7 ((nI j).toNatClampNeg) 4 (0 : Int32)) 6 rfl ⟨(vp_n (by omega) (by omega)), (Or.inl rfl), trivial⟩ ?_
    simp only [e_j]
    refine WS.run (C := []) (pc' := 21) (L' := [vR 0 0, vI (nI j)]) (S' := [vI (1 : Int32)]) (σ' := pI σ 7 (j) 4 (0 : Int32)) 1 rfl trivial ?_
    exact WS.ret rfl rfl (by decide) rfl (h1 j hj)
  · show WS _ M_TM_erase 5 [vR 0 0, vI v] [vI (0 : Int32)] σ _
    refine WS.br (P := (0 : Int32) = 0) (a := 8) (b := 10) (S' := []) rfl (fun _ => ?_) (fun cc => absurd (by decide) cc)
    refine WS.run (C := []) (pc' := 9) (L' := [vR 0 0, vI v]) (S' := [vI (0 : Int32)]) (σ' := σ) 1 rfl trivial ?_
    exact WS.ret rfl rfl (by decide) rfl (h0 q1)
end
section
/-! contracts: small ones of the model -/
def namM (σ : Mem) (v : Int32) (j : Nat) : Prop := j < 8 ∧ v = nI j ∧ 0 < (gI σ 67 0 j).toInt
set_option maxRecDepth 4000 in
set_option maxHeartbeats 400000 in
theorem c_MisName {d : Nat} {σ : Mem} {Post : Option AV → Mem → Prop} {v : Int32} (h1 : ∀ j : Nat, namM σ v j → Post (some (vI 1)) σ) (h0 : (∀ j : Nat, ¬ namM σ v j) → Post (some (vI 0)) σ) : MM (d + 1) M_MD_isName [vR 51 0, vI v] σ Post := by
  refine MM.of ok_MD_isName rfl ?_
  show WS _ M_MD_isName 0 [vR 51 0, vI v] [] σ _
  refine WS.run (C := []) (pc' := 4) (L' := [vR 51 0, vI v]) (S' := [vI (7 : Int32), vI (0 : Int32), vI v]) (σ' := σ) 3 rfl trivial ?_
  refine WS.callS M_MD_isIn (as := [vI v, vI (0 : Int32), vI (7 : Int32)]) (rest := []) rfl lk_11_114 rfl rfl (Nat.le_of_ble_eq_true rfl) ?_
  refine c_MisIn (fun q1a q1b => ?_) (fun q1 => ?_)
  · obtain ⟨j, hj, rfl⟩ := t_nat (x := v) (n := 7) (by simp only [t_0] at *; omega) (by simp only [t_7] at *; omega) (by omega)
    have e_j : (nI j).toNatClampNeg = j := cl_n (by omega)
    show WS _ M_MD_isName 7 [vR 51 0, vI (nI j)] [vI (1 : Int32)] σ _
    refine WS.br (P := (1 : Int32) = 0) (a := 23) (b := 10) (S' := []) rfl (fun cc => absurd cc (by decide)) (fun _ => ?_)
    refine WS.run (C := [vp_in (nI j) 8]) (pc' := 16) (L' := [vR 51 0, vI (nI j)]) (S' := [vI (gI σ 67 0 (nI j).toNatClampNeg)]) (σ' := σ) 4 rfl ⟨(vp_n (by omega) (by omega)), trivial⟩ ?_
    simp only [e_j]
    refine WS.br (P := (gI σ 67 0 j) ≤ 0) (a := 23) (b := 19) (S' := []) rfl (fun c2 => ?_) (fun c2 => ?_)
    · refine WS.run (C := []) (pc' := 24) (L' := [vR 51 0, vI (nI j)]) (S' := [vI (0 : Int32)]) (σ' := σ) 1 rfl trivial ?_
      exact WS.ret rfl rfl (by decide) rfl (h0 (fun i z => by obtain rfl : i = j := (nI_eq (by have := z.1; omega) (by omega)).mp z.2.1.symm; have q := c2; rw [t_le, t_0] at q; have := z.2.2; omega))
    · refine WS.run (C := []) (pc' := 24) (L' := [vR 51 0, vI (nI j)]) (S' := [vI (1 : Int32)]) (σ' := σ) 2 rfl trivial ?_
      exact WS.ret rfl rfl (by decide) rfl (h1 j ⟨by omega, rfl, by have q := c2; rw [t_le, t_0] at q; omega⟩)
  · show WS _ M_MD_isName 7 [vR 51 0, vI v] [vI (0 : Int32)] σ _
    refine WS.br (P := (0 : Int32) = 0) (a := 23) (b := 10) (S' := []) rfl (fun _ => ?_) (fun cc => absurd (by decide) cc)
    refine WS.run (C := []) (pc' := 24) (L' := [vR 51 0, vI v]) (S' := [vI (0 : Int32)]) (σ' := σ) 1 rfl trivial ?_
    exact WS.ret rfl rfl (by decide) rfl (h0 (fun i z => q1 (by rw [z.2.1, nI_t (by have := z.1; omega), t_0, t_7]; have := z.1; omega)))
set_option maxRecDepth 4000 in
set_option maxHeartbeats 400000 in
theorem c_Merase {d : Nat} {σ : Mem} {Post : Option AV → Mem → Prop} {v : Int32} (h1 : ∀ j : Nat, namM σ v j → Post (some (vI 1)) (pI σ 67 0 j 0)) (h0 : (∀ j : Nat, ¬ namM σ v j) → Post (some (vI 0)) σ) : MM (d + 2) M_MD_erase [vR 51 0, vI v] σ Post := by
  refine MM.of ok_MD_erase rfl ?_
  show WS _ M_MD_erase 0 [vR 51 0, vI v] [] σ _
  refine WS.run (C := []) (pc' := 2) (L' := [vR 51 0, vI v]) (S' := [vI v, vR 51 0]) (σ' := σ) 2 rfl trivial ?_
  refine WS.callV M_MD_isName (k := 51) (i := 0) (as := [vI v]) (rest := []) rfl lk_11_211 rfl rfl rfl (Nat.le_of_ble_eq_true rfl) ?_
  refine c_MisName (fun j hj => ?_) (fun q1 => ?_)
  · obtain ⟨hj8, rfl, hj2⟩ := id hj
    have e_j : (nI j).toNatClampNeg = j := cl_n (by omega)
    show WS _ M_MD_erase 5 [vR 51 0, vI (nI j)] [vI (1 : Int32)] σ _
    refine WS.br (P := (1 : Int32) = 0) (a := 8) (b := 10) (S' := []) rfl (fun cc => absurd cc (by decide)) (fun _ => ?_)
    refine WS.run (C := [vp_in (nI j) 8]) (pc' := 17) (L' := [vR 51 0, vI (nI j)]) (S' := []) (σ' := pI σ 67 0 (nI j).toNatClampNeg (0 : Int32)) 5 rfl ⟨(vp_n (by omega) (by omega)), trivial⟩ ?_
    simp only [e_j]
    refine WS.run (C := []) (pc' := 18) (L' := [vR 51 0, vI (nI j)]) (S' := [vI (1 : Int32)]) (σ' := pI σ 67 0 j (0 : Int32)) 1 rfl trivial ?_
    exact WS.ret rfl rfl (by decide) rfl (h1 j hj)
  · show WS _ M_MD_erase 5 [vR 51 0, vI v] [vI (0 : Int32)] σ _
    refine WS.br (P := (0 : Int32) = 0) (a := 8) (b := 10) (S' := []) rfl (fun _ => ?_) (fun cc => absurd (by decide) cc)
    refine WS.run (C := []) (pc' := 9) (L' := [vR 51 0, vI v]) (S' := [vI (0 : Int32)]) (σ' := σ) 1 rfl trivial ?_
    exact WS.ret rfl rfl (by decide) rfl (h0 q1)
end
section
/-! contracts: texture -/
theorem l_m1 {x : Int32} {l : Nat} (h : x = nI l) (hl : l ≤ 1000) : (x - 1).toInt = (l : Int) - 1 := by
  rw [h, t_sub] <;> rw [nI_t (by omega), t_1] <;> omega
set_option maxRecDepth 4000 in
set_option maxHeartbeats 400000 in
theorem c_TMtexture {d : Nat} {σ : Mem} {Post : Option AV → Mem → Prop} {v : Int32} {l : Nat} (hl : gI σ 45 0 5 = nI l) (hn : l ≤ 8) (h1 : ∀ j : Nat, j < l → v = nI j → Post (some (vI (gI σ 49 0 j))) σ) (h0 : (∀ j : Nat, j < l → v ≠ nI j) → Post (some (vI (-1))) σ) : MM (d + 1) M_TM_texture [vR 0 0, vI v] σ Post := by
  refine MM.of ok_TM_texture rfl ?_
  show WS _ M_TM_texture 0 [vR 0 0, vI v] [] σ _
  refine WS.run (C := []) (pc' := 10) (L' := [vR 0 0, vI v]) (S' := [vI (gI σ 45 0 5 - (1 : Int32)), vI v]) (σ' := σ) 6 rfl trivial ?_
  refine WS.callS M_TM_inRange (as := [vI v, vI (gI σ 45 0 5 - (1 : Int32))]) (rest := []) rfl lk_10_71 rfl rfl (Nat.le_of_ble_eq_true rfl) ?_
  refine c_inRange (fun q1a q1b => ?_) (fun q1 => ?_)
  · rw [l_m1 hl (by omega)] at q1b
    obtain ⟨j, hj, rfl⟩ := t_nat (x := v) (n := l) (by omega) (by omega) (by omega)
    have e_j : (nI j).toNatClampNeg = j := cl_n (by omega)
    rw [nI_t (by omega)] at q1b
    show WS _ M_TM_texture 13 [vR 0 0, vI (nI j)] [vI (1 : Int32)] σ _
    refine WS.br (P := (1 : Int32) = 0) (a := 28) (b := 16) (S' := []) rfl (fun cc => absurd cc (by decide)) (fun _ => ?_)
    refine WS.run (C := [vp_in (nI j) 8]) (pc' := 29) (L' := [vR 0 0, vI (nI j)]) (S' := [vI (gI σ 49 0 (nI j).toNatClampNeg)]) (σ' := σ) 6 rfl ⟨(vp_n (by omega) (by omega)), trivial⟩ ?_
    simp only [e_j]
    exact WS.ret rfl rfl (by decide) rfl (h1 j (by omega) rfl)
  · rw [l_m1 hl (by omega)] at q1
    show WS _ M_TM_texture 13 [vR 0 0, vI v] [vI (0 : Int32)] σ _
    refine WS.br (P := (0 : Int32) = 0) (a := 28) (b := 16) (S' := []) rfl (fun _ => ?_) (fun cc => absurd (by decide) cc)
    refine WS.run (C := []) (pc' := 29) (L' := [vR 0 0, vI v]) (S' := [vI (-1 : Int32)]) (σ' := σ) 1 rfl trivial ?_
    exact WS.ret rfl rfl (by decide) rfl (h0 (fun i hi e => q1 (by rw [e, nI_t (by omega)]; omega)))
end
section
/-! contracts: texture of the model -/
set_option maxRecDepth 4000 in
set_option maxHeartbeats 400000 in
theorem c_Mtexture {d : Nat} {σ : Mem} {Post : Option AV → Mem → Prop} {v : Int32} {l : Nat} (hl : gI σ 51 0 35 = nI l) (hn : l ≤ 8) (h1 : ∀ j : Nat, j < l → v = nI j → Post (some (vI (gI σ 84 0 j))) σ) (h0 : (∀ j : Nat, j < l → v ≠ nI j) → Post (some (vI (-1))) σ) : MM d M_MD_texture [vR 51 0, vI v] σ Post := by
  by_cases hin : 0 ≤ v.toInt ∧ v.toInt < (l : Int)
  · obtain ⟨j, hj, rfl⟩ := t_nat (x := v) (n := l) hin.1 (by omega) (by omega)
    rw [nI_t (by omega)] at hin
    have e_j : (nI j).toNatClampNeg = j := cl_n (by omega)
    refine MM.of ok_MD_texture rfl ?_
    show WS _ M_MD_texture 0 [vR 51 0, vI (nI j)] [] σ _
    refine WS.run (C := []) (pc' := 1) (L' := [vR 51 0, vI (nI j)]) (S' := [vI (nI j)]) (σ' := σ) 1 rfl trivial ?_
    refine WS.br (P := (nI j) < 0) (a := 21) (b := 4) (S' := []) rfl (fun cc => absurd cc (by rw [t_lt, nI_t (by omega), t_0]; omega)) (fun _ => ?_)
    refine WS.run (C := []) (pc' := 9) (L' := [vR 51 0, vI (nI j)]) (S' := [vI (gI σ 51 0 35), vI (nI j)]) (σ' := σ) 3 rfl trivial ?_
    refine WS.br (P := (gI σ 51 0 35) ≤ (nI j)) (a := 21) (b := 12) (S' := []) rfl (fun cc => absurd cc (by rw [hl, t_le, nI_t (by omega), nI_t (by omega)]; omega)) (fun _ => ?_)
    refine WS.run (C := [vp_in (nI j) 8]) (pc' := 22) (L' := [vR 51 0, vI (nI j)]) (S' := [vI (gI σ 84 0 (nI j).toNatClampNeg)]) (σ' := σ) 5 rfl ⟨(vp_n (by omega) (by omega)), trivial⟩ ?_
    simp only [e_j]
    exact WS.ret rfl rfl (by decide) rfl (h1 j (by omega) rfl)
  · refine MM.of ok_MD_texture rfl ?_
    show WS _ M_MD_texture 0 [vR 51 0, vI v] [] σ _
    refine WS.run (C := []) (pc' := 1) (L' := [vR 51 0, vI v]) (S' := [vI v]) (σ' := σ) 1 rfl trivial ?_
    refine WS.br (P := v < 0) (a := 21) (b := 4) (S' := []) rfl (fun c1 => ?_) (fun c1 => ?_)
    · refine WS.run (C := []) (pc' := 22) (L' := [vR 51 0, vI v]) (S' := [vI (-1 : Int32)]) (σ' := σ) 1 rfl trivial ?_
      exact WS.ret rfl rfl (by decide) rfl (h0 (fun i hi e => hin (by rw [e, nI_t (by omega)]; omega)))
    · refine WS.run (C := []) (pc' := 9) (L' := [vR 51 0, vI v]) (S' := [vI (gI σ 51 0 35), vI v]) (σ' := σ) 3 rfl trivial ?_
      refine WS.br (P := (gI σ 51 0 35) ≤ v) (a := 21) (b := 12) (S' := []) rfl (fun c2 => ?_) (fun c2 => ?_)
      · refine WS.run (C := []) (pc' := 22) (L' := [vR 51 0, vI v]) (S' := [vI (-1 : Int32)]) (σ' := σ) 1 rfl trivial ?_
        exact WS.ret rfl rfl (by decide) rfl (h0 (fun i hi e => hin (by rw [e, nI_t (by omega)]; omega)))
      · refine WS.run (C := [vp_in v 8]) (pc' := 22) (L' := [vR 51 0, vI v]) (S' := [vI (gI σ 84 0 v.toNatClampNeg)]) (σ' := σ) 5 rfl ⟨(by exfalso; have q := c1; have q2 := c2; rw [t_lt, t_0] at q; rw [hl, t_le, nI_t (by omega)] at q2; omega), trivial⟩ ?_
        exact WS.ret rfl rfl (by decide) rfl (by exfalso; have q := c1; have q2 := c2; rw [t_lt, t_0] at q; rw [hl, t_le, nI_t (by omega)] at q2; omega)
end
