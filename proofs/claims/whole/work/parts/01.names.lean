-- ===== PART A: goes FIRST, ahead of the names: the tables' words, and 'selects' of the private methods out of them =====
/-- a private method of a class that the tables say can be made, by its rows of tables_1 -/
def lw_okq (q : MethodName × Nat) : Prop := (q.1.cls ≠ "java/lang/invoke/MethodHandle" ∧ q.1.cls ≠ "java/lang/invoke/VarHandle") ∧ Cond.instantiable q.1.cls q.2 ∈ tables_1 ∧ Cond.privateMethod q.1 ∈ tables_1 ∧ Cond.instanceMethod q.1 ∈ tables_1
theorem lw_p0 : lw_okq (⟨"LeashedNames$Reader", "addNumber", "(I)V"⟩, 8) := ⟨⟨by decide +kernel, by decide +kernel⟩, List.mem_of_getElem? (i := 27) (by decide +kernel), List.mem_of_getElem? (i := 350) (by decide +kernel), List.mem_of_getElem? (i := 351) (by decide +kernel)⟩
theorem lw_p1 : lw_okq (⟨"LeashedNames$Reader", "readAll", "(LLeashedNames$Told;)V"⟩, 8) := ⟨⟨by decide +kernel, by decide +kernel⟩, List.mem_of_getElem? (i := 27) (by decide +kernel), List.mem_of_getElem? (i := 362) (by decide +kernel), List.mem_of_getElem? (i := 363) (by decide +kernel)⟩
theorem lw_p2 : lw_okq (⟨"LeashedNames$Told", "makeEmpty", "()V"⟩, 18) := ⟨⟨by decide +kernel, by decide +kernel⟩, List.mem_of_getElem? (i := 62) (by decide +kernel), List.mem_of_getElem? (i := 366) (by decide +kernel), List.mem_of_getElem? (i := 367) (by decide +kernel)⟩
theorem lw_p3 : lw_okq (⟨"LeashedNames$Reader", "takeToken", "()V"⟩, 8) := ⟨⟨by decide +kernel, by decide +kernel⟩, List.mem_of_getElem? (i := 27) (by decide +kernel), List.mem_of_getElem? (i := 371) (by decide +kernel), List.mem_of_getElem? (i := 372) (by decide +kernel)⟩
theorem lw_p4 : lw_okq (⟨"LeashedNames$Reader", "readLine", "(LLeashedNames$Told;)V"⟩, 8) := ⟨⟨by decide +kernel, by decide +kernel⟩, List.mem_of_getElem? (i := 27) (by decide +kernel), List.mem_of_getElem? (i := 382) (by decide +kernel), List.mem_of_getElem? (i := 383) (by decide +kernel)⟩
theorem lw_p5 : lw_okq (⟨"LeashedNames$Reader", "readHead", "(LLeashedNames$Told;)V"⟩, 8) := ⟨⟨by decide +kernel, by decide +kernel⟩, List.mem_of_getElem? (i := 27) (by decide +kernel), List.mem_of_getElem? (i := 386) (by decide +kernel), List.mem_of_getElem? (i := 387) (by decide +kernel)⟩
theorem lw_p6 : lw_okq (⟨"LeashedNames$Reader", "takeWord", "(Ljava/lang/String;)V"⟩, 8) := ⟨⟨by decide +kernel, by decide +kernel⟩, List.mem_of_getElem? (i := 27) (by decide +kernel), List.mem_of_getElem? (i := 391) (by decide +kernel), List.mem_of_getElem? (i := 392) (by decide +kernel)⟩
theorem lw_p7 : lw_okq (⟨"LeashedNames$Reader", "isWord", "(Ljava/lang/String;)Z"⟩, 8) := ⟨⟨by decide +kernel, by decide +kernel⟩, List.mem_of_getElem? (i := 27) (by decide +kernel), List.mem_of_getElem? (i := 395) (by decide +kernel), List.mem_of_getElem? (i := 396) (by decide +kernel)⟩
theorem lw_p8 : lw_okq (⟨"LeashedNames$Reader", "fail", "(I)V"⟩, 8) := ⟨⟨by decide +kernel, by decide +kernel⟩, List.mem_of_getElem? (i := 27) (by decide +kernel), List.mem_of_getElem? (i := 447) (by decide +kernel), List.mem_of_getElem? (i := 448) (by decide +kernel)⟩
theorem lw_p9 : lw_okq (⟨"LeashedNames$Reader", "takeNumber", "(III)I"⟩, 8) := ⟨⟨by decide +kernel, by decide +kernel⟩, List.mem_of_getElem? (i := 27) (by decide +kernel), List.mem_of_getElem? (i := 452) (by decide +kernel), List.mem_of_getElem? (i := 453) (by decide +kernel)⟩
theorem lw_p10 : lw_okq (⟨"LeashedNames$Reader", "readStreet", "(LLeashedNames$Told;)V"⟩, 8) := ⟨⟨by decide +kernel, by decide +kernel⟩, List.mem_of_getElem? (i := 27) (by decide +kernel), List.mem_of_getElem? (i := 460) (by decide +kernel), List.mem_of_getElem? (i := 461) (by decide +kernel)⟩
theorem lw_p11 : lw_okq (⟨"LeashedNames$Reader", "readWell", "(LLeashedNames$Told;)V"⟩, 8) := ⟨⟨by decide +kernel, by decide +kernel⟩, List.mem_of_getElem? (i := 27) (by decide +kernel), List.mem_of_getElem? (i := 466) (by decide +kernel), List.mem_of_getElem? (i := 467) (by decide +kernel)⟩
theorem lw_p12 : lw_okq (⟨"LeashedNames$Reader", "readName", "(LLeashedNames$Told;)V"⟩, 8) := ⟨⟨by decide +kernel, by decide +kernel⟩, List.mem_of_getElem? (i := 27) (by decide +kernel), List.mem_of_getElem? (i := 472) (by decide +kernel), List.mem_of_getElem? (i := 473) (by decide +kernel)⟩
theorem lw_p13 : lw_okq (⟨"LeashedNames$Reader", "readWalk", "(LLeashedNames$Told;I)V"⟩, 8) := ⟨⟨by decide +kernel, by decide +kernel⟩, List.mem_of_getElem? (i := 27) (by decide +kernel), List.mem_of_getElem? (i := 479) (by decide +kernel), List.mem_of_getElem? (i := 480) (by decide +kernel)⟩
theorem lw_p14 : lw_okq (⟨"LeashedNames$Reader", "readContract", "(LLeashedNames$Told;)V"⟩, 8) := ⟨⟨by decide +kernel, by decide +kernel⟩, List.mem_of_getElem? (i := 27) (by decide +kernel), List.mem_of_getElem? (i := 485) (by decide +kernel), List.mem_of_getElem? (i := 486) (by decide +kernel)⟩
theorem lw_p15 : lw_okq (⟨"LeashedNames$Reader", "takeStop", "()V"⟩, 8) := ⟨⟨by decide +kernel, by decide +kernel⟩, List.mem_of_getElem? (i := 27) (by decide +kernel), List.mem_of_getElem? (i := 489) (by decide +kernel), List.mem_of_getElem? (i := 490) (by decide +kernel)⟩
def lw_privs_1 : List (MethodName × Nat) := [(⟨"LeashedNames$Reader", "addNumber", "(I)V"⟩, 8), (⟨"LeashedNames$Reader", "readAll", "(LLeashedNames$Told;)V"⟩, 8), (⟨"LeashedNames$Told", "makeEmpty", "()V"⟩, 18), (⟨"LeashedNames$Reader", "takeToken", "()V"⟩, 8), (⟨"LeashedNames$Reader", "readLine", "(LLeashedNames$Told;)V"⟩, 8), (⟨"LeashedNames$Reader", "readHead", "(LLeashedNames$Told;)V"⟩, 8), (⟨"LeashedNames$Reader", "takeWord", "(Ljava/lang/String;)V"⟩, 8), (⟨"LeashedNames$Reader", "isWord", "(Ljava/lang/String;)Z"⟩, 8), (⟨"LeashedNames$Reader", "fail", "(I)V"⟩, 8), (⟨"LeashedNames$Reader", "takeNumber", "(III)I"⟩, 8), (⟨"LeashedNames$Reader", "readStreet", "(LLeashedNames$Told;)V"⟩, 8), (⟨"LeashedNames$Reader", "readWell", "(LLeashedNames$Told;)V"⟩, 8), (⟨"LeashedNames$Reader", "readName", "(LLeashedNames$Told;)V"⟩, 8), (⟨"LeashedNames$Reader", "readWalk", "(LLeashedNames$Told;I)V"⟩, 8), (⟨"LeashedNames$Reader", "readContract", "(LLeashedNames$Told;)V"⟩, 8), (⟨"LeashedNames$Reader", "takeStop", "()V"⟩, 8)]
theorem lw_r1 : ∀ q ∈ lw_privs_1, lw_okq q := List.forall_mem_cons.mpr ⟨lw_p0, List.forall_mem_cons.mpr ⟨lw_p1, List.forall_mem_cons.mpr ⟨lw_p2, List.forall_mem_cons.mpr ⟨lw_p3, List.forall_mem_cons.mpr ⟨lw_p4, List.forall_mem_cons.mpr ⟨lw_p5, List.forall_mem_cons.mpr ⟨lw_p6, List.forall_mem_cons.mpr ⟨lw_p7, List.forall_mem_cons.mpr ⟨lw_p8, List.forall_mem_cons.mpr ⟨lw_p9, List.forall_mem_cons.mpr ⟨lw_p10, List.forall_mem_cons.mpr ⟨lw_p11, List.forall_mem_cons.mpr ⟨lw_p12, List.forall_mem_cons.mpr ⟨lw_p13, List.forall_mem_cons.mpr ⟨lw_p14, List.forall_mem_cons.mpr ⟨lw_p15, fun _ h => absurd h List.not_mem_nil⟩⟩⟩⟩⟩⟩⟩⟩⟩⟩⟩⟩⟩⟩⟩⟩
theorem lw_p16 : lw_okq (⟨"LeashedNames$Told", "takeFrom", "(LLeashedNames$Told;)V"⟩, 18) := ⟨⟨by decide +kernel, by decide +kernel⟩, List.mem_of_getElem? (i := 62) (by decide +kernel), List.mem_of_getElem? (i := 493) (by decide +kernel), List.mem_of_getElem? (i := 494) (by decide +kernel)⟩
theorem lw_p17 : lw_okq (⟨"LeashedNames$Acts", "removeAll", "()V"⟩, 7) := ⟨⟨by decide +kernel, by decide +kernel⟩, List.mem_of_getElem? (i := 173) (by decide +kernel), List.mem_of_getElem? (i := 500) (by decide +kernel), List.mem_of_getElem? (i := 501) (by decide +kernel)⟩
theorem lw_p18 : lw_okq (⟨"LeashedNames$Acts", "playAgain", "()V"⟩, 7) := ⟨⟨by decide +kernel, by decide +kernel⟩, List.mem_of_getElem? (i := 173) (by decide +kernel), List.mem_of_getElem? (i := 504) (by decide +kernel), List.mem_of_getElem? (i := 505) (by decide +kernel)⟩
theorem lw_p19 : lw_okq (⟨"LeashedNames$Acts", "takeEffect", "(I)V"⟩, 7) := ⟨⟨by decide +kernel, by decide +kernel⟩, List.mem_of_getElem? (i := 173) (by decide +kernel), List.mem_of_getElem? (i := 508) (by decide +kernel), List.mem_of_getElem? (i := 509) (by decide +kernel)⟩
theorem lw_p20 : lw_okq (⟨"LeashedNames", "settle", "()V"⟩, 9) := ⟨⟨by decide +kernel, by decide +kernel⟩, List.mem_of_getElem? (i := 19) (by decide +kernel), List.mem_of_getElem? (i := 512) (by decide +kernel), List.mem_of_getElem? (i := 513) (by decide +kernel)⟩
theorem lw_p21 : lw_okq (⟨"LeashedNames$Day", "asNow", "()V"⟩, 12) := ⟨⟨by decide +kernel, by decide +kernel⟩, List.mem_of_getElem? (i := 208) (by decide +kernel), List.mem_of_getElem? (i := 516) (by decide +kernel), List.mem_of_getElem? (i := 517) (by decide +kernel)⟩
theorem lw_p22 : lw_okq (⟨"LeashedNames$Day", "runAll", "(I)I"⟩, 12) := ⟨⟨by decide +kernel, by decide +kernel⟩, List.mem_of_getElem? (i := 208) (by decide +kernel), List.mem_of_getElem? (i := 521) (by decide +kernel), List.mem_of_getElem? (i := 522) (by decide +kernel)⟩
theorem lw_p23 : lw_okq (⟨"LeashedNames$Day", "begin", "()V"⟩, 12) := ⟨⟨by decide +kernel, by decide +kernel⟩, List.mem_of_getElem? (i := 208) (by decide +kernel), List.mem_of_getElem? (i := 525) (by decide +kernel), List.mem_of_getElem? (i := 526) (by decide +kernel)⟩
theorem lw_p24 : lw_okq (⟨"LeashedNames$Net", "build", "(LLeashedNames$Told;I)V"⟩, 1) := ⟨⟨by decide +kernel, by decide +kernel⟩, List.mem_of_getElem? (i := 214) (by decide +kernel), List.mem_of_getElem? (i := 529) (by decide +kernel), List.mem_of_getElem? (i := 530) (by decide +kernel)⟩
theorem lw_p25 : lw_okq (⟨"LeashedNames$Day", "drinkAll", "(I)V"⟩, 12) := ⟨⟨by decide +kernel, by decide +kernel⟩, List.mem_of_getElem? (i := 208) (by decide +kernel), List.mem_of_getElem? (i := 534) (by decide +kernel), List.mem_of_getElem? (i := 535) (by decide +kernel)⟩
theorem lw_p26 : lw_okq (⟨"LeashedNames$Day", "inkAt", "(I)I"⟩, 12) := ⟨⟨by decide +kernel, by decide +kernel⟩, List.mem_of_getElem? (i := 208) (by decide +kernel), List.mem_of_getElem? (i := 538) (by decide +kernel), List.mem_of_getElem? (i := 539) (by decide +kernel)⟩
theorem lw_p27 : lw_okq (⟨"LeashedNames$Day", "signAll", "(I)V"⟩, 12) := ⟨⟨by decide +kernel, by decide +kernel⟩, List.mem_of_getElem? (i := 208) (by decide +kernel), List.mem_of_getElem? (i := 543) (by decide +kernel), List.mem_of_getElem? (i := 544) (by decide +kernel)⟩
theorem lw_p28 : lw_okq (⟨"LeashedNames$Day", "cornerOfAll", "(II)I"⟩, 12) := ⟨⟨by decide +kernel, by decide +kernel⟩, List.mem_of_getElem? (i := 208) (by decide +kernel), List.mem_of_getElem? (i := 547) (by decide +kernel), List.mem_of_getElem? (i := 548) (by decide +kernel)⟩
theorem lw_p29 : lw_okq (⟨"LeashedNames$Day", "namesAwake", "(I)I"⟩, 12) := ⟨⟨by decide +kernel, by decide +kernel⟩, List.mem_of_getElem? (i := 208) (by decide +kernel), List.mem_of_getElem? (i := 551) (by decide +kernel), List.mem_of_getElem? (i := 552) (by decide +kernel)⟩
theorem lw_p30 : lw_okq (⟨"LeashedNames$Day", "namesAt", "(II)I"⟩, 12) := ⟨⟨by decide +kernel, by decide +kernel⟩, List.mem_of_getElem? (i := 208) (by decide +kernel), List.mem_of_getElem? (i := 555) (by decide +kernel), List.mem_of_getElem? (i := 556) (by decide +kernel)⟩
theorem lw_p31 : lw_okq (⟨"LeashedNames$Day", "isBarred", "(ZZZ)Z"⟩, 12) := ⟨⟨by decide +kernel, by decide +kernel⟩, List.mem_of_getElem? (i := 208) (by decide +kernel), List.mem_of_getElem? (i := 559) (by decide +kernel), List.mem_of_getElem? (i := 560) (by decide +kernel)⟩
def lw_privs_2 : List (MethodName × Nat) := [(⟨"LeashedNames$Told", "takeFrom", "(LLeashedNames$Told;)V"⟩, 18), (⟨"LeashedNames$Acts", "removeAll", "()V"⟩, 7), (⟨"LeashedNames$Acts", "playAgain", "()V"⟩, 7), (⟨"LeashedNames$Acts", "takeEffect", "(I)V"⟩, 7), (⟨"LeashedNames", "settle", "()V"⟩, 9), (⟨"LeashedNames$Day", "asNow", "()V"⟩, 12), (⟨"LeashedNames$Day", "runAll", "(I)I"⟩, 12), (⟨"LeashedNames$Day", "begin", "()V"⟩, 12), (⟨"LeashedNames$Net", "build", "(LLeashedNames$Told;I)V"⟩, 1), (⟨"LeashedNames$Day", "drinkAll", "(I)V"⟩, 12), (⟨"LeashedNames$Day", "inkAt", "(I)I"⟩, 12), (⟨"LeashedNames$Day", "signAll", "(I)V"⟩, 12), (⟨"LeashedNames$Day", "cornerOfAll", "(II)I"⟩, 12), (⟨"LeashedNames$Day", "namesAwake", "(I)I"⟩, 12), (⟨"LeashedNames$Day", "namesAt", "(II)I"⟩, 12), (⟨"LeashedNames$Day", "isBarred", "(ZZZ)Z"⟩, 12)]
theorem lw_r2 : ∀ q ∈ lw_privs_2, lw_okq q := List.forall_mem_cons.mpr ⟨lw_p16, List.forall_mem_cons.mpr ⟨lw_p17, List.forall_mem_cons.mpr ⟨lw_p18, List.forall_mem_cons.mpr ⟨lw_p19, List.forall_mem_cons.mpr ⟨lw_p20, List.forall_mem_cons.mpr ⟨lw_p21, List.forall_mem_cons.mpr ⟨lw_p22, List.forall_mem_cons.mpr ⟨lw_p23, List.forall_mem_cons.mpr ⟨lw_p24, List.forall_mem_cons.mpr ⟨lw_p25, List.forall_mem_cons.mpr ⟨lw_p26, List.forall_mem_cons.mpr ⟨lw_p27, List.forall_mem_cons.mpr ⟨lw_p28, List.forall_mem_cons.mpr ⟨lw_p29, List.forall_mem_cons.mpr ⟨lw_p30, List.forall_mem_cons.mpr ⟨lw_p31, fun _ h => absurd h List.not_mem_nil⟩⟩⟩⟩⟩⟩⟩⟩⟩⟩⟩⟩⟩⟩⟩⟩
theorem lw_p32 : lw_okq (⟨"LeashedNames$Day", "payInk", "(II)V"⟩, 12) := ⟨⟨by decide +kernel, by decide +kernel⟩, List.mem_of_getElem? (i := 208) (by decide +kernel), List.mem_of_getElem? (i := 563) (by decide +kernel), List.mem_of_getElem? (i := 564) (by decide +kernel)⟩
theorem lw_p33 : lw_okq (⟨"LeashedNames$Day", "goOn", "(IZ)V"⟩, 12) := ⟨⟨by decide +kernel, by decide +kernel⟩, List.mem_of_getElem? (i := 208) (by decide +kernel), List.mem_of_getElem? (i := 567) (by decide +kernel), List.mem_of_getElem? (i := 568) (by decide +kernel)⟩
theorem lw_p34 : lw_okq (⟨"LeashedNames$Day", "aimOf", "(II)I"⟩, 12) := ⟨⟨by decide +kernel, by decide +kernel⟩, List.mem_of_getElem? (i := 208) (by decide +kernel), List.mem_of_getElem? (i := 571) (by decide +kernel), List.mem_of_getElem? (i := 572) (by decide +kernel)⟩
theorem lw_p35 : lw_okq (⟨"LeashedNames$Net", "joins", "(II)Z"⟩, 1) := ⟨⟨by decide +kernel, by decide +kernel⟩, List.mem_of_getElem? (i := 214) (by decide +kernel), List.mem_of_getElem? (i := 575) (by decide +kernel), List.mem_of_getElem? (i := 576) (by decide +kernel)⟩
theorem lw_p36 : lw_okq (⟨"LeashedNames$Told", "hasStreet", "(I)Z"⟩, 18) := ⟨⟨by decide +kernel, by decide +kernel⟩, List.mem_of_getElem? (i := 62) (by decide +kernel), List.mem_of_getElem? (i := 597) (by decide +kernel), List.mem_of_getElem? (i := 598) (by decide +kernel)⟩
theorem lw_p37 : lw_okq (⟨"LeashedNames$Told", "hasCorner", "(I)Z"⟩, 18) := ⟨⟨by decide +kernel, by decide +kernel⟩, List.mem_of_getElem? (i := 62) (by decide +kernel), List.mem_of_getElem? (i := 605) (by decide +kernel), List.mem_of_getElem? (i := 606) (by decide +kernel)⟩
theorem lw_p38 : lw_okq (⟨"LeashedNames$Told", "hasName", "(I)Z"⟩, 18) := ⟨⟨by decide +kernel, by decide +kernel⟩, List.mem_of_getElem? (i := 62) (by decide +kernel), List.mem_of_getElem? (i := 613) (by decide +kernel), List.mem_of_getElem? (i := 614) (by decide +kernel)⟩
theorem lw_p39 : lw_okq (⟨"LeashedNames$Told", "hasContract", "(I)Z"⟩, 18) := ⟨⟨by decide +kernel, by decide +kernel⟩, List.mem_of_getElem? (i := 62) (by decide +kernel), List.mem_of_getElem? (i := 625) (by decide +kernel), List.mem_of_getElem? (i := 626) (by decide +kernel)⟩
theorem lw_p40 : lw_okq (⟨"LeashedNames$Told", "hasStep", "(I)Z"⟩, 18) := ⟨⟨by decide +kernel, by decide +kernel⟩, List.mem_of_getElem? (i := 62) (by decide +kernel), List.mem_of_getElem? (i := 633) (by decide +kernel), List.mem_of_getElem? (i := 634) (by decide +kernel)⟩
theorem lw_p41 : lw_okq (⟨"LeashedNames$Told", "isThere", "()Z"⟩, 18) := ⟨⟨by decide +kernel, by decide +kernel⟩, List.mem_of_getElem? (i := 62) (by decide +kernel), List.mem_of_getElem? (i := 637) (by decide +kernel), List.mem_of_getElem? (i := 638) (by decide +kernel)⟩
theorem lw_p42 : lw_okq (⟨"LeashedNames$Day", "firstDry", "(I)I"⟩, 12) := ⟨⟨by decide +kernel, by decide +kernel⟩, List.mem_of_getElem? (i := 208) (by decide +kernel), List.mem_of_getElem? (i := 659) (by decide +kernel), List.mem_of_getElem? (i := 660) (by decide +kernel)⟩
theorem lw_p43 : lw_okq (⟨"LeashedNames$Day", "streetsGone", "(I)I"⟩, 12) := ⟨⟨by decide +kernel, by decide +kernel⟩, List.mem_of_getElem? (i := 208) (by decide +kernel), List.mem_of_getElem? (i := 667) (by decide +kernel), List.mem_of_getElem? (i := 668) (by decide +kernel)⟩
theorem lw_p44 : lw_okq (⟨"LeashedNames$Day", "stepsStuck", "(I)I"⟩, 12) := ⟨⟨by decide +kernel, by decide +kernel⟩, List.mem_of_getElem? (i := 208) (by decide +kernel), List.mem_of_getElem? (i := 675) (by decide +kernel), List.mem_of_getElem? (i := 676) (by decide +kernel)⟩
theorem lw_p45 : lw_okq (⟨"LeashedNames$Day", "cornersSeen", "(I)I"⟩, 12) := ⟨⟨by decide +kernel, by decide +kernel⟩, List.mem_of_getElem? (i := 208) (by decide +kernel), List.mem_of_getElem? (i := 683) (by decide +kernel), List.mem_of_getElem? (i := 684) (by decide +kernel)⟩
theorem lw_p46 : lw_okq (⟨"LeashedNames$Day", "inkDrunk", "(I)I"⟩, 12) := ⟨⟨by decide +kernel, by decide +kernel⟩, List.mem_of_getElem? (i := 208) (by decide +kernel), List.mem_of_getElem? (i := 691) (by decide +kernel), List.mem_of_getElem? (i := 692) (by decide +kernel)⟩
theorem lw_p47 : lw_okq (⟨"LeashedNames$Day", "firstSigned", "(I)I"⟩, 12) := ⟨⟨by decide +kernel, by decide +kernel⟩, List.mem_of_getElem? (i := 208) (by decide +kernel), List.mem_of_getElem? (i := 699) (by decide +kernel), List.mem_of_getElem? (i := 700) (by decide +kernel)⟩
def lw_privs_3 : List (MethodName × Nat) := [(⟨"LeashedNames$Day", "payInk", "(II)V"⟩, 12), (⟨"LeashedNames$Day", "goOn", "(IZ)V"⟩, 12), (⟨"LeashedNames$Day", "aimOf", "(II)I"⟩, 12), (⟨"LeashedNames$Net", "joins", "(II)Z"⟩, 1), (⟨"LeashedNames$Told", "hasStreet", "(I)Z"⟩, 18), (⟨"LeashedNames$Told", "hasCorner", "(I)Z"⟩, 18), (⟨"LeashedNames$Told", "hasName", "(I)Z"⟩, 18), (⟨"LeashedNames$Told", "hasContract", "(I)Z"⟩, 18), (⟨"LeashedNames$Told", "hasStep", "(I)Z"⟩, 18), (⟨"LeashedNames$Told", "isThere", "()Z"⟩, 18), (⟨"LeashedNames$Day", "firstDry", "(I)I"⟩, 12), (⟨"LeashedNames$Day", "streetsGone", "(I)I"⟩, 12), (⟨"LeashedNames$Day", "stepsStuck", "(I)I"⟩, 12), (⟨"LeashedNames$Day", "cornersSeen", "(I)I"⟩, 12), (⟨"LeashedNames$Day", "inkDrunk", "(I)I"⟩, 12), (⟨"LeashedNames$Day", "firstSigned", "(I)I"⟩, 12)]
theorem lw_r3 : ∀ q ∈ lw_privs_3, lw_okq q := List.forall_mem_cons.mpr ⟨lw_p32, List.forall_mem_cons.mpr ⟨lw_p33, List.forall_mem_cons.mpr ⟨lw_p34, List.forall_mem_cons.mpr ⟨lw_p35, List.forall_mem_cons.mpr ⟨lw_p36, List.forall_mem_cons.mpr ⟨lw_p37, List.forall_mem_cons.mpr ⟨lw_p38, List.forall_mem_cons.mpr ⟨lw_p39, List.forall_mem_cons.mpr ⟨lw_p40, List.forall_mem_cons.mpr ⟨lw_p41, List.forall_mem_cons.mpr ⟨lw_p42, List.forall_mem_cons.mpr ⟨lw_p43, List.forall_mem_cons.mpr ⟨lw_p44, List.forall_mem_cons.mpr ⟨lw_p45, List.forall_mem_cons.mpr ⟨lw_p46, List.forall_mem_cons.mpr ⟨lw_p47, fun _ h => absurd h List.not_mem_nil⟩⟩⟩⟩⟩⟩⟩⟩⟩⟩⟩⟩⟩⟩⟩⟩
theorem lw_p48 : lw_okq (⟨"LeashedNames$Told", "contractsOf", "(I)I"⟩, 18) := ⟨⟨by decide +kernel, by decide +kernel⟩, List.mem_of_getElem? (i := 62) (by decide +kernel), List.mem_of_getElem? (i := 716) (by decide +kernel), List.mem_of_getElem? (i := 717) (by decide +kernel)⟩
theorem lw_p49 : lw_okq (⟨"LeashedNames$Day", "firstTogether", "(I)I"⟩, 12) := ⟨⟨by decide +kernel, by decide +kernel⟩, List.mem_of_getElem? (i := 208) (by decide +kernel), List.mem_of_getElem? (i := 725) (by decide +kernel), List.mem_of_getElem? (i := 726) (by decide +kernel)⟩
theorem lw_p50 : lw_okq (⟨"LeashedNames$Day", "stepsTogether", "(I)I"⟩, 12) := ⟨⟨by decide +kernel, by decide +kernel⟩, List.mem_of_getElem? (i := 208) (by decide +kernel), List.mem_of_getElem? (i := 733) (by decide +kernel), List.mem_of_getElem? (i := 734) (by decide +kernel)⟩
theorem lw_p51 : lw_okq (⟨"LeashedNames$Day", "largestPack", "()I"⟩, 12) := ⟨⟨by decide +kernel, by decide +kernel⟩, List.mem_of_getElem? (i := 208) (by decide +kernel), List.mem_of_getElem? (i := 742) (by decide +kernel), List.mem_of_getElem? (i := 743) (by decide +kernel)⟩
theorem lw_p52 : lw_okq (⟨"LeashedNames$Day", "busiestCorner", "()I"⟩, 12) := ⟨⟨by decide +kernel, by decide +kernel⟩, List.mem_of_getElem? (i := 208) (by decide +kernel), List.mem_of_getElem? (i := 750) (by decide +kernel), List.mem_of_getElem? (i := 751) (by decide +kernel)⟩
theorem lw_p53 : lw_okq (⟨"LeashedNames$Day", "namesAlone", "(I)I"⟩, 12) := ⟨⟨by decide +kernel, by decide +kernel⟩, List.mem_of_getElem? (i := 208) (by decide +kernel), List.mem_of_getElem? (i := 758) (by decide +kernel), List.mem_of_getElem? (i := 759) (by decide +kernel)⟩
theorem lw_p54 : lw_okq (⟨"LeashedNames$Day", "inkOfAll", "(I)I"⟩, 12) := ⟨⟨by decide +kernel, by decide +kernel⟩, List.mem_of_getElem? (i := 208) (by decide +kernel), List.mem_of_getElem? (i := 766) (by decide +kernel), List.mem_of_getElem? (i := 767) (by decide +kernel)⟩
theorem lw_p55 : lw_okq (⟨"LeashedNames$Day", "leastDry", "(I)I"⟩, 12) := ⟨⟨by decide +kernel, by decide +kernel⟩, List.mem_of_getElem? (i := 208) (by decide +kernel), List.mem_of_getElem? (i := 782) (by decide +kernel), List.mem_of_getElem? (i := 783) (by decide +kernel)⟩
theorem lw_p56 : lw_okq (⟨"LeashedNames$Net", "distance", "(II)I"⟩, 1) := ⟨⟨by decide +kernel, by decide +kernel⟩, List.mem_of_getElem? (i := 214) (by decide +kernel), List.mem_of_getElem? (i := 790) (by decide +kernel), List.mem_of_getElem? (i := 791) (by decide +kernel)⟩
theorem lw_p57 : lw_okq (⟨"LeashedNames$Net", "spread", "(I)I"⟩, 1) := ⟨⟨by decide +kernel, by decide +kernel⟩, List.mem_of_getElem? (i := 214) (by decide +kernel), List.mem_of_getElem? (i := 794) (by decide +kernel), List.mem_of_getElem? (i := 795) (by decide +kernel)⟩
theorem lw_p58 : lw_okq (⟨"LeashedNames$Net", "within", "(II)I"⟩, 1) := ⟨⟨by decide +kernel, by decide +kernel⟩, List.mem_of_getElem? (i := 214) (by decide +kernel), List.mem_of_getElem? (i := 802) (by decide +kernel), List.mem_of_getElem? (i := 803) (by decide +kernel)⟩
theorem lw_p59 : lw_okq (⟨"LeashedNames", "fewestToGather", "(I)I"⟩, 9) := ⟨⟨by decide +kernel, by decide +kernel⟩, List.mem_of_getElem? (i := 19) (by decide +kernel), List.mem_of_getElem? (i := 810) (by decide +kernel), List.mem_of_getElem? (i := 811) (by decide +kernel)⟩
theorem lw_p60 : lw_okq (⟨"LeashedNames", "cornersForAll", "(II)I"⟩, 9) := ⟨⟨by decide +kernel, by decide +kernel⟩, List.mem_of_getElem? (i := 19) (by decide +kernel), List.mem_of_getElem? (i := 814) (by decide +kernel), List.mem_of_getElem? (i := 815) (by decide +kernel)⟩
theorem lw_p61 : lw_okq (⟨"LeashedNames", "streetsToCut", "(II)I"⟩, 9) := ⟨⟨by decide +kernel, by decide +kernel⟩, List.mem_of_getElem? (i := 19) (by decide +kernel), List.mem_of_getElem? (i := 833) (by decide +kernel), List.mem_of_getElem? (i := 834) (by decide +kernel)⟩
theorem lw_p62 : lw_okq (⟨"LeashedNames", "areTwo", "(II)Z"⟩, 9) := ⟨⟨by decide +kernel, by decide +kernel⟩, List.mem_of_getElem? (i := 19) (by decide +kernel), List.mem_of_getElem? (i := 837) (by decide +kernel), List.mem_of_getElem? (i := 838) (by decide +kernel)⟩
theorem lw_p63 : lw_okq (⟨"LeashedNames", "isCutBy", "(III)Z"⟩, 9) := ⟨⟨by decide +kernel, by decide +kernel⟩, List.mem_of_getElem? (i := 19) (by decide +kernel), List.mem_of_getElem? (i := 841) (by decide +kernel), List.mem_of_getElem? (i := 842) (by decide +kernel)⟩
def lw_privs_4 : List (MethodName × Nat) := [(⟨"LeashedNames$Told", "contractsOf", "(I)I"⟩, 18), (⟨"LeashedNames$Day", "firstTogether", "(I)I"⟩, 12), (⟨"LeashedNames$Day", "stepsTogether", "(I)I"⟩, 12), (⟨"LeashedNames$Day", "largestPack", "()I"⟩, 12), (⟨"LeashedNames$Day", "busiestCorner", "()I"⟩, 12), (⟨"LeashedNames$Day", "namesAlone", "(I)I"⟩, 12), (⟨"LeashedNames$Day", "inkOfAll", "(I)I"⟩, 12), (⟨"LeashedNames$Day", "leastDry", "(I)I"⟩, 12), (⟨"LeashedNames$Net", "distance", "(II)I"⟩, 1), (⟨"LeashedNames$Net", "spread", "(I)I"⟩, 1), (⟨"LeashedNames$Net", "within", "(II)I"⟩, 1), (⟨"LeashedNames", "fewestToGather", "(I)I"⟩, 9), (⟨"LeashedNames", "cornersForAll", "(II)I"⟩, 9), (⟨"LeashedNames", "streetsToCut", "(II)I"⟩, 9), (⟨"LeashedNames", "areTwo", "(II)Z"⟩, 9), (⟨"LeashedNames", "isCutBy", "(III)Z"⟩, 9)]
theorem lw_r4 : ∀ q ∈ lw_privs_4, lw_okq q := List.forall_mem_cons.mpr ⟨lw_p48, List.forall_mem_cons.mpr ⟨lw_p49, List.forall_mem_cons.mpr ⟨lw_p50, List.forall_mem_cons.mpr ⟨lw_p51, List.forall_mem_cons.mpr ⟨lw_p52, List.forall_mem_cons.mpr ⟨lw_p53, List.forall_mem_cons.mpr ⟨lw_p54, List.forall_mem_cons.mpr ⟨lw_p55, List.forall_mem_cons.mpr ⟨lw_p56, List.forall_mem_cons.mpr ⟨lw_p57, List.forall_mem_cons.mpr ⟨lw_p58, List.forall_mem_cons.mpr ⟨lw_p59, List.forall_mem_cons.mpr ⟨lw_p60, List.forall_mem_cons.mpr ⟨lw_p61, List.forall_mem_cons.mpr ⟨lw_p62, List.forall_mem_cons.mpr ⟨lw_p63, fun _ h => absurd h List.not_mem_nil⟩⟩⟩⟩⟩⟩⟩⟩⟩⟩⟩⟩⟩⟩⟩⟩
theorem lw_p64 : lw_okq (⟨"LeashedNames", "signedByLaw", "(I)I"⟩, 9) := ⟨⟨by decide +kernel, by decide +kernel⟩, List.mem_of_getElem? (i := 19) (by decide +kernel), List.mem_of_getElem? (i := 854) (by decide +kernel), List.mem_of_getElem? (i := 855) (by decide +kernel)⟩
theorem lw_p65 : lw_okq (⟨"LeashedNames", "signedWithInk", "(II)I"⟩, 9) := ⟨⟨by decide +kernel, by decide +kernel⟩, List.mem_of_getElem? (i := 19) (by decide +kernel), List.mem_of_getElem? (i := 866) (by decide +kernel), List.mem_of_getElem? (i := 867) (by decide +kernel)⟩
theorem lw_p66 : lw_okq (⟨"LeashedNames", "signedLivingAt", "(II)I"⟩, 9) := ⟨⟨by decide +kernel, by decide +kernel⟩, List.mem_of_getElem? (i := 19) (by decide +kernel), List.mem_of_getElem? (i := 874) (by decide +kernel), List.mem_of_getElem? (i := 875) (by decide +kernel)⟩
theorem lw_p67 : lw_okq (⟨"LeashedNames", "signedNow", "()I"⟩, 9) := ⟨⟨by decide +kernel, by decide +kernel⟩, List.mem_of_getElem? (i := 19) (by decide +kernel), List.mem_of_getElem? (i := 882) (by decide +kernel), List.mem_of_getElem? (i := 883) (by decide +kernel)⟩
theorem lw_p68 : lw_okq (⟨"LeashedNames", "possibleHomes", "(II)I"⟩, 9) := ⟨⟨by decide +kernel, by decide +kernel⟩, List.mem_of_getElem? (i := 19) (by decide +kernel), List.mem_of_getElem? (i := 894) (by decide +kernel), List.mem_of_getElem? (i := 895) (by decide +kernel)⟩
theorem lw_p69 : lw_okq (⟨"LeashedNames$Rows", "isFilled", "(I)Z"⟩, 3) := ⟨⟨by decide +kernel, by decide +kernel⟩, List.mem_of_getElem? (i := 295) (by decide +kernel), List.mem_of_getElem? (i := 901) (by decide +kernel), List.mem_of_getElem? (i := 902) (by decide +kernel)⟩
theorem lw_p70 : lw_okq (⟨"LeashedNames$Rows", "holdsPairs", "(IIII)Z"⟩, 3) := ⟨⟨by decide +kernel, by decide +kernel⟩, List.mem_of_getElem? (i := 295) (by decide +kernel), List.mem_of_getElem? (i := 905) (by decide +kernel), List.mem_of_getElem? (i := 906) (by decide +kernel)⟩
theorem lw_p71 : lw_okq (⟨"LeashedNames", "keepTrace", "(II)V"⟩, 9) := ⟨⟨by decide +kernel, by decide +kernel⟩, List.mem_of_getElem? (i := 19) (by decide +kernel), List.mem_of_getElem? (i := 909) (by decide +kernel), List.mem_of_getElem? (i := 910) (by decide +kernel)⟩
theorem lw_p72 : lw_okq (⟨"LeashedNames", "agreesWithSeen", "(II)Z"⟩, 9) := ⟨⟨by decide +kernel, by decide +kernel⟩, List.mem_of_getElem? (i := 19) (by decide +kernel), List.mem_of_getElem? (i := 913) (by decide +kernel), List.mem_of_getElem? (i := 914) (by decide +kernel)⟩
theorem lw_p73 : lw_okq (⟨"LeashedNames", "traced", "(II)I"⟩, 9) := ⟨⟨by decide +kernel, by decide +kernel⟩, List.mem_of_getElem? (i := 19) (by decide +kernel), List.mem_of_getElem? (i := 917) (by decide +kernel), List.mem_of_getElem? (i := 918) (by decide +kernel)⟩
theorem lw_p74 : lw_okq (⟨"LeashedNames", "stepToAsk", "(I)I"⟩, 9) := ⟨⟨by decide +kernel, by decide +kernel⟩, List.mem_of_getElem? (i := 19) (by decide +kernel), List.mem_of_getElem? (i := 925) (by decide +kernel), List.mem_of_getElem? (i := 926) (by decide +kernel)⟩
theorem lw_p75 : lw_okq (⟨"LeashedNames", "homesLeft", "(II)I"⟩, 9) := ⟨⟨by decide +kernel, by decide +kernel⟩, List.mem_of_getElem? (i := 19) (by decide +kernel), List.mem_of_getElem? (i := 929) (by decide +kernel), List.mem_of_getElem? (i := 930) (by decide +kernel)⟩
theorem lw_p76 : lw_okq (⟨"LeashedNames", "possibleForged", "(I)I"⟩, 9) := ⟨⟨by decide +kernel, by decide +kernel⟩, List.mem_of_getElem? (i := 19) (by decide +kernel), List.mem_of_getElem? (i := 942) (by decide +kernel), List.mem_of_getElem? (i := 943) (by decide +kernel)⟩
theorem lw_p77 : lw_okq (⟨"LeashedNames", "agreesWithSniffs", "(II)Z"⟩, 9) := ⟨⟨by decide +kernel, by decide +kernel⟩, List.mem_of_getElem? (i := 19) (by decide +kernel), List.mem_of_getElem? (i := 946) (by decide +kernel), List.mem_of_getElem? (i := 947) (by decide +kernel)⟩
theorem lw_p78 : lw_okq (⟨"LeashedNames", "forgedLeft", "(II)I"⟩, 9) := ⟨⟨by decide +kernel, by decide +kernel⟩, List.mem_of_getElem? (i := 19) (by decide +kernel), List.mem_of_getElem? (i := 954) (by decide +kernel), List.mem_of_getElem? (i := 955) (by decide +kernel)⟩
theorem lw_p79 : lw_okq (⟨"LeashedNames", "sixthsOfShare", "(I)I"⟩, 9) := ⟨⟨by decide +kernel, by decide +kernel⟩, List.mem_of_getElem? (i := 19) (by decide +kernel), List.mem_of_getElem? (i := 966) (by decide +kernel), List.mem_of_getElem? (i := 967) (by decide +kernel)⟩
def lw_privs_5 : List (MethodName × Nat) := [(⟨"LeashedNames", "signedByLaw", "(I)I"⟩, 9), (⟨"LeashedNames", "signedWithInk", "(II)I"⟩, 9), (⟨"LeashedNames", "signedLivingAt", "(II)I"⟩, 9), (⟨"LeashedNames", "signedNow", "()I"⟩, 9), (⟨"LeashedNames", "possibleHomes", "(II)I"⟩, 9), (⟨"LeashedNames$Rows", "isFilled", "(I)Z"⟩, 3), (⟨"LeashedNames$Rows", "holdsPairs", "(IIII)Z"⟩, 3), (⟨"LeashedNames", "keepTrace", "(II)V"⟩, 9), (⟨"LeashedNames", "agreesWithSeen", "(II)Z"⟩, 9), (⟨"LeashedNames", "traced", "(II)I"⟩, 9), (⟨"LeashedNames", "stepToAsk", "(I)I"⟩, 9), (⟨"LeashedNames", "homesLeft", "(II)I"⟩, 9), (⟨"LeashedNames", "possibleForged", "(I)I"⟩, 9), (⟨"LeashedNames", "agreesWithSniffs", "(II)Z"⟩, 9), (⟨"LeashedNames", "forgedLeft", "(II)I"⟩, 9), (⟨"LeashedNames", "sixthsOfShare", "(I)I"⟩, 9)]
theorem lw_r5 : ∀ q ∈ lw_privs_5, lw_okq q := List.forall_mem_cons.mpr ⟨lw_p64, List.forall_mem_cons.mpr ⟨lw_p65, List.forall_mem_cons.mpr ⟨lw_p66, List.forall_mem_cons.mpr ⟨lw_p67, List.forall_mem_cons.mpr ⟨lw_p68, List.forall_mem_cons.mpr ⟨lw_p69, List.forall_mem_cons.mpr ⟨lw_p70, List.forall_mem_cons.mpr ⟨lw_p71, List.forall_mem_cons.mpr ⟨lw_p72, List.forall_mem_cons.mpr ⟨lw_p73, List.forall_mem_cons.mpr ⟨lw_p74, List.forall_mem_cons.mpr ⟨lw_p75, List.forall_mem_cons.mpr ⟨lw_p76, List.forall_mem_cons.mpr ⟨lw_p77, List.forall_mem_cons.mpr ⟨lw_p78, List.forall_mem_cons.mpr ⟨lw_p79, fun _ h => absurd h List.not_mem_nil⟩⟩⟩⟩⟩⟩⟩⟩⟩⟩⟩⟩⟩⟩⟩⟩
theorem lw_p80 : lw_okq (⟨"LeashedNames", "gains", "(IIII)I"⟩, 9) := ⟨⟨by decide +kernel, by decide +kernel⟩, List.mem_of_getElem? (i := 19) (by decide +kernel), List.mem_of_getElem? (i := 982) (by decide +kernel), List.mem_of_getElem? (i := 983) (by decide +kernel)⟩
theorem lw_p81 : lw_okq (⟨"LeashedNames", "canRainTo", "(I)Z"⟩, 9) := ⟨⟨by decide +kernel, by decide +kernel⟩, List.mem_of_getElem? (i := 19) (by decide +kernel), List.mem_of_getElem? (i := 994) (by decide +kernel), List.mem_of_getElem? (i := 995) (by decide +kernel)⟩
theorem lw_p82 : lw_okq (⟨"LeashedNames", "rainMean", "(III)J"⟩, 9) := ⟨⟨by decide +kernel, by decide +kernel⟩, List.mem_of_getElem? (i := 19) (by decide +kernel), List.mem_of_getElem? (i := 998) (by decide +kernel), List.mem_of_getElem? (i := 999) (by decide +kernel)⟩
theorem lw_p83 : lw_okq (⟨"LeashedNames$Acts", "add", "(IIII)V"⟩, 7) := ⟨⟨by decide +kernel, by decide +kernel⟩, List.mem_of_getElem? (i := 173) (by decide +kernel), List.mem_of_getElem? (i := 1016) (by decide +kernel), List.mem_of_getElem? (i := 1017) (by decide +kernel)⟩
theorem lw_p84 : lw_okq (⟨"LeashedNames$Acts", "removeLast", "()V"⟩, 7) := ⟨⟨by decide +kernel, by decide +kernel⟩, List.mem_of_getElem? (i := 173) (by decide +kernel), List.mem_of_getElem? (i := 1028) (by decide +kernel), List.mem_of_getElem? (i := 1029) (by decide +kernel)⟩
theorem lw_p85 : lw_okq (⟨"LeashedNames", "rainDrawn", "(I)I"⟩, 9) := ⟨⟨by decide +kernel, by decide +kernel⟩, List.mem_of_getElem? (i := 19) (by decide +kernel), List.mem_of_getElem? (i := 1044) (by decide +kernel), List.mem_of_getElem? (i := 1045) (by decide +kernel)⟩
theorem lw_p86 : lw_okq (⟨"LeashedNames", "signedInRain", "(I)I"⟩, 9) := ⟨⟨by decide +kernel, by decide +kernel⟩, List.mem_of_getElem? (i := 19) (by decide +kernel), List.mem_of_getElem? (i := 1052) (by decide +kernel), List.mem_of_getElem? (i := 1053) (by decide +kernel)⟩
theorem lw_p87 : lw_okq (⟨"LeashedNames$Rows", "howMany", "()I"⟩, 3) := ⟨⟨by decide +kernel, by decide +kernel⟩, List.mem_of_getElem? (i := 295) (by decide +kernel), List.mem_of_getElem? (i := 1068) (by decide +kernel), List.mem_of_getElem? (i := 1069) (by decide +kernel)⟩
theorem lw_p88 : lw_okq (⟨"LeashedNames$Acts", "takeFrom", "(LLeashedNames$Acts;)V"⟩, 7) := ⟨⟨by decide +kernel, by decide +kernel⟩, List.mem_of_getElem? (i := 173) (by decide +kernel), List.mem_of_getElem? (i := 1077) (by decide +kernel), List.mem_of_getElem? (i := 1078) (by decide +kernel)⟩
theorem lw_p89 : lw_okq (⟨"LeashedNames$Rows", "make", "(III)V"⟩, 3) := ⟨⟨by decide +kernel, by decide +kernel⟩, List.mem_of_getElem? (i := 295) (by decide +kernel), List.mem_of_getElem? (i := 1090) (by decide +kernel), List.mem_of_getElem? (i := 1091) (by decide +kernel)⟩
theorem lw_p90 : lw_okq (⟨"LeashedNames$Rows", "holds", "(III)Z"⟩, 3) := ⟨⟨by decide +kernel, by decide +kernel⟩, List.mem_of_getElem? (i := 295) (by decide +kernel), List.mem_of_getElem? (i := 1108) (by decide +kernel), List.mem_of_getElem? (i := 1109) (by decide +kernel)⟩
theorem lw_p91 : lw_okq (⟨"LeashedNamesModel", "advance", "()V"⟩, 40) := ⟨⟨by decide +kernel, by decide +kernel⟩, List.mem_of_getElem? (i := 1113) (by decide +kernel), List.mem_of_getElem? (i := 1268) (by decide +kernel), List.mem_of_getElem? (i := 1269) (by decide +kernel)⟩
theorem lw_p92 : lw_okq (⟨"LeashedNamesModel", "see", "(I)I"⟩, 40) := ⟨⟨by decide +kernel, by decide +kernel⟩, List.mem_of_getElem? (i := 1113) (by decide +kernel), List.mem_of_getElem? (i := 1272) (by decide +kernel), List.mem_of_getElem? (i := 1273) (by decide +kernel)⟩
theorem lw_p93 : lw_okq (⟨"LeashedNamesModel", "good", "()Z"⟩, 40) := ⟨⟨by decide +kernel, by decide +kernel⟩, List.mem_of_getElem? (i := 1113) (by decide +kernel), List.mem_of_getElem? (i := 1282) (by decide +kernel), List.mem_of_getElem? (i := 1283) (by decide +kernel)⟩
theorem lw_p94 : lw_okq (⟨"LeashedNamesModel", "readLine", "()V"⟩, 40) := ⟨⟨by decide +kernel, by decide +kernel⟩, List.mem_of_getElem? (i := 1113) (by decide +kernel), List.mem_of_getElem? (i := 1286) (by decide +kernel), List.mem_of_getElem? (i := 1287) (by decide +kernel)⟩
theorem lw_p95 : lw_okq (⟨"LeashedNamesModel", "readFirst", "()V"⟩, 40) := ⟨⟨by decide +kernel, by decide +kernel⟩, List.mem_of_getElem? (i := 1113) (by decide +kernel), List.mem_of_getElem? (i := 1290) (by decide +kernel), List.mem_of_getElem? (i := 1291) (by decide +kernel)⟩
def lw_privs_6 : List (MethodName × Nat) := [(⟨"LeashedNames", "gains", "(IIII)I"⟩, 9), (⟨"LeashedNames", "canRainTo", "(I)Z"⟩, 9), (⟨"LeashedNames", "rainMean", "(III)J"⟩, 9), (⟨"LeashedNames$Acts", "add", "(IIII)V"⟩, 7), (⟨"LeashedNames$Acts", "removeLast", "()V"⟩, 7), (⟨"LeashedNames", "rainDrawn", "(I)I"⟩, 9), (⟨"LeashedNames", "signedInRain", "(I)I"⟩, 9), (⟨"LeashedNames$Rows", "howMany", "()I"⟩, 3), (⟨"LeashedNames$Acts", "takeFrom", "(LLeashedNames$Acts;)V"⟩, 7), (⟨"LeashedNames$Rows", "make", "(III)V"⟩, 3), (⟨"LeashedNames$Rows", "holds", "(III)Z"⟩, 3), (⟨"LeashedNamesModel", "advance", "()V"⟩, 40), (⟨"LeashedNamesModel", "see", "(I)I"⟩, 40), (⟨"LeashedNamesModel", "good", "()Z"⟩, 40), (⟨"LeashedNamesModel", "readLine", "()V"⟩, 40), (⟨"LeashedNamesModel", "readFirst", "()V"⟩, 40)]
theorem lw_r6 : ∀ q ∈ lw_privs_6, lw_okq q := List.forall_mem_cons.mpr ⟨lw_p80, List.forall_mem_cons.mpr ⟨lw_p81, List.forall_mem_cons.mpr ⟨lw_p82, List.forall_mem_cons.mpr ⟨lw_p83, List.forall_mem_cons.mpr ⟨lw_p84, List.forall_mem_cons.mpr ⟨lw_p85, List.forall_mem_cons.mpr ⟨lw_p86, List.forall_mem_cons.mpr ⟨lw_p87, List.forall_mem_cons.mpr ⟨lw_p88, List.forall_mem_cons.mpr ⟨lw_p89, List.forall_mem_cons.mpr ⟨lw_p90, List.forall_mem_cons.mpr ⟨lw_p91, List.forall_mem_cons.mpr ⟨lw_p92, List.forall_mem_cons.mpr ⟨lw_p93, List.forall_mem_cons.mpr ⟨lw_p94, List.forall_mem_cons.mpr ⟨lw_p95, fun _ h => absurd h List.not_mem_nil⟩⟩⟩⟩⟩⟩⟩⟩⟩⟩⟩⟩⟩⟩⟩⟩
theorem lw_p96 : lw_okq (⟨"LeashedNamesModel", "needs", "(Ljava/lang/String;)V"⟩, 40) := ⟨⟨by decide +kernel, by decide +kernel⟩, List.mem_of_getElem? (i := 1113) (by decide +kernel), List.mem_of_getElem? (i := 1295) (by decide +kernel), List.mem_of_getElem? (i := 1296) (by decide +kernel)⟩
theorem lw_p97 : lw_okq (⟨"LeashedNamesModel", "takes", "(Ljava/lang/String;)Z"⟩, 40) := ⟨⟨by decide +kernel, by decide +kernel⟩, List.mem_of_getElem? (i := 1113) (by decide +kernel), List.mem_of_getElem? (i := 1299) (by decide +kernel), List.mem_of_getElem? (i := 1300) (by decide +kernel)⟩
theorem lw_p98 : lw_okq (⟨"LeashedNamesModel", "is", "(Ljava/lang/String;)Z"⟩, 40) := ⟨⟨by decide +kernel, by decide +kernel⟩, List.mem_of_getElem? (i := 1113) (by decide +kernel), List.mem_of_getElem? (i := 1303) (by decide +kernel), List.mem_of_getElem? (i := 1304) (by decide +kernel)⟩
theorem lw_p99 : lw_okq (⟨"LeashedNamesModel", "errs", "(I)V"⟩, 40) := ⟨⟨by decide +kernel, by decide +kernel⟩, List.mem_of_getElem? (i := 1113) (by decide +kernel), List.mem_of_getElem? (i := 1309) (by decide +kernel), List.mem_of_getElem? (i := 1310) (by decide +kernel)⟩
theorem lw_p100 : lw_okq (⟨"LeashedNamesModel", "told", "(Ljava/lang/String;II)I"⟩, 40) := ⟨⟨by decide +kernel, by decide +kernel⟩, List.mem_of_getElem? (i := 1113) (by decide +kernel), List.mem_of_getElem? (i := 1314) (by decide +kernel), List.mem_of_getElem? (i := 1315) (by decide +kernel)⟩
theorem lw_p101 : lw_okq (⟨"LeashedNamesModel", "number", "(II)I"⟩, 40) := ⟨⟨by decide +kernel, by decide +kernel⟩, List.mem_of_getElem? (i := 1113) (by decide +kernel), List.mem_of_getElem? (i := 1318) (by decide +kernel), List.mem_of_getElem? (i := 1319) (by decide +kernel)⟩
theorem lw_p102 : lw_okq (⟨"LeashedNamesModel", "readNext", "()V"⟩, 40) := ⟨⟨by decide +kernel, by decide +kernel⟩, List.mem_of_getElem? (i := 1113) (by decide +kernel), List.mem_of_getElem? (i := 1325) (by decide +kernel), List.mem_of_getElem? (i := 1326) (by decide +kernel)⟩
theorem lw_p103 : lw_okq (⟨"LeashedNamesModel", "isFull", "()Z"⟩, 40) := ⟨⟨by decide +kernel, by decide +kernel⟩, List.mem_of_getElem? (i := 1113) (by decide +kernel), List.mem_of_getElem? (i := 1333) (by decide +kernel), List.mem_of_getElem? (i := 1334) (by decide +kernel)⟩
theorem lw_p104 : lw_okq (⟨"LeashedNamesModel", "readStreet", "()V"⟩, 40) := ⟨⟨by decide +kernel, by decide +kernel⟩, List.mem_of_getElem? (i := 1113) (by decide +kernel), List.mem_of_getElem? (i := 1337) (by decide +kernel), List.mem_of_getElem? (i := 1338) (by decide +kernel)⟩
theorem lw_p105 : lw_okq (⟨"LeashedNamesModel", "freshCorner", "()I"⟩, 40) := ⟨⟨by decide +kernel, by decide +kernel⟩, List.mem_of_getElem? (i := 1113) (by decide +kernel), List.mem_of_getElem? (i := 1341) (by decide +kernel), List.mem_of_getElem? (i := 1342) (by decide +kernel)⟩
theorem lw_p106 : lw_okq (⟨"LeashedNamesModel", "readName", "()V"⟩, 40) := ⟨⟨by decide +kernel, by decide +kernel⟩, List.mem_of_getElem? (i := 1113) (by decide +kernel), List.mem_of_getElem? (i := 1347) (by decide +kernel), List.mem_of_getElem? (i := 1348) (by decide +kernel)⟩
theorem lw_p107 : lw_okq (⟨"LeashedNamesModel", "readContract", "()V"⟩, 40) := ⟨⟨by decide +kernel, by decide +kernel⟩, List.mem_of_getElem? (i := 1113) (by decide +kernel), List.mem_of_getElem? (i := 1355) (by decide +kernel), List.mem_of_getElem? (i := 1356) (by decide +kernel)⟩
theorem lw_p108 : lw_okq (⟨"LeashedNamesModel", "freshName", "(I)I"⟩, 40) := ⟨⟨by decide +kernel, by decide +kernel⟩, List.mem_of_getElem? (i := 1113) (by decide +kernel), List.mem_of_getElem? (i := 1359) (by decide +kernel), List.mem_of_getElem? (i := 1360) (by decide +kernel)⟩
theorem lw_p109 : lw_okq (⟨"LeashedNamesModel", "asItIs", "()V"⟩, 40) := ⟨⟨by decide +kernel, by decide +kernel⟩, List.mem_of_getElem? (i := 1113) (by decide +kernel), List.mem_of_getElem? (i := 1370) (by decide +kernel), List.mem_of_getElem? (i := 1371) (by decide +kernel)⟩
theorem lw_p110 : lw_okq (⟨"LeashedNamesModel", "of", "(II)I"⟩, 40) := ⟨⟨by decide +kernel, by decide +kernel⟩, List.mem_of_getElem? (i := 1113) (by decide +kernel), List.mem_of_getElem? (i := 1374) (by decide +kernel), List.mem_of_getElem? (i := 1375) (by decide +kernel)⟩
theorem lw_p111 : lw_okq (⟨"LeashedNamesModel", "isStreet", "(I)Z"⟩, 40) := ⟨⟨by decide +kernel, by decide +kernel⟩, List.mem_of_getElem? (i := 1113) (by decide +kernel), List.mem_of_getElem? (i := 1378) (by decide +kernel), List.mem_of_getElem? (i := 1379) (by decide +kernel)⟩
def lw_privs_7 : List (MethodName × Nat) := [(⟨"LeashedNamesModel", "needs", "(Ljava/lang/String;)V"⟩, 40), (⟨"LeashedNamesModel", "takes", "(Ljava/lang/String;)Z"⟩, 40), (⟨"LeashedNamesModel", "is", "(Ljava/lang/String;)Z"⟩, 40), (⟨"LeashedNamesModel", "errs", "(I)V"⟩, 40), (⟨"LeashedNamesModel", "told", "(Ljava/lang/String;II)I"⟩, 40), (⟨"LeashedNamesModel", "number", "(II)I"⟩, 40), (⟨"LeashedNamesModel", "readNext", "()V"⟩, 40), (⟨"LeashedNamesModel", "isFull", "()Z"⟩, 40), (⟨"LeashedNamesModel", "readStreet", "()V"⟩, 40), (⟨"LeashedNamesModel", "freshCorner", "()I"⟩, 40), (⟨"LeashedNamesModel", "readName", "()V"⟩, 40), (⟨"LeashedNamesModel", "readContract", "()V"⟩, 40), (⟨"LeashedNamesModel", "freshName", "(I)I"⟩, 40), (⟨"LeashedNamesModel", "asItIs", "()V"⟩, 40), (⟨"LeashedNamesModel", "of", "(II)I"⟩, 40), (⟨"LeashedNamesModel", "isStreet", "(I)Z"⟩, 40)]
theorem lw_r7 : ∀ q ∈ lw_privs_7, lw_okq q := List.forall_mem_cons.mpr ⟨lw_p96, List.forall_mem_cons.mpr ⟨lw_p97, List.forall_mem_cons.mpr ⟨lw_p98, List.forall_mem_cons.mpr ⟨lw_p99, List.forall_mem_cons.mpr ⟨lw_p100, List.forall_mem_cons.mpr ⟨lw_p101, List.forall_mem_cons.mpr ⟨lw_p102, List.forall_mem_cons.mpr ⟨lw_p103, List.forall_mem_cons.mpr ⟨lw_p104, List.forall_mem_cons.mpr ⟨lw_p105, List.forall_mem_cons.mpr ⟨lw_p106, List.forall_mem_cons.mpr ⟨lw_p107, List.forall_mem_cons.mpr ⟨lw_p108, List.forall_mem_cons.mpr ⟨lw_p109, List.forall_mem_cons.mpr ⟨lw_p110, List.forall_mem_cons.mpr ⟨lw_p111, fun _ h => absurd h List.not_mem_nil⟩⟩⟩⟩⟩⟩⟩⟩⟩⟩⟩⟩⟩⟩⟩⟩
theorem lw_p112 : lw_okq (⟨"LeashedNamesModel", "isCorner", "(J)Z"⟩, 40) := ⟨⟨by decide +kernel, by decide +kernel⟩, List.mem_of_getElem? (i := 1113) (by decide +kernel), List.mem_of_getElem? (i := 1386) (by decide +kernel), List.mem_of_getElem? (i := 1387) (by decide +kernel)⟩
theorem lw_p113 : lw_okq (⟨"LeashedNamesModel", "isName", "(I)Z"⟩, 40) := ⟨⟨by decide +kernel, by decide +kernel⟩, List.mem_of_getElem? (i := 1113) (by decide +kernel), List.mem_of_getElem? (i := 1394) (by decide +kernel), List.mem_of_getElem? (i := 1395) (by decide +kernel)⟩
theorem lw_p114 : lw_okq (⟨"LeashedNamesModel", "isContract", "(I)Z"⟩, 40) := ⟨⟨by decide +kernel, by decide +kernel⟩, List.mem_of_getElem? (i := 1113) (by decide +kernel), List.mem_of_getElem? (i := 1407) (by decide +kernel), List.mem_of_getElem? (i := 1408) (by decide +kernel)⟩
theorem lw_p115 : lw_okq (⟨"LeashedNamesModel", "namesOf", "(I)I"⟩, 40) := ⟨⟨by decide +kernel, by decide +kernel⟩, List.mem_of_getElem? (i := 1113) (by decide +kernel), List.mem_of_getElem? (i := 1411) (by decide +kernel), List.mem_of_getElem? (i := 1412) (by decide +kernel)⟩
theorem lw_p116 : lw_okq (⟨"LeashedNamesModel", "asksStep", "(I)Z"⟩, 40) := ⟨⟨by decide +kernel, by decide +kernel⟩, List.mem_of_getElem? (i := 1113) (by decide +kernel), List.mem_of_getElem? (i := 1419) (by decide +kernel), List.mem_of_getElem? (i := 1420) (by decide +kernel)⟩
theorem lw_p117 : lw_okq (⟨"LeashedNamesModel", "asksState", "()Z"⟩, 40) := ⟨⟨by decide +kernel, by decide +kernel⟩, List.mem_of_getElem? (i := 1113) (by decide +kernel), List.mem_of_getElem? (i := 1423) (by decide +kernel), List.mem_of_getElem? (i := 1424) (by decide +kernel)⟩
theorem lw_p118 : lw_okq (⟨"LeashedNamesModel", "isState", "()Z"⟩, 40) := ⟨⟨by decide +kernel, by decide +kernel⟩, List.mem_of_getElem? (i := 1113) (by decide +kernel), List.mem_of_getElem? (i := 1427) (by decide +kernel), List.mem_of_getElem? (i := 1428) (by decide +kernel)⟩
theorem lw_p119 : lw_okq (⟨"LeashedNamesModel", "goAll", "()V"⟩, 40) := ⟨⟨by decide +kernel, by decide +kernel⟩, List.mem_of_getElem? (i := 1113) (by decide +kernel), List.mem_of_getElem? (i := 1431) (by decide +kernel), List.mem_of_getElem? (i := 1432) (by decide +kernel)⟩
theorem lw_p120 : lw_okq (⟨"LeashedNamesModel", "last", "()I"⟩, 40) := ⟨⟨by decide +kernel, by decide +kernel⟩, List.mem_of_getElem? (i := 1113) (by decide +kernel), List.mem_of_getElem? (i := 1435) (by decide +kernel), List.mem_of_getElem? (i := 1436) (by decide +kernel)⟩
theorem lw_p121 : lw_okq (⟨"LeashedNamesModel", "names", "()I"⟩, 40) := ⟨⟨by decide +kernel, by decide +kernel⟩, List.mem_of_getElem? (i := 1113) (by decide +kernel), List.mem_of_getElem? (i := 1439) (by decide +kernel), List.mem_of_getElem? (i := 1440) (by decide +kernel)⟩
theorem lw_p122 : lw_okq (⟨"LeashedNamesModel", "inkIn", "(II)I"⟩, 40) := ⟨⟨by decide +kernel, by decide +kernel⟩, List.mem_of_getElem? (i := 1113) (by decide +kernel), List.mem_of_getElem? (i := 1443) (by decide +kernel), List.mem_of_getElem? (i := 1444) (by decide +kernel)⟩
theorem lw_p123 : lw_okq (⟨"LeashedNamesModel", "placeOf", "(II)I"⟩, 40) := ⟨⟨by decide +kernel, by decide +kernel⟩, List.mem_of_getElem? (i := 1113) (by decide +kernel), List.mem_of_getElem? (i := 1447) (by decide +kernel), List.mem_of_getElem? (i := 1448) (by decide +kernel)⟩
theorem lw_p124 : lw_okq (⟨"LeashedNamesModel", "goSigns", "(I)V"⟩, 40) := ⟨⟨by decide +kernel, by decide +kernel⟩, List.mem_of_getElem? (i := 1113) (by decide +kernel), List.mem_of_getElem? (i := 1451) (by decide +kernel), List.mem_of_getElem? (i := 1452) (by decide +kernel)⟩
theorem lw_p125 : lw_okq (⟨"LeashedNamesModel", "cornerOf", "(II)I"⟩, 40) := ⟨⟨by decide +kernel, by decide +kernel⟩, List.mem_of_getElem? (i := 1113) (by decide +kernel), List.mem_of_getElem? (i := 1455) (by decide +kernel), List.mem_of_getElem? (i := 1456) (by decide +kernel)⟩
theorem lw_p126 : lw_okq (⟨"LeashedNamesModel", "maySign", "(III)Z"⟩, 40) := ⟨⟨by decide +kernel, by decide +kernel⟩, List.mem_of_getElem? (i := 1113) (by decide +kernel), List.mem_of_getElem? (i := 1459) (by decide +kernel), List.mem_of_getElem? (i := 1460) (by decide +kernel)⟩
theorem lw_p127 : lw_okq (⟨"LeashedNamesModel", "goOn", "(I)V"⟩, 40) := ⟨⟨by decide +kernel, by decide +kernel⟩, List.mem_of_getElem? (i := 1113) (by decide +kernel), List.mem_of_getElem? (i := 1463) (by decide +kernel), List.mem_of_getElem? (i := 1464) (by decide +kernel)⟩
def lw_privs_8 : List (MethodName × Nat) := [(⟨"LeashedNamesModel", "isCorner", "(J)Z"⟩, 40), (⟨"LeashedNamesModel", "isName", "(I)Z"⟩, 40), (⟨"LeashedNamesModel", "isContract", "(I)Z"⟩, 40), (⟨"LeashedNamesModel", "namesOf", "(I)I"⟩, 40), (⟨"LeashedNamesModel", "asksStep", "(I)Z"⟩, 40), (⟨"LeashedNamesModel", "asksState", "()Z"⟩, 40), (⟨"LeashedNamesModel", "isState", "()Z"⟩, 40), (⟨"LeashedNamesModel", "goAll", "()V"⟩, 40), (⟨"LeashedNamesModel", "last", "()I"⟩, 40), (⟨"LeashedNamesModel", "names", "()I"⟩, 40), (⟨"LeashedNamesModel", "inkIn", "(II)I"⟩, 40), (⟨"LeashedNamesModel", "placeOf", "(II)I"⟩, 40), (⟨"LeashedNamesModel", "goSigns", "(I)V"⟩, 40), (⟨"LeashedNamesModel", "cornerOf", "(II)I"⟩, 40), (⟨"LeashedNamesModel", "maySign", "(III)Z"⟩, 40), (⟨"LeashedNamesModel", "goOn", "(I)V"⟩, 40)]
theorem lw_r8 : ∀ q ∈ lw_privs_8, lw_okq q := List.forall_mem_cons.mpr ⟨lw_p112, List.forall_mem_cons.mpr ⟨lw_p113, List.forall_mem_cons.mpr ⟨lw_p114, List.forall_mem_cons.mpr ⟨lw_p115, List.forall_mem_cons.mpr ⟨lw_p116, List.forall_mem_cons.mpr ⟨lw_p117, List.forall_mem_cons.mpr ⟨lw_p118, List.forall_mem_cons.mpr ⟨lw_p119, List.forall_mem_cons.mpr ⟨lw_p120, List.forall_mem_cons.mpr ⟨lw_p121, List.forall_mem_cons.mpr ⟨lw_p122, List.forall_mem_cons.mpr ⟨lw_p123, List.forall_mem_cons.mpr ⟨lw_p124, List.forall_mem_cons.mpr ⟨lw_p125, List.forall_mem_cons.mpr ⟨lw_p126, List.forall_mem_cons.mpr ⟨lw_p127, fun _ h => absurd h List.not_mem_nil⟩⟩⟩⟩⟩⟩⟩⟩⟩⟩⟩⟩⟩⟩⟩⟩
theorem lw_p128 : lw_okq (⟨"LeashedNamesModel", "wouldGo", "(II)I"⟩, 40) := ⟨⟨by decide +kernel, by decide +kernel⟩, List.mem_of_getElem? (i := 1113) (by decide +kernel), List.mem_of_getElem? (i := 1467) (by decide +kernel), List.mem_of_getElem? (i := 1468) (by decide +kernel)⟩
theorem lw_p129 : lw_okq (⟨"LeashedNamesModel", "isJoined", "(II)Z"⟩, 40) := ⟨⟨by decide +kernel, by decide +kernel⟩, List.mem_of_getElem? (i := 1113) (by decide +kernel), List.mem_of_getElem? (i := 1471) (by decide +kernel), List.mem_of_getElem? (i := 1472) (by decide +kernel)⟩
theorem lw_p130 : lw_okq (⟨"LeashedNamesModel", "isStep", "(J)Z"⟩, 40) := ⟨⟨by decide +kernel, by decide +kernel⟩, List.mem_of_getElem? (i := 1113) (by decide +kernel), List.mem_of_getElem? (i := 1475) (by decide +kernel), List.mem_of_getElem? (i := 1476) (by decide +kernel)⟩
theorem lw_p131 : lw_okq (⟨"LeashedNamesModel", "hereOf", "(II)I"⟩, 40) := ⟨⟨by decide +kernel, by decide +kernel⟩, List.mem_of_getElem? (i := 1113) (by decide +kernel), List.mem_of_getElem? (i := 1491) (by decide +kernel), List.mem_of_getElem? (i := 1492) (by decide +kernel)⟩
theorem lw_p132 : lw_okq (⟨"LeashedNamesModel", "asksName", "(I)Z"⟩, 40) := ⟨⟨by decide +kernel, by decide +kernel⟩, List.mem_of_getElem? (i := 1113) (by decide +kernel), List.mem_of_getElem? (i := 1499) (by decide +kernel), List.mem_of_getElem? (i := 1500) (by decide +kernel)⟩
theorem lw_p133 : lw_okq (⟨"LeashedNamesModel", "sleepsOf", "(I)I"⟩, 40) := ⟨⟨by decide +kernel, by decide +kernel⟩, List.mem_of_getElem? (i := 1113) (by decide +kernel), List.mem_of_getElem? (i := 1503) (by decide +kernel), List.mem_of_getElem? (i := 1504) (by decide +kernel)⟩
theorem lw_p134 : lw_okq (⟨"LeashedNamesModel", "asksContract", "(I)Z"⟩, 40) := ⟨⟨by decide +kernel, by decide +kernel⟩, List.mem_of_getElem? (i := 1113) (by decide +kernel), List.mem_of_getElem? (i := 1527) (by decide +kernel), List.mem_of_getElem? (i := 1528) (by decide +kernel)⟩
theorem lw_p135 : lw_okq (⟨"LeashedNamesModel", "signsTo", "(I)I"⟩, 40) := ⟨⟨by decide +kernel, by decide +kernel⟩, List.mem_of_getElem? (i := 1113) (by decide +kernel), List.mem_of_getElem? (i := 1539) (by decide +kernel), List.mem_of_getElem? (i := 1540) (by decide +kernel)⟩
theorem lw_p136 : lw_okq (⟨"LeashedNamesModel", "deedsOf", "(I)I"⟩, 40) := ⟨⟨by decide +kernel, by decide +kernel⟩, List.mem_of_getElem? (i := 1113) (by decide +kernel), List.mem_of_getElem? (i := 1547) (by decide +kernel), List.mem_of_getElem? (i := 1548) (by decide +kernel)⟩
theorem lw_p137 : lw_okq (⟨"LeashedNamesModel", "layWays", "()V"⟩, 40) := ⟨⟨by decide +kernel, by decide +kernel⟩, List.mem_of_getElem? (i := 1113) (by decide +kernel), List.mem_of_getElem? (i := 1595) (by decide +kernel), List.mem_of_getElem? (i := 1596) (by decide +kernel)⟩
theorem lw_p138 : lw_okq (⟨"LeashedNamesModel", "wayOf", "(II)I"⟩, 40) := ⟨⟨by decide +kernel, by decide +kernel⟩, List.mem_of_getElem? (i := 1113) (by decide +kernel), List.mem_of_getElem? (i := 1600) (by decide +kernel), List.mem_of_getElem? (i := 1601) (by decide +kernel)⟩
theorem lw_p139 : lw_okq (⟨"LeashedNamesModel", "soonOf", "(I)I"⟩, 40) := ⟨⟨by decide +kernel, by decide +kernel⟩, List.mem_of_getElem? (i := 1113) (by decide +kernel), List.mem_of_getElem? (i := 1615) (by decide +kernel), List.mem_of_getElem? (i := 1616) (by decide +kernel)⟩
theorem lw_p140 : lw_okq (⟨"LeashedNamesModel", "hallOf", "(I)I"⟩, 40) := ⟨⟨by decide +kernel, by decide +kernel⟩, List.mem_of_getElem? (i := 1113) (by decide +kernel), List.mem_of_getElem? (i := 1619) (by decide +kernel), List.mem_of_getElem? (i := 1620) (by decide +kernel)⟩
theorem lw_p141 : lw_okq (⟨"LeashedNamesModel", "farthest", "(II)I"⟩, 40) := ⟨⟨by decide +kernel, by decide +kernel⟩, List.mem_of_getElem? (i := 1113) (by decide +kernel), List.mem_of_getElem? (i := 1623) (by decide +kernel), List.mem_of_getElem? (i := 1624) (by decide +kernel)⟩
theorem lw_p142 : lw_okq (⟨"LeashedNamesModel", "areTwo", "(II)Z"⟩, 40) := ⟨⟨by decide +kernel, by decide +kernel⟩, List.mem_of_getElem? (i := 1113) (by decide +kernel), List.mem_of_getElem? (i := 1639) (by decide +kernel), List.mem_of_getElem? (i := 1640) (by decide +kernel)⟩
theorem lw_p143 : lw_okq (⟨"LeashedNamesModel", "cutOf", "(II)I"⟩, 40) := ⟨⟨by decide +kernel, by decide +kernel⟩, List.mem_of_getElem? (i := 1113) (by decide +kernel), List.mem_of_getElem? (i := 1643) (by decide +kernel), List.mem_of_getElem? (i := 1644) (by decide +kernel)⟩
def lw_privs_9 : List (MethodName × Nat) := [(⟨"LeashedNamesModel", "wouldGo", "(II)I"⟩, 40), (⟨"LeashedNamesModel", "isJoined", "(II)Z"⟩, 40), (⟨"LeashedNamesModel", "isStep", "(J)Z"⟩, 40), (⟨"LeashedNamesModel", "hereOf", "(II)I"⟩, 40), (⟨"LeashedNamesModel", "asksName", "(I)Z"⟩, 40), (⟨"LeashedNamesModel", "sleepsOf", "(I)I"⟩, 40), (⟨"LeashedNamesModel", "asksContract", "(I)Z"⟩, 40), (⟨"LeashedNamesModel", "signsTo", "(I)I"⟩, 40), (⟨"LeashedNamesModel", "deedsOf", "(I)I"⟩, 40), (⟨"LeashedNamesModel", "layWays", "()V"⟩, 40), (⟨"LeashedNamesModel", "wayOf", "(II)I"⟩, 40), (⟨"LeashedNamesModel", "soonOf", "(I)I"⟩, 40), (⟨"LeashedNamesModel", "hallOf", "(I)I"⟩, 40), (⟨"LeashedNamesModel", "farthest", "(II)I"⟩, 40), (⟨"LeashedNamesModel", "areTwo", "(II)Z"⟩, 40), (⟨"LeashedNamesModel", "cutOf", "(II)I"⟩, 40)]
theorem lw_r9 : ∀ q ∈ lw_privs_9, lw_okq q := List.forall_mem_cons.mpr ⟨lw_p128, List.forall_mem_cons.mpr ⟨lw_p129, List.forall_mem_cons.mpr ⟨lw_p130, List.forall_mem_cons.mpr ⟨lw_p131, List.forall_mem_cons.mpr ⟨lw_p132, List.forall_mem_cons.mpr ⟨lw_p133, List.forall_mem_cons.mpr ⟨lw_p134, List.forall_mem_cons.mpr ⟨lw_p135, List.forall_mem_cons.mpr ⟨lw_p136, List.forall_mem_cons.mpr ⟨lw_p137, List.forall_mem_cons.mpr ⟨lw_p138, List.forall_mem_cons.mpr ⟨lw_p139, List.forall_mem_cons.mpr ⟨lw_p140, List.forall_mem_cons.mpr ⟨lw_p141, List.forall_mem_cons.mpr ⟨lw_p142, List.forall_mem_cons.mpr ⟨lw_p143, fun _ h => absurd h List.not_mem_nil⟩⟩⟩⟩⟩⟩⟩⟩⟩⟩⟩⟩⟩⟩⟩⟩
theorem lw_p144 : lw_okq (⟨"LeashedNamesModel", "signsBy", "(I)I"⟩, 40) := ⟨⟨by decide +kernel, by decide +kernel⟩, List.mem_of_getElem? (i := 1113) (by decide +kernel), List.mem_of_getElem? (i := 1655) (by decide +kernel), List.mem_of_getElem? (i := 1656) (by decide +kernel)⟩
theorem lw_p145 : lw_okq (⟨"LeashedNamesModel", "signsNow", "()I"⟩, 40) := ⟨⟨by decide +kernel, by decide +kernel⟩, List.mem_of_getElem? (i := 1113) (by decide +kernel), List.mem_of_getElem? (i := 1659) (by decide +kernel), List.mem_of_getElem? (i := 1660) (by decide +kernel)⟩
theorem lw_p146 : lw_okq (⟨"LeashedNamesModel", "manySigned", "()I"⟩, 40) := ⟨⟨by decide +kernel, by decide +kernel⟩, List.mem_of_getElem? (i := 1113) (by decide +kernel), List.mem_of_getElem? (i := 1663) (by decide +kernel), List.mem_of_getElem? (i := 1664) (by decide +kernel)⟩
theorem lw_p147 : lw_okq (⟨"LeashedNamesModel", "layHomes", "(II)I"⟩, 40) := ⟨⟨by decide +kernel, by decide +kernel⟩, List.mem_of_getElem? (i := 1113) (by decide +kernel), List.mem_of_getElem? (i := 1691) (by decide +kernel), List.mem_of_getElem? (i := 1692) (by decide +kernel)⟩
theorem lw_p148 : lw_okq (⟨"LeashedNamesModel", "numberAt", "(II)J"⟩, 40) := ⟨⟨by decide +kernel, by decide +kernel⟩, List.mem_of_getElem? (i := 1113) (by decide +kernel), List.mem_of_getElem? (i := 1698) (by decide +kernel), List.mem_of_getElem? (i := 1699) (by decide +kernel)⟩
theorem lw_p149 : lw_okq (⟨"LeashedNamesModel", "askOf", "(I)I"⟩, 40) := ⟨⟨by decide +kernel, by decide +kernel⟩, List.mem_of_getElem? (i := 1113) (by decide +kernel), List.mem_of_getElem? (i := 1706) (by decide +kernel), List.mem_of_getElem? (i := 1707) (by decide +kernel)⟩
theorem lw_p150 : lw_okq (⟨"LeashedNamesModel", "isSet", "(I)Z"⟩, 40) := ⟨⟨by decide +kernel, by decide +kernel⟩, List.mem_of_getElem? (i := 1113) (by decide +kernel), List.mem_of_getElem? (i := 1729) (by decide +kernel), List.mem_of_getElem? (i := 1730) (by decide +kernel)⟩
theorem lw_p151 : lw_okq (⟨"LeashedNamesModel", "worthOf", "(I)I"⟩, 40) := ⟨⟨by decide +kernel, by decide +kernel⟩, List.mem_of_getElem? (i := 1113) (by decide +kernel), List.mem_of_getElem? (i := 1733) (by decide +kernel), List.mem_of_getElem? (i := 1734) (by decide +kernel)⟩
theorem lw_p152 : lw_okq (⟨"LeashedNamesModel", "getsBy", "(IIIII)I"⟩, 40) := ⟨⟨by decide +kernel, by decide +kernel⟩, List.mem_of_getElem? (i := 1113) (by decide +kernel), List.mem_of_getElem? (i := 1757) (by decide +kernel), List.mem_of_getElem? (i := 1758) (by decide +kernel)⟩
theorem lw_p153 : lw_okq (⟨"LeashedNamesModel", "isRain", "(II)Z"⟩, 40) := ⟨⟨by decide +kernel, by decide +kernel⟩, List.mem_of_getElem? (i := 1113) (by decide +kernel), List.mem_of_getElem? (i := 1769) (by decide +kernel), List.mem_of_getElem? (i := 1770) (by decide +kernel)⟩
theorem lw_p154 : lw_okq (⟨"LeashedNamesModel", "isAhead", "(I)Z"⟩, 40) := ⟨⟨by decide +kernel, by decide +kernel⟩, List.mem_of_getElem? (i := 1113) (by decide +kernel), List.mem_of_getElem? (i := 1773) (by decide +kernel), List.mem_of_getElem? (i := 1774) (by decide +kernel)⟩
theorem lw_p155 : lw_okq (⟨"LeashedNamesModel", "layRain", "(II)V"⟩, 40) := ⟨⟨by decide +kernel, by decide +kernel⟩, List.mem_of_getElem? (i := 1113) (by decide +kernel), List.mem_of_getElem? (i := 1779) (by decide +kernel), List.mem_of_getElem? (i := 1780) (by decide +kernel)⟩
theorem lw_p156 : lw_okq (⟨"LeashedNamesModel", "keepAct", "(I)I"⟩, 40) := ⟨⟨by decide +kernel, by decide +kernel⟩, List.mem_of_getElem? (i := 1113) (by decide +kernel), List.mem_of_getElem? (i := 1791) (by decide +kernel), List.mem_of_getElem? (i := 1792) (by decide +kernel)⟩
theorem lw_p157 : lw_okq (⟨"LeashedNamesModel", "goDrawn", "(J)V"⟩, 40) := ⟨⟨by decide +kernel, by decide +kernel⟩, List.mem_of_getElem? (i := 1113) (by decide +kernel), List.mem_of_getElem? (i := 1815) (by decide +kernel), List.mem_of_getElem? (i := 1816) (by decide +kernel)⟩
def lw_privs_10 : List (MethodName × Nat) := [(⟨"LeashedNamesModel", "signsBy", "(I)I"⟩, 40), (⟨"LeashedNamesModel", "signsNow", "()I"⟩, 40), (⟨"LeashedNamesModel", "manySigned", "()I"⟩, 40), (⟨"LeashedNamesModel", "layHomes", "(II)I"⟩, 40), (⟨"LeashedNamesModel", "numberAt", "(II)J"⟩, 40), (⟨"LeashedNamesModel", "askOf", "(I)I"⟩, 40), (⟨"LeashedNamesModel", "isSet", "(I)Z"⟩, 40), (⟨"LeashedNamesModel", "worthOf", "(I)I"⟩, 40), (⟨"LeashedNamesModel", "getsBy", "(IIIII)I"⟩, 40), (⟨"LeashedNamesModel", "isRain", "(II)Z"⟩, 40), (⟨"LeashedNamesModel", "isAhead", "(I)Z"⟩, 40), (⟨"LeashedNamesModel", "layRain", "(II)V"⟩, 40), (⟨"LeashedNamesModel", "keepAct", "(I)I"⟩, 40), (⟨"LeashedNamesModel", "goDrawn", "(J)V"⟩, 40)]
theorem lw_r10 : ∀ q ∈ lw_privs_10, lw_okq q := List.forall_mem_cons.mpr ⟨lw_p144, List.forall_mem_cons.mpr ⟨lw_p145, List.forall_mem_cons.mpr ⟨lw_p146, List.forall_mem_cons.mpr ⟨lw_p147, List.forall_mem_cons.mpr ⟨lw_p148, List.forall_mem_cons.mpr ⟨lw_p149, List.forall_mem_cons.mpr ⟨lw_p150, List.forall_mem_cons.mpr ⟨lw_p151, List.forall_mem_cons.mpr ⟨lw_p152, List.forall_mem_cons.mpr ⟨lw_p153, List.forall_mem_cons.mpr ⟨lw_p154, List.forall_mem_cons.mpr ⟨lw_p155, List.forall_mem_cons.mpr ⟨lw_p156, List.forall_mem_cons.mpr ⟨lw_p157, fun _ h => absurd h List.not_mem_nil⟩⟩⟩⟩⟩⟩⟩⟩⟩⟩⟩⟩⟩⟩
def lw_privs : List (MethodName × Nat) := lw_privs_1 ++ (lw_privs_2 ++ (lw_privs_3 ++ (lw_privs_4 ++ (lw_privs_5 ++ (lw_privs_6 ++ (lw_privs_7 ++ (lw_privs_8 ++ (lw_privs_9 ++ (lw_privs_10)))))))))
def lw_tbl : List Cond := k2_sels lw_privs ++ tables_1
theorem lw_privs_ok : ∀ q ∈ lw_privs, lw_okq q := by
  show ∀ q ∈ lw_privs_1 ++ (lw_privs_2 ++ (lw_privs_3 ++ (lw_privs_4 ++ (lw_privs_5 ++ (lw_privs_6 ++ (lw_privs_7 ++ (lw_privs_8 ++ (lw_privs_9 ++ (lw_privs_10))))))))), lw_okq q
  exact List.forall_mem_append.mpr ⟨lw_r1, List.forall_mem_append.mpr ⟨lw_r2, List.forall_mem_append.mpr ⟨lw_r3, List.forall_mem_append.mpr ⟨lw_r4, List.forall_mem_append.mpr ⟨lw_r5, List.forall_mem_append.mpr ⟨lw_r6, List.forall_mem_append.mpr ⟨lw_r7, List.forall_mem_append.mpr ⟨lw_r8, List.forall_mem_append.mpr ⟨lw_r9, lw_r10⟩⟩⟩⟩⟩⟩⟩⟩⟩
-- ===== names =====
/-! ===== BEGIN new T[n][m]: the outer array a place, the inner ones among the pooled ===== -/
/-- f, but v at every address of l -/
def vr_up {α : Type} (f : Nat → α) (l : List Nat) (v : α) : Nat → α := fun a => if a ∈ l then v else f a
theorem vr_up_in {α : Type} {f : Nat → α} {l : List Nat} {v : α} {a : Nat} (h : a ∈ l) : vr_up f l v a = v := if_pos h
theorem vr_up_ne {α : Type} {f : Nat → α} {l : List Nat} {v : α} {a : Nat} (h : a ∉ l) : vr_up f l v a = f a := if_neg h
theorem vr_rows {L l : List Nat} {f : Nat → va_E} {e : va_E} (h : ∀ a, a ∈ l → a ∉ L) : va_pl L f ++ l.map (fun a => (a, e)) = va_pl (L ++ l) (vr_up f l e) := by
  unfold va_pl
  rw [List.map_append]
  congr 1
  · apply List.map_congr_left
    intro a ha
    rw [vr_up_ne (fun q => h a q ha)]
  · apply List.map_congr_left
    intro a ha
    rw [vr_up_in ha]
theorem vr_lay {X rows : va_W} {x : Nat × va_E} {pl : va_W} {D : va_G} {cl : List vw_C} {H : Heap} (hP : va_P D cl (((X ++ pl) ++ [x]) ++ rows) H) : va_P D cl ((X ++ [x]) ++ (pl ++ rows)) H := by
  rw [List.append_assoc (X ++ pl)] at hP
  have h := va_P.swap hP
  rw [← List.append_assoc X] at h
  have h2 := va_P.swap h
  rw [List.append_assoc (X ++ [x])] at h2
  exact h2
theorem vr_layD {X rows : va_W} {x : Nat × va_E} {pl : va_W} {A : Nat → Prop} (hD : va_D A (((X ++ pl) ++ [x]) ++ rows)) : va_D A ((X ++ [x]) ++ (pl ++ rows)) := by
  rw [List.append_assoc (X ++ pl)] at hD
  have h := va_D.swap hD
  rw [← List.append_assoc X] at h
  have h2 := va_D.swap h
  rw [List.append_assoc (X ++ [x])] at h2
  exact h2
theorem vr_outer (c : ClassId) (N h0 : Nat) : ∀ i : Nat, Jvm.Free.Multi.outerC c N h0 i = arrV c N (fun j => va_rf (if j < i then some (h0 + 1 + j) else none))
  | 0 => by
    show ({ cls := c, slots := Array.replicate N .null, vm := .none } : Cell) = _
    rw [arrV_new]
    refine congrArg (arrV c N) (funext fun j => ?_)
    simp [va_rf]
  | i + 1 => by
    show (Jvm.Free.Multi.outerC c N h0 i).setSlot i (.ref (h0 + 1 + i)) = _
    rw [vr_outer c N h0 i, arrV_store]
    refine congrArg (arrV c N) (funext fun j => ?_)
    by_cases e : j = i
    · subst e
      simp [updV, va_rf]
    · by_cases h : j < i
      · simp [updV, e, h, Nat.lt_succ_of_lt h]
      · simp [updV, e, h, show ¬ j < i + 1 by omega]
section VGM
variable {p : Program} {l : Launch} {e : Env} {R : Room} {s : State} {m : MethodId} {args : Array Value} {below : List Frame} {meth : Method} {c : Code} {H : Heap} {locs : List Loc} {cells slots : Nat} {Q : State → Prop}
variable {cc : ByteArray} {pc : Nat} {ls : Array Slot} {rest : List Value} {D : va_G} {cl : List vw_C} {A : Nat → Prop} {a : Nat} {tys : List (ClassId × FieldType)} {ws : va_W} {H0 : Heap}
theorem va_mna {X : va_W} {L : List Nat} {f : Nat → va_E} {cc : ByteArray} (hexec : p.tables.exec = Jvm.exec) (hb : c.code = cc) {own : String} {index : Nat} {ty : FieldType} {cy : ClassId} (hown : s.vm.findClass own = some m.cls) (hclink : (Cond.classLink own index ("[" ++ (FieldType.array ty).toString)).before args s = true) (hover : (Cond.arrayOver (.array ty)).before #[] s = true) (harr : (Cond.arrayClass ty).before args s = true) (hcy : s.vm.findClass (FieldType.array ty).toString = some cy)
    (hK : va_K D cl tys s) (hP : va_P D cl (X ++ va_pl L f) H) (hD : va_D A (X ++ va_pl L f)) (hS : va_S A H0 H locs) (hA : ∀ q, H0.size ≤ q → A q) {n k : Int32} {N' K' : Nat} {z : vp_A} (hn : ¬ n < 0) (hk : ¬ k < 0) (hN : n.toNatClampNeg = N') (hM : k.toNatClampNeg = K')
    (hb1 : N' * 4 ≤ 536870912) (hb2 : K' * componentBytes ty ≤ 536870912) (hb3 : K' ≤ 536870912) (hdf : fits ty (defaultValue ty) = true) (hdd : (defaultValue ty).isDefault = true) (hcells : cells + (1 + N') ≤ R.cells) (hslots : slots + (N' + N' * K') ≤ R.slots) (hz : ∀ c : ClassId, Jvm.Free.Multi.innerC c K' (defaultValue ty) = vp_cell c z) (hdg : decode cc pc = .ok (.multianewarray index 2, 4))
    (kk : ∀ (q : Nat) (r : Nat → Nat) (cA : ClassId) (H1 : Heap), q = H.size → (∀ i : Nat, r i = H.size + 1 + i) → (∀ i j : Nat, i < N' → j < N' → r i = r j → i = j) → (∀ i : Nat, i < N' → r i ∉ L) → va_K D cl (tys ++ [(cA, .array ty)]) s →
      va_P D cl ((X ++ [(q, .inl (cA, N', .inr (.inr (.inr (.inr (fun i => if i < N' then some (r i) else none))))))]) ++ va_pl (L ++ (List.range N').map r) (vr_up f ((List.range N').map r) (.inl (cy, z)))) H1 → va_D A ((X ++ [(q, .inl (cA, N', .inr (.inr (.inr (.inr (fun i => if i < N' then some (r i) else none))))))]) ++ va_pl (L ++ (List.range N').map r) (vr_up f ((List.range N').map r) (.inl (cy, z)))) → va_S A H0 H1 locs →
      W p l e R s m args below meth c H1 locs (cells + 1 + N') (slots + N' + N' * K') Q (F0 m (pc + 4) ls (.ref q :: rest))) : W p l e R s m args below meth c H locs cells slots Q (F0 m pc ls (.int k :: .int n :: rest)) := by
  subst hN
  subst hM
  intro T hT Xs
  obtain ⟨vm₁, cA, comp, -, fA, fC, hO, -, X', step⟩ := Xs.multianewarray2F hexec hown hclink (show (Cond.arrayOver (.array ty)).before args s = true from hover) harr (g := F0 m pc ls (.int k :: .int n :: rest)) rfl (by rw [hb]; exact hdg) rfl hn hk hb1 hb2 hb3 hdf hdd hcells hslots
  have ec : some cy = some comp := hcy.symm.trans fC
  cases ec
  generalize hF : Jvm.Free.Multi.fill (T.setVm vm₁) cA cy n.toNatClampNeg k.toNatClampNeg (defaultValue ty) n.toNatClampNeg = F at X' step
  have hTh : (T.setVm vm₁).heap = H := hT
  obtain ⟨f1, f2, -, -⟩ := Jvm.Free.Multi.fill_facts (T.setVm vm₁) cA cy n.toNatClampNeg k.toNatClampNeg (defaultValue ty) n.toNatClampNeg
  rw [hF, hTh] at f1 f2
  have hold : ∀ x : Nat, x < H.size → F.heap[x]? = H[x]? := fun x hx => by
    have := Jvm.Free.Multi.fill_old (T.setVm vm₁) cA cy n.toNatClampNeg k.toNatClampNeg (defaultValue ty) (a := x) (by rw [hTh]; exact hx) n.toNatClampNeg
    rw [hF, hTh] at this
    exact this
  have hrow : ∀ j : Nat, j < n.toNatClampNeg → F.heap[H.size + 1 + j]? = some (vp_cell cy z) := fun j hj => by
    have := Jvm.Free.Multi.fill_inner (T.setVm vm₁) cA cy n.toNatClampNeg k.toNatClampNeg (defaultValue ty) n.toNatClampNeg j hj
    rw [hF, hTh, hz] at this
    exact this
  have hout : Jvm.Free.Multi.outerC cA n.toNatClampNeg H.size n.toNatClampNeg = vp_cell cA (n.toNatClampNeg, .inr (.inr (.inr (.inr (fun i => if i < n.toNatClampNeg then some (H.size + 1 + i) else none))))) := by
    rw [vp_cell_q]
    exact vr_outer cA n.toNatClampNeg H.size n.toNatClampNeg
  rw [hout] at f2
  have hlt : ∀ a, a ∈ L → a < H.size := fun a ha => by
    obtain ⟨k9, hk9⟩ := va_pl_get (X := X) (f := f) ha
    exact (hP k9 _ hk9).lt
  have hnl : ∀ i : Nat, i < n.toNatClampNeg → H.size + 1 + i ∉ L := fun i _ h => by
    have := hlt _ h
    omega
  have hnm : ∀ a, a ∈ (List.range n.toNatClampNeg).map (fun i => H.size + 1 + i) → a ∉ L := fun a ha h => by
    obtain ⟨i, -, rfl⟩ := List.mem_map.mp ha
    have := hlt _ h
    omega
  have hP0 : va_P D cl (X ++ va_pl L f) F.heap := hP.kept (fun k9 x hx => hold x.1 ((hP k9 x hx).lt))
  have hP1 : va_P D cl ((X ++ va_pl L f) ++ [(H.size, .inl (cA, n.toNatClampNeg, .inr (.inr (.inr (.inr (fun i => if i < n.toNatClampNeg then some (H.size + 1 + i) else none))))))]) F.heap := hP0.app (fun k9 x hx => by
    have h0 : k9 < 1 := (List.getElem?_eq_some_iff.mp hx).1
    rw [show k9 = 0 by omega] at hx
    cases hx
    exact f2)
  have hP2 : va_P D cl (((X ++ va_pl L f) ++ [(H.size, .inl (cA, n.toNatClampNeg, .inr (.inr (.inr (.inr (fun i => if i < n.toNatClampNeg then some (H.size + 1 + i) else none))))))]) ++ ((List.range n.toNatClampNeg).map (fun i => H.size + 1 + i)).map (fun a => (a, .inl (cy, z)))) F.heap := hP1.app (fun k9 x hx => by
    obtain ⟨a, ha, rfl⟩ := List.mem_map.mp (List.mem_of_getElem? hx)
    obtain ⟨i, hi, rfl⟩ := List.mem_map.mp ha
    exact hrow i (List.mem_range.mp hi))
  have hD2 : va_D A (((X ++ va_pl L f) ++ [(H.size, .inl (cA, n.toNatClampNeg, .inr (.inr (.inr (.inr (fun i => if i < n.toNatClampNeg then some (H.size + 1 + i) else none))))))]) ++ ((List.range n.toNatClampNeg).map (fun i => H.size + 1 + i)).map (fun a => (a, .inl (cy, z)))) := by
    have hD1 := hD.push (e := .inl (cA, n.toNatClampNeg, .inr (.inr (.inr (.inr (fun i => if i < n.toNatClampNeg then some (H.size + 1 + i) else none)))))) hP rfl (hA _ hS.1)
    generalize hW1 : (X ++ va_pl L f) ++ [(H.size, .inl (cA, n.toNatClampNeg, .inr (.inr (.inr (.inr (fun i => if i < n.toNatClampNeg then some (H.size + 1 + i) else none))))))] = W1 at hD1 hP1 ⊢
    have hle : ∀ (k9 : Nat) (x : Nat × va_E), W1[k9]? = some x → x.1 ≤ H.size := fun k9 x hx => by
      rw [← hW1] at hx
      by_cases hl : k9 < (X ++ va_pl L f).length
      · rw [List.getElem?_append_left hl] at hx
        exact Nat.le_of_lt ((hP k9 x hx).lt)
      · rw [List.getElem?_append_right (by omega)] at hx
        have h0 : k9 - (X ++ va_pl L f).length < 1 := (List.getElem?_eq_some_iff.mp hx).1
        rw [show k9 - (X ++ va_pl L f).length = 0 by omega] at hx
        cases hx
        exact Nat.le_refl _
    have hr : ∀ (k9 : Nat) (x : Nat × va_E), (((List.range n.toNatClampNeg).map (fun i => H.size + 1 + i)).map (fun a => ((a, .inl (cy, z)) : Nat × va_E)))[k9]? = some x → x.1 = H.size + 1 + k9 := fun k9 x hx => by
      rw [List.getElem?_map, List.getElem?_map] at hx
      by_cases h9 : k9 < n.toNatClampNeg
      · rw [List.getElem?_range h9] at hx
        cases hx
        rfl
      · have hn0 : (List.range n.toNatClampNeg)[k9]? = none := List.getElem?_eq_none (by rw [List.length_range]; omega)
        rw [hn0] at hx
        cases hx
    refine ⟨fun i j x y hi hj hxy => ?_, fun k9 x hx => ?_⟩
    · by_cases h1 : i < W1.length <;> by_cases h2 : j < W1.length
      · rw [List.getElem?_append_left h1] at hi
        rw [List.getElem?_append_left h2] at hj
        exact hD1.1 i j x y hi hj hxy
      · rw [List.getElem?_append_left h1] at hi
        rw [List.getElem?_append_right (by omega)] at hj
        have := hle _ _ hi
        have := hr _ _ hj
        omega
      · rw [List.getElem?_append_right (by omega)] at hi
        rw [List.getElem?_append_left h2] at hj
        have := hle _ _ hj
        have := hr _ _ hi
        omega
      · rw [List.getElem?_append_right (by omega)] at hi hj
        have := hr _ _ hi
        have := hr _ _ hj
        omega
    · by_cases h1 : k9 < W1.length
      · rw [List.getElem?_append_left h1] at hx
        exact hD1.2 k9 x hx
      · rw [List.getElem?_append_right (by omega)] at hx
        have := hr _ _ hx
        exact hA _ (by have := hS.1; omega)
  have hAr : ArrOfT s cA (.array ty) := fun N9 z9 => by
    obtain ⟨-, k9, hk9, cm9, hkk9⟩ := (hO 0 0 0).1
    exact ⟨(fun q hq => by cases hq), k9, hk9, cm9, hkk9⟩
  have hK2 : va_K D cl (tys ++ [(cA, .array ty)]) s := ⟨hK.1, fun k9 x hx => by
    by_cases hl : k9 < tys.length
    · rw [List.getElem?_append_left hl] at hx
      exact hK.2 k9 x hx
    · rw [List.getElem?_append_right (by omega)] at hx
      have h0 : k9 - tys.length < 1 := (List.getElem?_eq_some_iff.mp hx).1
      rw [show k9 - tys.length = 0 by omega] at hx
      cases hx
      exact ⟨hAr, fA⟩⟩
  obtain ⟨t, a1, b1⟩ := kk H.size (fun i => H.size + 1 + i) cA F.heap rfl (fun _ => rfl) (fun i j _ _ h => by have h9 : H.size + 1 + i = H.size + 1 + j := h; omega) hnl hK2 (by rw [← vr_rows hnm]; exact vr_lay hP2) (by rw [← vr_rows hnm]; exact vr_layD hD2) ⟨by rw [f1]; have := hS.1; omega, fun x h1 h2 => (hold x (Nat.lt_of_lt_of_le h1 hS.1)).trans (hS.2.1 x h1 h2), hS.2.2⟩ F rfl X'
  refine ⟨t, step t ?_, b1⟩
  have e : T.heap.size = H.size := by rw [hT]
  rw [e]
  exact a1
end VGM

def RX0 : String := "LeashedNames$Acts"
def TX0 : u_T := fun k => match k with
  | 0 => ("LeashedNames$Acts", "number", "I", false)
  | 1 => ("LeashedNames$Acts", "closed", "I", false)
  | 2 => ("LeashedNames$Acts", "kind", "[I", true)
  | 3 => ("LeashedNames$Acts", "whom", "[I", true)
  | 4 => ("LeashedNames$Acts", "goal", "[I", true)
  | 5 => ("LeashedNames$Acts", "from", "[I", true)
  | _ => ("LeashedNames$Acts", "sentTo", "[I", true)
def tyX0 : Nat → FieldType := fun k => match k with
  | 0 => .int
  | 1 => .int
  | 2 => .array .int
  | 3 => .array .int
  | 4 => .array .int
  | 5 => .array .int
  | _ => .array .int
abbrev wsX00 : List Cond := u_ws RX0 TX0 7
theorem nmX0 : ∀ a, a < 7 → ∀ b, b < 7 → a ≠ b → (TX0 a).2.1 ≠ (TX0 b).2.1 := by decide +kernel
theorem tyX0_ok : ∀ k, k < 7 → parseFieldDescriptor (TX0 k).2.2.1 = some (tyX0 k) := by decide +kernel
abbrev cX0_init : ByteArray := prog_2_method_1_code
def yX0_init : MethodName := ⟨RX0, "<init>", "()V"⟩
abbrev cX0_add : ByteArray := prog_2_method_2_code
def yX0_add : MethodName := ⟨RX0, "add", "(IIII)V"⟩
abbrev cX0_removeLast : ByteArray := prog_2_method_3_code
def yX0_removeLast : MethodName := ⟨RX0, "removeLast", "()V"⟩
abbrev cX0_removeAll : ByteArray := prog_2_method_4_code
def yX0_removeAll : MethodName := ⟨RX0, "removeAll", "()V"⟩
abbrev cX0_playAgain : ByteArray := prog_2_method_5_code
def yX0_playAgain : MethodName := ⟨RX0, "playAgain", "()V"⟩
abbrev cX0_takeEffect : ByteArray := prog_2_method_6_code
def yX0_takeEffect : MethodName := ⟨RX0, "takeEffect", "(I)V"⟩
abbrev cX0_takeFrom : ByteArray := prog_2_method_7_code
def yX0_takeFrom : MethodName := ⟨RX0, "takeFrom", "(LLeashedNames$Acts;)V"⟩
def RX1 : String := "LeashedNames$Day"
def TX1 : u_T := fun k => match k with
  | 0 => ("LeashedNames$Day", "told", "LLeashedNames$Told;", true)
  | 1 => ("LeashedNames$Day", "acts", "LLeashedNames$Acts;", true)
  | 2 => ("LeashedNames$Day", "net", "LLeashedNames$Net;", true)
  | 3 => ("LeashedNames$Day", "startAt", "[I", true)
  | 4 => ("LeashedNames$Day", "startInk", "[I", true)
  | 5 => ("LeashedNames$Day", "spot", "[I", true)
  | 6 => ("LeashedNames$Day", "inkLeft", "[I", true)
  | 7 => ("LeashedNames$Day", "done", "[I", true)
  | 8 => ("LeashedNames$Day", "rule", "I", false)
  | 9 => ("LeashedNames$Day", "closed", "I", false)
  | 10 => ("LeashedNames$Day", "stays", "I", false)
  | _ => ("LeashedNames$Day", "dug", "I", false)
def tyX1 : Nat → FieldType := fun k => match k with
  | 0 => .object "LeashedNames$Told"
  | 1 => .object "LeashedNames$Acts"
  | 2 => .object "LeashedNames$Net"
  | 3 => .array .int
  | 4 => .array .int
  | 5 => .array .int
  | 6 => .array .int
  | 7 => .array .int
  | 8 => .int
  | 9 => .int
  | 10 => .int
  | _ => .int
abbrev wsX10 : List Cond := u_ws RX1 TX1 12
theorem nmX1 : ∀ a, a < 12 → ∀ b, b < 12 → a ≠ b → (TX1 a).2.1 ≠ (TX1 b).2.1 := by decide +kernel
theorem tyX1_ok : ∀ k, k < 12 → parseFieldDescriptor (TX1 k).2.2.1 = some (tyX1 k) := by decide +kernel
abbrev cX1_init : ByteArray := prog_3_method_1_code
def yX1_init : MethodName := ⟨RX1, "<init>", "(LLeashedNames$Told;LLeashedNames$Acts;)V"⟩
abbrev cX1_asNow : ByteArray := prog_3_method_2_code
def yX1_asNow : MethodName := ⟨RX1, "asNow", "()V"⟩
abbrev cX1_runAll : ByteArray := prog_3_method_3_code
def yX1_runAll : MethodName := ⟨RX1, "runAll", "(I)I"⟩
abbrev cX1_begin : ByteArray := prog_3_method_4_code
def yX1_begin : MethodName := ⟨RX1, "begin", "()V"⟩
abbrev cX1_goOn : ByteArray := prog_3_method_5_code
def yX1_goOn : MethodName := ⟨RX1, "goOn", "(IZ)V"⟩
abbrev cX1_aimOf : ByteArray := prog_3_method_6_code
def yX1_aimOf : MethodName := ⟨RX1, "aimOf", "(II)I"⟩
abbrev cX1_drinkAll : ByteArray := prog_3_method_7_code
def yX1_drinkAll : MethodName := ⟨RX1, "drinkAll", "(I)V"⟩
abbrev cX1_inkAt : ByteArray := prog_3_method_8_code
def yX1_inkAt : MethodName := ⟨RX1, "inkAt", "(I)I"⟩
abbrev cX1_signAll : ByteArray := prog_3_method_9_code
def yX1_signAll : MethodName := ⟨RX1, "signAll", "(I)V"⟩
abbrev cX1_isBarred : ByteArray := prog_3_method_10_code
def yX1_isBarred : MethodName := ⟨RX1, "isBarred", "(ZZZ)Z"⟩
abbrev cX1_payInk : ByteArray := prog_3_method_11_code
def yX1_payInk : MethodName := ⟨RX1, "payInk", "(II)V"⟩
abbrev cX1_cornerOfAll : ByteArray := prog_3_method_12_code
def yX1_cornerOfAll : MethodName := ⟨RX1, "cornerOfAll", "(II)I"⟩
abbrev cX1_namesAwake : ByteArray := prog_3_method_13_code
def yX1_namesAwake : MethodName := ⟨RX1, "namesAwake", "(I)I"⟩
abbrev cX1_namesAt : ByteArray := prog_3_method_14_code
def yX1_namesAt : MethodName := ⟨RX1, "namesAt", "(II)I"⟩
abbrev cX1_firstDry : ByteArray := prog_3_method_15_code
def yX1_firstDry : MethodName := ⟨RX1, "firstDry", "(I)I"⟩
abbrev cX1_leastDry : ByteArray := prog_3_method_16_code
def yX1_leastDry : MethodName := ⟨RX1, "leastDry", "(I)I"⟩
abbrev cX1_streetsGone : ByteArray := prog_3_method_17_code
def yX1_streetsGone : MethodName := ⟨RX1, "streetsGone", "(I)I"⟩
abbrev cX1_stepsStuck : ByteArray := prog_3_method_18_code
def yX1_stepsStuck : MethodName := ⟨RX1, "stepsStuck", "(I)I"⟩
abbrev cX1_cornersSeen : ByteArray := prog_3_method_19_code
def yX1_cornersSeen : MethodName := ⟨RX1, "cornersSeen", "(I)I"⟩
abbrev cX1_inkDrunk : ByteArray := prog_3_method_20_code
def yX1_inkDrunk : MethodName := ⟨RX1, "inkDrunk", "(I)I"⟩
abbrev cX1_inkOfAll : ByteArray := prog_3_method_21_code
def yX1_inkOfAll : MethodName := ⟨RX1, "inkOfAll", "(I)I"⟩
abbrev cX1_firstSigned : ByteArray := prog_3_method_22_code
def yX1_firstSigned : MethodName := ⟨RX1, "firstSigned", "(I)I"⟩
abbrev cX1_firstTogether : ByteArray := prog_3_method_23_code
def yX1_firstTogether : MethodName := ⟨RX1, "firstTogether", "(I)I"⟩
abbrev cX1_stepsTogether : ByteArray := prog_3_method_24_code
def yX1_stepsTogether : MethodName := ⟨RX1, "stepsTogether", "(I)I"⟩
abbrev cX1_largestPack : ByteArray := prog_3_method_25_code
def yX1_largestPack : MethodName := ⟨RX1, "largestPack", "()I"⟩
abbrev cX1_busiestCorner : ByteArray := prog_3_method_26_code
def yX1_busiestCorner : MethodName := ⟨RX1, "busiestCorner", "()I"⟩
abbrev cX1_namesAlone : ByteArray := prog_3_method_27_code
def yX1_namesAlone : MethodName := ⟨RX1, "namesAlone", "(I)I"⟩
def RX2 : String := "LeashedNames$Image"
def TX2 : u_T := fun k => match k with
  | 0 => ("LeashedNames$Image", "kept", "Z", false)
  | 1 => ("LeashedNames$Image", "told", "LLeashedNames$Told;", true)
  | _ => ("LeashedNames$Image", "acts", "LLeashedNames$Acts;", true)
def tyX2 : Nat → FieldType := fun k => match k with
  | 0 => .boolean
  | 1 => .object "LeashedNames$Told"
  | _ => .object "LeashedNames$Acts"
abbrev wsX20 : List Cond := u_ws RX2 TX2 3
theorem nmX2 : ∀ a, a < 3 → ∀ b, b < 3 → a ≠ b → (TX2 a).2.1 ≠ (TX2 b).2.1 := by decide +kernel
theorem tyX2_ok : ∀ k, k < 3 → parseFieldDescriptor (TX2 k).2.2.1 = some (tyX2 k) := by decide +kernel
abbrev cX2_init : ByteArray := prog_4_method_1_code
def yX2_init : MethodName := ⟨RX2, "<init>", "()V"⟩
def RX3 : String := "LeashedNames$Net"
def TX3 : u_T := fun k => match k with
  | _ => ("LeashedNames$Net", "near", "[I", true)
def tyX3 : Nat → FieldType := fun k => match k with
  | _ => .array .int
abbrev wsX30 : List Cond := u_ws RX3 TX3 1
theorem nmX3 : ∀ a, a < 1 → ∀ b, b < 1 → a ≠ b → (TX3 a).2.1 ≠ (TX3 b).2.1 := by decide +kernel
theorem tyX3_ok : ∀ k, k < 1 → parseFieldDescriptor (TX3 k).2.2.1 = some (tyX3 k) := by decide +kernel
abbrev cX3_init : ByteArray := prog_5_method_1_code
def yX3_init : MethodName := ⟨RX3, "<init>", "()V"⟩
abbrev cX3_build : ByteArray := prog_5_method_2_code
def yX3_build : MethodName := ⟨RX3, "build", "(LLeashedNames$Told;I)V"⟩
abbrev cX3_joins : ByteArray := prog_5_method_3_code
def yX3_joins : MethodName := ⟨RX3, "joins", "(II)Z"⟩
abbrev cX3_spread : ByteArray := prog_5_method_4_code
def yX3_spread : MethodName := ⟨RX3, "spread", "(I)I"⟩
abbrev cX3_within : ByteArray := prog_5_method_5_code
def yX3_within : MethodName := ⟨RX3, "within", "(II)I"⟩
abbrev cX3_distance : ByteArray := prog_5_method_6_code
def yX3_distance : MethodName := ⟨RX3, "distance", "(II)I"⟩
def RX4 : String := "LeashedNames$Reader"
def TX4 : u_T := fun k => match k with
  | 0 => ("LeashedNames$Reader", "tape", "[I", true)
  | 1 => ("LeashedNames$Reader", "size", "I", false)
  | 2 => ("LeashedNames$Reader", "fault", "I", false)
  | 3 => ("LeashedNames$Reader", "place", "I", false)
  | 4 => ("LeashedNames$Reader", "kind", "I", false)
  | 5 => ("LeashedNames$Reader", "start", "I", false)
  | 6 => ("LeashedNames$Reader", "behind", "I", false)
  | _ => ("LeashedNames$Reader", "value", "I", false)
def tyX4 : Nat → FieldType := fun k => match k with
  | 0 => .array .int
  | 1 => .int
  | 2 => .int
  | 3 => .int
  | 4 => .int
  | 5 => .int
  | 6 => .int
  | _ => .int
abbrev wsX40 : List Cond := u_ws RX4 TX4 8
theorem nmX4 : ∀ a, a < 8 → ∀ b, b < 8 → a ≠ b → (TX4 a).2.1 ≠ (TX4 b).2.1 := by decide +kernel
theorem tyX4_ok : ∀ k, k < 8 → parseFieldDescriptor (TX4 k).2.2.1 = some (tyX4 k) := by decide +kernel
abbrev cX4_init : ByteArray := prog_6_method_1_code
def yX4_init : MethodName := ⟨RX4, "<init>", "()V"⟩
abbrev cX4_addNumber : ByteArray := prog_6_method_2_code
def yX4_addNumber : MethodName := ⟨RX4, "addNumber", "(I)V"⟩
abbrev cX4_readAll : ByteArray := prog_6_method_3_code
def yX4_readAll : MethodName := ⟨RX4, "readAll", "(LLeashedNames$Told;)V"⟩
abbrev cX4_readLine : ByteArray := prog_6_method_4_code
def yX4_readLine : MethodName := ⟨RX4, "readLine", "(LLeashedNames$Told;)V"⟩
abbrev cX4_readHead : ByteArray := prog_6_method_5_code
def yX4_readHead : MethodName := ⟨RX4, "readHead", "(LLeashedNames$Told;)V"⟩
abbrev cX4_readStreet : ByteArray := prog_6_method_6_code
def yX4_readStreet : MethodName := ⟨RX4, "readStreet", "(LLeashedNames$Told;)V"⟩
abbrev cX4_readWell : ByteArray := prog_6_method_7_code
def yX4_readWell : MethodName := ⟨RX4, "readWell", "(LLeashedNames$Told;)V"⟩
abbrev cX4_readName : ByteArray := prog_6_method_8_code
def yX4_readName : MethodName := ⟨RX4, "readName", "(LLeashedNames$Told;)V"⟩
abbrev cX4_readWalk : ByteArray := prog_6_method_9_code
def yX4_readWalk : MethodName := ⟨RX4, "readWalk", "(LLeashedNames$Told;I)V"⟩
abbrev cX4_readContract : ByteArray := prog_6_method_10_code
def yX4_readContract : MethodName := ⟨RX4, "readContract", "(LLeashedNames$Told;)V"⟩
abbrev cX4_fail : ByteArray := prog_6_method_11_code
def yX4_fail : MethodName := ⟨RX4, "fail", "(I)V"⟩
abbrev cX4_takeWord : ByteArray := prog_6_method_12_code
def yX4_takeWord : MethodName := ⟨RX4, "takeWord", "(Ljava/lang/String;)V"⟩
abbrev cX4_takeStop : ByteArray := prog_6_method_13_code
def yX4_takeStop : MethodName := ⟨RX4, "takeStop", "()V"⟩
abbrev cX4_takeNumber : ByteArray := prog_6_method_14_code
def yX4_takeNumber : MethodName := ⟨RX4, "takeNumber", "(III)I"⟩
abbrev cX4_isWord : ByteArray := prog_6_method_15_code
def yX4_isWord : MethodName := ⟨RX4, "isWord", "(Ljava/lang/String;)Z"⟩
abbrev cX4_takeToken : ByteArray := prog_6_method_16_code
def yX4_takeToken : MethodName := ⟨RX4, "takeToken", "()V"⟩
abbrev cX4_kindOf : ByteArray := prog_6_method_17_code
def yX4_kindOf : MethodName := ⟨RX4, "kindOf", "(I)I"⟩
def RX5 : String := "LeashedNames$Rows"
def TX5 : u_T := fun k => match k with
  | 0 => ("LeashedNames$Rows", "width", "[I", true)
  | 1 => ("LeashedNames$Rows", "length", "[I", true)
  | _ => ("LeashedNames$Rows", "numbers", "[[J", true)
def tyX5 : Nat → FieldType := fun k => match k with
  | 0 => .array .int
  | 1 => .array .int
  | _ => .array (.array .long)
abbrev wsX50 : List Cond := u_ws RX5 TX5 3
theorem nmX5 : ∀ a, a < 3 → ∀ b, b < 3 → a ≠ b → (TX5 a).2.1 ≠ (TX5 b).2.1 := by decide +kernel
theorem tyX5_ok : ∀ k, k < 3 → parseFieldDescriptor (TX5 k).2.2.1 = some (tyX5 k) := by decide +kernel
abbrev cX5_init : ByteArray := prog_7_method_1_code
def yX5_init : MethodName := ⟨RX5, "<init>", "()V"⟩
abbrev cX5_isSlot : ByteArray := prog_7_method_2_code
def yX5_isSlot : MethodName := ⟨RX5, "isSlot", "(I)Z"⟩
abbrev cX5_isFilled : ByteArray := prog_7_method_3_code
def yX5_isFilled : MethodName := ⟨RX5, "isFilled", "(I)Z"⟩
abbrev cX5_make : ByteArray := prog_7_method_4_code
def yX5_make : MethodName := ⟨RX5, "make", "(III)V"⟩
abbrev cX5_cutTo : ByteArray := prog_7_method_5_code
def yX5_cutTo : MethodName := ⟨RX5, "cutTo", "(IJ)J"⟩
abbrev cX5_holds : ByteArray := prog_7_method_6_code
def yX5_holds : MethodName := ⟨RX5, "holds", "(III)Z"⟩
abbrev cX5_holdsPairs : ByteArray := prog_7_method_7_code
def yX5_holdsPairs : MethodName := ⟨RX5, "holdsPairs", "(IIII)Z"⟩
abbrev cX5_howMany : ByteArray := prog_7_method_8_code
def yX5_howMany : MethodName := ⟨RX5, "howMany", "()I"⟩
def RX6 : String := "LeashedNames$Told"
def TX6 : u_T := fun k => match k with
  | 0 => ("LeashedNames$Told", "corners", "I", false)
  | 1 => ("LeashedNames$Told", "steps", "I", false)
  | 2 => ("LeashedNames$Told", "law", "I", false)
  | 3 => ("LeashedNames$Told", "odds", "I", false)
  | 4 => ("LeashedNames$Told", "lines", "I", false)
  | 5 => ("LeashedNames$Told", "streets", "I", false)
  | 6 => ("LeashedNames$Told", "wells", "I", false)
  | 7 => ("LeashedNames$Told", "names", "I", false)
  | 8 => ("LeashedNames$Told", "contracts", "I", false)
  | 9 => ("LeashedNames$Told", "streetFrom", "[I", true)
  | 10 => ("LeashedNames$Told", "streetTo", "[I", true)
  | 11 => ("LeashedNames$Told", "wellInk", "[I", true)
  | 12 => ("LeashedNames$Told", "home", "[I", true)
  | 13 => ("LeashedNames$Told", "toldInk", "[I", true)
  | 14 => ("LeashedNames$Told", "loops", "[I", true)
  | 15 => ("LeashedNames$Told", "walkLength", "[I", true)
  | 16 => ("LeashedNames$Told", "walks", "[I", true)
  | _ => ("LeashedNames$Told", "party", "[I", true)
def tyX6 : Nat → FieldType := fun k => match k with
  | 0 => .int
  | 1 => .int
  | 2 => .int
  | 3 => .int
  | 4 => .int
  | 5 => .int
  | 6 => .int
  | 7 => .int
  | 8 => .int
  | 9 => .array .int
  | 10 => .array .int
  | 11 => .array .int
  | 12 => .array .int
  | 13 => .array .int
  | 14 => .array .int
  | 15 => .array .int
  | 16 => .array .int
  | _ => .array .int
abbrev wsX60 : List Cond := u_ws RX6 TX6 18
theorem nmX6 : ∀ a, a < 18 → ∀ b, b < 18 → a ≠ b → (TX6 a).2.1 ≠ (TX6 b).2.1 := by decide +kernel
theorem tyX6_ok : ∀ k, k < 18 → parseFieldDescriptor (TX6 k).2.2.1 = some (tyX6 k) := by decide +kernel
abbrev cX6_init : ByteArray := prog_8_method_1_code
def yX6_init : MethodName := ⟨RX6, "<init>", "()V"⟩
abbrev cX6_makeEmpty : ByteArray := prog_8_method_2_code
def yX6_makeEmpty : MethodName := ⟨RX6, "makeEmpty", "()V"⟩
abbrev cX6_takeFrom : ByteArray := prog_8_method_3_code
def yX6_takeFrom : MethodName := ⟨RX6, "takeFrom", "(LLeashedNames$Told;)V"⟩
abbrev cX6_isThere : ByteArray := prog_8_method_4_code
def yX6_isThere : MethodName := ⟨RX6, "isThere", "()Z"⟩
abbrev cX6_hasCorner : ByteArray := prog_8_method_5_code
def yX6_hasCorner : MethodName := ⟨RX6, "hasCorner", "(I)Z"⟩
abbrev cX6_hasStep : ByteArray := prog_8_method_6_code
def yX6_hasStep : MethodName := ⟨RX6, "hasStep", "(I)Z"⟩
abbrev cX6_hasStreet : ByteArray := prog_8_method_7_code
def yX6_hasStreet : MethodName := ⟨RX6, "hasStreet", "(I)Z"⟩
abbrev cX6_hasName : ByteArray := prog_8_method_8_code
def yX6_hasName : MethodName := ⟨RX6, "hasName", "(I)Z"⟩
abbrev cX6_hasContract : ByteArray := prog_8_method_9_code
def yX6_hasContract : MethodName := ⟨RX6, "hasContract", "(I)Z"⟩
abbrev cX6_contractsOf : ByteArray := prog_8_method_10_code
def yX6_contractsOf : MethodName := ⟨RX6, "contractsOf", "(I)I"⟩
def RX7 : String := "LeashedNames"
def TX7 : u_T := fun k => match k with
  | 0 => ("LeashedNames", "reader", "LLeashedNames$Reader;", true)
  | 1 => ("LeashedNames", "told", "LLeashedNames$Told;", true)
  | 2 => ("LeashedNames", "spare", "LLeashedNames$Told;", true)
  | 3 => ("LeashedNames", "acts", "LLeashedNames$Acts;", true)
  | 4 => ("LeashedNames", "now", "LLeashedNames$Day;", true)
  | 5 => ("LeashedNames", "trial", "LLeashedNames$Day;", true)
  | 6 => ("LeashedNames", "images", "[LLeashedNames$Image;", true)
  | 7 => ("LeashedNames", "rows", "LLeashedNames$Rows;", true)
  | _ => ("LeashedNames", "traces", "[I", true)
def tyX7 : Nat → FieldType := fun k => match k with
  | 0 => .object "LeashedNames$Reader"
  | 1 => .object "LeashedNames$Told"
  | 2 => .object "LeashedNames$Told"
  | 3 => .object "LeashedNames$Acts"
  | 4 => .object "LeashedNames$Day"
  | 5 => .object "LeashedNames$Day"
  | 6 => .array (.object "LeashedNames$Image")
  | 7 => .object "LeashedNames$Rows"
  | _ => .array .int
abbrev wsX70 : List Cond := u_ws RX7 TX7 9
theorem nmX7 : ∀ a, a < 9 → ∀ b, b < 9 → a ≠ b → (TX7 a).2.1 ≠ (TX7 b).2.1 := by decide +kernel
theorem tyX7_ok : ∀ k, k < 9 → parseFieldDescriptor (TX7 k).2.2.1 = some (tyX7 k) := by decide +kernel
abbrev cX7_init : ByteArray := prog_1_method_1_code
def yX7_init : MethodName := ⟨RX7, "<init>", "()V"⟩
abbrev cX7_feed : ByteArray := prog_1_method_2_code
def yX7_feed : MethodName := ⟨RX7, "feed", "(IIIII)I"⟩
abbrev cX7_end : ByteArray := prog_1_method_3_code
def yX7_end : MethodName := ⟨RX7, "end", "(I)I"⟩
abbrev cX7_state : ByteArray := prog_1_method_4_code
def yX7_state : MethodName := ⟨RX7, "state", "()I"⟩
abbrev cX7_fault : ByteArray := prog_1_method_5_code
def yX7_fault : MethodName := ⟨RX7, "fault", "(I)I"⟩
abbrev cX7_street : ByteArray := prog_1_method_6_code
def yX7_street : MethodName := ⟨RX7, "street", "(II)I"⟩
abbrev cX7_well : ByteArray := prog_1_method_7_code
def yX7_well : MethodName := ⟨RX7, "well", "(I)I"⟩
abbrev cX7_name : ByteArray := prog_1_method_8_code
def yX7_name : MethodName := ⟨RX7, "name", "(II)I"⟩
abbrev cX7_walk : ByteArray := prog_1_method_9_code
def yX7_walk : MethodName := ⟨RX7, "walk", "(II)I"⟩
abbrev cX7_contract : ByteArray := prog_1_method_10_code
def yX7_contract : MethodName := ⟨RX7, "contract", "(I)I"⟩
abbrev cX7_at : ByteArray := prog_1_method_11_code
def yX7_at : MethodName := ⟨RX7, "at", "(II)I"⟩
abbrev cX7_ink : ByteArray := prog_1_method_12_code
def yX7_ink : MethodName := ⟨RX7, "ink", "(II)I"⟩
abbrev cX7_awake : ByteArray := prog_1_method_13_code
def yX7_awake : MethodName := ⟨RX7, "awake", "(I)I"⟩
abbrev cX7_here : ByteArray := prog_1_method_14_code
def yX7_here : MethodName := ⟨RX7, "here", "(II)I"⟩
abbrev cX7_sleeps : ByteArray := prog_1_method_15_code
def yX7_sleeps : MethodName := ⟨RX7, "sleeps", "(I)I"⟩
abbrev cX7_goes : ByteArray := prog_1_method_16_code
def yX7_goes : MethodName := ⟨RX7, "goes", "(I)I"⟩
abbrev cX7_stuck : ByteArray := prog_1_method_17_code
def yX7_stuck : MethodName := ⟨RX7, "stuck", "(I)I"⟩
abbrev cX7_sees : ByteArray := prog_1_method_18_code
def yX7_sees : MethodName := ⟨RX7, "sees", "(I)I"⟩
abbrev cX7_drinks : ByteArray := prog_1_method_19_code
def yX7_drinks : MethodName := ⟨RX7, "drinks", "(I)I"⟩
abbrev cX7_signed : ByteArray := prog_1_method_20_code
def yX7_signed : MethodName := ⟨RX7, "signed", "(I)I"⟩
abbrev cX7_where : ByteArray := prog_1_method_21_code
def yX7_where : MethodName := ⟨RX7, "where", "(I)I"⟩
abbrev cX7_signs : ByteArray := prog_1_method_22_code
def yX7_signs : MethodName := ⟨RX7, "signs", "(I)I"⟩
abbrev cX7_deeds : ByteArray := prog_1_method_23_code
def yX7_deeds : MethodName := ⟨RX7, "deeds", "(I)I"⟩
abbrev cX7_meets : ByteArray := prog_1_method_24_code
def yX7_meets : MethodName := ⟨RX7, "meets", "(II)I"⟩
abbrev cX7_often : ByteArray := prog_1_method_25_code
def yX7_often : MethodName := ⟨RX7, "often", "(II)I"⟩
abbrev cX7_pack : ByteArray := prog_1_method_26_code
def yX7_pack : MethodName := ⟨RX7, "pack", "()I"⟩
abbrev cX7_busy : ByteArray := prog_1_method_27_code
def yX7_busy : MethodName := ⟨RX7, "busy", "()I"⟩
abbrev cX7_lone : ByteArray := prog_1_method_28_code
def yX7_lone : MethodName := ⟨RX7, "lone", "(I)I"⟩
abbrev cX7_total : ByteArray := prog_1_method_29_code
def yX7_total : MethodName := ⟨RX7, "total", "(I)I"⟩
abbrev cX7_first : ByteArray := prog_1_method_30_code
def yX7_first : MethodName := ⟨RX7, "first", "()I"⟩
abbrev cX7_lies : ByteArray := prog_1_method_31_code
def yX7_lies : MethodName := ⟨RX7, "lies", "(I)I"⟩
abbrev cX7_thirst : ByteArray := prog_1_method_32_code
def yX7_thirst : MethodName := ⟨RX7, "thirst", "()I"⟩
abbrev cX7_way : ByteArray := prog_1_method_33_code
def yX7_way : MethodName := ⟨RX7, "way", "(II)I"⟩
abbrev cX7_reach : ByteArray := prog_1_method_34_code
def yX7_reach : MethodName := ⟨RX7, "reach", "(I)I"⟩
abbrev cX7_soon : ByteArray := prog_1_method_35_code
def yX7_soon : MethodName := ⟨RX7, "soon", "(II)I"⟩
abbrev cX7_gather : ByteArray := prog_1_method_36_code
def yX7_gather : MethodName := ⟨RX7, "gather", "(I)I"⟩
abbrev cX7_hall : ByteArray := prog_1_method_37_code
def yX7_hall : MethodName := ⟨RX7, "hall", "(I)I"⟩
abbrev cX7_cut : ByteArray := prog_1_method_38_code
def yX7_cut : MethodName := ⟨RX7, "cut", "(II)I"⟩
abbrev cX7_cuts : ByteArray := prog_1_method_39_code
def yX7_cuts : MethodName := ⟨RX7, "cuts", "(II)I"⟩
abbrev cX7_by : ByteArray := prog_1_method_40_code
def yX7_by : MethodName := ⟨RX7, "by", "(I)I"⟩
abbrev cX7_law : ByteArray := prog_1_method_41_code
def yX7_law : MethodName := ⟨RX7, "law", "()I"⟩
abbrev cX7_needs : ByteArray := prog_1_method_42_code
def yX7_needs : MethodName := ⟨RX7, "needs", "(I)I"⟩
abbrev cX7_lives : ByteArray := prog_1_method_43_code
def yX7_lives : MethodName := ⟨RX7, "lives", "(I)I"⟩
abbrev cX7_dig : ByteArray := prog_1_method_44_code
def yX7_dig : MethodName := ⟨RX7, "dig", "()I"⟩
abbrev cX7_shut : ByteArray := prog_1_method_45_code
def yX7_shut : MethodName := ⟨RX7, "shut", "()I"⟩
abbrev cX7_homes : ByteArray := prog_1_method_46_code
def yX7_homes : MethodName := ⟨RX7, "homes", "(II)I"⟩
abbrev cX7_ask : ByteArray := prog_1_method_47_code
def yX7_ask : MethodName := ⟨RX7, "ask", "(II)I"⟩
abbrev cX7_leaves : ByteArray := prog_1_method_48_code
def yX7_leaves : MethodName := ⟨RX7, "leaves", "(II)I"⟩
abbrev cX7_sniffs : ByteArray := prog_1_method_49_code
def yX7_sniffs : MethodName := ⟨RX7, "sniffs", "(I)I"⟩
abbrev cX7_next : ByteArray := prog_1_method_50_code
def yX7_next : MethodName := ⟨RX7, "next", "(I)I"⟩
abbrev cX7_worth : ByteArray := prog_1_method_51_code
def yX7_worth : MethodName := ⟨RX7, "worth", "(I)I"⟩
abbrev cX7_share : ByteArray := prog_1_method_52_code
def yX7_share : MethodName := ⟨RX7, "share", "(II)I"⟩
abbrev cX7_rests : ByteArray := prog_1_method_53_code
def yX7_rests : MethodName := ⟨RX7, "rests", "(II)I"⟩
abbrev cX7_gets : ByteArray := prog_1_method_54_code
def yX7_gets : MethodName := ⟨RX7, "gets", "(IIII)I"⟩
abbrev cX7_chance : ByteArray := prog_1_method_55_code
def yX7_chance : MethodName := ⟨RX7, "chance", "(III)J"⟩
abbrev cX7_mean : ByteArray := prog_1_method_56_code
def yX7_mean : MethodName := ⟨RX7, "mean", "(II)J"⟩
abbrev cX7_send : ByteArray := prog_1_method_57_code
def yX7_send : MethodName := ⟨RX7, "send", "(III)I"⟩
abbrev cX7_close : ByteArray := prog_1_method_58_code
def yX7_close : MethodName := ⟨RX7, "close", "(II)I"⟩
abbrev cX7_undo : ByteArray := prog_1_method_59_code
def yX7_undo : MethodName := ⟨RX7, "undo", "()I"⟩
abbrev cX7_anew : ByteArray := prog_1_method_60_code
def yX7_anew : MethodName := ⟨RX7, "anew", "()I"⟩
abbrev cX7_drawn : ByteArray := prog_1_method_61_code
def yX7_drawn : MethodName := ⟨RX7, "drawn", "(II)I"⟩
abbrev cX7_luck : ByteArray := prog_1_method_62_code
def yX7_luck : MethodName := ⟨RX7, "luck", "(III)I"⟩
abbrev cX7_rate : ByteArray := prog_1_method_63_code
def yX7_rate : MethodName := ⟨RX7, "rate", "(II)I"⟩
abbrev cX7_count : ByteArray := prog_1_method_64_code
def yX7_count : MethodName := ⟨RX7, "count", "(I)I"⟩
abbrev cX7_image : ByteArray := prog_1_method_65_code
def yX7_image : MethodName := ⟨RX7, "image", "(I)I"⟩
abbrev cX7_back : ByteArray := prog_1_method_66_code
def yX7_back : MethodName := ⟨RX7, "back", "(I)I"⟩
abbrev cX7_row : ByteArray := prog_1_method_67_code
def yX7_row : MethodName := ⟨RX7, "row", "(III)I"⟩
abbrev cX7_write : ByteArray := prog_1_method_68_code
def yX7_write : MethodName := ⟨RX7, "write", "(IIJ)I"⟩
abbrev cX7_paste : ByteArray := prog_1_method_69_code
def yX7_paste : MethodName := ⟨RX7, "paste", "(IIIII)I"⟩
abbrev cX7_settle : ByteArray := prog_1_method_70_code
def yX7_settle : MethodName := ⟨RX7, "settle", "()V"⟩
abbrev cX7_leastOf : ByteArray := prog_1_method_71_code
def yX7_leastOf : MethodName := ⟨RX7, "leastOf", "(I)I"⟩
abbrev cX7_cornersForAll : ByteArray := prog_1_method_72_code
def yX7_cornersForAll : MethodName := ⟨RX7, "cornersForAll", "(II)I"⟩
abbrev cX7_fewestToGather : ByteArray := prog_1_method_73_code
def yX7_fewestToGather : MethodName := ⟨RX7, "fewestToGather", "(I)I"⟩
abbrev cX7_areTwo : ByteArray := prog_1_method_74_code
def yX7_areTwo : MethodName := ⟨RX7, "areTwo", "(II)Z"⟩
abbrev cX7_streetsToCut : ByteArray := prog_1_method_75_code
def yX7_streetsToCut : MethodName := ⟨RX7, "streetsToCut", "(II)I"⟩
abbrev cX7_isCutBy : ByteArray := prog_1_method_76_code
def yX7_isCutBy : MethodName := ⟨RX7, "isCutBy", "(III)Z"⟩
abbrev cX7_signedNow : ByteArray := prog_1_method_77_code
def yX7_signedNow : MethodName := ⟨RX7, "signedNow", "()I"⟩
abbrev cX7_signedByLaw : ByteArray := prog_1_method_78_code
def yX7_signedByLaw : MethodName := ⟨RX7, "signedByLaw", "(I)I"⟩
abbrev cX7_signedWithInk : ByteArray := prog_1_method_79_code
def yX7_signedWithInk : MethodName := ⟨RX7, "signedWithInk", "(II)I"⟩
abbrev cX7_signedLivingAt : ByteArray := prog_1_method_80_code
def yX7_signedLivingAt : MethodName := ⟨RX7, "signedLivingAt", "(II)I"⟩
abbrev cX7_possibleHomes : ByteArray := prog_1_method_81_code
def yX7_possibleHomes : MethodName := ⟨RX7, "possibleHomes", "(II)I"⟩
abbrev cX7_keepTrace : ByteArray := prog_1_method_82_code
def yX7_keepTrace : MethodName := ⟨RX7, "keepTrace", "(II)V"⟩
abbrev cX7_traced : ByteArray := prog_1_method_83_code
def yX7_traced : MethodName := ⟨RX7, "traced", "(II)I"⟩
abbrev cX7_agreesWithSeen : ByteArray := prog_1_method_84_code
def yX7_agreesWithSeen : MethodName := ⟨RX7, "agreesWithSeen", "(II)Z"⟩
abbrev cX7_stepToAsk : ByteArray := prog_1_method_85_code
def yX7_stepToAsk : MethodName := ⟨RX7, "stepToAsk", "(I)I"⟩
abbrev cX7_homesLeft : ByteArray := prog_1_method_86_code
def yX7_homesLeft : MethodName := ⟨RX7, "homesLeft", "(II)I"⟩
abbrev cX7_possibleForged : ByteArray := prog_1_method_87_code
def yX7_possibleForged : MethodName := ⟨RX7, "possibleForged", "(I)I"⟩
abbrev cX7_agreesWithSniffs : ByteArray := prog_1_method_88_code
def yX7_agreesWithSniffs : MethodName := ⟨RX7, "agreesWithSniffs", "(II)Z"⟩
abbrev cX7_forgedLeft : ByteArray := prog_1_method_89_code
def yX7_forgedLeft : MethodName := ⟨RX7, "forgedLeft", "(II)I"⟩
abbrev cX7_sixthsOfShare : ByteArray := prog_1_method_90_code
def yX7_sixthsOfShare : MethodName := ⟨RX7, "sixthsOfShare", "(I)I"⟩
abbrev cX7_gains : ByteArray := prog_1_method_91_code
def yX7_gains : MethodName := ⟨RX7, "gains", "(IIII)I"⟩
abbrev cX7_canRainTo : ByteArray := prog_1_method_92_code
def yX7_canRainTo : MethodName := ⟨RX7, "canRainTo", "(I)Z"⟩
abbrev cX7_rainMean : ByteArray := prog_1_method_93_code
def yX7_rainMean : MethodName := ⟨RX7, "rainMean", "(III)J"⟩
abbrev cX7_rainSum : ByteArray := prog_1_method_94_code
def yX7_rainSum : MethodName := ⟨RX7, "rainSum", "(LLeashedNames$Day;IIIJ)J"⟩
abbrev cX7_inLowestTerms : ByteArray := prog_1_method_95_code
def yX7_inLowestTerms : MethodName := ⟨RX7, "inLowestTerms", "(JJI)J"⟩
abbrev cX7_commonMeasure : ByteArray := prog_1_method_96_code
def yX7_commonMeasure : MethodName := ⟨RX7, "commonMeasure", "(JJ)J"⟩
abbrev cX7_isSeed : ByteArray := prog_1_method_97_code
def yX7_isSeed : MethodName := ⟨RX7, "isSeed", "(I)Z"⟩
abbrev cX7_rainDrawn : ByteArray := prog_1_method_98_code
def yX7_rainDrawn : MethodName := ⟨RX7, "rainDrawn", "(I)I"⟩
abbrev cX7_signedInRain : ByteArray := prog_1_method_99_code
def yX7_signedInRain : MethodName := ⟨RX7, "signedInRain", "(I)I"⟩
def RX8 : String := "LeashedNamesModel"
def TX8 : u_T := fun k => match k with
  | 0 => ("LeashedNamesModel", "thrown", "I", false)
  | 1 => ("LeashedNamesModel", "world", "[I", true)
  | 2 => ("LeashedNamesModel", "images", "[I", true)
  | 3 => ("LeashedNamesModel", "hasImage", "[Z", true)
  | 4 => ("LeashedNamesModel", "tape", "[B", true)
  | 5 => ("LeashedNamesModel", "taped", "I", false)
  | 6 => ("LeashedNamesModel", "five", "[I", true)
  | 7 => ("LeashedNamesModel", "size", "I", false)
  | 8 => ("LeashedNamesModel", "at", "I", false)
  | 9 => ("LeashedNamesModel", "from", "I", false)
  | 10 => ("LeashedNamesModel", "token", "I", false)
  | 11 => ("LeashedNamesModel", "value", "I", false)
  | 12 => ("LeashedNamesModel", "faultKind", "I", false)
  | 13 => ("LeashedNamesModel", "faultPlace", "I", false)
  | 14 => ("LeashedNamesModel", "fresh", "[I", true)
  | 15 => ("LeashedNamesModel", "closedSet", "I", false)
  | 16 => ("LeashedNamesModel", "lawNow", "I", false)
  | 17 => ("LeashedNamesModel", "rainSet", "I", false)
  | 18 => ("LeashedNamesModel", "stayers", "I", false)
  | 19 => ("LeashedNamesModel", "homeOf", "[I", true)
  | 20 => ("LeashedNamesModel", "inkOf", "[I", true)
  | 21 => ("LeashedNamesModel", "feedsAt", "[I", true)
  | 22 => ("LeashedNamesModel", "sentTo", "[I", true)
  | 23 => ("LeashedNamesModel", "placeAt", "[I", true)
  | 24 => ("LeashedNamesModel", "inkAt", "[I", true)
  | 25 => ("LeashedNamesModel", "signedAt", "[I", true)
  | 26 => ("LeashedNamesModel", "signedIn", "[I", true)
  | 27 => ("LeashedNamesModel", "goesOf", "[I", true)
  | 28 => ("LeashedNamesModel", "stuckOf", "[I", true)
  | 29 => ("LeashedNamesModel", "drinksOf", "[I", true)
  | 30 => ("LeashedNamesModel", "ways", "[I", true)
  | 31 => ("LeashedNamesModel", "placesBy", "[I", true)
  | 32 => ("LeashedNamesModel", "askWorst", "I", false)
  | 33 => ("LeashedNamesModel", "oftenAll", "J", false)
  | 34 => ("LeashedNamesModel", "oftenSigned", "J", false)
  | 35 => ("LeashedNamesModel", "oftenMany", "J", false)
  | 36 => ("LeashedNamesModel", "many", "[I", true)
  | 37 => ("LeashedNamesModel", "width", "[I", true)
  | 38 => ("LeashedNamesModel", "numbers", "[J", true)
  | _ => ("LeashedNamesModel", "moving", "[J", true)
def tyX8 : Nat → FieldType := fun k => match k with
  | 0 => .int
  | 1 => .array .int
  | 2 => .array .int
  | 3 => .array .boolean
  | 4 => .array .byte
  | 5 => .int
  | 6 => .array .int
  | 7 => .int
  | 8 => .int
  | 9 => .int
  | 10 => .int
  | 11 => .int
  | 12 => .int
  | 13 => .int
  | 14 => .array .int
  | 15 => .int
  | 16 => .int
  | 17 => .int
  | 18 => .int
  | 19 => .array .int
  | 20 => .array .int
  | 21 => .array .int
  | 22 => .array .int
  | 23 => .array .int
  | 24 => .array .int
  | 25 => .array .int
  | 26 => .array .int
  | 27 => .array .int
  | 28 => .array .int
  | 29 => .array .int
  | 30 => .array .int
  | 31 => .array .int
  | 32 => .int
  | 33 => .long
  | 34 => .long
  | 35 => .long
  | 36 => .array .int
  | 37 => .array .int
  | 38 => .array .long
  | _ => .array .long
abbrev wsX80 : List Cond := u_ws RX8 TX8 40
theorem nmX8 : ∀ a, a < 40 → ∀ b, b < 40 → a ≠ b → (TX8 a).2.1 ≠ (TX8 b).2.1 := by decide +kernel
theorem tyX8_ok : ∀ k, k < 40 → parseFieldDescriptor (TX8 k).2.2.1 = some (tyX8 k) := by decide +kernel
abbrev cX8_init : ByteArray := prog_10_method_1_code
def yX8_init : MethodName := ⟨RX8, "<init>", "()V"⟩
abbrev cX8_in : ByteArray := prog_10_method_3_code
def yX8_in : MethodName := ⟨RX8, "in", "(JJJ)Z"⟩
abbrev cX8_bits : ByteArray := prog_10_method_4_code
def yX8_bits : MethodName := ⟨RX8, "bits", "(I)I"⟩
abbrev cX8_bit : ByteArray := prog_10_method_5_code
def yX8_bit : MethodName := ⟨RX8, "bit", "(II)I"⟩
abbrev cX8_image : ByteArray := prog_10_method_6_code
def yX8_image : MethodName := ⟨RX8, "image", "(I)I"⟩
abbrev cX8_back : ByteArray := prog_10_method_7_code
def yX8_back : MethodName := ⟨RX8, "back", "(I)I"⟩
abbrev cX8_isState : ByteArray := prog_10_method_8_code
def yX8_isState : MethodName := ⟨RX8, "isState", "()Z"⟩
abbrev cX8_last : ByteArray := prog_10_method_9_code
def yX8_last : MethodName := ⟨RX8, "last", "()I"⟩
abbrev cX8_isStep : ByteArray := prog_10_method_10_code
def yX8_isStep : MethodName := ⟨RX8, "isStep", "(J)Z"⟩
abbrev cX8_isAhead : ByteArray := prog_10_method_11_code
def yX8_isAhead : MethodName := ⟨RX8, "isAhead", "(I)Z"⟩
abbrev cX8_isCorner : ByteArray := prog_10_method_12_code
def yX8_isCorner : MethodName := ⟨RX8, "isCorner", "(J)Z"⟩
abbrev cX8_isName : ByteArray := prog_10_method_13_code
def yX8_isName : MethodName := ⟨RX8, "isName", "(I)Z"⟩
abbrev cX8_isContract : ByteArray := prog_10_method_14_code
def yX8_isContract : MethodName := ⟨RX8, "isContract", "(I)Z"⟩
abbrev cX8_isStreet : ByteArray := prog_10_method_15_code
def yX8_isStreet : MethodName := ⟨RX8, "isStreet", "(I)Z"⟩
abbrev cX8_names : ByteArray := prog_10_method_16_code
def yX8_names : MethodName := ⟨RX8, "names", "()I"⟩
abbrev cX8_of : ByteArray := prog_10_method_17_code
def yX8_of : MethodName := ⟨RX8, "of", "(II)I"⟩
abbrev cX8_namesOf : ByteArray := prog_10_method_18_code
def yX8_namesOf : MethodName := ⟨RX8, "namesOf", "(I)I"⟩
abbrev cX8_feed : ByteArray := prog_10_method_19_code
def yX8_feed : MethodName := ⟨RX8, "feed", "(IIIII)I"⟩
abbrev cX8_end : ByteArray := prog_10_method_20_code
def yX8_end : MethodName := ⟨RX8, "end", "(I)I"⟩
abbrev cX8_see : ByteArray := prog_10_method_21_code
def yX8_see : MethodName := ⟨RX8, "see", "(I)I"⟩
abbrev cX8_advance : ByteArray := prog_10_method_22_code
def yX8_advance : MethodName := ⟨RX8, "advance", "()V"⟩
abbrev cX8_good : ByteArray := prog_10_method_23_code
def yX8_good : MethodName := ⟨RX8, "good", "()Z"⟩
abbrev cX8_errs : ByteArray := prog_10_method_24_code
def yX8_errs : MethodName := ⟨RX8, "errs", "(I)V"⟩
abbrev cX8_is : ByteArray := prog_10_method_25_code
def yX8_is : MethodName := ⟨RX8, "is", "(Ljava/lang/String;)Z"⟩
abbrev cX8_takes : ByteArray := prog_10_method_26_code
def yX8_takes : MethodName := ⟨RX8, "takes", "(Ljava/lang/String;)Z"⟩
abbrev cX8_needs : ByteArray := prog_10_method_27_code
def yX8_needs : MethodName := ⟨RX8, "needs", "(Ljava/lang/String;)V"⟩
abbrev cX8_number : ByteArray := prog_10_method_28_code
def yX8_number : MethodName := ⟨RX8, "number", "(II)I"⟩
abbrev cX8_told : ByteArray := prog_10_method_29_code
def yX8_told : MethodName := ⟨RX8, "told", "(Ljava/lang/String;II)I"⟩
abbrev cX8_fault : ByteArray := prog_10_method_30_code
def yX8_fault : MethodName := ⟨RX8, "fault", "(I)I"⟩
abbrev cX8_freshCorner : ByteArray := prog_10_method_31_code
def yX8_freshCorner : MethodName := ⟨RX8, "freshCorner", "()I"⟩
abbrev cX8_readFirst : ByteArray := prog_10_method_32_code
def yX8_readFirst : MethodName := ⟨RX8, "readFirst", "()V"⟩
abbrev cX8_readStreet : ByteArray := prog_10_method_33_code
def yX8_readStreet : MethodName := ⟨RX8, "readStreet", "()V"⟩
abbrev cX8_readName : ByteArray := prog_10_method_34_code
def yX8_readName : MethodName := ⟨RX8, "readName", "()V"⟩
abbrev cX8_freshName : ByteArray := prog_10_method_35_code
def yX8_freshName : MethodName := ⟨RX8, "freshName", "(I)I"⟩
abbrev cX8_readContract : ByteArray := prog_10_method_36_code
def yX8_readContract : MethodName := ⟨RX8, "readContract", "()V"⟩
abbrev cX8_isFull : ByteArray := prog_10_method_37_code
def yX8_isFull : MethodName := ⟨RX8, "isFull", "()Z"⟩
abbrev cX8_readNext : ByteArray := prog_10_method_38_code
def yX8_readNext : MethodName := ⟨RX8, "readNext", "()V"⟩
abbrev cX8_readLine : ByteArray := prog_10_method_39_code
def yX8_readLine : MethodName := ⟨RX8, "readLine", "()V"⟩
abbrev cX8_state : ByteArray := prog_10_method_40_code
def yX8_state : MethodName := ⟨RX8, "state", "()I"⟩
abbrev cX8_asItIs : ByteArray := prog_10_method_41_code
def yX8_asItIs : MethodName := ⟨RX8, "asItIs", "()V"⟩
abbrev cX8_isJoined : ByteArray := prog_10_method_42_code
def yX8_isJoined : MethodName := ⟨RX8, "isJoined", "(II)Z"⟩
abbrev cX8_street : ByteArray := prog_10_method_43_code
def yX8_street : MethodName := ⟨RX8, "street", "(II)I"⟩
abbrev cX8_well : ByteArray := prog_10_method_44_code
def yX8_well : MethodName := ⟨RX8, "well", "(I)I"⟩
abbrev cX8_name : ByteArray := prog_10_method_45_code
def yX8_name : MethodName := ⟨RX8, "name", "(II)I"⟩
abbrev cX8_walk : ByteArray := prog_10_method_46_code
def yX8_walk : MethodName := ⟨RX8, "walk", "(II)I"⟩
abbrev cX8_contract : ByteArray := prog_10_method_47_code
def yX8_contract : MethodName := ⟨RX8, "contract", "(I)I"⟩
abbrev cX8_placeOf : ByteArray := prog_10_method_48_code
def yX8_placeOf : MethodName := ⟨RX8, "placeOf", "(II)I"⟩
abbrev cX8_inkIn : ByteArray := prog_10_method_49_code
def yX8_inkIn : MethodName := ⟨RX8, "inkIn", "(II)I"⟩
abbrev cX8_wouldGo : ByteArray := prog_10_method_50_code
def yX8_wouldGo : MethodName := ⟨RX8, "wouldGo", "(II)I"⟩
abbrev cX8_goOn : ByteArray := prog_10_method_51_code
def yX8_goOn : MethodName := ⟨RX8, "goOn", "(I)V"⟩
abbrev cX8_cornerOf : ByteArray := prog_10_method_52_code
def yX8_cornerOf : MethodName := ⟨RX8, "cornerOf", "(II)I"⟩
abbrev cX8_maySign : ByteArray := prog_10_method_53_code
def yX8_maySign : MethodName := ⟨RX8, "maySign", "(III)Z"⟩
abbrev cX8_goSigns : ByteArray := prog_10_method_54_code
def yX8_goSigns : MethodName := ⟨RX8, "goSigns", "(I)V"⟩
abbrev cX8_goAll : ByteArray := prog_10_method_55_code
def yX8_goAll : MethodName := ⟨RX8, "goAll", "()V"⟩
abbrev cX8_asksState : ByteArray := prog_10_method_56_code
def yX8_asksState : MethodName := ⟨RX8, "asksState", "()Z"⟩
abbrev cX8_asksStep : ByteArray := prog_10_method_57_code
def yX8_asksStep : MethodName := ⟨RX8, "asksStep", "(I)Z"⟩
abbrev cX8_asksName : ByteArray := prog_10_method_58_code
def yX8_asksName : MethodName := ⟨RX8, "asksName", "(I)Z"⟩
abbrev cX8_asksContract : ByteArray := prog_10_method_59_code
def yX8_asksContract : MethodName := ⟨RX8, "asksContract", "(I)Z"⟩
abbrev cX8_at : ByteArray := prog_10_method_60_code
def yX8_at : MethodName := ⟨RX8, "at", "(II)I"⟩
abbrev cX8_ink : ByteArray := prog_10_method_61_code
def yX8_ink : MethodName := ⟨RX8, "ink", "(II)I"⟩
abbrev cX8_awake : ByteArray := prog_10_method_62_code
def yX8_awake : MethodName := ⟨RX8, "awake", "(I)I"⟩
abbrev cX8_hereOf : ByteArray := prog_10_method_63_code
def yX8_hereOf : MethodName := ⟨RX8, "hereOf", "(II)I"⟩
abbrev cX8_here : ByteArray := prog_10_method_64_code
def yX8_here : MethodName := ⟨RX8, "here", "(II)I"⟩
abbrev cX8_sleepsOf : ByteArray := prog_10_method_65_code
def yX8_sleepsOf : MethodName := ⟨RX8, "sleepsOf", "(I)I"⟩
abbrev cX8_sleeps : ByteArray := prog_10_method_66_code
def yX8_sleeps : MethodName := ⟨RX8, "sleeps", "(I)I"⟩
abbrev cX8_goes : ByteArray := prog_10_method_67_code
def yX8_goes : MethodName := ⟨RX8, "goes", "(I)I"⟩
abbrev cX8_stuck : ByteArray := prog_10_method_68_code
def yX8_stuck : MethodName := ⟨RX8, "stuck", "(I)I"⟩
abbrev cX8_sees : ByteArray := prog_10_method_69_code
def yX8_sees : MethodName := ⟨RX8, "sees", "(I)I"⟩
abbrev cX8_drinks : ByteArray := prog_10_method_70_code
def yX8_drinks : MethodName := ⟨RX8, "drinks", "(I)I"⟩
abbrev cX8_signed : ByteArray := prog_10_method_71_code
def yX8_signed : MethodName := ⟨RX8, "signed", "(I)I"⟩
abbrev cX8_where : ByteArray := prog_10_method_72_code
def yX8_where : MethodName := ⟨RX8, "where", "(I)I"⟩
abbrev cX8_signsTo : ByteArray := prog_10_method_73_code
def yX8_signsTo : MethodName := ⟨RX8, "signsTo", "(I)I"⟩
abbrev cX8_manySigned : ByteArray := prog_10_method_74_code
def yX8_manySigned : MethodName := ⟨RX8, "manySigned", "()I"⟩
abbrev cX8_signs : ByteArray := prog_10_method_75_code
def yX8_signs : MethodName := ⟨RX8, "signs", "(I)I"⟩
abbrev cX8_deedsOf : ByteArray := prog_10_method_76_code
def yX8_deedsOf : MethodName := ⟨RX8, "deedsOf", "(I)I"⟩
abbrev cX8_deeds : ByteArray := prog_10_method_77_code
def yX8_deeds : MethodName := ⟨RX8, "deeds", "(I)I"⟩
abbrev cX8_meets : ByteArray := prog_10_method_78_code
def yX8_meets : MethodName := ⟨RX8, "meets", "(II)I"⟩
abbrev cX8_often : ByteArray := prog_10_method_79_code
def yX8_often : MethodName := ⟨RX8, "often", "(II)I"⟩
abbrev cX8_pack : ByteArray := prog_10_method_80_code
def yX8_pack : MethodName := ⟨RX8, "pack", "()I"⟩
abbrev cX8_busy : ByteArray := prog_10_method_81_code
def yX8_busy : MethodName := ⟨RX8, "busy", "()I"⟩
abbrev cX8_lone : ByteArray := prog_10_method_82_code
def yX8_lone : MethodName := ⟨RX8, "lone", "(I)I"⟩
abbrev cX8_total : ByteArray := prog_10_method_83_code
def yX8_total : MethodName := ⟨RX8, "total", "(I)I"⟩
abbrev cX8_first : ByteArray := prog_10_method_84_code
def yX8_first : MethodName := ⟨RX8, "first", "()I"⟩
abbrev cX8_lies : ByteArray := prog_10_method_85_code
def yX8_lies : MethodName := ⟨RX8, "lies", "(I)I"⟩
abbrev cX8_thirst : ByteArray := prog_10_method_86_code
def yX8_thirst : MethodName := ⟨RX8, "thirst", "()I"⟩
abbrev cX8_wayOf : ByteArray := prog_10_method_87_code
def yX8_wayOf : MethodName := ⟨RX8, "wayOf", "(II)I"⟩
abbrev cX8_layWays : ByteArray := prog_10_method_88_code
def yX8_layWays : MethodName := ⟨RX8, "layWays", "()V"⟩
abbrev cX8_orNone : ByteArray := prog_10_method_89_code
def yX8_orNone : MethodName := ⟨RX8, "orNone", "(I)I"⟩
abbrev cX8_way : ByteArray := prog_10_method_90_code
def yX8_way : MethodName := ⟨RX8, "way", "(II)I"⟩
abbrev cX8_reach : ByteArray := prog_10_method_91_code
def yX8_reach : MethodName := ⟨RX8, "reach", "(I)I"⟩
abbrev cX8_hallOf : ByteArray := prog_10_method_92_code
def yX8_hallOf : MethodName := ⟨RX8, "hallOf", "(I)I"⟩
abbrev cX8_farthest : ByteArray := prog_10_method_93_code
def yX8_farthest : MethodName := ⟨RX8, "farthest", "(II)I"⟩
abbrev cX8_soonOf : ByteArray := prog_10_method_94_code
def yX8_soonOf : MethodName := ⟨RX8, "soonOf", "(I)I"⟩
abbrev cX8_soon : ByteArray := prog_10_method_95_code
def yX8_soon : MethodName := ⟨RX8, "soon", "(II)I"⟩
abbrev cX8_gather : ByteArray := prog_10_method_96_code
def yX8_gather : MethodName := ⟨RX8, "gather", "(I)I"⟩
abbrev cX8_hall : ByteArray := prog_10_method_97_code
def yX8_hall : MethodName := ⟨RX8, "hall", "(I)I"⟩
abbrev cX8_cutOf : ByteArray := prog_10_method_98_code
def yX8_cutOf : MethodName := ⟨RX8, "cutOf", "(II)I"⟩
abbrev cX8_areTwo : ByteArray := prog_10_method_99_code
def yX8_areTwo : MethodName := ⟨RX8, "areTwo", "(II)Z"⟩
abbrev cX8_cut : ByteArray := prog_10_method_100_code
def yX8_cut : MethodName := ⟨RX8, "cut", "(II)I"⟩
abbrev cX8_cuts : ByteArray := prog_10_method_101_code
def yX8_cuts : MethodName := ⟨RX8, "cuts", "(II)I"⟩
abbrev cX8_signsNow : ByteArray := prog_10_method_102_code
def yX8_signsNow : MethodName := ⟨RX8, "signsNow", "()I"⟩
abbrev cX8_signsBy : ByteArray := prog_10_method_103_code
def yX8_signsBy : MethodName := ⟨RX8, "signsBy", "(I)I"⟩
abbrev cX8_by : ByteArray := prog_10_method_104_code
def yX8_by : MethodName := ⟨RX8, "by", "(I)I"⟩
abbrev cX8_law : ByteArray := prog_10_method_105_code
def yX8_law : MethodName := ⟨RX8, "law", "()I"⟩
abbrev cX8_needs_ : ByteArray := prog_10_method_106_code
def yX8_needs_ : MethodName := ⟨RX8, "needs", "(I)I"⟩
abbrev cX8_lives : ByteArray := prog_10_method_107_code
def yX8_lives : MethodName := ⟨RX8, "lives", "(I)I"⟩
abbrev cX8_dig : ByteArray := prog_10_method_108_code
def yX8_dig : MethodName := ⟨RX8, "dig", "()I"⟩
abbrev cX8_shut : ByteArray := prog_10_method_109_code
def yX8_shut : MethodName := ⟨RX8, "shut", "()I"⟩
abbrev cX8_numberAt : ByteArray := prog_10_method_110_code
def yX8_numberAt : MethodName := ⟨RX8, "numberAt", "(II)J"⟩
abbrev cX8_layHomes : ByteArray := prog_10_method_111_code
def yX8_layHomes : MethodName := ⟨RX8, "layHomes", "(II)I"⟩
abbrev cX8_homes : ByteArray := prog_10_method_112_code
def yX8_homes : MethodName := ⟨RX8, "homes", "(II)I"⟩
abbrev cX8_askOf : ByteArray := prog_10_method_113_code
def yX8_askOf : MethodName := ⟨RX8, "askOf", "(I)I"⟩
abbrev cX8_ask : ByteArray := prog_10_method_114_code
def yX8_ask : MethodName := ⟨RX8, "ask", "(II)I"⟩
abbrev cX8_leaves : ByteArray := prog_10_method_115_code
def yX8_leaves : MethodName := ⟨RX8, "leaves", "(II)I"⟩
abbrev cX8_sniffs : ByteArray := prog_10_method_116_code
def yX8_sniffs : MethodName := ⟨RX8, "sniffs", "(I)I"⟩
abbrev cX8_next : ByteArray := prog_10_method_117_code
def yX8_next : MethodName := ⟨RX8, "next", "(I)I"⟩
abbrev cX8_isSet : ByteArray := prog_10_method_118_code
def yX8_isSet : MethodName := ⟨RX8, "isSet", "(I)Z"⟩
abbrev cX8_worthOf : ByteArray := prog_10_method_119_code
def yX8_worthOf : MethodName := ⟨RX8, "worthOf", "(I)I"⟩
abbrev cX8_worth : ByteArray := prog_10_method_120_code
def yX8_worth : MethodName := ⟨RX8, "worth", "(I)I"⟩
abbrev cX8_factorial : ByteArray := prog_10_method_121_code
def yX8_factorial : MethodName := ⟨RX8, "factorial", "(I)I"⟩
abbrev cX8_divisor : ByteArray := prog_10_method_122_code
def yX8_divisor : MethodName := ⟨RX8, "divisor", "(JJ)J"⟩
abbrev cX8_part : ByteArray := prog_10_method_123_code
def yX8_part : MethodName := ⟨RX8, "part", "(JJI)J"⟩
abbrev cX8_share : ByteArray := prog_10_method_124_code
def yX8_share : MethodName := ⟨RX8, "share", "(II)I"⟩
abbrev cX8_getsBy : ByteArray := prog_10_method_125_code
def yX8_getsBy : MethodName := ⟨RX8, "getsBy", "(IIIII)I"⟩
abbrev cX8_rests : ByteArray := prog_10_method_126_code
def yX8_rests : MethodName := ⟨RX8, "rests", "(II)I"⟩
abbrev cX8_gets : ByteArray := prog_10_method_127_code
def yX8_gets : MethodName := ⟨RX8, "gets", "(IIII)I"⟩
abbrev cX8_layRain : ByteArray := prog_10_method_128_code
def yX8_layRain : MethodName := ⟨RX8, "layRain", "(II)V"⟩
abbrev cX8_isRain : ByteArray := prog_10_method_129_code
def yX8_isRain : MethodName := ⟨RX8, "isRain", "(II)Z"⟩
abbrev cX8_chance : ByteArray := prog_10_method_130_code
def yX8_chance : MethodName := ⟨RX8, "chance", "(III)J"⟩
abbrev cX8_mean : ByteArray := prog_10_method_131_code
def yX8_mean : MethodName := ⟨RX8, "mean", "(II)J"⟩
abbrev cX8_keepAct : ByteArray := prog_10_method_132_code
def yX8_keepAct : MethodName := ⟨RX8, "keepAct", "(I)I"⟩
abbrev cX8_send : ByteArray := prog_10_method_133_code
def yX8_send : MethodName := ⟨RX8, "send", "(III)I"⟩
abbrev cX8_close : ByteArray := prog_10_method_134_code
def yX8_close : MethodName := ⟨RX8, "close", "(II)I"⟩
abbrev cX8_undo : ByteArray := prog_10_method_135_code
def yX8_undo : MethodName := ⟨RX8, "undo", "()I"⟩
abbrev cX8_anew : ByteArray := prog_10_method_136_code
def yX8_anew : MethodName := ⟨RX8, "anew", "()I"⟩
abbrev cX8_goDrawn : ByteArray := prog_10_method_137_code
def yX8_goDrawn : MethodName := ⟨RX8, "goDrawn", "(J)V"⟩
abbrev cX8_isSeed : ByteArray := prog_10_method_138_code
def yX8_isSeed : MethodName := ⟨RX8, "isSeed", "(I)Z"⟩
abbrev cX8_drawn : ByteArray := prog_10_method_139_code
def yX8_drawn : MethodName := ⟨RX8, "drawn", "(II)I"⟩
abbrev cX8_luck : ByteArray := prog_10_method_140_code
def yX8_luck : MethodName := ⟨RX8, "luck", "(III)I"⟩
abbrev cX8_rate : ByteArray := prog_10_method_141_code
def yX8_rate : MethodName := ⟨RX8, "rate", "(II)I"⟩
abbrev cX8_count : ByteArray := prog_10_method_142_code
def yX8_count : MethodName := ⟨RX8, "count", "(I)I"⟩
abbrev cX8_isSlot : ByteArray := prog_10_method_143_code
def yX8_isSlot : MethodName := ⟨RX8, "isSlot", "(I)Z"⟩
abbrev cX8_cut_ : ByteArray := prog_10_method_144_code
def yX8_cut_ : MethodName := ⟨RX8, "cut", "(JI)J"⟩
abbrev cX8_row : ByteArray := prog_10_method_145_code
def yX8_row : MethodName := ⟨RX8, "row", "(III)I"⟩
abbrev cX8_write : ByteArray := prog_10_method_146_code
def yX8_write : MethodName := ⟨RX8, "write", "(IIJ)I"⟩
abbrev cX8_paste : ByteArray := prog_10_method_147_code
def yX8_paste : MethodName := ⟨RX8, "paste", "(IIIII)I"⟩
def RJx145de : String := "java/io/Serializable"
def TJx145de : u_T := fun k => match k with
  | _ => ("", "", "", false)
def tyJx145de : Nat → FieldType := fun k => match k with
  | _ => .int
abbrev wsJx145de0 : List Cond := u_ws RJx145de TJx145de 0
theorem nmJx145de : ∀ a, a < 0 → ∀ b, b < 0 → a ≠ b → (TJx145de a).2.1 ≠ (TJx145de b).2.1 := by decide +kernel
theorem tyJx145de_ok : ∀ k, k < 0 → parseFieldDescriptor (TJx145de k).2.2.1 = some (tyJx145de k) := by decide +kernel
def RJx9f9b0 : String := "java/lang/CharSequence"
def TJx9f9b0 : u_T := fun k => match k with
  | _ => ("", "", "", false)
def tyJx9f9b0 : Nat → FieldType := fun k => match k with
  | _ => .int
abbrev wsJx9f9b00 : List Cond := u_ws RJx9f9b0 TJx9f9b0 0
theorem nmJx9f9b0 : ∀ a, a < 0 → ∀ b, b < 0 → a ≠ b → (TJx9f9b0 a).2.1 ≠ (TJx9f9b0 b).2.1 := by decide +kernel
theorem tyJx9f9b0_ok : ∀ k, k < 0 → parseFieldDescriptor (TJx9f9b0 k).2.2.1 = some (tyJx9f9b0 k) := by decide +kernel
def RJxb160c : String := "java/lang/Comparable"
def TJxb160c : u_T := fun k => match k with
  | _ => ("", "", "", false)
def tyJxb160c : Nat → FieldType := fun k => match k with
  | _ => .int
abbrev wsJxb160c0 : List Cond := u_ws RJxb160c TJxb160c 0
theorem nmJxb160c : ∀ a, a < 0 → ∀ b, b < 0 → a ≠ b → (TJxb160c a).2.1 ≠ (TJxb160c b).2.1 := by decide +kernel
theorem tyJxb160c_ok : ∀ k, k < 0 → parseFieldDescriptor (TJxb160c k).2.2.1 = some (tyJxb160c k) := by decide +kernel
def RJ6 : String := "java/lang/Integer"
def TJ6 : u_T := fun k => match k with
  | _ => ("", "", "", false)
def tyJ6 : Nat → FieldType := fun k => match k with
  | _ => .int
abbrev wsJ60 : List Cond := u_ws RJ6 TJ6 0
theorem nmJ6 : ∀ a, a < 0 → ∀ b, b < 0 → a ≠ b → (TJ6 a).2.1 ≠ (TJ6 b).2.1 := by decide +kernel
theorem tyJ6_ok : ∀ k, k < 0 → parseFieldDescriptor (TJ6 k).2.2.1 = some (tyJ6 k) := by decide +kernel
abbrev cJ6_bitCount_0f7a4 : ByteArray := prog_11_method_49_code
def yJ6_bitCount_0f7a4 : MethodName := ⟨RJ6, "bitCount", "(I)I"⟩
def RJ9 : String := "java/lang/Math"
def TJ9 : u_T := fun k => match k with
  | _ => ("", "", "", false)
def tyJ9 : Nat → FieldType := fun k => match k with
  | _ => .int
abbrev wsJ90 : List Cond := u_ws RJ9 TJ9 0
theorem nmJ9 : ∀ a, a < 0 → ∀ b, b < 0 → a ≠ b → (TJ9 a).2.1 ≠ (TJ9 b).2.1 := by decide +kernel
theorem tyJ9_ok : ∀ k, k < 0 → parseFieldDescriptor (TJ9 k).2.2.1 = some (tyJ9 k) := by decide +kernel
abbrev cJ9_abs_067f4 : ByteArray := prog_12_method_61_code
def yJ9_abs_067f4 : MethodName := ⟨RJ9, "abs", "(J)J"⟩
abbrev cJ9_max_7cf53 : ByteArray := prog_12_method_65_code
def yJ9_max_7cf53 : MethodName := ⟨RJ9, "max", "(II)I"⟩
abbrev cJ9_min_7cf53 : ByteArray := prog_12_method_69_code
def yJ9_min_7cf53 : MethodName := ⟨RJ9, "min", "(II)I"⟩
def RJ0 : String := "java/lang/String"
def TJ0 : u_T := fun k => match k with
  | _ => ("", "", "", false)
def tyJ0 : Nat → FieldType := fun k => match k with
  | _ => .int
abbrev wsJ00 : List Cond := u_ws RJ0 TJ0 0
theorem nmJ0 : ∀ a, a < 0 → ∀ b, b < 0 → a ≠ b → (TJ0 a).2.1 ≠ (TJ0 b).2.1 := by decide +kernel
theorem tyJ0_ok : ∀ k, k < 0 → parseFieldDescriptor (TJ0 k).2.2.1 = some (tyJ0 k) := by decide +kernel
abbrev cJ0_length_8abf5 : ByteArray := prog_13_method_54_code
def yJ0_length_8abf5 : MethodName := ⟨RJ0, "length", "()I"⟩
abbrev cJ0_charAt_5068e : ByteArray := prog_13_method_56_code
def yJ0_charAt_5068e : MethodName := ⟨RJ0, "charAt", "(I)C"⟩
abbrev cJ0_coder_7d493 : ByteArray := prog_13_method_152_code
def yJ0_coder_7d493 : MethodName := ⟨RJ0, "coder", "()B"⟩
abbrev cJ0_isLatin1_aae02 : ByteArray := prog_13_method_154_code
def yJ0_isLatin1_aae02 : MethodName := ⟨RJ0, "isLatin1", "()Z"⟩
abbrev cJ0_checkIndex_df160 : ByteArray := prog_13_method_155_code
def yJ0_checkIndex_df160 : MethodName := ⟨RJ0, "checkIndex", "(II)V"⟩
def RJ1 : String := "java/lang/StringLatin1"
def TJ1 : u_T := fun k => match k with
  | _ => ("", "", "", false)
def tyJ1 : Nat → FieldType := fun k => match k with
  | _ => .int
abbrev wsJ10 : List Cond := u_ws RJ1 TJ1 0
theorem nmJ1 : ∀ a, a < 0 → ∀ b, b < 0 → a ≠ b → (TJ1 a).2.1 ≠ (TJ1 b).2.1 := by decide +kernel
theorem tyJ1_ok : ∀ k, k < 0 → parseFieldDescriptor (TJ1 k).2.2.1 = some (tyJ1 k) := by decide +kernel
abbrev cJ1_charAt_3b067 : ByteArray := prog_14_method_2_code
def yJ1_charAt_3b067 : MethodName := ⟨RJ1, "charAt", "([BI)C"⟩
def RJ2 : String := "java/lang/StringUTF16"
def TJ2 : u_T := fun k => match k with
  | _ => ("", "", "", false)
def tyJ2 : Nat → FieldType := fun k => match k with
  | _ => .int
abbrev wsJ20 : List Cond := u_ws RJ2 TJ2 0
theorem nmJ2 : ∀ a, a < 0 → ∀ b, b < 0 → a ≠ b → (TJ2 a).2.1 ≠ (TJ2 b).2.1 := by decide +kernel
theorem tyJ2_ok : ∀ k, k < 0 → parseFieldDescriptor (TJ2 k).2.2.1 = some (tyJ2 k) := by decide +kernel
abbrev cJ2_getChar_3b067 : ByteArray := prog_15_method_5_code
def yJ2_getChar_3b067 : MethodName := ⟨RJ2, "getChar", "([BI)C"⟩
abbrev cJ2_length_9d52b : ByteArray := prog_15_method_6_code
def yJ2_length_9d52b : MethodName := ⟨RJ2, "length", "([B)I"⟩
abbrev cJ2_charAt_3b067 : ByteArray := prog_15_method_83_code
def yJ2_charAt_3b067 : MethodName := ⟨RJ2, "charAt", "([BI)C"⟩
abbrev cJ2_checkIndex_2214a : ByteArray := prog_15_method_91_code
def yJ2_checkIndex_2214a : MethodName := ⟨RJ2, "checkIndex", "(I[B)V"⟩
def RJ10 : String := "java/lang/System"
def TJ10 : u_T := fun k => match k with
  | _ => ("", "", "", false)
def tyJ10 : Nat → FieldType := fun k => match k with
  | _ => .int
abbrev wsJ100 : List Cond := u_ws RJ10 TJ10 0
theorem nmJ10 : ∀ a, a < 0 → ∀ b, b < 0 → a ≠ b → (TJ10 a).2.1 ≠ (TJ10 b).2.1 := by decide +kernel
theorem tyJ10_ok : ∀ k, k < 0 → parseFieldDescriptor (TJ10 k).2.2.1 = some (tyJ10 k) := by decide +kernel
def RJxfd54e : String := "java/lang/constant/Constable"
def TJxfd54e : u_T := fun k => match k with
  | _ => ("", "", "", false)
def tyJxfd54e : Nat → FieldType := fun k => match k with
  | _ => .int
abbrev wsJxfd54e0 : List Cond := u_ws RJxfd54e TJxfd54e 0
theorem nmJxfd54e : ∀ a, a < 0 → ∀ b, b < 0 → a ≠ b → (TJxfd54e a).2.1 ≠ (TJxfd54e b).2.1 := by decide +kernel
theorem tyJxfd54e_ok : ∀ k, k < 0 → parseFieldDescriptor (TJxfd54e k).2.2.1 = some (tyJxfd54e k) := by decide +kernel
def RJx3cf43 : String := "java/lang/constant/ConstantDesc"
def TJx3cf43 : u_T := fun k => match k with
  | _ => ("", "", "", false)
def tyJx3cf43 : Nat → FieldType := fun k => match k with
  | _ => .int
abbrev wsJx3cf430 : List Cond := u_ws RJx3cf43 TJx3cf43 0
theorem nmJx3cf43 : ∀ a, a < 0 → ∀ b, b < 0 → a ≠ b → (TJx3cf43 a).2.1 ≠ (TJx3cf43 b).2.1 := by decide +kernel
theorem tyJx3cf43_ok : ∀ k, k < 0 → parseFieldDescriptor (TJx3cf43 k).2.2.1 = some (tyJx3cf43 k) := by decide +kernel
def RJ7 : String := "java/util/Arrays"
def TJ7 : u_T := fun k => match k with
  | _ => ("", "", "", false)
def tyJ7 : Nat → FieldType := fun k => match k with
  | _ => .int
abbrev wsJ70 : List Cond := u_ws RJ7 TJ7 0
theorem nmJ7 : ∀ a, a < 0 → ∀ b, b < 0 → a ≠ b → (TJ7 a).2.1 ≠ (TJ7 b).2.1 := by decide +kernel
theorem tyJ7_ok : ∀ k, k < 0 → parseFieldDescriptor (TJ7 k).2.2.1 = some (tyJ7 k) := by decide +kernel
abbrev cJ7_fill_d0a16 : ByteArray := prog_17_method_101_code
def yJ7_fill_d0a16 : MethodName := ⟨RJ7, "fill", "([JJ)V"⟩
abbrev cJ7_fill_53178 : ByteArray := prog_17_method_103_code
def yJ7_fill_53178 : MethodName := ⟨RJ7, "fill", "([II)V"⟩
def RJ3 : String := "jdk/internal/util/Preconditions"
def TJ3 : u_T := fun k => match k with
  | _ => ("", "", "", false)
def tyJ3 : Nat → FieldType := fun k => match k with
  | _ => .int
abbrev wsJ30 : List Cond := u_ws RJ3 TJ3 0
theorem nmJ3 : ∀ a, a < 0 → ∀ b, b < 0 → a ≠ b → (TJ3 a).2.1 ≠ (TJ3 b).2.1 := by decide +kernel
theorem tyJ3_ok : ∀ k, k < 0 → parseFieldDescriptor (TJ3 k).2.2.1 = some (tyJ3 k) := by decide +kernel
abbrev cJ3_checkIndex_8e157 : ByteArray := prog_18_method_11_code
def yJ3_checkIndex_8e157 : MethodName := ⟨RJ3, "checkIndex", "(IILjava/util/function/BiFunction;)I"⟩
def RL : String := "LeashedNamesLaw"
abbrev cL_law : ByteArray := code
def yL_law : MethodName := ⟨RL, "law", "([I)Z"⟩
def wsJ7_fill_53178 : List Cond := .code yJ7_fill_53178 cJ7_fill_53178 4 none :: ([])

abbrev vwCl : List vw_C := [(RX0, TX0, 7), (RX1, TX1, 12), (RX2, TX2, 3), (RX3, TX3, 1), (RX4, TX4, 8), (RX5, TX5, 3), (RX6, TX6, 18), (RX7, TX7, 9), (RX8, TX8, 40)]
