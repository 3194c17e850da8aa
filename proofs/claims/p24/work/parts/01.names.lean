-- ===== PART A: goes FIRST, ahead of the names: the tables' words, and 'selects' of the private methods out of them =====
/-- a private method of a class that the tables say can be made, by its rows of tables_1 -/
def lw_okq (q : MethodName × Nat) : Prop := (q.1.cls ≠ "java/lang/invoke/MethodHandle" ∧ q.1.cls ≠ "java/lang/invoke/VarHandle") ∧ Cond.instantiable q.1.cls q.2 ∈ tables_1 ∧ Cond.privateMethod q.1 ∈ tables_1 ∧ Cond.instanceMethod q.1 ∈ tables_1
theorem lw_p0 : lw_okq (⟨"LoopBoard$Grid", "measure", "()V"⟩, 5) := ⟨⟨by decide +kernel, by decide +kernel⟩, List.mem_of_getElem? (i := 62) (by decide +kernel), List.mem_of_getElem? (i := 72) (by decide +kernel), List.mem_of_getElem? (i := 73) (by decide +kernel)⟩
theorem lw_p1 : lw_okq (⟨"LoopBoard$Grid", "singleStep", "(II)I"⟩, 5) := ⟨⟨by decide +kernel, by decide +kernel⟩, List.mem_of_getElem? (i := 62) (by decide +kernel), List.mem_of_getElem? (i := 76) (by decide +kernel), List.mem_of_getElem? (i := 77) (by decide +kernel)⟩
theorem lw_p2 : lw_okq (⟨"LoopBoard$Grid", "isOpen", "(I)Z"⟩, 5) := ⟨⟨by decide +kernel, by decide +kernel⟩, List.mem_of_getElem? (i := 62) (by decide +kernel), List.mem_of_getElem? (i := 80) (by decide +kernel), List.mem_of_getElem? (i := 81) (by decide +kernel)⟩
theorem lw_p3 : lw_okq (⟨"LoopBoard$Grid", "areNeighbours", "(II)Z"⟩, 5) := ⟨⟨by decide +kernel, by decide +kernel⟩, List.mem_of_getElem? (i := 62) (by decide +kernel), List.mem_of_getElem? (i := 88) (by decide +kernel), List.mem_of_getElem? (i := 89) (by decide +kernel)⟩
theorem lw_p4 : lw_okq (⟨"LoopBoard$Grid", "shortenThrough", "(I)V"⟩, 5) := ⟨⟨by decide +kernel, by decide +kernel⟩, List.mem_of_getElem? (i := 62) (by decide +kernel), List.mem_of_getElem? (i := 99) (by decide +kernel), List.mem_of_getElem? (i := 100) (by decide +kernel)⟩
theorem lw_p5 : lw_okq (⟨"LoopBoard$Loop", "setOperand", "(III)V"⟩, 11) := ⟨⟨by decide +kernel, by decide +kernel⟩, List.mem_of_getElem? (i := 20) (by decide +kernel), List.mem_of_getElem? (i := 227) (by decide +kernel), List.mem_of_getElem? (i := 228) (by decide +kernel)⟩
theorem lw_p6 : lw_okq (⟨"LoopBoard$Loop", "arrange", "()V"⟩, 11) := ⟨⟨by decide +kernel, by decide +kernel⟩, List.mem_of_getElem? (i := 20) (by decide +kernel), List.mem_of_getElem? (i := 231) (by decide +kernel), List.mem_of_getElem? (i := 232) (by decide +kernel)⟩
theorem lw_p7 : lw_okq (⟨"LoopBoard$Loop", "canFollow", "(I)Z"⟩, 11) := ⟨⟨by decide +kernel, by decide +kernel⟩, List.mem_of_getElem? (i := 20) (by decide +kernel), List.mem_of_getElem? (i := 235) (by decide +kernel), List.mem_of_getElem? (i := 236) (by decide +kernel)⟩
theorem lw_p8 : lw_okq (⟨"LoopBoard$Loop", "isSlot", "(I)Z"⟩, 11) := ⟨⟨by decide +kernel, by decide +kernel⟩, List.mem_of_getElem? (i := 20) (by decide +kernel), List.mem_of_getElem? (i := 243) (by decide +kernel), List.mem_of_getElem? (i := 244) (by decide +kernel)⟩
theorem lw_p9 : lw_okq (⟨"LoopBoard", "actsChanged", "()V"⟩, 9) := ⟨⟨by decide +kernel, by decide +kernel⟩, List.mem_of_getElem? (i := 12) (by decide +kernel), List.mem_of_getElem? (i := 255) (by decide +kernel), List.mem_of_getElem? (i := 256) (by decide +kernel)⟩
theorem lw_p10 : lw_okq (⟨"LoopBoard$Values", "valueOf", "(II)I"⟩, 2) := ⟨⟨by decide +kernel, by decide +kernel⟩, List.mem_of_getElem? (i := 175) (by decide +kernel), List.mem_of_getElem? (i := 329) (by decide +kernel), List.mem_of_getElem? (i := 330) (by decide +kernel)⟩
theorem lw_p11 : lw_okq (⟨"LoopBoard$Values", "operand", "(II)I"⟩, 2) := ⟨⟨by decide +kernel, by decide +kernel⟩, List.mem_of_getElem? (i := 175) (by decide +kernel), List.mem_of_getElem? (i := 345) (by decide +kernel), List.mem_of_getElem? (i := 346) (by decide +kernel)⟩
theorem lw_p12 : lw_okq (⟨"LoopBoard$Layout", "meetsOneAhead", "(I)Z"⟩, 5) := ⟨⟨by decide +kernel, by decide +kernel⟩, List.mem_of_getElem? (i := 119) (by decide +kernel), List.mem_of_getElem? (i := 458) (by decide +kernel), List.mem_of_getElem? (i := 459) (by decide +kernel)⟩
theorem lw_p13 : lw_okq (⟨"LoopBoard$Layout", "isLate", "(I)Z"⟩, 5) := ⟨⟨by decide +kernel, by decide +kernel⟩, List.mem_of_getElem? (i := 119) (by decide +kernel), List.mem_of_getElem? (i := 466) (by decide +kernel), List.mem_of_getElem? (i := 467) (by decide +kernel)⟩
theorem lw_p14 : lw_okq (⟨"LoopBoard$Layout", "usedAt", "(I)I"⟩, 5) := ⟨⟨by decide +kernel, by decide +kernel⟩, List.mem_of_getElem? (i := 119) (by decide +kernel), List.mem_of_getElem? (i := 472) (by decide +kernel), List.mem_of_getElem? (i := 473) (by decide +kernel)⟩
theorem lw_p15 : lw_okq (⟨"LoopBoard$Layout", "madeAt", "(I)I"⟩, 5) := ⟨⟨by decide +kernel, by decide +kernel⟩, List.mem_of_getElem? (i := 119) (by decide +kernel), List.mem_of_getElem? (i := 477) (by decide +kernel), List.mem_of_getElem? (i := 478) (by decide +kernel)⟩
def lw_privs_1 : List (MethodName × Nat) := [(⟨"LoopBoard$Grid", "measure", "()V"⟩, 5), (⟨"LoopBoard$Grid", "singleStep", "(II)I"⟩, 5), (⟨"LoopBoard$Grid", "isOpen", "(I)Z"⟩, 5), (⟨"LoopBoard$Grid", "areNeighbours", "(II)Z"⟩, 5), (⟨"LoopBoard$Grid", "shortenThrough", "(I)V"⟩, 5), (⟨"LoopBoard$Loop", "setOperand", "(III)V"⟩, 11), (⟨"LoopBoard$Loop", "arrange", "()V"⟩, 11), (⟨"LoopBoard$Loop", "canFollow", "(I)Z"⟩, 11), (⟨"LoopBoard$Loop", "isSlot", "(I)Z"⟩, 11), (⟨"LoopBoard", "actsChanged", "()V"⟩, 9), (⟨"LoopBoard$Values", "valueOf", "(II)I"⟩, 2), (⟨"LoopBoard$Values", "operand", "(II)I"⟩, 2), (⟨"LoopBoard$Layout", "meetsOneAhead", "(I)Z"⟩, 5), (⟨"LoopBoard$Layout", "isLate", "(I)Z"⟩, 5), (⟨"LoopBoard$Layout", "usedAt", "(I)I"⟩, 5), (⟨"LoopBoard$Layout", "madeAt", "(I)I"⟩, 5)]
theorem lw_r1 : ∀ q ∈ lw_privs_1, lw_okq q := List.forall_mem_cons.mpr ⟨lw_p0, List.forall_mem_cons.mpr ⟨lw_p1, List.forall_mem_cons.mpr ⟨lw_p2, List.forall_mem_cons.mpr ⟨lw_p3, List.forall_mem_cons.mpr ⟨lw_p4, List.forall_mem_cons.mpr ⟨lw_p5, List.forall_mem_cons.mpr ⟨lw_p6, List.forall_mem_cons.mpr ⟨lw_p7, List.forall_mem_cons.mpr ⟨lw_p8, List.forall_mem_cons.mpr ⟨lw_p9, List.forall_mem_cons.mpr ⟨lw_p10, List.forall_mem_cons.mpr ⟨lw_p11, List.forall_mem_cons.mpr ⟨lw_p12, List.forall_mem_cons.mpr ⟨lw_p13, List.forall_mem_cons.mpr ⟨lw_p14, List.forall_mem_cons.mpr ⟨lw_p15, fun _ h => absurd h List.not_mem_nil⟩⟩⟩⟩⟩⟩⟩⟩⟩⟩⟩⟩⟩⟩⟩⟩
theorem lw_p16 : lw_okq (⟨"LoopBoard", "stepBeat", "(II)V"⟩, 9) := ⟨⟨by decide +kernel, by decide +kernel⟩, List.mem_of_getElem? (i := 12) (by decide +kernel), List.mem_of_getElem? (i := 512) (by decide +kernel), List.mem_of_getElem? (i := 513) (by decide +kernel)⟩
theorem lw_p17 : lw_okq (⟨"LoopBoard", "placesBound", "()I"⟩, 9) := ⟨⟨by decide +kernel, by decide +kernel⟩, List.mem_of_getElem? (i := 12) (by decide +kernel), List.mem_of_getElem? (i := 539) (by decide +kernel), List.mem_of_getElem? (i := 540) (by decide +kernel)⟩
theorem lw_p18 : lw_okq (⟨"LoopBoard$Loop", "ringsAllow", "(I)Z"⟩, 11) := ⟨⟨by decide +kernel, by decide +kernel⟩, List.mem_of_getElem? (i := 20) (by decide +kernel), List.mem_of_getElem? (i := 567) (by decide +kernel), List.mem_of_getElem? (i := 568) (by decide +kernel)⟩
theorem lw_p19 : lw_okq (⟨"LoopBoard$Loop", "delaysGrow", "(I)Z"⟩, 11) := ⟨⟨by decide +kernel, by decide +kernel⟩, List.mem_of_getElem? (i := 20) (by decide +kernel), List.mem_of_getElem? (i := 572) (by decide +kernel), List.mem_of_getElem? (i := 573) (by decide +kernel)⟩
theorem lw_p20 : lw_okq (⟨"LoopBoard$Search", "goesNext", "(I)Z"⟩, 9) := ⟨⟨by decide +kernel, by decide +kernel⟩, List.mem_of_getElem? (i := 141) (by decide +kernel), List.mem_of_getElem? (i := 588) (by decide +kernel), List.mem_of_getElem? (i := 589) (by decide +kernel)⟩
theorem lw_p21 : lw_okq (⟨"LoopBoard$Search", "isFree", "(I)Z"⟩, 9) := ⟨⟨by decide +kernel, by decide +kernel⟩, List.mem_of_getElem? (i := 141) (by decide +kernel), List.mem_of_getElem? (i := 592) (by decide +kernel), List.mem_of_getElem? (i := 593) (by decide +kernel)⟩
theorem lw_p22 : lw_okq (⟨"LoopBoard$Search", "measureGaps", "(I)Z"⟩, 9) := ⟨⟨by decide +kernel, by decide +kernel⟩, List.mem_of_getElem? (i := 141) (by decide +kernel), List.mem_of_getElem? (i := 599) (by decide +kernel), List.mem_of_getElem? (i := 600) (by decide +kernel)⟩
theorem lw_p23 : lw_okq (⟨"LoopBoard$Search", "turnsSettle", "(I)Z"⟩, 9) := ⟨⟨by decide +kernel, by decide +kernel⟩, List.mem_of_getElem? (i := 141) (by decide +kernel), List.mem_of_getElem? (i := 608) (by decide +kernel), List.mem_of_getElem? (i := 609) (by decide +kernel)⟩
theorem lw_p24 : lw_okq (⟨"LoopBoard$Search", "beginRow", "(I)V"⟩, 9) := ⟨⟨by decide +kernel, by decide +kernel⟩, List.mem_of_getElem? (i := 141) (by decide +kernel), List.mem_of_getElem? (i := 612) (by decide +kernel), List.mem_of_getElem? (i := 613) (by decide +kernel)⟩
theorem lw_p25 : lw_okq (⟨"LoopBoard", "takeFound", "(I)V"⟩, 9) := ⟨⟨by decide +kernel, by decide +kernel⟩, List.mem_of_getElem? (i := 12) (by decide +kernel), List.mem_of_getElem? (i := 624) (by decide +kernel), List.mem_of_getElem? (i := 625) (by decide +kernel)⟩
theorem lw_p26 : lw_okq (⟨"LoopBoardModel", "whole", "()V"⟩, 24) := ⟨⟨by decide +kernel, by decide +kernel⟩, List.mem_of_getElem? (i := 657) (by decide +kernel), List.mem_of_getElem? (i := 663) (by decide +kernel), List.mem_of_getElem? (i := 664) (by decide +kernel)⟩
theorem lw_p27 : lw_okq (⟨"LoopBoardModel", "enter", "(I)I"⟩, 24) := ⟨⟨by decide +kernel, by decide +kernel⟩, List.mem_of_getElem? (i := 657) (by decide +kernel), List.mem_of_getElem? (i := 749) (by decide +kernel), List.mem_of_getElem? (i := 750) (by decide +kernel)⟩
theorem lw_p28 : lw_okq (⟨"LoopBoardModel", "isSound", "()Z"⟩, 24) := ⟨⟨by decide +kernel, by decide +kernel⟩, List.mem_of_getElem? (i := 657) (by decide +kernel), List.mem_of_getElem? (i := 772) (by decide +kernel), List.mem_of_getElem? (i := 773) (by decide +kernel)⟩
theorem lw_p29 : lw_okq (⟨"LoopBoardModel", "isAct", "(I)Z"⟩, 24) := ⟨⟨by decide +kernel, by decide +kernel⟩, List.mem_of_getElem? (i := 657) (by decide +kernel), List.mem_of_getElem? (i := 776) (by decide +kernel), List.mem_of_getElem? (i := 777) (by decide +kernel)⟩
theorem lw_p30 : lw_okq (⟨"LoopBoardModel", "isReady", "(I)Z"⟩, 24) := ⟨⟨by decide +kernel, by decide +kernel⟩, List.mem_of_getElem? (i := 657) (by decide +kernel), List.mem_of_getElem? (i := 780) (by decide +kernel), List.mem_of_getElem? (i := 781) (by decide +kernel)⟩
theorem lw_p31 : lw_okq (⟨"LoopBoardModel", "workTo", "(I)V"⟩, 24) := ⟨⟨by decide +kernel, by decide +kernel⟩, List.mem_of_getElem? (i := 657) (by decide +kernel), List.mem_of_getElem? (i := 791) (by decide +kernel), List.mem_of_getElem? (i := 792) (by decide +kernel)⟩
def lw_privs_2 : List (MethodName × Nat) := [(⟨"LoopBoard", "stepBeat", "(II)V"⟩, 9), (⟨"LoopBoard", "placesBound", "()I"⟩, 9), (⟨"LoopBoard$Loop", "ringsAllow", "(I)Z"⟩, 11), (⟨"LoopBoard$Loop", "delaysGrow", "(I)Z"⟩, 11), (⟨"LoopBoard$Search", "goesNext", "(I)Z"⟩, 9), (⟨"LoopBoard$Search", "isFree", "(I)Z"⟩, 9), (⟨"LoopBoard$Search", "measureGaps", "(I)Z"⟩, 9), (⟨"LoopBoard$Search", "turnsSettle", "(I)Z"⟩, 9), (⟨"LoopBoard$Search", "beginRow", "(I)V"⟩, 9), (⟨"LoopBoard", "takeFound", "(I)V"⟩, 9), (⟨"LoopBoardModel", "whole", "()V"⟩, 24), (⟨"LoopBoardModel", "enter", "(I)I"⟩, 24), (⟨"LoopBoardModel", "isSound", "()Z"⟩, 24), (⟨"LoopBoardModel", "isAct", "(I)Z"⟩, 24), (⟨"LoopBoardModel", "isReady", "(I)Z"⟩, 24), (⟨"LoopBoardModel", "workTo", "(I)V"⟩, 24)]
theorem lw_r2 : ∀ q ∈ lw_privs_2, lw_okq q := List.forall_mem_cons.mpr ⟨lw_p16, List.forall_mem_cons.mpr ⟨lw_p17, List.forall_mem_cons.mpr ⟨lw_p18, List.forall_mem_cons.mpr ⟨lw_p19, List.forall_mem_cons.mpr ⟨lw_p20, List.forall_mem_cons.mpr ⟨lw_p21, List.forall_mem_cons.mpr ⟨lw_p22, List.forall_mem_cons.mpr ⟨lw_p23, List.forall_mem_cons.mpr ⟨lw_p24, List.forall_mem_cons.mpr ⟨lw_p25, List.forall_mem_cons.mpr ⟨lw_p26, List.forall_mem_cons.mpr ⟨lw_p27, List.forall_mem_cons.mpr ⟨lw_p28, List.forall_mem_cons.mpr ⟨lw_p29, List.forall_mem_cons.mpr ⟨lw_p30, List.forall_mem_cons.mpr ⟨lw_p31, fun _ h => absurd h List.not_mem_nil⟩⟩⟩⟩⟩⟩⟩⟩⟩⟩⟩⟩⟩⟩⟩⟩
theorem lw_p32 : lw_okq (⟨"LoopBoardModel", "made", "(II)I"⟩, 24) := ⟨⟨by decide +kernel, by decide +kernel⟩, List.mem_of_getElem? (i := 657) (by decide +kernel), List.mem_of_getElem? (i := 795) (by decide +kernel), List.mem_of_getElem? (i := 796) (by decide +kernel)⟩
theorem lw_p33 : lw_okq (⟨"LoopBoardModel", "valueOf", "(II)I"⟩, 24) := ⟨⟨by decide +kernel, by decide +kernel⟩, List.mem_of_getElem? (i := 657) (by decide +kernel), List.mem_of_getElem? (i := 799) (by decide +kernel), List.mem_of_getElem? (i := 800) (by decide +kernel)⟩
theorem lw_p34 : lw_okq (⟨"LoopBoardModel", "lengthOf", "(I)I"⟩, 24) := ⟨⟨by decide +kernel, by decide +kernel⟩, List.mem_of_getElem? (i := 657) (by decide +kernel), List.mem_of_getElem? (i := 807) (by decide +kernel), List.mem_of_getElem? (i := 808) (by decide +kernel)⟩
theorem lw_p35 : lw_okq (⟨"LoopBoardModel", "cells", "()I"⟩, 24) := ⟨⟨by decide +kernel, by decide +kernel⟩, List.mem_of_getElem? (i := 657) (by decide +kernel), List.mem_of_getElem? (i := 815) (by decide +kernel), List.mem_of_getElem? (i := 816) (by decide +kernel)⟩
theorem lw_p36 : lw_okq (⟨"LoopBoardModel", "isCell", "(I)Z"⟩, 24) := ⟨⟨by decide +kernel, by decide +kernel⟩, List.mem_of_getElem? (i := 657) (by decide +kernel), List.mem_of_getElem? (i := 823) (by decide +kernel), List.mem_of_getElem? (i := 824) (by decide +kernel)⟩
theorem lw_p37 : lw_okq (⟨"LoopBoardModel", "wayOf", "(II)I"⟩, 24) := ⟨⟨by decide +kernel, by decide +kernel⟩, List.mem_of_getElem? (i := 657) (by decide +kernel), List.mem_of_getElem? (i := 835) (by decide +kernel), List.mem_of_getElem? (i := 836) (by decide +kernel)⟩
theorem lw_p38 : lw_okq (⟨"LoopBoardModel", "areBeside", "(II)Z"⟩, 24) := ⟨⟨by decide +kernel, by decide +kernel⟩, List.mem_of_getElem? (i := 657) (by decide +kernel), List.mem_of_getElem? (i := 839) (by decide +kernel), List.mem_of_getElem? (i := 840) (by decide +kernel)⟩
theorem lw_p39 : lw_okq (⟨"LoopBoardModel", "lacking", "()I"⟩, 24) := ⟨⟨by decide +kernel, by decide +kernel⟩, List.mem_of_getElem? (i := 657) (by decide +kernel), List.mem_of_getElem? (i := 857) (by decide +kernel), List.mem_of_getElem? (i := 858) (by decide +kernel)⟩
theorem lw_p40 : lw_okq (⟨"LoopBoardModel", "isLate", "(I)Z"⟩, 24) := ⟨⟨by decide +kernel, by decide +kernel⟩, List.mem_of_getElem? (i := 657) (by decide +kernel), List.mem_of_getElem? (i := 861) (by decide +kernel), List.mem_of_getElem? (i := 862) (by decide +kernel)⟩
theorem lw_p41 : lw_okq (⟨"LoopBoardModel", "whyNot", "()I"⟩, 24) := ⟨⟨by decide +kernel, by decide +kernel⟩, List.mem_of_getElem? (i := 657) (by decide +kernel), List.mem_of_getElem? (i := 873) (by decide +kernel), List.mem_of_getElem? (i := 874) (by decide +kernel)⟩
theorem lw_p42 : lw_okq (⟨"LoopBoardModel", "places", "()I"⟩, 24) := ⟨⟨by decide +kernel, by decide +kernel⟩, List.mem_of_getElem? (i := 657) (by decide +kernel), List.mem_of_getElem? (i := 896) (by decide +kernel), List.mem_of_getElem? (i := 897) (by decide +kernel)⟩
theorem lw_p43 : lw_okq (⟨"LoopBoardModel", "rings", "()I"⟩, 24) := ⟨⟨by decide +kernel, by decide +kernel⟩, List.mem_of_getElem? (i := 657) (by decide +kernel), List.mem_of_getElem? (i := 900) (by decide +kernel), List.mem_of_getElem? (i := 901) (by decide +kernel)⟩
theorem lw_p44 : lw_okq (⟨"LoopBoardModel", "ringsHold", "(I)Z"⟩, 24) := ⟨⟨by decide +kernel, by decide +kernel⟩, List.mem_of_getElem? (i := 657) (by decide +kernel), List.mem_of_getElem? (i := 904) (by decide +kernel), List.mem_of_getElem? (i := 905) (by decide +kernel)⟩
theorem lw_p45 : lw_okq (⟨"LoopBoardModel", "search", "(I)I"⟩, 24) := ⟨⟨by decide +kernel, by decide +kernel⟩, List.mem_of_getElem? (i := 657) (by decide +kernel), List.mem_of_getElem? (i := 912) (by decide +kernel), List.mem_of_getElem? (i := 913) (by decide +kernel)⟩
theorem lw_p46 : lw_okq (⟨"LoopBoardModel", "goesAt", "(II)Z"⟩, 24) := ⟨⟨by decide +kernel, by decide +kernel⟩, List.mem_of_getElem? (i := 657) (by decide +kernel), List.mem_of_getElem? (i := 916) (by decide +kernel), List.mem_of_getElem? (i := 917) (by decide +kernel)⟩
theorem lw_p47 : lw_okq (⟨"LoopBoardModel", "canStart", "(II)Z"⟩, 24) := ⟨⟨by decide +kernel, by decide +kernel⟩, List.mem_of_getElem? (i := 657) (by decide +kernel), List.mem_of_getElem? (i := 920) (by decide +kernel), List.mem_of_getElem? (i := 921) (by decide +kernel)⟩
def lw_privs_3 : List (MethodName × Nat) := [(⟨"LoopBoardModel", "made", "(II)I"⟩, 24), (⟨"LoopBoardModel", "valueOf", "(II)I"⟩, 24), (⟨"LoopBoardModel", "lengthOf", "(I)I"⟩, 24), (⟨"LoopBoardModel", "cells", "()I"⟩, 24), (⟨"LoopBoardModel", "isCell", "(I)Z"⟩, 24), (⟨"LoopBoardModel", "wayOf", "(II)I"⟩, 24), (⟨"LoopBoardModel", "areBeside", "(II)Z"⟩, 24), (⟨"LoopBoardModel", "lacking", "()I"⟩, 24), (⟨"LoopBoardModel", "isLate", "(I)Z"⟩, 24), (⟨"LoopBoardModel", "whyNot", "()I"⟩, 24), (⟨"LoopBoardModel", "places", "()I"⟩, 24), (⟨"LoopBoardModel", "rings", "()I"⟩, 24), (⟨"LoopBoardModel", "ringsHold", "(I)Z"⟩, 24), (⟨"LoopBoardModel", "search", "(I)I"⟩, 24), (⟨"LoopBoardModel", "goesAt", "(II)Z"⟩, 24), (⟨"LoopBoardModel", "canStart", "(II)Z"⟩, 24)]
theorem lw_r3 : ∀ q ∈ lw_privs_3, lw_okq q := List.forall_mem_cons.mpr ⟨lw_p32, List.forall_mem_cons.mpr ⟨lw_p33, List.forall_mem_cons.mpr ⟨lw_p34, List.forall_mem_cons.mpr ⟨lw_p35, List.forall_mem_cons.mpr ⟨lw_p36, List.forall_mem_cons.mpr ⟨lw_p37, List.forall_mem_cons.mpr ⟨lw_p38, List.forall_mem_cons.mpr ⟨lw_p39, List.forall_mem_cons.mpr ⟨lw_p40, List.forall_mem_cons.mpr ⟨lw_p41, List.forall_mem_cons.mpr ⟨lw_p42, List.forall_mem_cons.mpr ⟨lw_p43, List.forall_mem_cons.mpr ⟨lw_p44, List.forall_mem_cons.mpr ⟨lw_p45, List.forall_mem_cons.mpr ⟨lw_p46, List.forall_mem_cons.mpr ⟨lw_p47, fun _ h => absurd h List.not_mem_nil⟩⟩⟩⟩⟩⟩⟩⟩⟩⟩⟩⟩⟩⟩⟩⟩
def lw_privs : List (MethodName × Nat) := lw_privs_1 ++ (lw_privs_2 ++ (lw_privs_3))
def lw_tbl : List Cond := k2_sels lw_privs ++ tables_1
theorem lw_privs_ok : ∀ q ∈ lw_privs, lw_okq q := by
  show ∀ q ∈ lw_privs_1 ++ (lw_privs_2 ++ (lw_privs_3)), lw_okq q
  exact List.forall_mem_append.mpr ⟨lw_r1, List.forall_mem_append.mpr ⟨lw_r2, lw_r3⟩⟩
def RX0 : String := "LoopBoard$Grid"
def TX0 : u_T := fun k => match k with
  | 0 => ("LoopBoard$Grid", "broken", "[Z", true)
  | 1 => ("LoopBoard$Grid", "multiplying", "[Z", true)
  | 2 => ("LoopBoard$Grid", "ways", "[I", true)
  | 3 => ("LoopBoard$Grid", "rows", "I", false)
  | _ => ("LoopBoard$Grid", "columns", "I", false)
def tyX0 : Nat → FieldType := fun k => match k with
  | 0 => .array .boolean
  | 1 => .array .boolean
  | 2 => .array .int
  | 3 => .int
  | _ => .int
abbrev wsX00 : List Cond := u_ws RX0 TX0 5
theorem nmX0 : ∀ a, a < 5 → ∀ b, b < 5 → a ≠ b → (TX0 a).2.1 ≠ (TX0 b).2.1 := by decide +kernel
theorem tyX0_ok : ∀ k, k < 5 → parseFieldDescriptor (TX0 k).2.2.1 = some (tyX0 k) := by decide +kernel
abbrev cX0_init : ByteArray := prog_2_method_1_code
def yX0_init : MethodName := ⟨RX0, "<init>", "()V"⟩
abbrev cX0_renew : ByteArray := prog_2_method_2_code
def yX0_renew : MethodName := ⟨RX0, "renew", "(II)V"⟩
abbrev cX0_rows : ByteArray := prog_2_method_3_code
def yX0_rows : MethodName := ⟨RX0, "rows", "()I"⟩
abbrev cX0_columns : ByteArray := prog_2_method_4_code
def yX0_columns : MethodName := ⟨RX0, "columns", "()I"⟩
abbrev cX0_cells : ByteArray := prog_2_method_5_code
def yX0_cells : MethodName := ⟨RX0, "cells", "()I"⟩
abbrev cX0_isThere : ByteArray := prog_2_method_6_code
def yX0_isThere : MethodName := ⟨RX0, "isThere", "(I)Z"⟩
abbrev cX0_isBroken : ByteArray := prog_2_method_7_code
def yX0_isBroken : MethodName := ⟨RX0, "isBroken", "(I)Z"⟩
abbrev cX0_isMultiplying : ByteArray := prog_2_method_8_code
def yX0_isMultiplying : MethodName := ⟨RX0, "isMultiplying", "(I)Z"⟩
abbrev cX0_setBroken : ByteArray := prog_2_method_9_code
def yX0_setBroken : MethodName := ⟨RX0, "setBroken", "(IZ)V"⟩
abbrev cX0_setMultiplying : ByteArray := prog_2_method_10_code
def yX0_setMultiplying : MethodName := ⟨RX0, "setMultiplying", "(IZ)V"⟩
abbrev cX0_isOpen : ByteArray := prog_2_method_11_code
def yX0_isOpen : MethodName := ⟨RX0, "isOpen", "(I)Z"⟩
abbrev cX0_suits : ByteArray := prog_2_method_12_code
def yX0_suits : MethodName := ⟨RX0, "suits", "(II)Z"⟩
abbrev cX0_unbroken : ByteArray := prog_2_method_13_code
def yX0_unbroken : MethodName := ⟨RX0, "unbroken", "()I"⟩
abbrev cX0_unbrokenMultiplying : ByteArray := prog_2_method_14_code
def yX0_unbrokenMultiplying : MethodName := ⟨RX0, "unbrokenMultiplying", "()I"⟩
abbrev cX0_wayBetween : ByteArray := prog_2_method_15_code
def yX0_wayBetween : MethodName := ⟨RX0, "wayBetween", "(II)I"⟩
abbrev cX0_measure : ByteArray := prog_2_method_16_code
def yX0_measure : MethodName := ⟨RX0, "measure", "()V"⟩
abbrev cX0_shortenThrough : ByteArray := prog_2_method_17_code
def yX0_shortenThrough : MethodName := ⟨RX0, "shortenThrough", "(I)V"⟩
abbrev cX0_singleStep : ByteArray := prog_2_method_18_code
def yX0_singleStep : MethodName := ⟨RX0, "singleStep", "(II)I"⟩
abbrev cX0_areNeighbours : ByteArray := prog_2_method_19_code
def yX0_areNeighbours : MethodName := ⟨RX0, "areNeighbours", "(II)Z"⟩
def RX1 : String := "LoopBoard$Layout"
def TX1 : u_T := fun k => match k with
  | 0 => ("LoopBoard$Layout", "loop", "LLoopBoard$Loop;", true)
  | 1 => ("LoopBoard$Layout", "grid", "LLoopBoard$Grid;", true)
  | 2 => ("LoopBoard$Layout", "cells", "[I", true)
  | 3 => ("LoopBoard$Layout", "starts", "[I", true)
  | _ => ("LoopBoard$Layout", "beat", "I", false)
def tyX1 : Nat → FieldType := fun k => match k with
  | 0 => .object "LoopBoard$Loop"
  | 1 => .object "LoopBoard$Grid"
  | 2 => .array .int
  | 3 => .array .int
  | _ => .int
abbrev wsX10 : List Cond := u_ws RX1 TX1 5
theorem nmX1 : ∀ a, a < 5 → ∀ b, b < 5 → a ≠ b → (TX1 a).2.1 ≠ (TX1 b).2.1 := by decide +kernel
theorem tyX1_ok : ∀ k, k < 5 → parseFieldDescriptor (TX1 k).2.2.1 = some (tyX1 k) := by decide +kernel
abbrev cX1_init : ByteArray := prog_3_method_1_code
def yX1_init : MethodName := ⟨RX1, "<init>", "(LLoopBoard$Loop;LLoopBoard$Grid;)V"⟩
abbrev cX1_beat : ByteArray := prog_3_method_2_code
def yX1_beat : MethodName := ⟨RX1, "beat", "()I"⟩
abbrev cX1_stands : ByteArray := prog_3_method_3_code
def yX1_stands : MethodName := ⟨RX1, "stands", "()Z"⟩
abbrev cX1_drop : ByteArray := prog_3_method_4_code
def yX1_drop : MethodName := ⟨RX1, "drop", "()V"⟩
abbrev cX1_begin : ByteArray := prog_3_method_5_code
def yX1_begin : MethodName := ⟨RX1, "begin", "(I)V"⟩
abbrev cX1_put : ByteArray := prog_3_method_6_code
def yX1_put : MethodName := ⟨RX1, "put", "(III)V"⟩
abbrev cX1_cellOf : ByteArray := prog_3_method_7_code
def yX1_cellOf : MethodName := ⟨RX1, "cellOf", "(I)I"⟩
abbrev cX1_startOf : ByteArray := prog_3_method_8_code
def yX1_startOf : MethodName := ⟨RX1, "startOf", "(I)I"⟩
abbrev cX1_madeAt : ByteArray := prog_3_method_9_code
def yX1_madeAt : MethodName := ⟨RX1, "madeAt", "(I)I"⟩
abbrev cX1_isGood : ByteArray := prog_3_method_10_code
def yX1_isGood : MethodName := ⟨RX1, "isGood", "()Z"⟩
abbrev cX1_firstLack : ByteArray := prog_3_method_11_code
def yX1_firstLack : MethodName := ⟨RX1, "firstLack", "()I"⟩
abbrev cX1_meetsOneAhead : ByteArray := prog_3_method_12_code
def yX1_meetsOneAhead : MethodName := ⟨RX1, "meetsOneAhead", "(I)Z"⟩
abbrev cX1_isLate : ByteArray := prog_3_method_13_code
def yX1_isLate : MethodName := ⟨RX1, "isLate", "(I)Z"⟩
abbrev cX1_usedAt : ByteArray := prog_3_method_14_code
def yX1_usedAt : MethodName := ⟨RX1, "usedAt", "(I)I"⟩
abbrev cX1_mostKept : ByteArray := prog_3_method_15_code
def yX1_mostKept : MethodName := ⟨RX1, "mostKept", "(I)I"⟩
abbrev cX1_endOf : ByteArray := prog_3_method_16_code
def yX1_endOf : MethodName := ⟨RX1, "endOf", "(I)I"⟩
abbrev cX1_roundStarting : ByteArray := prog_3_method_17_code
def yX1_roundStarting : MethodName := ⟨RX1, "roundStarting", "(II)I"⟩
abbrev cX1_actStarting : ByteArray := prog_3_method_18_code
def yX1_actStarting : MethodName := ⟨RX1, "actStarting", "(II)I"⟩
def RX2 : String := "LoopBoard$Loop"
def TX2 : u_T := fun k => match k with
  | 0 => ("LoopBoard$Loop", "kinds", "[I", true)
  | 1 => ("LoopBoard$Loop", "factors", "[I", true)
  | 2 => ("LoopBoard$Loop", "addends", "[I", true)
  | 3 => ("LoopBoard$Loop", "sources", "[I", true)
  | 4 => ("LoopBoard$Loop", "distances", "[I", true)
  | 5 => ("LoopBoard$Loop", "order", "[I", true)
  | 6 => ("LoopBoard$Loop", "isOrdered", "[Z", true)
  | 7 => ("LoopBoard$Loop", "delays", "[I", true)
  | 8 => ("LoopBoard$Loop", "count", "I", false)
  | 9 => ("LoopBoard$Loop", "ordered", "I", false)
  | _ => ("LoopBoard$Loop", "firstNumber", "I", false)
def tyX2 : Nat → FieldType := fun k => match k with
  | 0 => .array .int
  | 1 => .array .int
  | 2 => .array .int
  | 3 => .array .int
  | 4 => .array .int
  | 5 => .array .int
  | 6 => .array .boolean
  | 7 => .array .int
  | 8 => .int
  | 9 => .int
  | _ => .int
abbrev wsX20 : List Cond := u_ws RX2 TX2 11
theorem nmX2 : ∀ a, a < 11 → ∀ b, b < 11 → a ≠ b → (TX2 a).2.1 ≠ (TX2 b).2.1 := by decide +kernel
theorem tyX2_ok : ∀ k, k < 11 → parseFieldDescriptor (TX2 k).2.2.1 = some (tyX2 k) := by decide +kernel
abbrev cX2_init : ByteArray := prog_4_method_1_code
def yX2_init : MethodName := ⟨RX2, "<init>", "()V"⟩
abbrev cX2_count : ByteArray := prog_4_method_2_code
def yX2_count : MethodName := ⟨RX2, "count", "()I"⟩
abbrev cX2_firstNumber : ByteArray := prog_4_method_3_code
def yX2_firstNumber : MethodName := ⟨RX2, "firstNumber", "()I"⟩
abbrev cX2_setFirstNumber : ByteArray := prog_4_method_4_code
def yX2_setFirstNumber : MethodName := ⟨RX2, "setFirstNumber", "(I)V"⟩
abbrev cX2_isThere : ByteArray := prog_4_method_5_code
def yX2_isThere : MethodName := ⟨RX2, "isThere", "(I)Z"⟩
abbrev cX2_isSlot : ByteArray := prog_4_method_6_code
def yX2_isSlot : MethodName := ⟨RX2, "isSlot", "(I)Z"⟩
abbrev cX2_isSound : ByteArray := prog_4_method_7_code
def yX2_isSound : MethodName := ⟨RX2, "isSound", "()Z"⟩
abbrev cX2_kindOf : ByteArray := prog_4_method_8_code
def yX2_kindOf : MethodName := ⟨RX2, "kindOf", "(I)I"⟩
abbrev cX2_lengthOf : ByteArray := prog_4_method_9_code
def yX2_lengthOf : MethodName := ⟨RX2, "lengthOf", "(I)I"⟩
abbrev cX2_factorOf : ByteArray := prog_4_method_10_code
def yX2_factorOf : MethodName := ⟨RX2, "factorOf", "(I)I"⟩
abbrev cX2_addendOf : ByteArray := prog_4_method_11_code
def yX2_addendOf : MethodName := ⟨RX2, "addendOf", "(I)I"⟩
abbrev cX2_sourceOf : ByteArray := prog_4_method_12_code
def yX2_sourceOf : MethodName := ⟨RX2, "sourceOf", "(I)I"⟩
abbrev cX2_distanceOf : ByteArray := prog_4_method_13_code
def yX2_distanceOf : MethodName := ⟨RX2, "distanceOf", "(I)I"⟩
abbrev cX2_actInOrder : ByteArray := prog_4_method_14_code
def yX2_actInOrder : MethodName := ⟨RX2, "actInOrder", "(I)I"⟩
abbrev cX2_addInput : ByteArray := prog_4_method_15_code
def yX2_addInput : MethodName := ⟨RX2, "addInput", "(II)I"⟩
abbrev cX2_addWork : ByteArray := prog_4_method_16_code
def yX2_addWork : MethodName := ⟨RX2, "addWork", "(IIIII)I"⟩
abbrev cX2_setOperand : ByteArray := prog_4_method_17_code
def yX2_setOperand : MethodName := ⟨RX2, "setOperand", "(III)V"⟩
abbrev cX2_empty : ByteArray := prog_4_method_18_code
def yX2_empty : MethodName := ⟨RX2, "empty", "()V"⟩
abbrev cX2_arrange : ByteArray := prog_4_method_19_code
def yX2_arrange : MethodName := ⟨RX2, "arrange", "()V"⟩
abbrev cX2_canFollow : ByteArray := prog_4_method_20_code
def yX2_canFollow : MethodName := ⟨RX2, "canFollow", "(I)Z"⟩
abbrev cX2_products : ByteArray := prog_4_method_21_code
def yX2_products : MethodName := ⟨RX2, "products", "()I"⟩
abbrev cX2_ringsBound : ByteArray := prog_4_method_22_code
def yX2_ringsBound : MethodName := ⟨RX2, "ringsBound", "()I"⟩
abbrev cX2_ringsAllow : ByteArray := prog_4_method_23_code
def yX2_ringsAllow : MethodName := ⟨RX2, "ringsAllow", "(I)Z"⟩
abbrev cX2_delaysGrow : ByteArray := prog_4_method_24_code
def yX2_delaysGrow : MethodName := ⟨RX2, "delaysGrow", "(I)Z"⟩
def RX3 : String := "LoopBoard$Search"
def TX3 : u_T := fun k => match k with
  | 0 => ("LoopBoard$Search", "loop", "LLoopBoard$Loop;", true)
  | 1 => ("LoopBoard$Search", "grid", "LLoopBoard$Grid;", true)
  | 2 => ("LoopBoard$Search", "cells", "[I", true)
  | 3 => ("LoopBoard$Search", "leftOvers", "[I", true)
  | 4 => ("LoopBoard$Search", "nextTries", "[I", true)
  | 5 => ("LoopBoard$Search", "gaps", "[I", true)
  | 6 => ("LoopBoard$Search", "turns", "[I", true)
  | 7 => ("LoopBoard$Search", "beat", "I", false)
  | _ => ("LoopBoard$Search", "tries", "I", false)
def tyX3 : Nat → FieldType := fun k => match k with
  | 0 => .object "LoopBoard$Loop"
  | 1 => .object "LoopBoard$Grid"
  | 2 => .array .int
  | 3 => .array .int
  | 4 => .array .int
  | 5 => .array .int
  | 6 => .array .int
  | 7 => .int
  | _ => .int
abbrev wsX30 : List Cond := u_ws RX3 TX3 9
theorem nmX3 : ∀ a, a < 9 → ∀ b, b < 9 → a ≠ b → (TX3 a).2.1 ≠ (TX3 b).2.1 := by decide +kernel
theorem tyX3_ok : ∀ k, k < 9 → parseFieldDescriptor (TX3 k).2.2.1 = some (tyX3 k) := by decide +kernel
abbrev cX3_init : ByteArray := prog_5_method_1_code
def yX3_init : MethodName := ⟨RX3, "<init>", "(LLoopBoard$Loop;LLoopBoard$Grid;)V"⟩
abbrev cX3_triesMade : ByteArray := prog_5_method_2_code
def yX3_triesMade : MethodName := ⟨RX3, "triesMade", "()I"⟩
abbrev cX3_cellOf : ByteArray := prog_5_method_3_code
def yX3_cellOf : MethodName := ⟨RX3, "cellOf", "(I)I"⟩
abbrev cX3_startOf : ByteArray := prog_5_method_4_code
def yX3_startOf : MethodName := ⟨RX3, "startOf", "(I)I"⟩
abbrev cX3_run : ByteArray := prog_5_method_5_code
def yX3_run : MethodName := ⟨RX3, "run", "(I)I"⟩
abbrev cX3_goesNext : ByteArray := prog_5_method_6_code
def yX3_goesNext : MethodName := ⟨RX3, "goesNext", "(I)Z"⟩
abbrev cX3_isFree : ByteArray := prog_5_method_7_code
def yX3_isFree : MethodName := ⟨RX3, "isFree", "(I)Z"⟩
abbrev cX3_measureGaps : ByteArray := prog_5_method_8_code
def yX3_measureGaps : MethodName := ⟨RX3, "measureGaps", "(I)Z"⟩
abbrev cX3_turnsSettle : ByteArray := prog_5_method_9_code
def yX3_turnsSettle : MethodName := ⟨RX3, "turnsSettle", "(I)Z"⟩
abbrev cX3_beginRow : ByteArray := prog_5_method_10_code
def yX3_beginRow : MethodName := ⟨RX3, "beginRow", "(I)V"⟩
def RX4 : String := "LoopBoard$Values"
def TX4 : u_T := fun k => match k with
  | 0 => ("LoopBoard$Values", "loop", "LLoopBoard$Loop;", true)
  | _ => ("LoopBoard$Values", "made", "[I", true)
def tyX4 : Nat → FieldType := fun k => match k with
  | 0 => .object "LoopBoard$Loop"
  | _ => .array .int
abbrev wsX40 : List Cond := u_ws RX4 TX4 2
theorem nmX4 : ∀ a, a < 2 → ∀ b, b < 2 → a ≠ b → (TX4 a).2.1 ≠ (TX4 b).2.1 := by decide +kernel
theorem tyX4_ok : ∀ k, k < 2 → parseFieldDescriptor (TX4 k).2.2.1 = some (tyX4 k) := by decide +kernel
abbrev cX4_init : ByteArray := prog_6_method_1_code
def yX4_init : MethodName := ⟨RX4, "<init>", "(LLoopBoard$Loop;)V"⟩
abbrev cX4_at : ByteArray := prog_6_method_2_code
def yX4_at : MethodName := ⟨RX4, "at", "(II)I"⟩
abbrev cX4_isPlace : ByteArray := prog_6_method_3_code
def yX4_isPlace : MethodName := ⟨RX4, "isPlace", "(II)Z"⟩
abbrev cX4_makeRound : ByteArray := prog_6_method_4_code
def yX4_makeRound : MethodName := ⟨RX4, "makeRound", "(I)V"⟩
abbrev cX4_make : ByteArray := prog_6_method_5_code
def yX4_make : MethodName := ⟨RX4, "make", "(II)V"⟩
abbrev cX4_valueOf : ByteArray := prog_6_method_6_code
def yX4_valueOf : MethodName := ⟨RX4, "valueOf", "(II)I"⟩
abbrev cX4_operand : ByteArray := prog_6_method_7_code
def yX4_operand : MethodName := ⟨RX4, "operand", "(II)I"⟩
def RX5 : String := "LoopBoard"
def TX5 : u_T := fun k => match k with
  | 0 => ("LoopBoard", "loop", "LLoopBoard$Loop;", true)
  | 1 => ("LoopBoard", "grid", "LLoopBoard$Grid;", true)
  | 2 => ("LoopBoard", "layout", "LLoopBoard$Layout;", true)
  | 3 => ("LoopBoard", "search", "LLoopBoard$Search;", true)
  | 4 => ("LoopBoard", "plainValues", "LLoopBoard$Values;", true)
  | 5 => ("LoopBoard", "steppedValues", "LLoopBoard$Values;", true)
  | 6 => ("LoopBoard", "plainRounds", "I", false)
  | 7 => ("LoopBoard", "steppedRounds", "I", false)
  | _ => ("LoopBoard", "latestTries", "I", false)
def tyX5 : Nat → FieldType := fun k => match k with
  | 0 => .object "LoopBoard$Loop"
  | 1 => .object "LoopBoard$Grid"
  | 2 => .object "LoopBoard$Layout"
  | 3 => .object "LoopBoard$Search"
  | 4 => .object "LoopBoard$Values"
  | 5 => .object "LoopBoard$Values"
  | 6 => .int
  | 7 => .int
  | _ => .int
abbrev wsX50 : List Cond := u_ws RX5 TX5 9
theorem nmX5 : ∀ a, a < 9 → ∀ b, b < 9 → a ≠ b → (TX5 a).2.1 ≠ (TX5 b).2.1 := by decide +kernel
theorem tyX5_ok : ∀ k, k < 9 → parseFieldDescriptor (TX5 k).2.2.1 = some (tyX5 k) := by decide +kernel
abbrev cX5_init : ByteArray := prog_1_method_1_code
def yX5_init : MethodName := ⟨RX5, "<init>", "()V"⟩
abbrev cX5_input : ByteArray := prog_1_method_2_code
def yX5_input : MethodName := ⟨RX5, "input", "(II)I"⟩
abbrev cX5_act : ByteArray := prog_1_method_3_code
def yX5_act : MethodName := ⟨RX5, "act", "(IIIII)I"⟩
abbrev cX5_first : ByteArray := prog_1_method_4_code
def yX5_first : MethodName := ⟨RX5, "first", "(I)I"⟩
abbrev cX5_clear : ByteArray := prog_1_method_5_code
def yX5_clear : MethodName := ⟨RX5, "clear", "()I"⟩
abbrev cX5_sound : ByteArray := prog_1_method_6_code
def yX5_sound : MethodName := ⟨RX5, "sound", "()I"⟩
abbrev cX5_plain : ByteArray := prog_1_method_7_code
def yX5_plain : MethodName := ⟨RX5, "plain", "(II)J"⟩
abbrev cX5_about : ByteArray := prog_1_method_8_code
def yX5_about : MethodName := ⟨RX5, "about", "(II)I"⟩
abbrev cX5_board : ByteArray := prog_1_method_9_code
def yX5_board : MethodName := ⟨RX5, "board", "(II)I"⟩
abbrev cX5_breaks : ByteArray := prog_1_method_10_code
def yX5_breaks : MethodName := ⟨RX5, "breaks", "(IZ)I"⟩
abbrev cX5_multiplies : ByteArray := prog_1_method_11_code
def yX5_multiplies : MethodName := ⟨RX5, "multiplies", "(IZ)I"⟩
abbrev cX5_way : ByteArray := prog_1_method_12_code
def yX5_way : MethodName := ⟨RX5, "way", "(II)I"⟩
abbrev cX5_plan : ByteArray := prog_1_method_13_code
def yX5_plan : MethodName := ⟨RX5, "plan", "(I)I"⟩
abbrev cX5_lay : ByteArray := prog_1_method_14_code
def yX5_lay : MethodName := ⟨RX5, "lay", "(III)I"⟩
abbrev cX5_lacks : ByteArray := prog_1_method_15_code
def yX5_lacks : MethodName := ⟨RX5, "lacks", "()I"⟩
abbrev cX5_laid : ByteArray := prog_1_method_16_code
def yX5_laid : MethodName := ⟨RX5, "laid", "(II)I"⟩
abbrev cX5_kept : ByteArray := prog_1_method_17_code
def yX5_kept : MethodName := ⟨RX5, "kept", "(I)I"⟩
abbrev cX5_step : ByteArray := prog_1_method_18_code
def yX5_step : MethodName := ⟨RX5, "step", "(I)I"⟩
abbrev cX5_stepped : ByteArray := prog_1_method_19_code
def yX5_stepped : MethodName := ⟨RX5, "stepped", "(II)J"⟩
abbrev cX5_works : ByteArray := prog_1_method_20_code
def yX5_works : MethodName := ⟨RX5, "works", "(II)I"⟩
abbrev cX5_bound : ByteArray := prog_1_method_21_code
def yX5_bound : MethodName := ⟨RX5, "bound", "(I)I"⟩
abbrev cX5_find : ByteArray := prog_1_method_22_code
def yX5_find : MethodName := ⟨RX5, "find", "()I"⟩
abbrev cX5_tries : ByteArray := prog_1_method_23_code
def yX5_tries : MethodName := ⟨RX5, "tries", "()I"⟩
abbrev cX5_told : ByteArray := prog_1_method_24_code
def yX5_told : MethodName := ⟨RX5, "told", "(I)I"⟩
abbrev cX5_isWithin : ByteArray := prog_1_method_25_code
def yX5_isWithin : MethodName := ⟨RX5, "isWithin", "(III)Z"⟩
abbrev cX5_isOperand : ByteArray := prog_1_method_26_code
def yX5_isOperand : MethodName := ⟨RX5, "isOperand", "(II)Z"⟩
abbrev cX5_cutUp : ByteArray := prog_1_method_27_code
def yX5_cutUp : MethodName := ⟨RX5, "cutUp", "(II)I"⟩
abbrev cX5_actsChanged : ByteArray := prog_1_method_28_code
def yX5_actsChanged : MethodName := ⟨RX5, "actsChanged", "()V"⟩
abbrev cX5_stepBeat : ByteArray := prog_1_method_29_code
def yX5_stepBeat : MethodName := ⟨RX5, "stepBeat", "(II)V"⟩
abbrev cX5_placesBound : ByteArray := prog_1_method_30_code
def yX5_placesBound : MethodName := ⟨RX5, "placesBound", "()I"⟩
abbrev cX5_takeFound : ByteArray := prog_1_method_31_code
def yX5_takeFound : MethodName := ⟨RX5, "takeFound", "(I)V"⟩
def RX6 : String := "LoopBoardModel"
def TX6 : u_T := fun k => match k with
  | 0 => ("LoopBoardModel", "kind", "[I", true)
  | 1 => ("LoopBoardModel", "operand", "[I", true)
  | 2 => ("LoopBoardModel", "distance", "[I", true)
  | 3 => ("LoopBoardModel", "p", "[I", true)
  | 4 => ("LoopBoardModel", "q", "[I", true)
  | 5 => ("LoopBoardModel", "acts", "I", false)
  | 6 => ("LoopBoardModel", "first", "I", false)
  | 7 => ("LoopBoardModel", "beat", "I", false)
  | 8 => ("LoopBoardModel", "rounds", "I", false)
  | 9 => ("LoopBoardModel", "isDone", "[Z", true)
  | 10 => ("LoopBoardModel", "values", "[I", true)
  | 11 => ("LoopBoardModel", "rows", "I", false)
  | 12 => ("LoopBoardModel", "columns", "I", false)
  | 13 => ("LoopBoardModel", "isBroken", "[Z", true)
  | 14 => ("LoopBoardModel", "canMultiply", "[Z", true)
  | 15 => ("LoopBoardModel", "far", "[I", true)
  | 16 => ("LoopBoardModel", "cell", "[I", true)
  | 17 => ("LoopBoardModel", "start", "[I", true)
  | 18 => ("LoopBoardModel", "height", "[I", true)
  | 19 => ("LoopBoardModel", "tries", "I", false)
  | 20 => ("LoopBoardModel", "tryCell", "[I", true)
  | 21 => ("LoopBoardModel", "tryOver", "[I", true)
  | 22 => ("LoopBoardModel", "times", "[I", true)
  | _ => ("LoopBoardModel", "ways", "[I", true)
def tyX6 : Nat → FieldType := fun k => match k with
  | 0 => .array .int
  | 1 => .array .int
  | 2 => .array .int
  | 3 => .array .int
  | 4 => .array .int
  | 5 => .int
  | 6 => .int
  | 7 => .int
  | 8 => .int
  | 9 => .array .boolean
  | 10 => .array .int
  | 11 => .int
  | 12 => .int
  | 13 => .array .boolean
  | 14 => .array .boolean
  | 15 => .array .int
  | 16 => .array .int
  | 17 => .array .int
  | 18 => .array .int
  | 19 => .int
  | 20 => .array .int
  | 21 => .array .int
  | 22 => .array .int
  | _ => .array .int
abbrev wsX60 : List Cond := u_ws RX6 TX6 24
theorem nmX6 : ∀ a, a < 24 → ∀ b, b < 24 → a ≠ b → (TX6 a).2.1 ≠ (TX6 b).2.1 := by decide +kernel
theorem tyX6_ok : ∀ k, k < 24 → parseFieldDescriptor (TX6 k).2.2.1 = some (tyX6 k) := by decide +kernel
abbrev cX6_init : ByteArray := prog_8_method_1_code
def yX6_init : MethodName := ⟨RX6, "<init>", "()V"⟩
abbrev cX6_in : ByteArray := prog_8_method_3_code
def yX6_in : MethodName := ⟨RX6, "in", "(JJJ)Z"⟩
abbrev cX6_isAct : ByteArray := prog_8_method_4_code
def yX6_isAct : MethodName := ⟨RX6, "isAct", "(I)Z"⟩
abbrev cX6_enter : ByteArray := prog_8_method_5_code
def yX6_enter : MethodName := ⟨RX6, "enter", "(I)I"⟩
abbrev cX6_input : ByteArray := prog_8_method_6_code
def yX6_input : MethodName := ⟨RX6, "input", "(II)I"⟩
abbrev cX6_act : ByteArray := prog_8_method_7_code
def yX6_act : MethodName := ⟨RX6, "act", "(IIIII)I"⟩
abbrev cX6_first : ByteArray := prog_8_method_8_code
def yX6_first : MethodName := ⟨RX6, "first", "(I)I"⟩
abbrev cX6_clear : ByteArray := prog_8_method_9_code
def yX6_clear : MethodName := ⟨RX6, "clear", "()I"⟩
abbrev cX6_lengthOf : ByteArray := prog_8_method_10_code
def yX6_lengthOf : MethodName := ⟨RX6, "lengthOf", "(I)I"⟩
abbrev cX6_isReady : ByteArray := prog_8_method_11_code
def yX6_isReady : MethodName := ⟨RX6, "isReady", "(I)Z"⟩
abbrev cX6_isSound : ByteArray := prog_8_method_12_code
def yX6_isSound : MethodName := ⟨RX6, "isSound", "()Z"⟩
abbrev cX6_sound : ByteArray := prog_8_method_13_code
def yX6_sound : MethodName := ⟨RX6, "sound", "()I"⟩
abbrev cX6_valueOf : ByteArray := prog_8_method_14_code
def yX6_valueOf : MethodName := ⟨RX6, "valueOf", "(II)I"⟩
abbrev cX6_made : ByteArray := prog_8_method_15_code
def yX6_made : MethodName := ⟨RX6, "made", "(II)I"⟩
abbrev cX6_workTo : ByteArray := prog_8_method_16_code
def yX6_workTo : MethodName := ⟨RX6, "workTo", "(I)V"⟩
abbrev cX6_plain : ByteArray := prog_8_method_17_code
def yX6_plain : MethodName := ⟨RX6, "plain", "(II)J"⟩
abbrev cX6_about : ByteArray := prog_8_method_18_code
def yX6_about : MethodName := ⟨RX6, "about", "(II)I"⟩
abbrev cX6_whole : ByteArray := prog_8_method_19_code
def yX6_whole : MethodName := ⟨RX6, "whole", "()V"⟩
abbrev cX6_cells : ByteArray := prog_8_method_20_code
def yX6_cells : MethodName := ⟨RX6, "cells", "()I"⟩
abbrev cX6_isCell : ByteArray := prog_8_method_21_code
def yX6_isCell : MethodName := ⟨RX6, "isCell", "(I)Z"⟩
abbrev cX6_board : ByteArray := prog_8_method_22_code
def yX6_board : MethodName := ⟨RX6, "board", "(II)I"⟩
abbrev cX6_breaks : ByteArray := prog_8_method_23_code
def yX6_breaks : MethodName := ⟨RX6, "breaks", "(IZ)I"⟩
abbrev cX6_multiplies : ByteArray := prog_8_method_24_code
def yX6_multiplies : MethodName := ⟨RX6, "multiplies", "(IZ)I"⟩
abbrev cX6_areBeside : ByteArray := prog_8_method_25_code
def yX6_areBeside : MethodName := ⟨RX6, "areBeside", "(II)Z"⟩
abbrev cX6_wayOf : ByteArray := prog_8_method_26_code
def yX6_wayOf : MethodName := ⟨RX6, "wayOf", "(II)I"⟩
abbrev cX6_way : ByteArray := prog_8_method_27_code
def yX6_way : MethodName := ⟨RX6, "way", "(II)I"⟩
abbrev cX6_plan : ByteArray := prog_8_method_28_code
def yX6_plan : MethodName := ⟨RX6, "plan", "(I)I"⟩
abbrev cX6_lay : ByteArray := prog_8_method_29_code
def yX6_lay : MethodName := ⟨RX6, "lay", "(III)I"⟩
abbrev cX6_isLate : ByteArray := prog_8_method_30_code
def yX6_isLate : MethodName := ⟨RX6, "isLate", "(I)Z"⟩
abbrev cX6_lacking : ByteArray := prog_8_method_31_code
def yX6_lacking : MethodName := ⟨RX6, "lacking", "()I"⟩
abbrev cX6_whyNot : ByteArray := prog_8_method_32_code
def yX6_whyNot : MethodName := ⟨RX6, "whyNot", "()I"⟩
abbrev cX6_lacks : ByteArray := prog_8_method_33_code
def yX6_lacks : MethodName := ⟨RX6, "lacks", "()I"⟩
abbrev cX6_laid : ByteArray := prog_8_method_34_code
def yX6_laid : MethodName := ⟨RX6, "laid", "(II)I"⟩
abbrev cX6_kept : ByteArray := prog_8_method_35_code
def yX6_kept : MethodName := ⟨RX6, "kept", "(I)I"⟩
abbrev cX6_step : ByteArray := prog_8_method_36_code
def yX6_step : MethodName := ⟨RX6, "step", "(I)I"⟩
abbrev cX6_stepped : ByteArray := prog_8_method_37_code
def yX6_stepped : MethodName := ⟨RX6, "stepped", "(II)J"⟩
abbrev cX6_works : ByteArray := prog_8_method_38_code
def yX6_works : MethodName := ⟨RX6, "works", "(II)I"⟩
abbrev cX6_places : ByteArray := prog_8_method_39_code
def yX6_places : MethodName := ⟨RX6, "places", "()I"⟩
abbrev cX6_ringsHold : ByteArray := prog_8_method_40_code
def yX6_ringsHold : MethodName := ⟨RX6, "ringsHold", "(I)Z"⟩
abbrev cX6_rings : ByteArray := prog_8_method_41_code
def yX6_rings : MethodName := ⟨RX6, "rings", "()I"⟩
abbrev cX6_bound : ByteArray := prog_8_method_42_code
def yX6_bound : MethodName := ⟨RX6, "bound", "(I)I"⟩
abbrev cX6_up : ByteArray := prog_8_method_43_code
def yX6_up : MethodName := ⟨RX6, "up", "(II)I"⟩
abbrev cX6_canStart : ByteArray := prog_8_method_44_code
def yX6_canStart : MethodName := ⟨RX6, "canStart", "(II)Z"⟩
abbrev cX6_goesAt : ByteArray := prog_8_method_45_code
def yX6_goesAt : MethodName := ⟨RX6, "goesAt", "(II)Z"⟩
abbrev cX6_search : ByteArray := prog_8_method_46_code
def yX6_search : MethodName := ⟨RX6, "search", "(I)I"⟩
abbrev cX6_find : ByteArray := prog_8_method_47_code
def yX6_find : MethodName := ⟨RX6, "find", "()I"⟩
abbrev cX6_tries : ByteArray := prog_8_method_48_code
def yX6_tries : MethodName := ⟨RX6, "tries", "()I"⟩
abbrev cX6_told : ByteArray := prog_8_method_49_code
def yX6_told : MethodName := ⟨RX6, "told", "(I)I"⟩
def RJ9 : String := "java/lang/Math"
def TJ9 : u_T := fun k => match k with
  | _ => ("", "", "", false)
def tyJ9 : Nat → FieldType := fun k => match k with
  | _ => .int
abbrev wsJ90 : List Cond := u_ws RJ9 TJ9 0
abbrev cJ9_floorDiv_7cf53 : ByteArray := prog_9_method_47_code
def yJ9_floorDiv_7cf53 : MethodName := ⟨RJ9, "floorDiv", "(II)I"⟩
abbrev cJ9_abs_0f7a4 : ByteArray := prog_9_method_59_code
def yJ9_abs_0f7a4 : MethodName := ⟨RJ9, "abs", "(I)I"⟩
abbrev cJ9_max_7cf53 : ByteArray := prog_9_method_65_code
def yJ9_max_7cf53 : MethodName := ⟨RJ9, "max", "(II)I"⟩
abbrev cJ9_min_7cf53 : ByteArray := prog_9_method_69_code
def yJ9_min_7cf53 : MethodName := ⟨RJ9, "min", "(II)I"⟩
def RJ10 : String := "java/lang/System"
def TJ10 : u_T := fun k => match k with
  | _ => ("", "", "", false)
def tyJ10 : Nat → FieldType := fun k => match k with
  | _ => .int
abbrev wsJ100 : List Cond := u_ws RJ10 TJ10 0
def RJ7 : String := "java/util/Arrays"
def TJ7 : u_T := fun k => match k with
  | _ => ("", "", "", false)
def tyJ7 : Nat → FieldType := fun k => match k with
  | _ => .int
abbrev wsJ70 : List Cond := u_ws RJ7 TJ7 0
abbrev cJ7_fill_53178 : ByteArray := prog_11_method_103_code
def yJ7_fill_53178 : MethodName := ⟨RJ7, "fill", "([II)V"⟩
def RL : String := "LoopBoardLaw"
abbrev cL_law : ByteArray := code
def yL_law : MethodName := ⟨RL, "law", "([I)Z"⟩
abbrev vwCl : List vw_C := [(RX0, TX0, 5), (RX1, TX1, 5), (RX2, TX2, 11), (RX3, TX3, 9), (RX4, TX4, 2), (RX5, TX5, 9), (RX6, TX6, 24)]
def nestW : Cond := .methodLinkNest RX3 93 yX5_cutUp "LoopBoard"
def nestI : Cond := .methodLinkNest RX5 11 yX2_init "LoopBoard"
theorem tb1 {c : Cond} (h : c ∈ tables_1_1) : c ∈ lw_tbl := List.mem_append_right _ (List.mem_append_left _ h)
theorem tb2 {c : Cond} (h : c ∈ tables_1_2) : c ∈ lw_tbl := List.mem_append_right _ (List.mem_append_right _ (List.mem_append_left _ h))
theorem tb3 {c : Cond} (h : c ∈ tables_1_3) : c ∈ lw_tbl := List.mem_append_right _ (List.mem_append_right _ (List.mem_append_right _ (List.mem_append_left _ h)))
theorem tb4 {c : Cond} (h : c ∈ tables_1_4) : c ∈ lw_tbl := List.mem_append_right _ (List.mem_append_right _ (List.mem_append_right _ (List.mem_append_right _ h)))
