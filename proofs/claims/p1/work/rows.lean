section
-- ===== PART A: goes FIRST, ahead of the names: the tables' words, and 'selects' of the private methods out of them =====
/-- a private method of a class that the tables say can be made, by its rows of tables_1 -/
def lw_okq (q : MethodName × Nat) : Prop := (q.1.cls ≠ "java/lang/invoke/MethodHandle" ∧ q.1.cls ≠ "java/lang/invoke/VarHandle") ∧ Cond.instantiable q.1.cls q.2 ∈ tables_1 ∧ Cond.privateMethod q.1 ∈ tables_1 ∧ Cond.instanceMethod q.1 ∈ tables_1
theorem lw_p0 : lw_okq (⟨"LoopBoard$Grid", "measure", "()V"⟩, 5) := ⟨⟨by decide +kernel, by decide +kernel⟩, List.mem_of_getElem? (i := 62) (by decide +kernel), List.mem_of_getElem? (i := 72) (by decide +kernel), List.mem_of_getElem? (i := 73) (by decide +kernel)⟩
theorem lw_p1 : lw_okq (⟨"LoopBoard$Grid", "singleStep", "(II)I"⟩, 5) := ⟨⟨by decide +kernel, by decide +kernel⟩, List.mem_of_getElem? (i := 62) (by decide +kernel), List.mem_of_getElem? (i := 76) (by decide +kernel), List.mem_of_getElem? (i := 77) (by decide +kernel)⟩
theorem lw_p2 : lw_okq (⟨"LoopBoard$Grid", "isOpen", "(I)Z"⟩, 5) := ⟨⟨by decide +kernel, by decide +kernel⟩, List.mem_of_getElem? (i := 62) (by decide +kernel), List.mem_of_getElem? (i := 80) (by decide +kernel), List.mem_of_getElem? (i := 81) (by decide +kernel)⟩
theorem lw_p3 : lw_okq (⟨"LoopBoard$Grid", "areNeighbours", "(II)Z"⟩, 5) := ⟨⟨by decide +kernel, by decide +kernel⟩, List.mem_of_getElem? (i := 62) (by decide +kernel), List.mem_of_getElem? (i := 88) (by decide +kernel), List.mem_of_getElem? (i := 89) (by decide +kernel)⟩
theorem lw_p4 : lw_okq (⟨"LoopBoard$Grid", "shortenThrough", "(I)V"⟩, 5) := ⟨⟨by decide +kernel, by decide +kernel⟩, List.mem_of_getElem? (i := 62) (by decide +kernel), List.mem_of_getElem? (i := 99) (by decide +kernel), List.mem_of_getElem? (i := 100) (by decide +kernel)⟩
theorem lw_p5 : lw_okq (⟨"LoopBoard$Loop", "setOperand", "(III)V"⟩, 11) := ⟨⟨by decide +kernel, by decide +kernel⟩, List.mem_of_getElem? (i := 20) (by decide +kernel), List.mem_of_getElem? (i := 227) (by decide +kernel), List.mem_of_getElem? (i := 228) (by decide +kernel)⟩
theorem lw_p6 : lw_okq (⟨"LoopBoard$Loop", "arrange", "()V"⟩, 11) := ⟨⟨by decide +kernel, by decide +kernel⟩, List.mem_of_getElem? (i := 20) (by decide +kernel), List.mem_of_getElem? (i := 231) (by decide +kernel), List.mem_of_getElem? (i := 232) (by decide +kernel)⟩
theorem lw_p7 : lw_okq (⟨"LoopBoard$Loop", "canFollow", "(I)Z"⟩, 11) := ⟨⟨by decide +kernel, by decide +kernel⟩, List.mem_of_getElem? (i := 20) (by decide +kernel), List.mem_of_getElem? (i := 235) (by decide +kernel), List.mem_of_getElem? (i := 236) (by decide +kernel)⟩
theorem lw_p8 : lw_okq (⟨"LoopBoard$Loop", "isSlot", "(I)Z"⟩, 11) := ⟨⟨by decide +kernel, by decide +kernel⟩, List.mem_of_getElem? (i := 20) (by decide +kernel), List.mem_of_getElem? (i := 243) (by decide +kernel), List.mem_of_getElem? (i := 244) (by decide +kernel)⟩
theorem lw_p9 : lw_okq (⟨"LoopBoard", "actsChanged", "()V"⟩, 9) := ⟨⟨by decide +kernel, by decide +kernel⟩, List.mem_of_getElem? (i := 12) (by decide +kernel), List.mem_of_getElem? (i := 255) (by decide +kernel), List.mem_of_getElem? (i := 256) (by decide +kernel)⟩
theorem lw_p10 : lw_okq (⟨"LoopBoard$Values", "valueOf", "(II)I"⟩, 2) := ⟨⟨by decide +kernel, by decide +kernel⟩, List.mem_of_getElem? (i := 175) (by decide +kernel), List.mem_of_getElem? (i := 329) (by decide +kernel), List.mem_of_getElem? (i := 330) (by decide +kernel)⟩
theorem lw_p11 : lw_okq (⟨"LoopBoard$Values", "operand", "(II)I"⟩, 2) := ⟨⟨by decide +kernel, by decide +kernel⟩, List.mem_of_getElem? (i := 175) (by decide +kernel), List.mem_of_getElem? (i := 345) (by decide +kernel), List.mem_of_getElem? (i := 346) (by decide +kernel)⟩
theorem lw_p12 : lw_okq (⟨"LoopBoard$Layout", "meetsOneAhead", "(I)Z"⟩, 5) := ⟨⟨by decide +kernel, by decide +kernel⟩, List.mem_of_getElem? (i := 119) (by decide +kernel), List.mem_of_getElem? (i := 458) (by decide +kernel), List.mem_of_getElem? (i := 459) (by decide +kernel)⟩
theorem lw_p13 : lw_okq (⟨"LoopBoard$Layout", "isLate", "(I)Z"⟩, 5) := ⟨⟨by decide +kernel, by decide +kernel⟩, List.mem_of_getElem? (i := 119) (by decide +kernel), List.mem_of_getElem? (i := 466) (by decide +kernel), List.mem_of_getElem? (i := 467) (by decide +kernel)⟩
theorem lw_p14 : lw_okq (⟨"LoopBoard$Layout", "usedAt", "(I)I"⟩, 5) := ⟨⟨by decide +kernel, by decide +kernel⟩, List.mem_of_getElem? (i := 119) (by decide +kernel), List.mem_of_getElem? (i := 472) (by decide +kernel), List.mem_of_getElem? (i := 473) (by decide +kernel)⟩
theorem lw_p15 : lw_okq (⟨"LoopBoard$Layout", "madeAt", "(I)I"⟩, 5) := ⟨⟨by decide +kernel, by decide +kernel⟩, List.mem_of_getElem? (i := 119) (by decide +kernel), List.mem_of_getElem? (i := 477) (by decide +kernel), List.mem_of_getElem? (i := 478) (by decide +kernel)⟩
def lw_privs_1 : List (MethodName × Nat) := [(⟨"LoopBoard$Grid", "measure", "()V"⟩, 5), (⟨"LoopBoard$Grid", "singleStep", "(II)I"⟩, 5), (⟨"LoopBoard$Grid", "isOpen", "(I)Z"⟩, 5), (⟨"LoopBoard$Grid", "areNeighbours", "(II)Z"⟩, 5), (⟨"LoopBoard$Grid", "shortenThrough", "(I)V"⟩, 5), (⟨"LoopBoard$Loop", "setOperand", "(III)V"⟩, 11), (⟨"LoopBoard$Loop", "arrange", "()V"⟩, 11), (⟨"LoopBoard$Loop", "canFollow", "(I)Z"⟩, 11), (⟨"LoopBoard$Loop", "isSlot", "(I)Z"⟩, 11), (⟨"LoopBoard", "actsChanged", "()V"⟩, 9), (⟨"LoopBoard$Values", "valueOf", "(II)I"⟩, 2), (⟨"LoopBoard$Values", "operand", "(II)I"⟩, 2), (⟨"LoopBoard$Layout", "meetsOneAhead", "(I)Z"⟩, 5), (⟨"LoopBoard$Layout", "isLate", "(I)Z"⟩, 5), (⟨"LoopBoard$Layout", "usedAt", "(I)I"⟩, 5), (⟨"LoopBoard$Layout", "madeAt", "(I)I"⟩, 5)]
theorem lw_r1 : ∀ q ∈ lw_privs_1, lw_okq q := List.forall_mem_cons.mpr ⟨lw_p0, List.forall_mem_cons.mpr ⟨lw_p1, List.forall_mem_cons.mpr ⟨lw_p2, List.forall_mem_cons.mpr ⟨lw_p3, List.forall_mem_cons.mpr ⟨lw_p4, List.forall_mem_cons.mpr ⟨lw_p5, List.forall_mem_cons.mpr ⟨lw_p6, List.forall_mem_cons.mpr ⟨lw_p7, List.forall_mem_cons.mpr ⟨lw_p8, List.forall_mem_cons.mpr ⟨lw_p9, List.forall_mem_cons.mpr ⟨lw_p10, List.forall_mem_cons.mpr ⟨lw_p11, List.forall_mem_cons.mpr ⟨lw_p12, List.forall_mem_cons.mpr ⟨lw_p13, List.forall_mem_cons.mpr ⟨lw_p14, List.forall_mem_cons.mpr ⟨lw_p15, fun _ h => absurd h List.not_mem_nil⟩⟩⟩⟩⟩⟩⟩⟩⟩⟩⟩⟩⟩⟩⟩⟩
theorem lw_p16 : lw_okq (⟨"LoopBoard", "stepBeat", "(II)V"⟩, 9) := ⟨⟨by decide +kernel, by decide +kernel⟩, List.mem_of_getElem? (i := 12) (by decide +kernel), List.mem_of_getElem? (i := 512) (by decide +kernel), List.mem_of_getElem? (i := 513) (by decide +kernel)⟩
theorem lw_p17 : lw_okq (⟨"LoopBoard", "placesBound", "()I"⟩, 9) := ⟨⟨by decide +kernel, by decide +kernel⟩, List.mem_of_getElem? (i := 12) (by decide +kernel), List.mem_of_getElem? (i := 539) (by decide +kernel), List.mem_of_getElem? (i := 540) (by decide +kernel)⟩
theorem lw_p18 : lw_okq (⟨"LoopBoard$Loop", "ringsAllow", "(I)Z"⟩, 11) := ⟨⟨by decide +kernel, by decide +kernel⟩, List.mem_of_getElem? (i := 20) (by decide +kernel), List.mem_of_getElem? (i := 567) (by decide +kernel), List.mem_of_getElem? (i := 568) (by decide +kernel)⟩
theorem lw_p19 : lw_okq (⟨"LoopBoard$Loop", "delaysGrow", "(I)Z"⟩, 11) := ⟨⟨by decide +kernel, by decide +kernel⟩, List.mem_of_getElem? (i := 20) (by decide +kernel), List.mem_of_getElem? (i := 572) (by decide +kernel), List.mem_of_getElem? (i := 573) (by decide +kernel)⟩
theorem lw_p20 : lw_okq (⟨"LoopBoard$Search", "goesNext", "(I)Z"⟩, 9) := ⟨⟨by decide +kernel, by decide +kernel⟩, List.mem_of_getElem? (i := 141) (by decide +kernel), List.mem_of_getElem? (i := 588) (by decide +kernel), List.mem_of_getElem? (i := 589) (by decide +kernel)⟩
theorem lw_p21 : lw_okq (⟨"LoopBoard$Search", "isFree", "(I)Z"⟩, 9) := ⟨⟨by decide +kernel, by decide +kernel⟩, List.mem_of_getElem? (i := 141) (by decide +kernel), List.mem_of_getElem? (i := 592) (by decide +kernel), List.mem_of_getElem? (i := 593) (by decide +kernel)⟩
theorem lw_p22 : lw_okq (⟨"LoopBoard$Search", "measureGaps", "(I)Z"⟩, 9) := ⟨⟨by decide +kernel, by decide +kernel⟩, List.mem_of_getElem? (i := 141) (by decide +kernel), List.mem_of_getElem? (i := 599) (by decide +kernel), List.mem_of_getElem? (i := 600) (by decide +kernel)⟩
theorem lw_p23 : lw_okq (⟨"LoopBoard$Search", "turnsSettle", "(I)Z"⟩, 9) := ⟨⟨by decide +kernel, by decide +kernel⟩, List.mem_of_getElem? (i := 141) (by decide +kernel), List.mem_of_getElem? (i := 608) (by decide +kernel), List.mem_of_getElem? (i := 609) (by decide +kernel)⟩
theorem lw_p24 : lw_okq (⟨"LoopBoard$Search", "beginRow", "(I)V"⟩, 9) := ⟨⟨by decide +kernel, by decide +kernel⟩, List.mem_of_getElem? (i := 141) (by decide +kernel), List.mem_of_getElem? (i := 612) (by decide +kernel), List.mem_of_getElem? (i := 613) (by decide +kernel)⟩
theorem lw_p25 : lw_okq (⟨"LoopBoard", "takeFound", "(I)V"⟩, 9) := ⟨⟨by decide +kernel, by decide +kernel⟩, List.mem_of_getElem? (i := 12) (by decide +kernel), List.mem_of_getElem? (i := 624) (by decide +kernel), List.mem_of_getElem? (i := 625) (by decide +kernel)⟩
theorem lw_p26 : lw_okq (⟨"LoopBoardModel", "whole", "()V"⟩, 24) := ⟨⟨by decide +kernel, by decide +kernel⟩, List.mem_of_getElem? (i := 657) (by decide +kernel), List.mem_of_getElem? (i := 663) (by decide +kernel), List.mem_of_getElem? (i := 664) (by decide +kernel)⟩
theorem lw_p27 : lw_okq (⟨"LoopBoardModel", "enter", "(I)I"⟩, 24) := ⟨⟨by decide +kernel, by decide +kernel⟩, List.mem_of_getElem? (i := 657) (by decide +kernel), List.mem_of_getElem? (i := 749) (by decide +kernel), List.mem_of_getElem? (i := 750) (by decide +kernel)⟩
theorem lw_p28 : lw_okq (⟨"LoopBoardModel", "isSound", "()Z"⟩, 24) := ⟨⟨by decide +kernel, by decide +kernel⟩, List.mem_of_getElem? (i := 657) (by decide +kernel), List.mem_of_getElem? (i := 772) (by decide +kernel), List.mem_of_getElem? (i := 773) (by decide +kernel)⟩
theorem lw_p29 : lw_okq (⟨"LoopBoardModel", "isAct", "(I)Z"⟩, 24) := ⟨⟨by decide +kernel, by decide +kernel⟩, List.mem_of_getElem? (i := 657) (by decide +kernel), List.mem_of_getElem? (i := 776) (by decide +kernel), List.mem_of_getElem? (i := 777) (by decide +kernel)⟩
theorem lw_p30 : lw_okq (⟨"LoopBoardModel", "isReady", "(I)Z"⟩, 24) := ⟨⟨by decide +kernel, by decide +kernel⟩, List.mem_of_getElem? (i := 657) (by decide +kernel), List.mem_of_getElem? (i := 780) (by decide +kernel), List.mem_of_getElem? (i := 781) (by decide +kernel)⟩
theorem lw_p31 : lw_okq (⟨"LoopBoardModel", "workTo", "(I)V"⟩, 24) := ⟨⟨by decide +kernel, by decide +kernel⟩, List.mem_of_getElem? (i := 657) (by decide +kernel), List.mem_of_getElem? (i := 791) (by decide +kernel), List.mem_of_getElem? (i := 792) (by decide +kernel)⟩
def lw_privs_2 : List (MethodName × Nat) := [(⟨"LoopBoard", "stepBeat", "(II)V"⟩, 9), (⟨"LoopBoard", "placesBound", "()I"⟩, 9), (⟨"LoopBoard$Loop", "ringsAllow", "(I)Z"⟩, 11), (⟨"LoopBoard$Loop", "delaysGrow", "(I)Z"⟩, 11), (⟨"LoopBoard$Search", "goesNext", "(I)Z"⟩, 9), (⟨"LoopBoard$Search", "isFree", "(I)Z"⟩, 9), (⟨"LoopBoard$Search", "measureGaps", "(I)Z"⟩, 9), (⟨"LoopBoard$Search", "turnsSettle", "(I)Z"⟩, 9), (⟨"LoopBoard$Search", "beginRow", "(I)V"⟩, 9), (⟨"LoopBoard", "takeFound", "(I)V"⟩, 9), (⟨"LoopBoardModel", "whole", "()V"⟩, 24), (⟨"LoopBoardModel", "enter", "(I)I"⟩, 24), (⟨"LoopBoardModel", "isSound", "()Z"⟩, 24), (⟨"LoopBoardModel", "isAct", "(I)Z"⟩, 24), (⟨"LoopBoardModel", "isReady", "(I)Z"⟩, 24), (⟨"LoopBoardModel", "workTo", "(I)V"⟩, 24)]
theorem lw_r2 : ∀ q ∈ lw_privs_2, lw_okq q := List.forall_mem_cons.mpr ⟨lw_p16, List.forall_mem_cons.mpr ⟨lw_p17, List.forall_mem_cons.mpr ⟨lw_p18, List.forall_mem_cons.mpr ⟨lw_p19, List.forall_mem_cons.mpr ⟨lw_p20, List.forall_mem_cons.mpr ⟨lw_p21, List.forall_mem_cons.mpr ⟨lw_p22, List.forall_mem_cons.mpr ⟨lw_p23, List.forall_mem_cons.mpr ⟨lw_p24, List.forall_mem_cons.mpr ⟨lw_p25, List.forall_mem_cons.mpr ⟨lw_p26, List.forall_mem_cons.mpr ⟨lw_p27, List.forall_mem_cons.mpr ⟨lw_p28, List.forall_mem_cons.mpr ⟨lw_p29, List.forall_mem_cons.mpr ⟨lw_p30, List.forall_mem_cons.mpr ⟨lw_p31, fun _ h => absurd h List.not_mem_nil⟩⟩⟩⟩⟩⟩⟩⟩⟩⟩⟩⟩⟩⟩⟩⟩
theorem lw_p32 : lw_okq (⟨"LoopBoardModel", "made", "(II)I"⟩, 24) := ⟨⟨by decide +kernel, by decide +kernel⟩, List.mem_of_getElem? (i := 657) (by decide +kernel), List.mem_of_getElem? (i := 795) (by decide +kernel), List.mem_of_getElem? (i := 796) (by decide +kernel)⟩
theorem lw_p33 : lw_okq (⟨"LoopBoardModel", "valueOf", "(II)I"⟩, 24) := ⟨⟨by decide +kernel, by decide +kernel⟩, List.mem_of_getElem? (i := 657) (by decide +kernel), List.mem_of_getElem? (i := 799) (by decide +kernel), List.mem_of_getElem? (i := 800) (by decide +kernel)⟩
theorem lw_p34 : lw_okq (⟨"LoopBoardModel", "lengthOf", "(I)I"⟩, 24) := ⟨⟨by decide +kernel, by decide +kernel⟩, List.mem_of_getElem? (i := 657) (by decide +kernel), List.mem_of_getElem? (i := 807) (by decide +kernel), List.mem_of_getElem? (i := 808) (by decide +kernel)⟩
theorem lw_p35 : lw_okq (⟨"LoopBoardModel", "cells", "()I"⟩, 24) := ⟨⟨by decide +kernel, by decide +kernel⟩, List.mem_of_getElem? (i := 657) (by decide +kernel), List.mem_of_getElem? (i := 815) (by decide +kernel), List.mem_of_getElem? (i := 816) (by decide +kernel)⟩
theorem lw_p36 : lw_okq (⟨"LoopBoardModel", "isCell", "(I)Z"⟩, 24) := ⟨⟨by decide +kernel, by decide +kernel⟩, List.mem_of_getElem? (i := 657) (by decide +kernel), List.mem_of_getElem? (i := 823) (by decide +kernel), List.mem_of_getElem? (i := 824) (by decide +kernel)⟩
theorem lw_p37 : lw_okq (⟨"LoopBoardModel", "wayOf", "(II)I"⟩, 24) := ⟨⟨by decide +kernel, by decide +kernel⟩, List.mem_of_getElem? (i := 657) (by decide +kernel), List.mem_of_getElem? (i := 835) (by decide +kernel), List.mem_of_getElem? (i := 836) (by decide +kernel)⟩
theorem lw_p38 : lw_okq (⟨"LoopBoardModel", "areBeside", "(II)Z"⟩, 24) := ⟨⟨by decide +kernel, by decide +kernel⟩, List.mem_of_getElem? (i := 657) (by decide +kernel), List.mem_of_getElem? (i := 839) (by decide +kernel), List.mem_of_getElem? (i := 840) (by decide +kernel)⟩
theorem lw_p39 : lw_okq (⟨"LoopBoardModel", "lacking", "()I"⟩, 24) := ⟨⟨by decide +kernel, by decide +kernel⟩, List.mem_of_getElem? (i := 657) (by decide +kernel), List.mem_of_getElem? (i := 857) (by decide +kernel), List.mem_of_getElem? (i := 858) (by decide +kernel)⟩
theorem lw_p40 : lw_okq (⟨"LoopBoardModel", "isLate", "(I)Z"⟩, 24) := ⟨⟨by decide +kernel, by decide +kernel⟩, List.mem_of_getElem? (i := 657) (by decide +kernel), List.mem_of_getElem? (i := 861) (by decide +kernel), List.mem_of_getElem? (i := 862) (by decide +kernel)⟩
theorem lw_p41 : lw_okq (⟨"LoopBoardModel", "whyNot", "()I"⟩, 24) := ⟨⟨by decide +kernel, by decide +kernel⟩, List.mem_of_getElem? (i := 657) (by decide +kernel), List.mem_of_getElem? (i := 873) (by decide +kernel), List.mem_of_getElem? (i := 874) (by decide +kernel)⟩
theorem lw_p42 : lw_okq (⟨"LoopBoardModel", "places", "()I"⟩, 24) := ⟨⟨by decide +kernel, by decide +kernel⟩, List.mem_of_getElem? (i := 657) (by decide +kernel), List.mem_of_getElem? (i := 896) (by decide +kernel), List.mem_of_getElem? (i := 897) (by decide +kernel)⟩
theorem lw_p43 : lw_okq (⟨"LoopBoardModel", "rings", "()I"⟩, 24) := ⟨⟨by decide +kernel, by decide +kernel⟩, List.mem_of_getElem? (i := 657) (by decide +kernel), List.mem_of_getElem? (i := 900) (by decide +kernel), List.mem_of_getElem? (i := 901) (by decide +kernel)⟩
theorem lw_p44 : lw_okq (⟨"LoopBoardModel", "ringsHold", "(I)Z"⟩, 24) := ⟨⟨by decide +kernel, by decide +kernel⟩, List.mem_of_getElem? (i := 657) (by decide +kernel), List.mem_of_getElem? (i := 904) (by decide +kernel), List.mem_of_getElem? (i := 905) (by decide +kernel)⟩
theorem lw_p45 : lw_okq (⟨"LoopBoardModel", "search", "(I)I"⟩, 24) := ⟨⟨by decide +kernel, by decide +kernel⟩, List.mem_of_getElem? (i := 657) (by decide +kernel), List.mem_of_getElem? (i := 912) (by decide +kernel), List.mem_of_getElem? (i := 913) (by decide +kernel)⟩
theorem lw_p46 : lw_okq (⟨"LoopBoardModel", "goesAt", "(II)Z"⟩, 24) := ⟨⟨by decide +kernel, by decide +kernel⟩, List.mem_of_getElem? (i := 657) (by decide +kernel), List.mem_of_getElem? (i := 916) (by decide +kernel), List.mem_of_getElem? (i := 917) (by decide +kernel)⟩
theorem lw_p47 : lw_okq (⟨"LoopBoardModel", "canStart", "(II)Z"⟩, 24) := ⟨⟨by decide +kernel, by decide +kernel⟩, List.mem_of_getElem? (i := 657) (by decide +kernel), List.mem_of_getElem? (i := 920) (by decide +kernel), List.mem_of_getElem? (i := 921) (by decide +kernel)⟩
def lw_privs_3 : List (MethodName × Nat) := [(⟨"LoopBoardModel", "made", "(II)I"⟩, 24), (⟨"LoopBoardModel", "valueOf", "(II)I"⟩, 24), (⟨"LoopBoardModel", "lengthOf", "(I)I"⟩, 24), (⟨"LoopBoardModel", "cells", "()I"⟩, 24), (⟨"LoopBoardModel", "isCell", "(I)Z"⟩, 24), (⟨"LoopBoardModel", "wayOf", "(II)I"⟩, 24), (⟨"LoopBoardModel", "areBeside", "(II)Z"⟩, 24), (⟨"LoopBoardModel", "lacking", "()I"⟩, 24), (⟨"LoopBoardModel", "isLate", "(I)Z"⟩, 24), (⟨"LoopBoardModel", "whyNot", "()I"⟩, 24), (⟨"LoopBoardModel", "places", "()I"⟩, 24), (⟨"LoopBoardModel", "rings", "()I"⟩, 24), (⟨"LoopBoardModel", "ringsHold", "(I)Z"⟩, 24), (⟨"LoopBoardModel", "search", "(I)I"⟩, 24), (⟨"LoopBoardModel", "goesAt", "(II)Z"⟩, 24), (⟨"LoopBoardModel", "canStart", "(II)Z"⟩, 24)]
theorem lw_r3 : ∀ q ∈ lw_privs_3, lw_okq q := List.forall_mem_cons.mpr ⟨lw_p32, List.forall_mem_cons.mpr ⟨lw_p33, List.forall_mem_cons.mpr ⟨lw_p34, List.forall_mem_cons.mpr ⟨lw_p35, List.forall_mem_cons.mpr ⟨lw_p36, List.forall_mem_cons.mpr ⟨lw_p37, List.forall_mem_cons.mpr ⟨lw_p38, List.forall_mem_cons.mpr ⟨lw_p39, List.forall_mem_cons.mpr ⟨lw_p40, List.forall_mem_cons.mpr ⟨lw_p41, List.forall_mem_cons.mpr ⟨lw_p42, List.forall_mem_cons.mpr ⟨lw_p43, List.forall_mem_cons.mpr ⟨lw_p44, List.forall_mem_cons.mpr ⟨lw_p45, List.forall_mem_cons.mpr ⟨lw_p46, List.forall_mem_cons.mpr ⟨lw_p47, fun _ h => absurd h List.not_mem_nil⟩⟩⟩⟩⟩⟩⟩⟩⟩⟩⟩⟩⟩⟩⟩⟩
def lw_privs : List (MethodName × Nat) := lw_privs_1 ++ (lw_privs_2 ++ (lw_privs_3))
def lw_tbl : List Cond := k2_sels lw_privs ++ tables_1
theorem lw_privs_ok : ∀ q ∈ lw_privs, lw_okq q := by
  show ∀ q ∈ lw_privs_1 ++ (lw_privs_2 ++ (lw_privs_3)), lw_okq q
  exact List.forall_mem_append.mpr ⟨lw_r1, List.forall_mem_append.mpr ⟨lw_r2, lw_r3⟩⟩
def RX0 : String := "LoopBoard$Grid"
def TX0 : u_T := fun k => match k with
  | 0 => ("LoopBoard$Grid", "broken", "[Z", true)
  | 1 => ("LoopBoard$Grid", "multiplying", "[Z", true)
  | 2 => ("LoopBoard$Grid", "ways", "[I", true)
  | 3 => ("LoopBoard$Grid", "rows", "I", false)
  | _ => ("LoopBoard$Grid", "columns", "I", false)
def tyX0 : Nat → FieldType := fun k => match k with
  | 0 => .array .boolean
  | 1 => .array .boolean
  | 2 => .array .int
  | 3 => .int
  | _ => .int
abbrev wsX00 : List Cond := u_ws RX0 TX0 5
theorem nmX0 : ∀ a, a < 5 → ∀ b, b < 5 → a ≠ b → (TX0 a).2.1 ≠ (TX0 b).2.1 := by decide +kernel
theorem tyX0_ok : ∀ k, k < 5 → parseFieldDescriptor (TX0 k).2.2.1 = some (tyX0 k) := by decide +kernel
abbrev cX0_init : ByteArray := prog_2_method_1_code
def yX0_init : MethodName := ⟨RX0, "<init>", "()V"⟩
abbrev cX0_renew : ByteArray := prog_2_method_2_code
def yX0_renew : MethodName := ⟨RX0, "renew", "(II)V"⟩
abbrev cX0_rows : ByteArray := prog_2_method_3_code
def yX0_rows : MethodName := ⟨RX0, "rows", "()I"⟩
abbrev cX0_columns : ByteArray := prog_2_method_4_code
def yX0_columns : MethodName := ⟨RX0, "columns", "()I"⟩
abbrev cX0_cells : ByteArray := prog_2_method_5_code
def yX0_cells : MethodName := ⟨RX0, "cells", "()I"⟩
abbrev cX0_isThere : ByteArray := prog_2_method_6_code
def yX0_isThere : MethodName := ⟨RX0, "isThere", "(I)Z"⟩
abbrev cX0_isBroken : ByteArray := prog_2_method_7_code
def yX0_isBroken : MethodName := ⟨RX0, "isBroken", "(I)Z"⟩
abbrev cX0_isMultiplying : ByteArray := prog_2_method_8_code
def yX0_isMultiplying : MethodName := ⟨RX0, "isMultiplying", "(I)Z"⟩
abbrev cX0_setBroken : ByteArray := prog_2_method_9_code
def yX0_setBroken : MethodName := ⟨RX0, "setBroken", "(IZ)V"⟩
abbrev cX0_setMultiplying : ByteArray := prog_2_method_10_code
def yX0_setMultiplying : MethodName := ⟨RX0, "setMultiplying", "(IZ)V"⟩
abbrev cX0_isOpen : ByteArray := prog_2_method_11_code
def yX0_isOpen : MethodName := ⟨RX0, "isOpen", "(I)Z"⟩
abbrev cX0_suits : ByteArray := prog_2_method_12_code
def yX0_suits : MethodName := ⟨RX0, "suits", "(II)Z"⟩
abbrev cX0_unbroken : ByteArray := prog_2_method_13_code
def yX0_unbroken : MethodName := ⟨RX0, "unbroken", "()I"⟩
abbrev cX0_unbrokenMultiplying : ByteArray := prog_2_method_14_code
def yX0_unbrokenMultiplying : MethodName := ⟨RX0, "unbrokenMultiplying", "()I"⟩
abbrev cX0_wayBetween : ByteArray := prog_2_method_15_code
def yX0_wayBetween : MethodName := ⟨RX0, "wayBetween", "(II)I"⟩
abbrev cX0_measure : ByteArray := prog_2_method_16_code
def yX0_measure : MethodName := ⟨RX0, "measure", "()V"⟩
abbrev cX0_shortenThrough : ByteArray := prog_2_method_17_code
def yX0_shortenThrough : MethodName := ⟨RX0, "shortenThrough", "(I)V"⟩
abbrev cX0_singleStep : ByteArray := prog_2_method_18_code
def yX0_singleStep : MethodName := ⟨RX0, "singleStep", "(II)I"⟩
abbrev cX0_areNeighbours : ByteArray := prog_2_method_19_code
def yX0_areNeighbours : MethodName := ⟨RX0, "areNeighbours", "(II)Z"⟩
def RX1 : String := "LoopBoard$Layout"
def TX1 : u_T := fun k => match k with
  | 0 => ("LoopBoard$Layout", "loop", "LLoopBoard$Loop;", true)
  | 1 => ("LoopBoard$Layout", "grid", "LLoopBoard$Grid;", true)
  | 2 => ("LoopBoard$Layout", "cells", "[I", true)
  | 3 => ("LoopBoard$Layout", "starts", "[I", true)
  | _ => ("LoopBoard$Layout", "beat", "I", false)
def tyX1 : Nat → FieldType := fun k => match k with
  | 0 => .object "LoopBoard$Loop"
  | 1 => .object "LoopBoard$Grid"
  | 2 => .array .int
  | 3 => .array .int
  | _ => .int
abbrev wsX10 : List Cond := u_ws RX1 TX1 5
theorem nmX1 : ∀ a, a < 5 → ∀ b, b < 5 → a ≠ b → (TX1 a).2.1 ≠ (TX1 b).2.1 := by decide +kernel
theorem tyX1_ok : ∀ k, k < 5 → parseFieldDescriptor (TX1 k).2.2.1 = some (tyX1 k) := by decide +kernel
abbrev cX1_init : ByteArray := prog_3_method_1_code
def yX1_init : MethodName := ⟨RX1, "<init>", "(LLoopBoard$Loop;LLoopBoard$Grid;)V"⟩
abbrev cX1_beat : ByteArray := prog_3_method_2_code
def yX1_beat : MethodName := ⟨RX1, "beat", "()I"⟩
abbrev cX1_stands : ByteArray := prog_3_method_3_code
def yX1_stands : MethodName := ⟨RX1, "stands", "()Z"⟩
abbrev cX1_drop : ByteArray := prog_3_method_4_code
def yX1_drop : MethodName := ⟨RX1, "drop", "()V"⟩
abbrev cX1_begin : ByteArray := prog_3_method_5_code
def yX1_begin : MethodName := ⟨RX1, "begin", "(I)V"⟩
abbrev cX1_put : ByteArray := prog_3_method_6_code
def yX1_put : MethodName := ⟨RX1, "put", "(III)V"⟩
abbrev cX1_cellOf : ByteArray := prog_3_method_7_code
def yX1_cellOf : MethodName := ⟨RX1, "cellOf", "(I)I"⟩
abbrev cX1_startOf : ByteArray := prog_3_method_8_code
def yX1_startOf : MethodName := ⟨RX1, "startOf", "(I)I"⟩
abbrev cX1_madeAt : ByteArray := prog_3_method_9_code
def yX1_madeAt : MethodName := ⟨RX1, "madeAt", "(I)I"⟩
abbrev cX1_isGood : ByteArray := prog_3_method_10_code
def yX1_isGood : MethodName := ⟨RX1, "isGood", "()Z"⟩
abbrev cX1_firstLack : ByteArray := prog_3_method_11_code
def yX1_firstLack : MethodName := ⟨RX1, "firstLack", "()I"⟩
abbrev cX1_meetsOneAhead : ByteArray := prog_3_method_12_code
def yX1_meetsOneAhead : MethodName := ⟨RX1, "meetsOneAhead", "(I)Z"⟩
abbrev cX1_isLate : ByteArray := prog_3_method_13_code
def yX1_isLate : MethodName := ⟨RX1, "isLate", "(I)Z"⟩
abbrev cX1_usedAt : ByteArray := prog_3_method_14_code
def yX1_usedAt : MethodName := ⟨RX1, "usedAt", "(I)I"⟩
abbrev cX1_mostKept : ByteArray := prog_3_method_15_code
def yX1_mostKept : MethodName := ⟨RX1, "mostKept", "(I)I"⟩
abbrev cX1_endOf : ByteArray := prog_3_method_16_code
def yX1_endOf : MethodName := ⟨RX1, "endOf", "(I)I"⟩
abbrev cX1_roundStarting : ByteArray := prog_3_method_17_code
def yX1_roundStarting : MethodName := ⟨RX1, "roundStarting", "(II)I"⟩
abbrev cX1_actStarting : ByteArray := prog_3_method_18_code
def yX1_actStarting : MethodName := ⟨RX1, "actStarting", "(II)I"⟩
def RX2 : String := "LoopBoard$Loop"
def TX2 : u_T := fun k => match k with
  | 0 => ("LoopBoard$Loop", "kinds", "[I", true)
  | 1 => ("LoopBoard$Loop", "factors", "[I", true)
  | 2 => ("LoopBoard$Loop", "addends", "[I", true)
  | 3 => ("LoopBoard$Loop", "sources", "[I", true)
  | 4 => ("LoopBoard$Loop", "distances", "[I", true)
  | 5 => ("LoopBoard$Loop", "order", "[I", true)
  | 6 => ("LoopBoard$Loop", "isOrdered", "[Z", true)
  | 7 => ("LoopBoard$Loop", "delays", "[I", true)
  | 8 => ("LoopBoard$Loop", "count", "I", false)
  | 9 => ("LoopBoard$Loop", "ordered", "I", false)
  | _ => ("LoopBoard$Loop", "firstNumber", "I", false)
def tyX2 : Nat → FieldType := fun k => match k with
  | 0 => .array .int
  | 1 => .array .int
  | 2 => .array .int
  | 3 => .array .int
  | 4 => .array .int
  | 5 => .array .int
  | 6 => .array .boolean
  | 7 => .array .int
  | 8 => .int
  | 9 => .int
  | _ => .int
abbrev wsX20 : List Cond := u_ws RX2 TX2 11
theorem nmX2 : ∀ a, a < 11 → ∀ b, b < 11 → a ≠ b → (TX2 a).2.1 ≠ (TX2 b).2.1 := by decide +kernel
theorem tyX2_ok : ∀ k, k < 11 → parseFieldDescriptor (TX2 k).2.2.1 = some (tyX2 k) := by decide +kernel
abbrev cX2_init : ByteArray := prog_4_method_1_code
def yX2_init : MethodName := ⟨RX2, "<init>", "()V"⟩
abbrev cX2_count : ByteArray := prog_4_method_2_code
def yX2_count : MethodName := ⟨RX2, "count", "()I"⟩
abbrev cX2_firstNumber : ByteArray := prog_4_method_3_code
def yX2_firstNumber : MethodName := ⟨RX2, "firstNumber", "()I"⟩
abbrev cX2_setFirstNumber : ByteArray := prog_4_method_4_code
def yX2_setFirstNumber : MethodName := ⟨RX2, "setFirstNumber", "(I)V"⟩
abbrev cX2_isThere : ByteArray := prog_4_method_5_code
def yX2_isThere : MethodName := ⟨RX2, "isThere", "(I)Z"⟩
abbrev cX2_isSlot : ByteArray := prog_4_method_6_code
def yX2_isSlot : MethodName := ⟨RX2, "isSlot", "(I)Z"⟩
abbrev cX2_isSound : ByteArray := prog_4_method_7_code
def yX2_isSound : MethodName := ⟨RX2, "isSound", "()Z"⟩
abbrev cX2_kindOf : ByteArray := prog_4_method_8_code
def yX2_kindOf : MethodName := ⟨RX2, "kindOf", "(I)I"⟩
abbrev cX2_lengthOf : ByteArray := prog_4_method_9_code
def yX2_lengthOf : MethodName := ⟨RX2, "lengthOf", "(I)I"⟩
abbrev cX2_factorOf : ByteArray := prog_4_method_10_code
def yX2_factorOf : MethodName := ⟨RX2, "factorOf", "(I)I"⟩
abbrev cX2_addendOf : ByteArray := prog_4_method_11_code
def yX2_addendOf : MethodName := ⟨RX2, "addendOf", "(I)I"⟩
abbrev cX2_sourceOf : ByteArray := prog_4_method_12_code
def yX2_sourceOf : MethodName := ⟨RX2, "sourceOf", "(I)I"⟩
abbrev cX2_distanceOf : ByteArray := prog_4_method_13_code
def yX2_distanceOf : MethodName := ⟨RX2, "distanceOf", "(I)I"⟩
abbrev cX2_actInOrder : ByteArray := prog_4_method_14_code
def yX2_actInOrder : MethodName := ⟨RX2, "actInOrder", "(I)I"⟩
abbrev cX2_addInput : ByteArray := prog_4_method_15_code
def yX2_addInput : MethodName := ⟨RX2, "addInput", "(II)I"⟩
abbrev cX2_addWork : ByteArray := prog_4_method_16_code
def yX2_addWork : MethodName := ⟨RX2, "addWork", "(IIIII)I"⟩
abbrev cX2_setOperand : ByteArray := prog_4_method_17_code
def yX2_setOperand : MethodName := ⟨RX2, "setOperand", "(III)V"⟩
abbrev cX2_empty : ByteArray := prog_4_method_18_code
def yX2_empty : MethodName := ⟨RX2, "empty", "()V"⟩
abbrev cX2_arrange : ByteArray := prog_4_method_19_code
def yX2_arrange : MethodName := ⟨RX2, "arrange", "()V"⟩
abbrev cX2_canFollow : ByteArray := prog_4_method_20_code
def yX2_canFollow : MethodName := ⟨RX2, "canFollow", "(I)Z"⟩
abbrev cX2_products : ByteArray := prog_4_method_21_code
def yX2_products : MethodName := ⟨RX2, "products", "()I"⟩
abbrev cX2_ringsBound : ByteArray := prog_4_method_22_code
def yX2_ringsBound : MethodName := ⟨RX2, "ringsBound", "()I"⟩
abbrev cX2_ringsAllow : ByteArray := prog_4_method_23_code
def yX2_ringsAllow : MethodName := ⟨RX2, "ringsAllow", "(I)Z"⟩
abbrev cX2_delaysGrow : ByteArray := prog_4_method_24_code
def yX2_delaysGrow : MethodName := ⟨RX2, "delaysGrow", "(I)Z"⟩
def RX3 : String := "LoopBoard$Search"
def TX3 : u_T := fun k => match k with
  | 0 => ("LoopBoard$Search", "loop", "LLoopBoard$Loop;", true)
  | 1 => ("LoopBoard$Search", "grid", "LLoopBoard$Grid;", true)
  | 2 => ("LoopBoard$Search", "cells", "[I", true)
  | 3 => ("LoopBoard$Search", "leftOvers", "[I", true)
  | 4 => ("LoopBoard$Search", "nextTries", "[I", true)
  | 5 => ("LoopBoard$Search", "gaps", "[I", true)
  | 6 => ("LoopBoard$Search", "turns", "[I", true)
  | 7 => ("LoopBoard$Search", "beat", "I", false)
  | _ => ("LoopBoard$Search", "tries", "I", false)
def tyX3 : Nat → FieldType := fun k => match k with
  | 0 => .object "LoopBoard$Loop"
  | 1 => .object "LoopBoard$Grid"
  | 2 => .array .int
  | 3 => .array .int
  | 4 => .array .int
  | 5 => .array .int
  | 6 => .array .int
  | 7 => .int
  | _ => .int
abbrev wsX30 : List Cond := u_ws RX3 TX3 9
theorem nmX3 : ∀ a, a < 9 → ∀ b, b < 9 → a ≠ b → (TX3 a).2.1 ≠ (TX3 b).2.1 := by decide +kernel
theorem tyX3_ok : ∀ k, k < 9 → parseFieldDescriptor (TX3 k).2.2.1 = some (tyX3 k) := by decide +kernel
abbrev cX3_init : ByteArray := prog_5_method_1_code
def yX3_init : MethodName := ⟨RX3, "<init>", "(LLoopBoard$Loop;LLoopBoard$Grid;)V"⟩
abbrev cX3_triesMade : ByteArray := prog_5_method_2_code
def yX3_triesMade : MethodName := ⟨RX3, "triesMade", "()I"⟩
abbrev cX3_cellOf : ByteArray := prog_5_method_3_code
def yX3_cellOf : MethodName := ⟨RX3, "cellOf", "(I)I"⟩
abbrev cX3_startOf : ByteArray := prog_5_method_4_code
def yX3_startOf : MethodName := ⟨RX3, "startOf", "(I)I"⟩
abbrev cX3_run : ByteArray := prog_5_method_5_code
def yX3_run : MethodName := ⟨RX3, "run", "(I)I"⟩
abbrev cX3_goesNext : ByteArray := prog_5_method_6_code
def yX3_goesNext : MethodName := ⟨RX3, "goesNext", "(I)Z"⟩
abbrev cX3_isFree : ByteArray := prog_5_method_7_code
def yX3_isFree : MethodName := ⟨RX3, "isFree", "(I)Z"⟩
abbrev cX3_measureGaps : ByteArray := prog_5_method_8_code
def yX3_measureGaps : MethodName := ⟨RX3, "measureGaps", "(I)Z"⟩
abbrev cX3_turnsSettle : ByteArray := prog_5_method_9_code
def yX3_turnsSettle : MethodName := ⟨RX3, "turnsSettle", "(I)Z"⟩
abbrev cX3_beginRow : ByteArray := prog_5_method_10_code
def yX3_beginRow : MethodName := ⟨RX3, "beginRow", "(I)V"⟩
def RX4 : String := "LoopBoard$Values"
def TX4 : u_T := fun k => match k with
  | 0 => ("LoopBoard$Values", "loop", "LLoopBoard$Loop;", true)
  | _ => ("LoopBoard$Values", "made", "[I", true)
def tyX4 : Nat → FieldType := fun k => match k with
  | 0 => .object "LoopBoard$Loop"
  | _ => .array .int
abbrev wsX40 : List Cond := u_ws RX4 TX4 2
theorem nmX4 : ∀ a, a < 2 → ∀ b, b < 2 → a ≠ b → (TX4 a).2.1 ≠ (TX4 b).2.1 := by decide +kernel
theorem tyX4_ok : ∀ k, k < 2 → parseFieldDescriptor (TX4 k).2.2.1 = some (tyX4 k) := by decide +kernel
abbrev cX4_init : ByteArray := prog_6_method_1_code
def yX4_init : MethodName := ⟨RX4, "<init>", "(LLoopBoard$Loop;)V"⟩
abbrev cX4_at : ByteArray := prog_6_method_2_code
def yX4_at : MethodName := ⟨RX4, "at", "(II)I"⟩
abbrev cX4_isPlace : ByteArray := prog_6_method_3_code
def yX4_isPlace : MethodName := ⟨RX4, "isPlace", "(II)Z"⟩
abbrev cX4_makeRound : ByteArray := prog_6_method_4_code
def yX4_makeRound : MethodName := ⟨RX4, "makeRound", "(I)V"⟩
abbrev cX4_make : ByteArray := prog_6_method_5_code
def yX4_make : MethodName := ⟨RX4, "make", "(II)V"⟩
abbrev cX4_valueOf : ByteArray := prog_6_method_6_code
def yX4_valueOf : MethodName := ⟨RX4, "valueOf", "(II)I"⟩
abbrev cX4_operand : ByteArray := prog_6_method_7_code
def yX4_operand : MethodName := ⟨RX4, "operand", "(II)I"⟩
def RX5 : String := "LoopBoard"
def TX5 : u_T := fun k => match k with
  | 0 => ("LoopBoard", "loop", "LLoopBoard$Loop;", true)
  | 1 => ("LoopBoard", "grid", "LLoopBoard$Grid;", true)
  | 2 => ("LoopBoard", "layout", "LLoopBoard$Layout;", true)
  | 3 => ("LoopBoard", "search", "LLoopBoard$Search;", true)
  | 4 => ("LoopBoard", "plainValues", "LLoopBoard$Values;", true)
  | 5 => ("LoopBoard", "steppedValues", "LLoopBoard$Values;", true)
  | 6 => ("LoopBoard", "plainRounds", "I", false)
  | 7 => ("LoopBoard", "steppedRounds", "I", false)
  | _ => ("LoopBoard", "latestTries", "I", false)
def tyX5 : Nat → FieldType := fun k => match k with
  | 0 => .object "LoopBoard$Loop"
  | 1 => .object "LoopBoard$Grid"
  | 2 => .object "LoopBoard$Layout"
  | 3 => .object "LoopBoard$Search"
  | 4 => .object "LoopBoard$Values"
  | 5 => .object "LoopBoard$Values"
  | 6 => .int
  | 7 => .int
  | _ => .int
abbrev wsX50 : List Cond := u_ws RX5 TX5 9
theorem nmX5 : ∀ a, a < 9 → ∀ b, b < 9 → a ≠ b → (TX5 a).2.1 ≠ (TX5 b).2.1 := by decide +kernel
theorem tyX5_ok : ∀ k, k < 9 → parseFieldDescriptor (TX5 k).2.2.1 = some (tyX5 k) := by decide +kernel
abbrev cX5_init : ByteArray := prog_1_method_1_code
def yX5_init : MethodName := ⟨RX5, "<init>", "()V"⟩
abbrev cX5_input : ByteArray := prog_1_method_2_code
def yX5_input : MethodName := ⟨RX5, "input", "(II)I"⟩
abbrev cX5_act : ByteArray := prog_1_method_3_code
def yX5_act : MethodName := ⟨RX5, "act", "(IIIII)I"⟩
abbrev cX5_first : ByteArray := prog_1_method_4_code
def yX5_first : MethodName := ⟨RX5, "first", "(I)I"⟩
abbrev cX5_clear : ByteArray := prog_1_method_5_code
def yX5_clear : MethodName := ⟨RX5, "clear", "()I"⟩
abbrev cX5_sound : ByteArray := prog_1_method_6_code
def yX5_sound : MethodName := ⟨RX5, "sound", "()I"⟩
abbrev cX5_plain : ByteArray := prog_1_method_7_code
def yX5_plain : MethodName := ⟨RX5, "plain", "(II)J"⟩
abbrev cX5_about : ByteArray := prog_1_method_8_code
def yX5_about : MethodName := ⟨RX5, "about", "(II)I"⟩
abbrev cX5_board : ByteArray := prog_1_method_9_code
def yX5_board : MethodName := ⟨RX5, "board", "(II)I"⟩
abbrev cX5_breaks : ByteArray := prog_1_method_10_code
def yX5_breaks : MethodName := ⟨RX5, "breaks", "(IZ)I"⟩
abbrev cX5_multiplies : ByteArray := prog_1_method_11_code
def yX5_multiplies : MethodName := ⟨RX5, "multiplies", "(IZ)I"⟩
abbrev cX5_way : ByteArray := prog_1_method_12_code
def yX5_way : MethodName := ⟨RX5, "way", "(II)I"⟩
abbrev cX5_plan : ByteArray := prog_1_method_13_code
def yX5_plan : MethodName := ⟨RX5, "plan", "(I)I"⟩
abbrev cX5_lay : ByteArray := prog_1_method_14_code
def yX5_lay : MethodName := ⟨RX5, "lay", "(III)I"⟩
abbrev cX5_lacks : ByteArray := prog_1_method_15_code
def yX5_lacks : MethodName := ⟨RX5, "lacks", "()I"⟩
abbrev cX5_laid : ByteArray := prog_1_method_16_code
def yX5_laid : MethodName := ⟨RX5, "laid", "(II)I"⟩
abbrev cX5_kept : ByteArray := prog_1_method_17_code
def yX5_kept : MethodName := ⟨RX5, "kept", "(I)I"⟩
abbrev cX5_step : ByteArray := prog_1_method_18_code
def yX5_step : MethodName := ⟨RX5, "step", "(I)I"⟩
abbrev cX5_stepped : ByteArray := prog_1_method_19_code
def yX5_stepped : MethodName := ⟨RX5, "stepped", "(II)J"⟩
abbrev cX5_works : ByteArray := prog_1_method_20_code
def yX5_works : MethodName := ⟨RX5, "works", "(II)I"⟩
abbrev cX5_bound : ByteArray := prog_1_method_21_code
def yX5_bound : MethodName := ⟨RX5, "bound", "(I)I"⟩
abbrev cX5_find : ByteArray := prog_1_method_22_code
def yX5_find : MethodName := ⟨RX5, "find", "()I"⟩
abbrev cX5_tries : ByteArray := prog_1_method_23_code
def yX5_tries : MethodName := ⟨RX5, "tries", "()I"⟩
abbrev cX5_told : ByteArray := prog_1_method_24_code
def yX5_told : MethodName := ⟨RX5, "told", "(I)I"⟩
abbrev cX5_isWithin : ByteArray := prog_1_method_25_code
def yX5_isWithin : MethodName := ⟨RX5, "isWithin", "(III)Z"⟩
abbrev cX5_isOperand : ByteArray := prog_1_method_26_code
def yX5_isOperand : MethodName := ⟨RX5, "isOperand", "(II)Z"⟩
abbrev cX5_cutUp : ByteArray := prog_1_method_27_code
def yX5_cutUp : MethodName := ⟨RX5, "cutUp", "(II)I"⟩
abbrev cX5_actsChanged : ByteArray := prog_1_method_28_code
def yX5_actsChanged : MethodName := ⟨RX5, "actsChanged", "()V"⟩
abbrev cX5_stepBeat : ByteArray := prog_1_method_29_code
def yX5_stepBeat : MethodName := ⟨RX5, "stepBeat", "(II)V"⟩
abbrev cX5_placesBound : ByteArray := prog_1_method_30_code
def yX5_placesBound : MethodName := ⟨RX5, "placesBound", "()I"⟩
abbrev cX5_takeFound : ByteArray := prog_1_method_31_code
def yX5_takeFound : MethodName := ⟨RX5, "takeFound", "(I)V"⟩
def RX6 : String := "LoopBoardModel"
def TX6 : u_T := fun k => match k with
  | 0 => ("LoopBoardModel", "kind", "[I", true)
  | 1 => ("LoopBoardModel", "operand", "[I", true)
  | 2 => ("LoopBoardModel", "distance", "[I", true)
  | 3 => ("LoopBoardModel", "p", "[I", true)
  | 4 => ("LoopBoardModel", "q", "[I", true)
  | 5 => ("LoopBoardModel", "acts", "I", false)
  | 6 => ("LoopBoardModel", "first", "I", false)
  | 7 => ("LoopBoardModel", "beat", "I", false)
  | 8 => ("LoopBoardModel", "rounds", "I", false)
  | 9 => ("LoopBoardModel", "isDone", "[Z", true)
  | 10 => ("LoopBoardModel", "values", "[I", true)
  | 11 => ("LoopBoardModel", "rows", "I", false)
  | 12 => ("LoopBoardModel", "columns", "I", false)
  | 13 => ("LoopBoardModel", "isBroken", "[Z", true)
  | 14 => ("LoopBoardModel", "canMultiply", "[Z", true)
  | 15 => ("LoopBoardModel", "far", "[I", true)
  | 16 => ("LoopBoardModel", "cell", "[I", true)
  | 17 => ("LoopBoardModel", "start", "[I", true)
  | 18 => ("LoopBoardModel", "height", "[I", true)
  | 19 => ("LoopBoardModel", "tries", "I", false)
  | 20 => ("LoopBoardModel", "tryCell", "[I", true)
  | 21 => ("LoopBoardModel", "tryOver", "[I", true)
  | 22 => ("LoopBoardModel", "times", "[I", true)
  | _ => ("LoopBoardModel", "ways", "[I", true)
def tyX6 : Nat → FieldType := fun k => match k with
  | 0 => .array .int
  | 1 => .array .int
  | 2 => .array .int
  | 3 => .array .int
  | 4 => .array .int
  | 5 => .int
  | 6 => .int
  | 7 => .int
  | 8 => .int
  | 9 => .array .boolean
  | 10 => .array .int
  | 11 => .int
  | 12 => .int
  | 13 => .array .boolean
  | 14 => .array .boolean
  | 15 => .array .int
  | 16 => .array .int
  | 17 => .array .int
  | 18 => .array .int
  | 19 => .int
  | 20 => .array .int
  | 21 => .array .int
  | 22 => .array .int
  | _ => .array .int
abbrev wsX60 : List Cond := u_ws RX6 TX6 24
theorem nmX6 : ∀ a, a < 24 → ∀ b, b < 24 → a ≠ b → (TX6 a).2.1 ≠ (TX6 b).2.1 := by decide +kernel
theorem tyX6_ok : ∀ k, k < 24 → parseFieldDescriptor (TX6 k).2.2.1 = some (tyX6 k) := by decide +kernel
abbrev cX6_init : ByteArray := prog_8_method_1_code
def yX6_init : MethodName := ⟨RX6, "<init>", "()V"⟩
abbrev cX6_in : ByteArray := prog_8_method_3_code
def yX6_in : MethodName := ⟨RX6, "in", "(JJJ)Z"⟩
abbrev cX6_isAct : ByteArray := prog_8_method_4_code
def yX6_isAct : MethodName := ⟨RX6, "isAct", "(I)Z"⟩
abbrev cX6_enter : ByteArray := prog_8_method_5_code
def yX6_enter : MethodName := ⟨RX6, "enter", "(I)I"⟩
abbrev cX6_input : ByteArray := prog_8_method_6_code
def yX6_input : MethodName := ⟨RX6, "input", "(II)I"⟩
abbrev cX6_act : ByteArray := prog_8_method_7_code
def yX6_act : MethodName := ⟨RX6, "act", "(IIIII)I"⟩
abbrev cX6_first : ByteArray := prog_8_method_8_code
def yX6_first : MethodName := ⟨RX6, "first", "(I)I"⟩
abbrev cX6_clear : ByteArray := prog_8_method_9_code
def yX6_clear : MethodName := ⟨RX6, "clear", "()I"⟩
abbrev cX6_lengthOf : ByteArray := prog_8_method_10_code
def yX6_lengthOf : MethodName := ⟨RX6, "lengthOf", "(I)I"⟩
abbrev cX6_isReady : ByteArray := prog_8_method_11_code
def yX6_isReady : MethodName := ⟨RX6, "isReady", "(I)Z"⟩
abbrev cX6_isSound : ByteArray := prog_8_method_12_code
def yX6_isSound : MethodName := ⟨RX6, "isSound", "()Z"⟩
abbrev cX6_sound : ByteArray := prog_8_method_13_code
def yX6_sound : MethodName := ⟨RX6, "sound", "()I"⟩
abbrev cX6_valueOf : ByteArray := prog_8_method_14_code
def yX6_valueOf : MethodName := ⟨RX6, "valueOf", "(II)I"⟩
abbrev cX6_made : ByteArray := prog_8_method_15_code
def yX6_made : MethodName := ⟨RX6, "made", "(II)I"⟩
abbrev cX6_workTo : ByteArray := prog_8_method_16_code
def yX6_workTo : MethodName := ⟨RX6, "workTo", "(I)V"⟩
abbrev cX6_plain : ByteArray := prog_8_method_17_code
def yX6_plain : MethodName := ⟨RX6, "plain", "(II)J"⟩
abbrev cX6_about : ByteArray := prog_8_method_18_code
def yX6_about : MethodName := ⟨RX6, "about", "(II)I"⟩
abbrev cX6_whole : ByteArray := prog_8_method_19_code
def yX6_whole : MethodName := ⟨RX6, "whole", "()V"⟩
abbrev cX6_cells : ByteArray := prog_8_method_20_code
def yX6_cells : MethodName := ⟨RX6, "cells", "()I"⟩
abbrev cX6_isCell : ByteArray := prog_8_method_21_code
def yX6_isCell : MethodName := ⟨RX6, "isCell", "(I)Z"⟩
abbrev cX6_board : ByteArray := prog_8_method_22_code
def yX6_board : MethodName := ⟨RX6, "board", "(II)I"⟩
abbrev cX6_breaks : ByteArray := prog_8_method_23_code
def yX6_breaks : MethodName := ⟨RX6, "breaks", "(IZ)I"⟩
abbrev cX6_multiplies : ByteArray := prog_8_method_24_code
def yX6_multiplies : MethodName := ⟨RX6, "multiplies", "(IZ)I"⟩
abbrev cX6_areBeside : ByteArray := prog_8_method_25_code
def yX6_areBeside : MethodName := ⟨RX6, "areBeside", "(II)Z"⟩
abbrev cX6_wayOf : ByteArray := prog_8_method_26_code
def yX6_wayOf : MethodName := ⟨RX6, "wayOf", "(II)I"⟩
abbrev cX6_way : ByteArray := prog_8_method_27_code
def yX6_way : MethodName := ⟨RX6, "way", "(II)I"⟩
abbrev cX6_plan : ByteArray := prog_8_method_28_code
def yX6_plan : MethodName := ⟨RX6, "plan", "(I)I"⟩
abbrev cX6_lay : ByteArray := prog_8_method_29_code
def yX6_lay : MethodName := ⟨RX6, "lay", "(III)I"⟩
abbrev cX6_isLate : ByteArray := prog_8_method_30_code
def yX6_isLate : MethodName := ⟨RX6, "isLate", "(I)Z"⟩
abbrev cX6_lacking : ByteArray := prog_8_method_31_code
def yX6_lacking : MethodName := ⟨RX6, "lacking", "()I"⟩
abbrev cX6_whyNot : ByteArray := prog_8_method_32_code
def yX6_whyNot : MethodName := ⟨RX6, "whyNot", "()I"⟩
abbrev cX6_lacks : ByteArray := prog_8_method_33_code
def yX6_lacks : MethodName := ⟨RX6, "lacks", "()I"⟩
abbrev cX6_laid : ByteArray := prog_8_method_34_code
def yX6_laid : MethodName := ⟨RX6, "laid", "(II)I"⟩
abbrev cX6_kept : ByteArray := prog_8_method_35_code
def yX6_kept : MethodName := ⟨RX6, "kept", "(I)I"⟩
abbrev cX6_step : ByteArray := prog_8_method_36_code
def yX6_step : MethodName := ⟨RX6, "step", "(I)I"⟩
abbrev cX6_stepped : ByteArray := prog_8_method_37_code
def yX6_stepped : MethodName := ⟨RX6, "stepped", "(II)J"⟩
abbrev cX6_works : ByteArray := prog_8_method_38_code
def yX6_works : MethodName := ⟨RX6, "works", "(II)I"⟩
abbrev cX6_places : ByteArray := prog_8_method_39_code
def yX6_places : MethodName := ⟨RX6, "places", "()I"⟩
abbrev cX6_ringsHold : ByteArray := prog_8_method_40_code
def yX6_ringsHold : MethodName := ⟨RX6, "ringsHold", "(I)Z"⟩
abbrev cX6_rings : ByteArray := prog_8_method_41_code
def yX6_rings : MethodName := ⟨RX6, "rings", "()I"⟩
abbrev cX6_bound : ByteArray := prog_8_method_42_code
def yX6_bound : MethodName := ⟨RX6, "bound", "(I)I"⟩
abbrev cX6_up : ByteArray := prog_8_method_43_code
def yX6_up : MethodName := ⟨RX6, "up", "(II)I"⟩
abbrev cX6_canStart : ByteArray := prog_8_method_44_code
def yX6_canStart : MethodName := ⟨RX6, "canStart", "(II)Z"⟩
abbrev cX6_goesAt : ByteArray := prog_8_method_45_code
def yX6_goesAt : MethodName := ⟨RX6, "goesAt", "(II)Z"⟩
abbrev cX6_search : ByteArray := prog_8_method_46_code
def yX6_search : MethodName := ⟨RX6, "search", "(I)I"⟩
abbrev cX6_find : ByteArray := prog_8_method_47_code
def yX6_find : MethodName := ⟨RX6, "find", "()I"⟩
abbrev cX6_tries : ByteArray := prog_8_method_48_code
def yX6_tries : MethodName := ⟨RX6, "tries", "()I"⟩
abbrev cX6_told : ByteArray := prog_8_method_49_code
def yX6_told : MethodName := ⟨RX6, "told", "(I)I"⟩
def RJ9 : String := "java/lang/Math"
def TJ9 : u_T := fun k => match k with
  | _ => ("", "", "", false)
def tyJ9 : Nat → FieldType := fun k => match k with
  | _ => .int
abbrev wsJ90 : List Cond := u_ws RJ9 TJ9 0
abbrev cJ9_floorDiv_7cf53 : ByteArray := prog_9_method_47_code
def yJ9_floorDiv_7cf53 : MethodName := ⟨RJ9, "floorDiv", "(II)I"⟩
abbrev cJ9_abs_0f7a4 : ByteArray := prog_9_method_59_code
def yJ9_abs_0f7a4 : MethodName := ⟨RJ9, "abs", "(I)I"⟩
abbrev cJ9_max_7cf53 : ByteArray := prog_9_method_65_code
def yJ9_max_7cf53 : MethodName := ⟨RJ9, "max", "(II)I"⟩
abbrev cJ9_min_7cf53 : ByteArray := prog_9_method_69_code
def yJ9_min_7cf53 : MethodName := ⟨RJ9, "min", "(II)I"⟩
def RJ10 : String := "java/lang/System"
def TJ10 : u_T := fun k => match k with
  | _ => ("", "", "", false)
def tyJ10 : Nat → FieldType := fun k => match k with
  | _ => .int
abbrev wsJ100 : List Cond := u_ws RJ10 TJ10 0
def RJ7 : String := "java/util/Arrays"
def TJ7 : u_T := fun k => match k with
  | _ => ("", "", "", false)
def tyJ7 : Nat → FieldType := fun k => match k with
  | _ => .int
abbrev wsJ70 : List Cond := u_ws RJ7 TJ7 0
abbrev cJ7_fill_53178 : ByteArray := prog_11_method_103_code
def yJ7_fill_53178 : MethodName := ⟨RJ7, "fill", "([II)V"⟩
def RL : String := "LoopBoardLaw"
abbrev cL_law : ByteArray := code
def yL_law : MethodName := ⟨RL, "law", "([I)Z"⟩
abbrev vwCl : List vw_C := [(RX0, TX0, 5), (RX1, TX1, 5), (RX2, TX2, 11), (RX3, TX3, 9), (RX4, TX4, 2), (RX5, TX5, 9), (RX6, TX6, 24)]
def nestW : Cond := .methodLinkNest RX3 93 yX5_cutUp "LoopBoard"
def nestI : Cond := .methodLinkNest RX5 11 yX2_init "LoopBoard"
theorem tb1 {c : Cond} (h : c ∈ tables_1_1) : c ∈ lw_tbl := List.mem_append_right _ (List.mem_append_left _ h)
theorem tb2 {c : Cond} (h : c ∈ tables_1_2) : c ∈ lw_tbl := List.mem_append_right _ (List.mem_append_right _ (List.mem_append_left _ h))
theorem tb3 {c : Cond} (h : c ∈ tables_1_3) : c ∈ lw_tbl := List.mem_append_right _ (List.mem_append_right _ (List.mem_append_right _ (List.mem_append_left _ h)))
theorem tb4 {c : Cond} (h : c ∈ tables_1_4) : c ∈ lw_tbl := List.mem_append_right _ (List.mem_append_right _ (List.mem_append_right _ (List.mem_append_right _ h)))
end
section
/-! THE BASE: a judgement G over (pc, locals, stack, memory) for one method's walk, with all of the machine hidden in Cx; a memory of whole numbers by rows; a contract CT over one world. -/
def iI (z : Int) : Int32 := Int32.ofInt z
def lI (z : Int) : Int64 := Int64.ofInt z
abbrev inr (z : Int) : Prop := -2147483648 ≤ z ∧ z ≤ 2147483647
abbrev inr8 (z : Int) : Prop := -9223372036854775808 ≤ z ∧ z ≤ 9223372036854775807
theorem iI_toInt {z : Int} (h : inr z) : (iI z).toInt = z := Int32.toInt_ofInt_of_le (by omega) (by omega)
theorem lI_toInt {z : Int} (h : inr8 z) : (lI z).toInt = z := Int64.toInt_ofInt_of_le (by omega) (by omega)
theorem iI_lt {a b : Int} (ha : inr a) (hb : inr b) : iI a < iI b ↔ a < b := by rw [Int32.lt_iff_toInt_lt, iI_toInt ha, iI_toInt hb]
theorem iI_le {a b : Int} (ha : inr a) (hb : inr b) : iI a ≤ iI b ↔ a ≤ b := by rw [Int32.le_iff_toInt_le, iI_toInt ha, iI_toInt hb]
theorem iI_eq {a b : Int} (ha : inr a) (hb : inr b) : iI a = iI b ↔ a = b := by rw [← Int32.toInt_inj, iI_toInt ha, iI_toInt hb]
theorem lI_lt {a b : Int} (ha : inr8 a) (hb : inr8 b) : lI a < lI b ↔ a < b := by rw [Int64.lt_iff_toInt_lt, lI_toInt ha, lI_toInt hb]
theorem lI_eq {a b : Int} (ha : inr8 a) (hb : inr8 b) : lI a = lI b ↔ a = b := by rw [← Int64.toInt_inj, lI_toInt ha, lI_toInt hb]
theorem iI_self (x : Int32) : iI x.toInt = x := Int32.ofInt_toInt x
theorem iI_add (a b : Int) : iI a + iI b = iI (a + b) := (Int32.ofInt_add a b).symm
theorem iI_sub (a b : Int) : iI a - iI b = iI (a - b) := (Int32.ofInt_sub a b).symm
theorem iI_mul (a b : Int) : iI a * iI b = iI (a * b) := (Int32.ofInt_mul a b).symm
theorem iI_neg (a : Int) : -iI a = iI (-a) := (Int32.ofInt_neg a).symm
theorem iI_clamp {z : Int} (h0 : 0 ≤ z) (h1 : z ≤ 2147483647) : ((iI z).toNatClampNeg : Int) = z := by
  show (((iI z).toInt.toNat : Nat) : Int) = z
  rw [iI_toInt ⟨by omega, h1⟩]
  omega
theorem iI_in {z : Int} {n : Nat} (h0 : 0 ≤ z) (h1 : z < (n : Int)) (hn : n ≤ 1000000) : vp_in (iI z) n := by
  rw [vp_in_iff, iI_toInt ⟨by omega, by omega⟩]
  exact ⟨h0, h1⟩
theorem iI_zero : iI 0 = 0 := by decide
-- memory
abbrev MM : Type := Nat → Int → Int
def up (σ : MM) (r : Nat) (e v : Int) : MM := fun a b => if a = r ∧ b = e then v else σ a b
theorem up_ne {σ : MM} {r a : Nat} {e v : Int} (h : a ≠ r) : up σ r e v a = σ a := by
  funext b
  simp [up, h]
theorem up_at {σ : MM} {r : Nat} {e v b : Int} : up σ r e v r b = if b = e then v else σ r b := by simp [up]
abbrev FS : Type := Nat ⊕ Nat
abbrev SH : Type := (Nat × List FS) ⊕ (Bool × Nat × Nat)
abbrev ST : Type := List vw_C × List SH × List (Option (Int × Int))
abbrev WT : Type := va_G × (Bool → ClassId) × (Nat → Nat)
abbrev GT : Type := Nat → List (Option Value) → List Value → MM → Prop
def fv (ad : Nat → Nat) (σ : MM) (f : FS) : Value := match f with
  | .inl r => .int (iI (σ r 0))
  | .inr j => .ref (ad j)
def ce (w : WT) (σ : MM) (s : SH) : va_E := match s with
  | .inl o => .inr (o.1, o.2.map (fv w.2.2 σ))
  | .inr a => .inl (w.2.1 a.1, a.2.2, .inl (fun k => iI (σ a.2.1 (k : Int))))
def wd (w : WT) (sh : List SH) (σ : MM) : va_W := sh.zipIdx.map (fun q => (w.2.2 q.2, ce w σ q.1))
theorem wd_at (w : WT) (sh : List SH) (σ : MM) (i : Nat) : (wd w sh σ)[i]? = (sh[i]?).map (fun s => (w.2.2 i, ce w σ s)) := by
  simp only [wd, List.getElem?_map, List.getElem?_zipIdx, Option.map_map, Nat.zero_add]
  rfl
theorem wd_get {w : WT} {sh : List SH} {σ : MM} {i : Nat} {s : SH} (h : sh[i]? = some s) : (wd w sh σ)[i]? = some (w.2.2 i, ce w σ s) := by rw [wd_at, h]; rfl
def hasF (r : Nat) (f : FS) : Bool := match f with
  | .inl q => q == r
  | .inr _ => false
def hasR (r : Nat) (s : SH) : Bool := match s with
  | .inl o => o.2.any (hasF r)
  | .inr a => a.2.1 == r
theorem fv_up {ad : Nat → Nat} {σ : MM} {f : FS} {r : Nat} {e v : Int} (h : hasF r f = false) : fv ad (up σ r e v) f = fv ad σ f := by
  cases f with
  | inr j => rfl
  | inl q =>
    have h1 : q ≠ r := by simpa [hasF] using h
    simp [fv, up_ne h1]
theorem ce_up {w : WT} {σ : MM} {s : SH} {r : Nat} {e v : Int} (h : hasR r s = false) : ce w (up σ r e v) s = ce w σ s := by
  cases s with
  | inr a =>
    have h1 : a.2.1 ≠ r := by simpa [hasR] using h
    simp [ce, up_ne h1]
  | inl o =>
    have h1 : ∀ f ∈ o.2, hasF r f = false := by simpa [hasR] using h
    have h2 : o.2.map (fv w.2.2 (up σ r e v)) = o.2.map (fv w.2.2 σ) := List.map_congr_left fun f hf => fv_up (h1 f hf)
    simp [ce, h2]
/-- row r stands in cell i alone -/
def sepR (sh : List SH) (i r : Nat) : Bool := sh.zipIdx.all (fun q => q.2 == i || !(hasR r q.1))
theorem sepR_ne {sh : List SH} {i r j : Nat} {s : SH} (h : sepR sh i r = true) (hj : sh[j]? = some s) (hne : j ≠ i) : hasR r s = false := by
  have h1 := List.all_eq_true.mp h (s, j) (by rw [List.mem_zipIdx_iff_getElem?]; exact hj)
  simpa [hne] using h1
theorem wd_up {w : WT} {sh : List SH} {σ : MM} {i r : Nat} {s : SH} {e v : Int} {x : va_E} (hs : sh[i]? = some s) (ho : sepR sh i r = true) (hx : ce w (up σ r e v) s = x) : (wd w sh σ).set i (w.2.2 i, x) = wd w sh (up σ r e v) := by
  have hl : i < (wd w sh σ).length := (List.getElem?_eq_some_iff.mp (wd_get (w := w) (σ := σ) hs)).1
  apply List.ext_getElem?
  intro j
  by_cases hj : j = i
  · subst hj
    rw [List.getElem?_set_self hl, wd_get hs, hx]
  · rw [List.getElem?_set_ne (Ne.symm hj), wd_at, wd_at]
    cases hsj : sh[j]? with
    | none => rfl
    | some t => simp [ce_up (w := w) (σ := σ) (e := e) (v := v) (sepR_ne ho hsj hj)]
def fsep (fs : List FS) (k r : Nat) : Bool := fs.zipIdx.all (fun q => q.2 == k || !(hasF r q.1))
theorem fs_set {ad : Nat → Nat} {σ : MM} {fs : List FS} {k r : Nat} {v : Int} (hk : fs[k]? = some (.inl r)) (ho : fsep fs k r = true) : fs.map (fv ad (up σ r 0 v)) = (fs.map (fv ad σ)).set k (.int (iI v)) := by
  have hl : k < (fs.map (fv ad σ)).length := by rw [List.length_map]; exact (List.getElem?_eq_some_iff.mp hk).1
  apply List.ext_getElem?
  intro j
  by_cases hj : j = k
  · subst hj
    rw [List.getElem?_set_self hl, List.getElem?_map, hk]
    simp [fv, up_at]
  · rw [List.getElem?_set_ne (Ne.symm hj), List.getElem?_map, List.getElem?_map]
    cases hsj : fs[j]? with
    | none => rfl
    | some t =>
      have h1 := List.all_eq_true.mp ho (t, j) (by rw [List.mem_zipIdx_iff_getElem?]; exact hsj)
      have h2 : hasF r t = false := by simpa [hj] using h1
      simp [fv_up h2]
/-- the range of each row's numbers -/
def Bd (bd : List (Option (Int × Int))) (σ : MM) : Prop := ∀ (r : Nat) (lo hi : Int), bd[r]? = some (some (lo, hi)) → ∀ k : Int, lo ≤ σ r k ∧ σ r k ≤ hi
theorem Bd.up {bd : List (Option (Int × Int))} {σ : MM} {r : Nat} {e v : Int} (h : Bd bd σ) (hv : ∀ lo hi, bd[r]? = some (some (lo, hi)) → lo ≤ v ∧ v ≤ hi) : Bd bd (up σ r e v) := by
  intro q lo hi hq k
  by_cases h1 : q = r
  · subst h1
    rw [up_at]
    split
    · exact hv lo hi hq
    · exact h q lo hi hq k
  · rw [up_ne h1]
    exact h q lo hi hq k
def Mod (L : List Nat) (σ σ1 : MM) : Prop := ∀ r : Nat, r ∉ L → σ1 r = σ r
theorem Mod.rf {σ : MM} {L : List Nat} : Mod L σ σ := fun _ _ => rfl
theorem Mod.up {σ : MM} {r : Nat} {e v : Int} : Mod [r] σ (up σ r e v) := fun q h => up_ne (by simpa using h)
theorem Mod.tr {L1 L2 L : List Nat} {σ σ1 σ2 : MM} (h1 : Mod L1 σ σ1) (h2 : Mod L2 σ1 σ2) (e1 : L1.all (L.contains ·) = true) (e2 : L2.all (L.contains ·) = true) : Mod L σ σ2 := by
  intro r hr
  have f : ∀ K : List Nat, K.all (L.contains ·) = true → r ∉ K := fun K hK hm => hr (by have := List.all_eq_true.mp hK r hm; simpa using this)
  rw [h2 r (f L2 e2), h1 r (f L1 e1)]
theorem Mod.w {L1 L : List Nat} {σ σ1 : MM} (h1 : Mod L1 σ σ1) (e1 : L1.all (L.contains ·) = true) : Mod L σ σ1 := Mod.tr h1 Mod.rf e1 (by rfl : ([] : List Nat).all (L.contains ·) = true)
theorem Mod.at {L : List Nat} {σ σ1 : MM} (h : Mod L σ σ1) (r : Nat) (hr : L.contains r = false) : σ1 r = σ r := h r (by simpa using hr)
-- the words that stay
def gtb : List Cond := lw_tbl.filter goodWord
-- the world
def tysW (w : WT) : List (ClassId × FieldType) := [(w.2.1 false, .int), (w.2.1 true, .boolean)]
def InjW (sh : List SH) (w : WT) : Prop := ∀ i j, i < sh.length → j < sh.length → w.2.2 i = w.2.2 j → i = j
def Aw (S : ST) (w : WT) : Nat → Prop := fun q => ∃ i, i < S.2.1.length ∧ q = w.2.2 i
def WDs (S : ST) (w : WT) (σ : MM) (U : State) : Prop := va_P w.1 S.1 (wd w S.2.1 σ) U.heap ∧ va_K w.1 S.1 (tysW w) U ∧ InjW S.2.1 w ∧ Bd S.2.2 σ ∧ va_Nw nestW U
def QQ (S : ST) (w : WT) (P : Option Value → MM → Prop) : Array Value → State → Outcome → State → Prop := fun _ st o t => (∃ (r : Option Value) (σ1 : MM), o = .returned r ∧ P r σ1 ∧ WDs S w σ1 t) ∧ va_F (Aw S w) st t
def CT (S : ST) (l : Launch) (w : WT) (y : MethodName) (cc : ByteArray) (nL : Nat) (ret : Option FieldType) (fr lo : Nat) (as : List Value) (σ : MM) (P : Option Value → MM → Prop) : Prop :=
  Met l y (.code y cc nL ret :: gtb) ({ frames := fr, cells := 0, slots := 0, locals := lo }) (va_Pc as (WDs S w σ)) (QQ S w P) 0 0 (Aw S w)
theorem wd_D {sh : List SH} {w : WT} {A : Nat → Prop} (hI : InjW sh w) (hA : ∀ i, i < sh.length → A (w.2.2 i)) (σ : MM) : va_D A (wd w sh σ) := by
  have key : ∀ (i : Nat) (p : Nat × va_E), (wd w sh σ)[i]? = some p → i < sh.length ∧ p.1 = w.2.2 i := by
    intro i p h
    rw [wd_at] at h
    cases hs : sh[i]? with
    | none => rw [hs] at h; cases h
    | some t => rw [hs] at h; cases h; exact ⟨(List.getElem?_eq_some_iff.mp hs).1, rfl⟩
  refine ⟨fun i j p q hi hj hpq => ?_, fun k q hk => ?_⟩
  · obtain ⟨h1, h2⟩ := key i p hi
    obtain ⟨h3, h4⟩ := key j q hj
    exact hI i j h1 h3 (by rw [← h2, ← h4, hpq])
  · obtain ⟨h1, h2⟩ := key k q hk
    rw [h2]
    exact hA k h1
-- locals
def LH (ls : Array Slot) (nL : Nat) (lv : List (Option Value)) : Prop := ls.size = nL ∧ lv_wf ls ∧ ∀ (i : Nat) (v : Value), lv[i]? = some (some v) → ls[i]? = some (.val v)
def lvE (as : List Value) : List (Option Value) := as.flatMap (fun v => if v.category = 2 then [some v, none] else [some v])
def toA (lv : List (Option Value)) : List (Nat × Value) := lv.zipIdx.filterMap (fun q => q.1.map (fun v => (q.2, v)))
theorem toA_mem {lv : List (Option Value)} {i : Nat} {v : Value} : (i, v) ∈ toA lv ↔ lv[i]? = some (some v) := by
  simp only [toA, List.mem_filterMap, Prod.exists, List.mem_zipIdx_iff_getElem?]
  constructor
  · rintro ⟨o, j, h1, h2⟩
    cases o with
    | none => simp at h2
    | some u =>
      simp at h2
      obtain ⟨rfl, rfl⟩ := h2
      exact h1
  · intro h
    exact ⟨some v, i, h, rfl⟩
theorem LH.has {ls : Array Slot} {nL : Nat} {lv : List (Option Value)} (h : LH ls nL lv) : lv_has ls nL (toA lv) := ⟨h.1, h.2.1, fun q hq => h.2.2 q.1 q.2 (toA_mem.mp hq)⟩
theorem lvE_get (as : List Value) : ∀ (k i : Nat) (v : Value), (lvE as)[i]? = some (some v) → (k + i, v) ∈ lv_args k as := by
  induction as with
  | nil => intro k i v h; simp [lvE] at h
  | cons a t ih =>
    intro k i v h
    have e : lvE (a :: t) = (if a.category = 2 then [some a, none] else [some a]) ++ lvE t := by simp [lvE]
    rw [e] at h
    rw [lv_args]
    by_cases hc : a.category = 2
    · rw [if_pos hc] at h ⊢
      match i, h with
      | 0, h => simp at h; subst h; simp
      | 1, h => simp at h
      | j + 2, h =>
        have h1 := ih (k + 2) j v (by simpa using h)
        rw [show k + (j + 2) = k + 2 + j by omega]
        exact List.mem_cons_of_mem _ h1
    · rw [if_neg hc] at h ⊢
      match i, h with
      | 0, h => simp at h; subst h; simp
      | j + 1, h =>
        have h1 := ih (k + 1) j v (by simpa using h)
        rw [show k + (j + 1) = k + 1 + j by omega]
        exact List.mem_cons_of_mem _ h1
theorem LH.entry {ls : Array Slot} {nL : Nat} {as : List Value} {m : Nat} (h : lv_has ls nL (lv_args 0 as)) : LH ls nL (lvE as ++ List.replicate m none) := by
  refine ⟨h.1, h.2.1, fun i v hi => ?_⟩
  by_cases hl : i < (lvE as).length
  · rw [List.getElem?_append_left hl] at hi
    have h1 := lvE_get as 0 i v hi
    rw [Nat.zero_add] at h1
    exact h.2.2 (i, v) h1
  · rw [List.getElem?_append_right (by omega)] at hi
    have := List.mem_of_getElem? hi
    simp at this
def leL : List (Option Value) → List (Option Value) → Prop
  | [], _ => True
  | none :: t, [] => leL t []
  | none :: t, _ :: u => leL t u
  | some _ :: _, [] => False
  | some v :: t, o :: u => o = some v ∧ leL t u
theorem leL_get : ∀ (a b : List (Option Value)), leL a b → ∀ (i : Nat) (v : Value), a[i]? = some (some v) → b[i]? = some (some v)
  | [], _, _, i, v, h => by simp at h
  | none :: t, [], hl, i, v, h => by
    match i, h with
    | 0, h => simp at h
    | j + 1, h =>
      have h1 := leL_get t [] hl j v (by simpa using h)
      simp at h1
  | none :: t, _ :: u, hl, i, v, h => by
    match i, h with
    | 0, h => simp at h
    | j + 1, h => simpa using leL_get t u hl j v (by simpa using h)
  | some a :: t, o :: u, hl, i, v, h => by
    match i, h with
    | 0, h =>
      simp at h
      subst h
      simp [hl.1]
    | j + 1, h => simpa using leL_get t u hl.2 j v (by simpa using h)
theorem LH.wk {ls : Array Slot} {nL : Nat} {lv lv1 : List (Option Value)} (h : LH ls nL lv) (hl : leL lv1 lv) : LH ls nL lv1 := ⟨h.1, h.2.1, fun i v hi => h.2.2 i v (leL_get _ _ hl i v hi)⟩
def cat1 (lv : List (Option Value)) : Bool := lv.all (fun o => match o with
  | some v => v.category == 1
  | none => true)
theorem LH.set {ls1 : Array Slot} {nL i : Nat} {lv : List (Option Value)} {v : Value} (hi : i < lv.length) (h1 : cat1 lv = true) (h : lv_has ls1 nL ((i, v) :: (toA lv).filter (fun q => !(q.1 == i) && !(q.1 + 1 == i && q.2.category == 2)))) : LH ls1 nL (lv.set i (some v)) := by
  refine ⟨h.1, h.2.1, fun j u hj => ?_⟩
  by_cases hji : j = i
  · subst hji
    rw [List.getElem?_set_self hi] at hj
    cases hj
    exact h.2.2 (j, v) List.mem_cons_self
  · rw [List.getElem?_set_ne (Ne.symm hji)] at hj
    have hc : u.category = 1 := by
      have := List.all_eq_true.mp h1 (some u) (List.mem_of_getElem? hj)
      simpa using this
    refine h.2.2 (j, u) (List.mem_cons_of_mem _ (List.mem_filter.mpr ⟨toA_mem.mpr hj, ?_⟩))
    simp [hji, hc]
-- the judgement
def retOK (cc : ByteArray) (pc : Nat) (ret : Option FieldType) (v : Option Value) : Prop := match v with
  | some (.int x) => decode cc pc = .ok (.ireturn, 1) ∧ ∃ ty, ret = some ty ∧ (ty = .int ∨ ty = .boolean) ∧ narrow ty (.int x) = .int x
  | some (.long _) => decode cc pc = .ok (.lreturn, 1) ∧ ret = some .long
  | none => decode cc pc = .ok (.return_, 1) ∧ ret = none
  | _ => False
def shOK (s : SH) : Bool := match s with
  | .inl _ => true
  | .inr a => Nat.ble a.2.2 1000000
def Cx (S : ST) (l : Launch) (w : WT) (cc : ByteArray) (nL : Nat) (ret : Option FieldType) (own : String) (R : Room) (P : Option Value → MM → Prop) (G : GT) : Prop :=
  ∃ (p : Program) (e : Env) (s : State) (m : MethodId) (args : Array Value) (below : List Frame) (meth : Method) (c : Code) (A : Nat → Prop) (cells slots : Nat) (Q : State → Prop),
    (p.tables.exec = Jvm.exec ∧ c.code = cc ∧ c.maxLocals = nL ∧ s.vm.findClass own = some m.cls ∧ (∀ x ∈ gtb, x.before args s = true) ∧ va_K w.1 S.1 (tysW w) s ∧ InjW S.2.1 w ∧ (∀ i, i < S.2.1.length → A (w.2.2 i)) ∧ cells ≤ R.cells ∧ slots ≤ R.slots ∧ S.2.1.all shOK = true ∧ va_Nw nestW s) ∧
    (G = fun pc lv st σ => Bd S.2.2 σ → ∀ (H : Heap) (locs : List Loc) (ls : Array Slot), va_P w.1 S.1 (wd w S.2.1 σ) H → va_S A s.heap H locs → LH ls nL lv → W p l e R s m args below meth c H locs cells slots Q (F0 m pc ls st)) ∧
    (∀ (pc : Nat) (lv : List (Option Value)) (v : Option Value) (σ : MM), retOK cc pc ret v → P v σ → G pc lv v.toList σ)
theorem gtb_in {c : Cond} (h : c ∈ lw_tbl) (hg : goodWord c = true) : c ∈ gtb := List.mem_filter.mpr ⟨h, hg⟩
theorem good_tbl {c : Cond} (hc : c ∈ gtb) : GoodIn gtb (c :: gtb) := by
  have h : ∀ w ∈ gtb, w ∈ gtb ∧ ((w.onTables && w.keeps) = true ∨ ∃ ty, w = .arrayClass ty) := fun w hw => ⟨hw, good_of_word (List.mem_filter.mp hw).2⟩
  intro w hw
  rcases List.mem_cons.mp hw with rfl | hw
  · exact h _ hc
  · exact h w hw
theorem WDs.blind {S : ST} {w : WT} {σ : MM} {as : List Value} : FrameBlind (va_Pc as (WDs S w σ)) := fun a U g mk q => by
  obtain ⟨q0, qP, qK, qI, qB, qN⟩ := q
  exact ⟨q0, qP, va_K.moved (u := U) (U := U.calling g mk a) (Vm.Alike.refl U.vm) qK, qI, qB, va_Nw.same rfl (rfl : U.vm = (U.calling g mk a).vm) qN⟩
theorem met_ofF {l : Launch} {y : MethodName} {ws ws' : List Cond} {rm : Room} {Pc : Array Value → State → Prop} {Qc : Array Value → State → Outcome → State → Prop} {mc ms : Nat} {free : Addr → Prop} {cc : ByteArray} {maxL : Nat} {ret : Option FieldType}
    (hy : plainFor y = true) (hw : ws = Cond.code y cc maxL ret :: ws')
    (body : ∀ p e s m args below meth c s₁, BodyLoose p l y (headSpec ws rm) cc maxL ret e s m args below meth c s₁ → c.maxLocals = maxL → Pc args s →
      W p l e (headSpec ws rm).room s m args below meth c s.heap [] 0 0 (MQ below Qc args s mc ms free) (entryFrame m args maxL)) : Met l y ws rm Pc Qc mc ms free := by
  refine MetFree.of_bodySF (code := cc) (maxLocals := maxL) (ret := ret) hy ?_ ?_
  · intro args s m h hn
    obtain ⟨meth, c, h1, h2, h3, h4, h5, h6, -, -⟩ := Cond.code_spec hn (atoms_spec (ws := ws) h _ (by rw [hw]; exact List.mem_cons_self))
    exact ⟨meth, c, h1, h2, h3, h4, h5, h6⟩
  · intro p e s m args below meth c s₁ B hml hP _
    have hh0 : s₁.heap = s.heap := by rw [B.state]; rfl
    obtain ⟨t, a1, o, b1, b2, b3⟩ := body p e s m args below meth c s₁ B hml hP s₁ hh0 (Stand.of_body B)
    exact ⟨t, o, a1, b1, b2, ⟨b3.1, b3.2⟩⟩
set_option maxHeartbeats 4000000 in
theorem CT.of {S : ST} {l : Launch} {w : WT} {y : MethodName} {cc : ByteArray} {nL : Nat} {ret : Option FieldType} {fr lo : Nat} {as : List Value} {σ : MM} {P : Option Value → MM → Prop} (n : Nat) (lv0 : List (Option Value)) (hy : plainFor y = true) (hn : (lg_sl as).length ≤ nL) (h0 : lvE as ++ List.replicate n none = lv0) (hsh : S.2.1.all shOK = true)
    (body : ∀ G : GT, Cx S l w cc nL ret y.cls ({ frames := fr, cells := 0, slots := 0, locals := lo }) P G → G 0 lv0 [] σ) : CT S l w y cc nL ret fr lo as σ P := by
  refine met_ofF (cc := cc) (maxL := nL) (ret := ret) hy rfl ?_
  intro p e s m args below meth c s₁ B hml hv
  obtain ⟨rfl, hP, hK, hI, hB, hN⟩ := hv
  have hx := B.exec
  have hb := B.bytes
  have hr := B.returns
  have hts : ∀ x ∈ gtb, x.before as.toArray s = true := fun x hx => atoms_spec (ws := .code y cc nL ret :: gtb) B.pre x (List.mem_cons_of_mem _ hx)
  have hown : s.vm.findClass y.cls = some m.cls := findClass_of_methodNamed B.named
  have hlocks : meth.locks = false := B.notSynchronized
  have hAw : ∀ i, i < S.2.1.length → Aw S w (w.2.2 i) := fun i hi => ⟨i, hi, rfl⟩
  have hS : va_S (Aw S w) s.heap s.heap [] := va_S.rf
  have hl := lv_entry as (n := nL) hn
  rw [lg_entry_eq]
  generalize (lg_sl as ++ List.replicate (nL - (lg_sl as).length) Slot.unset).toArray = ls at hl ⊢
  have hl : LH ls nL lv0 := by rw [← h0]; exact LH.entry hl
  refine body (fun pc lv st σ1 => Bd S.2.2 σ1 → ∀ (H : Heap) (locs : List Loc) (ls : Array Slot), va_P w.1 S.1 (wd w S.2.1 σ1) H → va_S (Aw S w) s.heap H locs → LH ls nL lv → W p l e ({ frames := fr, cells := 0, slots := 0, locals := lo }) s m as.toArray below meth c H locs 0 0 (MQ below (QQ S w P) as.toArray s 0 0 (Aw S w)) (F0 m pc ls st)) ?_ hB s.heap [] ls hP hS hl
  refine ⟨p, e, s, m, as.toArray, below, meth, c, Aw S w, 0, 0, _, ⟨hx, hb, hml, hown, hts, hK, hI, hAw, Nat.le_refl 0, Nat.le_refl 0, hsh, hN⟩, rfl, ?_⟩
  intro pc lv v σ1 hret hp hB1 H locs ls hP1 hS1 _
  have fin : ∀ t : State, t.heap = H → s.WarmedH t.vm → QQ S w P as.toArray s (.returned v) t := fun t ht hW => ⟨⟨v, σ1, rfl, hp, by rw [ht]; exact hP1, va_K.moved hW.alike hK, hI, hB1, va_Nw.warmM hW hN⟩, hS1.F ht⟩
  match v, hret, fin with
  | none, hret, fin => exact W.vret hx hb (hr.trans hret.2) fin hS1.2.2 hret.1
  | some (.long x), hret, fin => exact W.lret hx hb (hr.trans hret.2) fin hS1.2.2 hret.1
  | some (.int x), hret, fin =>
    obtain ⟨hd, ty, h1, h2, h3⟩ := hret
    exact W.zret hx hb (hr.trans h1) h3 fin hS1.2.2 hd
end
section
/-! THE RULES: one an instruction, over the judgement G of Cx -/
section RULES
variable {S : ST} {l : Launch} {w : WT} {cc : ByteArray} {nL : Nat} {ret : Option FieldType} {own : String} {R : Room} {P : Option Value → MM → Prop} {G : GT} {pc : Nat} {lv : List (Option Value)} {st : List Value} {σ : MM}
theorem r_bd (hX : Cx S l w cc nL ret own R P G) (k : Bd S.2.2 σ → G pc lv st σ) : G pc lv st σ := by
  obtain ⟨p, e, s, m, args, below, meth, c, A, cells, slots, Q, -, rfl, -⟩ := hX
  exact fun hB => k hB hB
theorem r_wk (hX : Cx S l w cc nL ret own R P G) {lv1 : List (Option Value)} (hl : leL lv1 lv) (k : G pc lv1 st σ) : G pc lv st σ := by
  obtain ⟨p, e, s, m, args, below, meth, c, A, cells, slots, Q, -, rfl, -⟩ := hX
  exact fun hB H locs ls hP hS h => k hB H locs ls hP hS (h.wk hl)
theorem r_iconst (hX : Cx S l w cc nL ret own R P G) {n : Int} (hd : decode cc pc = .ok (.iconst n, 1)) (k : G (pc + 1) lv (.int (iI n) :: st) σ) : G pc lv st σ := by
  obtain ⟨p, e, s, m, args, below, meth, c, A, cells, slots, Q, ⟨hx, hb, -⟩, rfl, -⟩ := hX
  exact fun hB H locs ls hP hS h => lv_iconst hx hb hd rfl (k hB H locs ls hP hS h)
theorem r_bipush (hX : Cx S l w cc nL ret own R P G) {n : Int} (hd : decode cc pc = .ok (.bipush n, 2)) (hv : (Int8.ofInt n).toInt32 = iI n) (k : G (pc + 2) lv (.int (iI n) :: st) σ) : G pc lv st σ := by
  obtain ⟨p, e, s, m, args, below, meth, c, A, cells, slots, Q, ⟨hx, hb, -⟩, rfl, -⟩ := hX
  exact fun hB H locs ls hP hS h => lv_bipush hx hb hd hv (k hB H locs ls hP hS h)
theorem r_sipush (hX : Cx S l w cc nL ret own R P G) {n : Int} (hd : decode cc pc = .ok (.sipush n, 3)) (hv : (Int16.ofInt n).toInt32 = iI n) (k : G (pc + 3) lv (.int (iI n) :: st) σ) : G pc lv st σ := by
  obtain ⟨p, e, s, m, args, below, meth, c, A, cells, slots, Q, ⟨hx, hb, -⟩, rfl, -⟩ := hX
  exact fun hB H locs ls hP hS h => lv_sipush hx hb hd hv (k hB H locs ls hP hS h)
theorem r_ldc (hX : Cx S l w cc nL ret own R P G) {idx : Nat} {n : Int} (hd : decode cc pc = .ok (.ldc idx, 2)) (hc : Cond.constant own idx (iI n) ∈ gtb) (k : G (pc + 2) lv (.int (iI n) :: st) σ) : G pc lv st σ := by
  obtain ⟨p, e, s, m, args, below, meth, c, A, cells, slots, Q, ⟨hx, hb, hml, hown, hts, -⟩, rfl, -⟩ := hX
  exact fun hB H locs ls hP hS h => lv_ldc hx hb hown (hts _ hc) hd (k hB H locs ls hP hS h)
theorem r_ldc2 (hX : Cx S l w cc nL ret own R P G) {idx : Nat} {n : Int} (hd : decode cc pc = .ok (.ldc2_w idx, 3)) (hc : Cond.constantLong own idx (lI n) ∈ gtb) (k : G (pc + 3) lv (.long (lI n) :: st) σ) : G pc lv st σ := by
  obtain ⟨p, e, s, m, args, below, meth, c, A, cells, slots, Q, ⟨hx, hb, hml, hown, hts, -⟩, rfl, -⟩ := hX
  exact fun hB H locs ls hP hS h => lv_ldc2 hx hb hown (hts _ hc) hd (k hB H locs ls hP hS h)
theorem r_lconst (hX : Cx S l w cc nL ret own R P G) {n : Fin 2} {z : Int} (hd : decode cc pc = .ok (.lconst n, 1)) (hz : Int64.ofNat (n : Nat) = lI z) (k : G (pc + 1) lv (.long (lI z) :: st) σ) : G pc lv st σ := by
  obtain ⟨p, e, s, m, args, below, meth, c, A, cells, slots, Q, ⟨hx, hb, -⟩, rfl, -⟩ := hX
  exact fun hB H locs ls hP hS h => lv_lconst hx hb hd hz (k hB H locs ls hP hS h)
theorem r_iload_n (hX : Cx S l w cc nL ret own R P G) {i : Fin 4} {x : Int32} (hd : decode cc pc = .ok (.iload_n i, 1)) (hl : lv[(i : Nat)]? = some (some (.int x))) (k : G (pc + 1) lv (.int x :: st) σ) : G pc lv st σ := by
  obtain ⟨p, e, s, m, args, below, meth, c, A, cells, slots, Q, ⟨hx, hb, -⟩, rfl, -⟩ := hX
  exact fun hB H locs ls hP hS h => lv_iload_n hx hb hd rfl (h.2.2 _ _ hl) (k hB H locs ls hP hS h)
theorem r_iload (hX : Cx S l w cc nL ret own R P G) {i : Nat} {x : Int32} (hd : decode cc pc = .ok (.iload i, 2)) (hl : lv[i]? = some (some (.int x))) (k : G (pc + 2) lv (.int x :: st) σ) : G pc lv st σ := by
  obtain ⟨p, e, s, m, args, below, meth, c, A, cells, slots, Q, ⟨hx, hb, -⟩, rfl, -⟩ := hX
  exact fun hB H locs ls hP hS h => lv_iload hx hb hd (h.2.2 _ _ hl) (k hB H locs ls hP hS h)
theorem r_aload_n (hX : Cx S l w cc nL ret own R P G) {i : Fin 4} {x : Nat} (hd : decode cc pc = .ok (.aload_n i, 1)) (hl : lv[(i : Nat)]? = some (some (.ref x))) (k : G (pc + 1) lv (.ref x :: st) σ) : G pc lv st σ := by
  obtain ⟨p, e, s, m, args, below, meth, c, A, cells, slots, Q, ⟨hx, hb, -⟩, rfl, -⟩ := hX
  exact fun hB H locs ls hP hS h => lv_aload_n hx hb hd rfl (h.2.2 _ _ hl) (k hB H locs ls hP hS h)
theorem r_aload (hX : Cx S l w cc nL ret own R P G) {i x : Nat} (hd : decode cc pc = .ok (.aload i, 2)) (hl : lv[i]? = some (some (.ref x))) (k : G (pc + 2) lv (.ref x :: st) σ) : G pc lv st σ := by
  obtain ⟨p, e, s, m, args, below, meth, c, A, cells, slots, Q, ⟨hx, hb, -⟩, rfl, -⟩ := hX
  exact fun hB H locs ls hP hS h => lv_aload hx hb hd (h.2.2 _ _ hl) (k hB H locs ls hP hS h)
theorem r_lload_n (hX : Cx S l w cc nL ret own R P G) {i : Fin 4} {x : Int64} (hd : decode cc pc = .ok (.lload_n i, 1)) (hl : lv[(i : Nat)]? = some (some (.long x))) (k : G (pc + 1) lv (.long x :: st) σ) : G pc lv st σ := by
  obtain ⟨p, e, s, m, args, below, meth, c, A, cells, slots, Q, ⟨hx, hb, -⟩, rfl, -⟩ := hX
  exact fun hB H locs ls hP hS h => lv_lload_n hx hb hd rfl (h.2.2 _ _ hl) (k hB H locs ls hP hS h)
theorem r_lload (hX : Cx S l w cc nL ret own R P G) {i : Nat} {x : Int64} (hd : decode cc pc = .ok (.lload i, 2)) (hl : lv[i]? = some (some (.long x))) (k : G (pc + 2) lv (.long x :: st) σ) : G pc lv st σ := by
  obtain ⟨p, e, s, m, args, below, meth, c, A, cells, slots, Q, ⟨hx, hb, -⟩, rfl, -⟩ := hX
  exact fun hB H locs ls hP hS h => lv_lload hx hb hd (h.2.2 _ _ hl) (k hB H locs ls hP hS h)
/-- a store names what it stores -/
theorem r_istore_n (hX : Cx S l w cc nL ret own R P G) {i : Fin 4} {z : Int} (lv1 : Int → List (Option Value)) (hd : decode cc pc = .ok (.istore_n i, 1)) (hi : (i : Nat) < lv.length) (hln : lv.length = nL) (hc : cat1 lv = true) (hl : ∀ x : Int, lv.set (i : Nat) (some (.int (iI x))) = lv1 x) (k : ∀ x : Int, x = z → G (pc + 1) (lv1 x) st σ) : G pc lv (.int (iI z) :: st) σ := by
  obtain ⟨p, e, s, m, args, below, meth, c, A, cells, slots, Q, ⟨hx, hb, -⟩, rfl, -⟩ := hX
  exact fun hB H locs ls hP hS h => lv_istore_n hx hb hd rfl h.has (by omega) rfl fun ls1 h1 => k z rfl hB H locs ls1 hP hS (by rw [← hl]; exact LH.set hi hc h1)
theorem r_istore (hX : Cx S l w cc nL ret own R P G) {i : Nat} {z : Int} (lv1 : Int → List (Option Value)) (hd : decode cc pc = .ok (.istore i, 2)) (hi : i < lv.length) (hln : lv.length = nL) (hc : cat1 lv = true) (hl : ∀ x : Int, lv.set i (some (.int (iI x))) = lv1 x) (k : ∀ x : Int, x = z → G (pc + 2) (lv1 x) st σ) : G pc lv (.int (iI z) :: st) σ := by
  obtain ⟨p, e, s, m, args, below, meth, c, A, cells, slots, Q, ⟨hx, hb, -⟩, rfl, -⟩ := hX
  exact fun hB H locs ls hP hS h => lv_istore hx hb hd h.has (by omega) rfl fun ls1 h1 => k z rfl hB H locs ls1 hP hS (by rw [← hl]; exact LH.set hi hc h1)
theorem r_iinc (hX : Cx S l w cc nL ret own R P G) {i : Nat} {n z : Int} (lv1 : Int → List (Option Value)) (hd : decode cc pc = .ok (.iinc i n, 3)) (hz : lv[i]? = some (some (.int (iI z)))) (hln : lv.length = nL) (hc : cat1 lv = true) (hl : ∀ x : Int, lv.set i (some (.int (iI x))) = lv1 x) (k : ∀ x : Int, x = z + n → G (pc + 3) (lv1 x) st σ) : G pc lv st σ := by
  obtain ⟨p, e, s, m, args, below, meth, c, A, cells, slots, Q, ⟨hx, hb, -⟩, rfl, -⟩ := hX
  intro hB H locs ls hP hS h
  have hi : i < lv.length := (List.getElem?_eq_some_iff.mp hz).1
  obtain ⟨j, hj⟩ := List.getElem?_of_mem (toA_mem.mpr hz)
  exact lv_iinc hx hb hd h.has hj (show iI z + Int32.ofInt n = iI (z + n) from iI_add z n) (by omega) rfl fun ls1 h1 => k (z + n) rfl hB H locs ls1 hP hS (by rw [← hl]; exact LH.set hi hc h1)
theorem r_iadd (hX : Cx S l w cc nL ret own R P G) {a b : Int} (hd : decode cc pc = .ok (.iadd, 1)) (k : G (pc + 1) lv (.int (iI (a + b)) :: st) σ) : G pc lv (.int (iI b) :: .int (iI a) :: st) σ := by
  obtain ⟨p, e, s, m, args, below, meth, c, A, cells, slots, Q, ⟨hx, hb, -⟩, rfl, -⟩ := hX
  exact fun hB H locs ls hP hS h => lv_iadd hx hb hd (by rw [iI_add]; exact k hB H locs ls hP hS h)
theorem r_isub (hX : Cx S l w cc nL ret own R P G) {a b : Int} (hd : decode cc pc = .ok (.isub, 1)) (k : G (pc + 1) lv (.int (iI (a - b)) :: st) σ) : G pc lv (.int (iI b) :: .int (iI a) :: st) σ := by
  obtain ⟨p, e, s, m, args, below, meth, c, A, cells, slots, Q, ⟨hx, hb, -⟩, rfl, -⟩ := hX
  exact fun hB H locs ls hP hS h => lv_isub hx hb hd (by rw [iI_sub]; exact k hB H locs ls hP hS h)
theorem r_imul (hX : Cx S l w cc nL ret own R P G) {a b : Int} (hd : decode cc pc = .ok (.imul, 1)) (k : G (pc + 1) lv (.int (iI (a * b)) :: st) σ) : G pc lv (.int (iI b) :: .int (iI a) :: st) σ := by
  obtain ⟨p, e, s, m, args, below, meth, c, A, cells, slots, Q, ⟨hx, hb, -⟩, rfl, -⟩ := hX
  exact fun hB H locs ls hP hS h => lv_imul hx hb hd (by rw [iI_mul]; exact k hB H locs ls hP hS h)
theorem r_ineg (hX : Cx S l w cc nL ret own R P G) {a : Int} (hd : decode cc pc = .ok (.ineg, 1)) (k : G (pc + 1) lv (.int (iI (-a)) :: st) σ) : G pc lv (.int (iI a) :: st) σ := by
  obtain ⟨p, e, s, m, args, below, meth, c, A, cells, slots, Q, ⟨hx, hb, -⟩, rfl, -⟩ := hX
  exact fun hB H locs ls hP hS h => lv_ineg hx hb hd (by rw [iI_neg]; exact k hB H locs ls hP hS h)
theorem iI_div {a b : Int} (ha : inr a) (hb : inr b) (hn : a ≠ -2147483648 ∨ b ≠ -1) : iI a / iI b = iI (a.tdiv b) :=
  (Int32.ofInt_tdiv (show Int32.minValue.toInt ≤ a by have : Int32.minValue.toInt = -2147483648 := by decide
                                                      omega) (show a ≤ Int32.maxValue.toInt by have : Int32.maxValue.toInt = 2147483647 := by decide
                                                                                               omega) (show Int32.minValue.toInt ≤ b by have : Int32.minValue.toInt = -2147483648 := by decide
                                                                                                                                        omega) (show b ≤ Int32.maxValue.toInt by have : Int32.maxValue.toInt = 2147483647 := by decide
                                                                                                                                                                                 omega)).symm
/-- division of what isn't below 0 by what is above 0 -/
theorem r_idiv (hX : Cx S l w cc nL ret own R P G) {a b : Int} (hd : decode cc pc = .ok (.idiv, 1)) (h0 : 0 ≤ a) (h1 : a ≤ 2147483647) (h2 : 0 < b) (h3 : b ≤ 2147483647) (k : G (pc + 1) lv (.int (iI (a / b)) :: st) σ) : G pc lv (.int (iI b) :: .int (iI a) :: st) σ := by
  obtain ⟨p, e, s, m, args, below, meth, c, A, cells, slots, Q, ⟨hx, hb, -⟩, rfl, -⟩ := hX
  intro hB H locs ls hP hS h
  refine lv_idiv hx hb hd (fun hz => ?_) ?_
  · have := (iI_eq (a := b) (b := 0) ⟨by omega, by omega⟩ ⟨by omega, by omega⟩).mp (by rw [hz]; exact iI_zero.symm)
    omega
  · rw [iI_div ⟨by omega, by omega⟩ ⟨by omega, by omega⟩ (Or.inl (by omega)), Int.tdiv_eq_ediv_of_nonneg h0]
    exact k hB H locs ls hP hS h
/-- division of any number by what is above 0: cut towards 0 -/
theorem r_idivT (hX : Cx S l w cc nL ret own R P G) {a b : Int} (hd : decode cc pc = .ok (.idiv, 1)) (h0 : inr a) (h2 : 0 < b) (h3 : b ≤ 2147483647) (k : G (pc + 1) lv (.int (iI (a.tdiv b)) :: st) σ) : G pc lv (.int (iI b) :: .int (iI a) :: st) σ := by
  obtain ⟨p, e, s, m, args, below, meth, c, A, cells, slots, Q, ⟨hx, hb, -⟩, rfl, -⟩ := hX
  intro hB H locs ls hP hS h
  refine lv_idiv hx hb hd (fun hz => ?_) ?_
  · have := (iI_eq (a := b) (b := 0) ⟨by omega, by omega⟩ ⟨by omega, by omega⟩).mp (by rw [hz]; exact iI_zero.symm)
    omega
  · rw [iI_div h0 ⟨by omega, by omega⟩ (Or.inr (by omega))]
    exact k hB H locs ls hP hS h
theorem iI_rem {a b : Int} (ha : inr a) (hb : 0 < b) (hb2 : b ≤ 2147483647) : iI a - iI a / iI b * iI b = iI (a.tmod b) := by
  rw [iI_div ha ⟨by omega, by omega⟩ (Or.inr (by omega)), iI_mul, iI_sub]
  congr 1
  have := Int.mul_tdiv_add_tmod a b
  rw [Int.mul_comm] at this
  omega
theorem r_irem (hX : Cx S l w cc nL ret own R P G) {a b : Int} (hd : decode cc pc = .ok (.irem, 1)) (h0 : 0 ≤ a) (h1 : a ≤ 2147483647) (h2 : 0 < b) (h3 : b ≤ 2147483647) (k : G (pc + 1) lv (.int (iI (a % b)) :: st) σ) : G pc lv (.int (iI b) :: .int (iI a) :: st) σ := by
  obtain ⟨p, e, s, m, args, below, meth, c, A, cells, slots, Q, ⟨hx, hb, -⟩, rfl, -⟩ := hX
  intro hB H locs ls hP hS h
  refine lv_irem hx hb hd (fun hz => ?_) ?_
  · have := (iI_eq (a := b) (b := 0) ⟨by omega, by omega⟩ ⟨by omega, by omega⟩).mp (by rw [hz]; exact iI_zero.symm)
    omega
  · rw [iI_rem ⟨by omega, by omega⟩ h2 h3, Int.tmod_eq_emod_of_nonneg h0]
    exact k hB H locs ls hP hS h
theorem r_iremT (hX : Cx S l w cc nL ret own R P G) {a b : Int} (hd : decode cc pc = .ok (.irem, 1)) (h0 : inr a) (h2 : 0 < b) (h3 : b ≤ 2147483647) (k : G (pc + 1) lv (.int (iI (a.tmod b)) :: st) σ) : G pc lv (.int (iI b) :: .int (iI a) :: st) σ := by
  obtain ⟨p, e, s, m, args, below, meth, c, A, cells, slots, Q, ⟨hx, hb, -⟩, rfl, -⟩ := hX
  intro hB H locs ls hP hS h
  refine lv_irem hx hb hd (fun hz => ?_) ?_
  · have := (iI_eq (a := b) (b := 0) ⟨by omega, by omega⟩ ⟨by omega, by omega⟩).mp (by rw [hz]; exact iI_zero.symm)
    omega
  · rw [iI_rem h0 h2 h3]
    exact k hB H locs ls hP hS h
theorem r_i2l (hX : Cx S l w cc nL ret own R P G) {a : Int} (hd : decode cc pc = .ok (.i2l, 1)) (ha : inr a) (k : G (pc + 1) lv (.long (lI a) :: st) σ) : G pc lv (.int (iI a) :: st) σ := by
  obtain ⟨p, e, s, m, args, below, meth, c, A, cells, slots, Q, ⟨hx, hb, -⟩, rfl, -⟩ := hX
  exact fun hB H locs ls hP hS h => lv_i2l hx hb hd (by rw [← Int64.toInt_inj, Int32.toInt_toInt64, iI_toInt ha, lI_toInt ⟨by omega, by omega⟩]) (k hB H locs ls hP hS h)
theorem r_lcmp (hX : Cx S l w cc nL ret own R P G) {a b : Int} (hd : decode cc pc = .ok (.lcmp, 1)) (ha : inr8 a) (hb8 : inr8 b) (k : ∀ z : Int, (z = -1 ∧ a < b) ∨ (z = 0 ∧ a = b) ∨ (z = 1 ∧ b < a) → G (pc + 1) lv (.int (iI z) :: st) σ) : G pc lv (.long (lI b) :: .long (lI a) :: st) σ := by
  obtain ⟨p, e, s, m, args, below, meth, c, A, cells, slots, Q, ⟨hx, hb, -⟩, rfl, -⟩ := hX
  intro hB H locs ls hP hS h
  refine W.lcmp hx hb hd ?_
  have e1 : ∃ z : Int, lg_cmp (lI a) (lI b) = iI z ∧ ((z = -1 ∧ a < b) ∨ (z = 0 ∧ a = b) ∨ (z = 1 ∧ b < a)) := by
    rcases Int.lt_trichotomy a b with q | q | q
    · exact ⟨-1, by simp only [lg_cmp, lI_lt hb8 ha, lI_eq ha hb8]; rw [if_neg (by omega), if_neg (by omega)]; decide, Or.inl ⟨rfl, q⟩⟩
    · exact ⟨0, by simp only [lg_cmp, lI_lt hb8 ha, lI_eq ha hb8]; rw [if_neg (by omega), if_pos (by omega)]; decide, Or.inr (Or.inl ⟨rfl, q⟩)⟩
    · exact ⟨1, by simp only [lg_cmp, lI_lt hb8 ha, lI_eq ha hb8]; rw [if_pos (by omega)]; decide, Or.inr (Or.inr ⟨rfl, q⟩)⟩
  obtain ⟨z, e2, e3⟩ := e1
  rw [e2]
  exact k z e3 hB H locs ls hP hS h
theorem r_dup (hX : Cx S l w cc nL ret own R P G) {v : Value} (hd : decode cc pc = .ok (.dup, 1)) (hv : v.category = 1) (k : G (pc + 1) lv (v :: v :: st) σ) : G pc lv (v :: st) σ := by
  obtain ⟨p, e, s, m, args, below, meth, c, A, cells, slots, Q, ⟨hx, hb, -⟩, rfl, -⟩ := hX
  exact fun hB H locs ls hP hS h => lv_dup hx hb hd hv (k hB H locs ls hP hS h)
theorem r_dup2 (hX : Cx S l w cc nL ret own R P G) {v u : Value} (hd : decode cc pc = .ok (.dup2, 1)) (hv : v.category = 1) (hu : u.category = 1) (k : G (pc + 1) lv (v :: u :: v :: u :: st) σ) : G pc lv (v :: u :: st) σ := by
  obtain ⟨p, e, s, m, args, below, meth, c, A, cells, slots, Q, ⟨hx, hb, -⟩, rfl, -⟩ := hX
  exact fun hB H locs ls hP hS h => lv_dup2_11 hx hb hd hv hu (k hB H locs ls hP hS h)
theorem r_goto (hX : Cx S l w cc nL ret own R P G) {off : Int} {tgt : Nat} (hd : decode cc pc = .ok (.goto off, 3)) (ht : (pc : Int) + off = (tgt : Int)) (k : G tgt lv st σ) : G pc lv st σ := by
  obtain ⟨p, e, s, m, args, below, meth, c, A, cells, slots, Q, ⟨hx, hb, -⟩, rfl, -⟩ := hX
  exact fun hB H locs ls hP hS h => lv_goto hx hb hd ht (k hB H locs ls hP hS h)
theorem r_tblOut (hX : Cx S l w cc nL ret own R P G) {dflt lo hi : Int} {offs : Array Int} {len : Nat} {a : Int} {tgt : Nat} (hd : decode cc pc = .ok (.tableswitch dflt lo hi offs, len)) (ha : inr a) (hq : a < lo ∨ hi < a) (ht : (pc : Int) + dflt = (tgt : Int)) (k : G tgt lv st σ) : G pc lv (.int (iI a) :: st) σ := by
  obtain ⟨p, e, s, m, args, below, meth, c, A, cells, slots, Q, ⟨hx, hb, -⟩, rfl, -⟩ := hX
  exact fun hB H locs ls hP hS h => lv_tableOut hx hb hd (by rw [iI_toInt ha]; exact hq) ht (k hB H locs ls hP hS h)
theorem r_tblIn (hX : Cx S l w cc nL ret own R P G) {dflt lo hi : Int} {offs : Array Int} {len : Nat} {a off : Int} {tgt : Nat} (z : Int) (hd : decode cc pc = .ok (.tableswitch dflt lo hi offs, len)) (ha : a = z) (hz : inr z ∧ lo ≤ z ∧ z ≤ hi) (ho : offs[(z - lo).toNat]? = some off) (ht : (pc : Int) + off = (tgt : Int)) (k : G tgt lv st σ) : G pc lv (.int (iI a) :: st) σ := by
  obtain ⟨p, e, s, m, args, below, meth, c, A, cells, slots, Q, ⟨hx, hb, -⟩, rfl, -⟩ := hX
  subst ha
  exact fun hB H locs ls hP hS h => lv_tableIn hx hb hd (by rw [iI_toInt hz.1]; omega) (by rw [iI_toInt hz.1]; omega) (by rw [iI_toInt hz.1]; exact ho) ht (k hB H locs ls hP hS h)
theorem r_icmp_eq (hX : Cx S l w cc nL ret own R P G) {a b off : Int} {tgt : Nat} (hd : decode cc pc = .ok (.if_icmp .eq off, 3)) (ht : (pc : Int) + off = (tgt : Int)) (ha : inr a) (hb2 : inr b) (kt : a = b → G tgt lv st σ) (kf : ¬ a = b → G (pc + 3) lv st σ) : G pc lv (.int (iI b) :: .int (iI a) :: st) σ := by
  obtain ⟨p, e, s, m, args, below, meth, c, A, cells, slots, Q, ⟨hx, hb, -⟩, rfl, -⟩ := hX
  exact fun hB H locs ls hP hS h => lv_icmp_eq hx hb hd ht (fun q => kt (by rw [iI_eq ha hb2] at q; omega) hB H locs ls hP hS h) (fun q => kf (by rw [iI_eq ha hb2] at q; omega) hB H locs ls hP hS h)
theorem r_if_eq (hX : Cx S l w cc nL ret own R P G) {a off : Int} {tgt : Nat} (hd : decode cc pc = .ok (.ifCond .eq off, 3)) (ht : (pc : Int) + off = (tgt : Int)) (ha : inr a) (kt : a = 0 → G tgt lv st σ) (kf : ¬ a = 0 → G (pc + 3) lv st σ) : G pc lv (.int (iI a) :: st) σ := by
  obtain ⟨p, e, s, m, args, below, meth, c, A, cells, slots, Q, ⟨hx, hb, -⟩, rfl, -⟩ := hX
  have hb2 : inr 0 := ⟨by omega, by omega⟩
  exact fun hB H locs ls hP hS h => lv_if_eq hx hb hd ht (fun q => kt (by rw [← iI_zero, iI_eq ha hb2] at q; omega) hB H locs ls hP hS h) (fun q => kf (by rw [← iI_zero, iI_eq ha hb2] at q; omega) hB H locs ls hP hS h)
theorem r_icmpR_eq (hX : Cx S l w cc nL ret own R P G) {a b off : Int} {tgt : Nat} (hd : decode cc pc = .ok (.if_icmp .eq off, 3)) (ht : (pc : Int) + off = (tgt : Int)) (kt : iI a = iI b → G tgt lv st σ) (kf : ¬ iI a = iI b → G (pc + 3) lv st σ) : G pc lv (.int (iI b) :: .int (iI a) :: st) σ := by
  obtain ⟨p, e, s, m, args, below, meth, c, A, cells, slots, Q, ⟨hx, hb, -⟩, rfl, -⟩ := hX
  exact fun hB H locs ls hP hS h => lv_icmp_eq hx hb hd ht (fun q => kt q hB H locs ls hP hS h) (fun q => kf q hB H locs ls hP hS h)
theorem r_icmp_ne (hX : Cx S l w cc nL ret own R P G) {a b off : Int} {tgt : Nat} (hd : decode cc pc = .ok (.if_icmp .ne off, 3)) (ht : (pc : Int) + off = (tgt : Int)) (ha : inr a) (hb2 : inr b) (kt : ¬ a = b → G tgt lv st σ) (kf : a = b → G (pc + 3) lv st σ) : G pc lv (.int (iI b) :: .int (iI a) :: st) σ := by
  obtain ⟨p, e, s, m, args, below, meth, c, A, cells, slots, Q, ⟨hx, hb, -⟩, rfl, -⟩ := hX
  exact fun hB H locs ls hP hS h => lv_icmp_ne hx hb hd ht (fun q => kt (by rw [iI_eq ha hb2] at q; omega) hB H locs ls hP hS h) (fun q => kf (by rw [iI_eq ha hb2] at q; omega) hB H locs ls hP hS h)
theorem r_if_ne (hX : Cx S l w cc nL ret own R P G) {a off : Int} {tgt : Nat} (hd : decode cc pc = .ok (.ifCond .ne off, 3)) (ht : (pc : Int) + off = (tgt : Int)) (ha : inr a) (kt : ¬ a = 0 → G tgt lv st σ) (kf : a = 0 → G (pc + 3) lv st σ) : G pc lv (.int (iI a) :: st) σ := by
  obtain ⟨p, e, s, m, args, below, meth, c, A, cells, slots, Q, ⟨hx, hb, -⟩, rfl, -⟩ := hX
  have hb2 : inr 0 := ⟨by omega, by omega⟩
  exact fun hB H locs ls hP hS h => lv_if_ne hx hb hd ht (fun q => kt (by rw [← iI_zero, iI_eq ha hb2] at q; omega) hB H locs ls hP hS h) (fun q => kf (by rw [← iI_zero, iI_eq ha hb2] at q; omega) hB H locs ls hP hS h)
theorem r_icmpR_ne (hX : Cx S l w cc nL ret own R P G) {a b off : Int} {tgt : Nat} (hd : decode cc pc = .ok (.if_icmp .ne off, 3)) (ht : (pc : Int) + off = (tgt : Int)) (kt : ¬ iI a = iI b → G tgt lv st σ) (kf : iI a = iI b → G (pc + 3) lv st σ) : G pc lv (.int (iI b) :: .int (iI a) :: st) σ := by
  obtain ⟨p, e, s, m, args, below, meth, c, A, cells, slots, Q, ⟨hx, hb, -⟩, rfl, -⟩ := hX
  exact fun hB H locs ls hP hS h => lv_icmp_ne hx hb hd ht (fun q => kt q hB H locs ls hP hS h) (fun q => kf q hB H locs ls hP hS h)
theorem r_icmp_lt (hX : Cx S l w cc nL ret own R P G) {a b off : Int} {tgt : Nat} (hd : decode cc pc = .ok (.if_icmp .lt off, 3)) (ht : (pc : Int) + off = (tgt : Int)) (ha : inr a) (hb2 : inr b) (kt : a < b → G tgt lv st σ) (kf : b ≤ a → G (pc + 3) lv st σ) : G pc lv (.int (iI b) :: .int (iI a) :: st) σ := by
  obtain ⟨p, e, s, m, args, below, meth, c, A, cells, slots, Q, ⟨hx, hb, -⟩, rfl, -⟩ := hX
  exact fun hB H locs ls hP hS h => lv_icmp_lt hx hb hd ht (fun q => kt (by rw [iI_lt ha hb2] at q; omega) hB H locs ls hP hS h) (fun q => kf (by rw [iI_lt ha hb2] at q; omega) hB H locs ls hP hS h)
theorem r_if_lt (hX : Cx S l w cc nL ret own R P G) {a off : Int} {tgt : Nat} (hd : decode cc pc = .ok (.ifCond .lt off, 3)) (ht : (pc : Int) + off = (tgt : Int)) (ha : inr a) (kt : a < 0 → G tgt lv st σ) (kf : 0 ≤ a → G (pc + 3) lv st σ) : G pc lv (.int (iI a) :: st) σ := by
  obtain ⟨p, e, s, m, args, below, meth, c, A, cells, slots, Q, ⟨hx, hb, -⟩, rfl, -⟩ := hX
  have hb2 : inr 0 := ⟨by omega, by omega⟩
  exact fun hB H locs ls hP hS h => lv_if_lt hx hb hd ht (fun q => kt (by rw [← iI_zero, iI_lt ha hb2] at q; omega) hB H locs ls hP hS h) (fun q => kf (by rw [← iI_zero, iI_lt ha hb2] at q; omega) hB H locs ls hP hS h)
theorem r_icmpR_lt (hX : Cx S l w cc nL ret own R P G) {a b off : Int} {tgt : Nat} (hd : decode cc pc = .ok (.if_icmp .lt off, 3)) (ht : (pc : Int) + off = (tgt : Int)) (kt : iI a < iI b → G tgt lv st σ) (kf : ¬ iI a < iI b → G (pc + 3) lv st σ) : G pc lv (.int (iI b) :: .int (iI a) :: st) σ := by
  obtain ⟨p, e, s, m, args, below, meth, c, A, cells, slots, Q, ⟨hx, hb, -⟩, rfl, -⟩ := hX
  exact fun hB H locs ls hP hS h => lv_icmp_lt hx hb hd ht (fun q => kt q hB H locs ls hP hS h) (fun q => kf q hB H locs ls hP hS h)
theorem r_icmp_ge (hX : Cx S l w cc nL ret own R P G) {a b off : Int} {tgt : Nat} (hd : decode cc pc = .ok (.if_icmp .ge off, 3)) (ht : (pc : Int) + off = (tgt : Int)) (ha : inr a) (hb2 : inr b) (kt : b ≤ a → G tgt lv st σ) (kf : a < b → G (pc + 3) lv st σ) : G pc lv (.int (iI b) :: .int (iI a) :: st) σ := by
  obtain ⟨p, e, s, m, args, below, meth, c, A, cells, slots, Q, ⟨hx, hb, -⟩, rfl, -⟩ := hX
  exact fun hB H locs ls hP hS h => lv_icmp_ge hx hb hd ht (fun q => kt (by rw [iI_le hb2 ha] at q; omega) hB H locs ls hP hS h) (fun q => kf (by rw [iI_le hb2 ha] at q; omega) hB H locs ls hP hS h)
theorem r_if_ge (hX : Cx S l w cc nL ret own R P G) {a off : Int} {tgt : Nat} (hd : decode cc pc = .ok (.ifCond .ge off, 3)) (ht : (pc : Int) + off = (tgt : Int)) (ha : inr a) (kt : 0 ≤ a → G tgt lv st σ) (kf : a < 0 → G (pc + 3) lv st σ) : G pc lv (.int (iI a) :: st) σ := by
  obtain ⟨p, e, s, m, args, below, meth, c, A, cells, slots, Q, ⟨hx, hb, -⟩, rfl, -⟩ := hX
  have hb2 : inr 0 := ⟨by omega, by omega⟩
  exact fun hB H locs ls hP hS h => lv_if_ge hx hb hd ht (fun q => kt (by rw [← iI_zero, iI_le hb2 ha] at q; omega) hB H locs ls hP hS h) (fun q => kf (by rw [← iI_zero, iI_le hb2 ha] at q; omega) hB H locs ls hP hS h)
theorem r_icmpR_ge (hX : Cx S l w cc nL ret own R P G) {a b off : Int} {tgt : Nat} (hd : decode cc pc = .ok (.if_icmp .ge off, 3)) (ht : (pc : Int) + off = (tgt : Int)) (kt : iI b ≤ iI a → G tgt lv st σ) (kf : ¬ iI b ≤ iI a → G (pc + 3) lv st σ) : G pc lv (.int (iI b) :: .int (iI a) :: st) σ := by
  obtain ⟨p, e, s, m, args, below, meth, c, A, cells, slots, Q, ⟨hx, hb, -⟩, rfl, -⟩ := hX
  exact fun hB H locs ls hP hS h => lv_icmp_ge hx hb hd ht (fun q => kt q hB H locs ls hP hS h) (fun q => kf q hB H locs ls hP hS h)
theorem r_icmp_gt (hX : Cx S l w cc nL ret own R P G) {a b off : Int} {tgt : Nat} (hd : decode cc pc = .ok (.if_icmp .gt off, 3)) (ht : (pc : Int) + off = (tgt : Int)) (ha : inr a) (hb2 : inr b) (kt : b < a → G tgt lv st σ) (kf : a ≤ b → G (pc + 3) lv st σ) : G pc lv (.int (iI b) :: .int (iI a) :: st) σ := by
  obtain ⟨p, e, s, m, args, below, meth, c, A, cells, slots, Q, ⟨hx, hb, -⟩, rfl, -⟩ := hX
  exact fun hB H locs ls hP hS h => lv_icmp_gt hx hb hd ht (fun q => kt (by rw [iI_lt hb2 ha] at q; omega) hB H locs ls hP hS h) (fun q => kf (by rw [iI_lt hb2 ha] at q; omega) hB H locs ls hP hS h)
theorem r_if_gt (hX : Cx S l w cc nL ret own R P G) {a off : Int} {tgt : Nat} (hd : decode cc pc = .ok (.ifCond .gt off, 3)) (ht : (pc : Int) + off = (tgt : Int)) (ha : inr a) (kt : 0 < a → G tgt lv st σ) (kf : a ≤ 0 → G (pc + 3) lv st σ) : G pc lv (.int (iI a) :: st) σ := by
  obtain ⟨p, e, s, m, args, below, meth, c, A, cells, slots, Q, ⟨hx, hb, -⟩, rfl, -⟩ := hX
  have hb2 : inr 0 := ⟨by omega, by omega⟩
  exact fun hB H locs ls hP hS h => lv_if_gt hx hb hd ht (fun q => kt (by rw [← iI_zero, iI_lt hb2 ha] at q; omega) hB H locs ls hP hS h) (fun q => kf (by rw [← iI_zero, iI_lt hb2 ha] at q; omega) hB H locs ls hP hS h)
theorem r_icmpR_gt (hX : Cx S l w cc nL ret own R P G) {a b off : Int} {tgt : Nat} (hd : decode cc pc = .ok (.if_icmp .gt off, 3)) (ht : (pc : Int) + off = (tgt : Int)) (kt : iI b < iI a → G tgt lv st σ) (kf : ¬ iI b < iI a → G (pc + 3) lv st σ) : G pc lv (.int (iI b) :: .int (iI a) :: st) σ := by
  obtain ⟨p, e, s, m, args, below, meth, c, A, cells, slots, Q, ⟨hx, hb, -⟩, rfl, -⟩ := hX
  exact fun hB H locs ls hP hS h => lv_icmp_gt hx hb hd ht (fun q => kt q hB H locs ls hP hS h) (fun q => kf q hB H locs ls hP hS h)
theorem r_icmp_le (hX : Cx S l w cc nL ret own R P G) {a b off : Int} {tgt : Nat} (hd : decode cc pc = .ok (.if_icmp .le off, 3)) (ht : (pc : Int) + off = (tgt : Int)) (ha : inr a) (hb2 : inr b) (kt : a ≤ b → G tgt lv st σ) (kf : b < a → G (pc + 3) lv st σ) : G pc lv (.int (iI b) :: .int (iI a) :: st) σ := by
  obtain ⟨p, e, s, m, args, below, meth, c, A, cells, slots, Q, ⟨hx, hb, -⟩, rfl, -⟩ := hX
  exact fun hB H locs ls hP hS h => lv_icmp_le hx hb hd ht (fun q => kt (by rw [iI_le ha hb2] at q; omega) hB H locs ls hP hS h) (fun q => kf (by rw [iI_le ha hb2] at q; omega) hB H locs ls hP hS h)
theorem r_if_le (hX : Cx S l w cc nL ret own R P G) {a off : Int} {tgt : Nat} (hd : decode cc pc = .ok (.ifCond .le off, 3)) (ht : (pc : Int) + off = (tgt : Int)) (ha : inr a) (kt : a ≤ 0 → G tgt lv st σ) (kf : 0 < a → G (pc + 3) lv st σ) : G pc lv (.int (iI a) :: st) σ := by
  obtain ⟨p, e, s, m, args, below, meth, c, A, cells, slots, Q, ⟨hx, hb, -⟩, rfl, -⟩ := hX
  have hb2 : inr 0 := ⟨by omega, by omega⟩
  exact fun hB H locs ls hP hS h => lv_if_le hx hb hd ht (fun q => kt (by rw [← iI_zero, iI_le ha hb2] at q; omega) hB H locs ls hP hS h) (fun q => kf (by rw [← iI_zero, iI_le ha hb2] at q; omega) hB H locs ls hP hS h)
theorem r_icmpR_le (hX : Cx S l w cc nL ret own R P G) {a b off : Int} {tgt : Nat} (hd : decode cc pc = .ok (.if_icmp .le off, 3)) (ht : (pc : Int) + off = (tgt : Int)) (kt : iI a ≤ iI b → G tgt lv st σ) (kf : ¬ iI a ≤ iI b → G (pc + 3) lv st σ) : G pc lv (.int (iI b) :: .int (iI a) :: st) σ := by
  obtain ⟨p, e, s, m, args, below, meth, c, A, cells, slots, Q, ⟨hx, hb, -⟩, rfl, -⟩ := hX
  exact fun hB H locs ls hP hS h => lv_icmp_le hx hb hd ht (fun q => kt q hB H locs ls hP hS h) (fun q => kf q hB H locs ls hP hS h)
theorem r_getI (hX : Cx S l w cc nL ret own R P G) {C : String} {T : u_T} {N ci i k r idx : Nat} {fs : List FS} (hd : decode cc pc = .ok (.getfield idx, 3)) (hs : S.2.1[i]? = some (.inl (ci, fs))) (hc : S.1[ci]? = some (C, T, N)) (hin : ∀ x ∈ u_ws C T N, x ∈ gtb) (hk : k < N) (hf : fs[k]? = some (.inl r)) (hl : Cond.fieldLink own idx (T k).1 (T k).2.1 (T k).2.2.1 ∈ gtb) (kk : G (pc + 3) lv (.int (iI (σ r 0)) :: st) σ) : G pc lv (.ref (w.2.2 i) :: st) σ := by
  obtain ⟨p, e, s, m, args, below, meth, c, A, cells, slots, Q, ⟨hx, hb, hml, hown, hts, hK, -⟩, rfl, -⟩ := hX
  exact fun hB H locs ls hP hS h => va_get (fs := fs.map (fv w.2.2 σ)) hx hb hts hin hown hK hP i (wd_get hs) hc k hk (hts _ hl) (fun _ z => z) (by rw [List.getElem?_map, hf]; rfl) hd (kk hB H locs ls hP hS h)
theorem r_getR (hX : Cx S l w cc nL ret own R P G) {C : String} {T : u_T} {N ci i k j idx : Nat} {fs : List FS} (hd : decode cc pc = .ok (.getfield idx, 3)) (hs : S.2.1[i]? = some (.inl (ci, fs))) (hc : S.1[ci]? = some (C, T, N)) (hin : ∀ x ∈ u_ws C T N, x ∈ gtb) (hk : k < N) (hf : fs[k]? = some (.inr j)) (hl : Cond.fieldLink own idx (T k).1 (T k).2.1 (T k).2.2.1 ∈ gtb) (kk : G (pc + 3) lv (.ref (w.2.2 j) :: st) σ) : G pc lv (.ref (w.2.2 i) :: st) σ := by
  obtain ⟨p, e, s, m, args, below, meth, c, A, cells, slots, Q, ⟨hx, hb, hml, hown, hts, hK, -⟩, rfl, -⟩ := hX
  exact fun hB H locs ls hP hS h => va_get (fs := fs.map (fv w.2.2 σ)) hx hb hts hin hown hK hP i (wd_get hs) hc k hk (hts _ hl) (fun _ z => z) (by rw [List.getElem?_map, hf]; rfl) hd (kk hB H locs ls hP hS h)
theorem r_putI (hX : Cx S l w cc nL ret own R P G) {C : String} {T : u_T} {N ci i k r idx : Nat} {fs : List FS} {z : Int} (hd : decode cc pc = .ok (.putfield idx, 3)) (hs : S.2.1[i]? = some (.inl (ci, fs))) (hc : S.1[ci]? = some (C, T, N)) (hin : ∀ x ∈ u_ws C T N, x ∈ gtb) (ty0 : Nat → FieldType) (hty : ∀ k, k < N → parseFieldDescriptor (T k).2.2.1 = some (ty0 k)) (hnm : ∀ a, a < N → ∀ b, b < N → a ≠ b → (T a).2.1 ≠ (T b).2.1) (hk : k < N) (hf : fs[k]? = some (.inl r)) (hl : Cond.fieldLink own idx (T k).1 (T k).2.1 (T k).2.2.1 ∈ gtb) (hfin : (T k).2.2.2 = false) (hpd : parseFieldDescriptor (T k).2.2.1 = some .int) (ho : sepR S.2.1 i r = true) (ho2 : fsep fs k r = true)
    (hbd : ∀ lo hi, S.2.2[r]? = some (some (lo, hi)) → lo ≤ z ∧ z ≤ hi) (kk : G (pc + 3) lv st (up σ r 0 z)) : G pc lv (.int (iI z) :: .ref (w.2.2 i) :: st) σ := by
  obtain ⟨p, e, s, m, args, below, meth, c, A, cells, slots, Q, ⟨hx, hb, hml, hown, hts, hK, hI, hA, -⟩, rfl, -⟩ := hX
  intro hB H locs ls hP hS h
  refine va_put (fs := fs.map (fv w.2.2 σ)) (ty := .int) hx hb hts hin ty0 hty hnm hown hK hP (wd_D hI hA σ) hS i (wd_get hs) hc k hk (hts _ hl) (fun _ z => z) hfin hpd rfl rfl (by rw [List.length_map]; exact (List.getElem?_eq_some_iff.mp hf).1) hd fun H1 locs1 hP1 hD1 hS1 => kk (hB.up hbd) H1 locs1 ls ?_ hS1 h
  rw [wd_up (e := 0) (v := z) hs ho (show ce w (up σ r 0 z) (.inl (ci, fs)) = _ by simp only [ce]; rw [fs_set hf ho2])] at hP1
  exact hP1
theorem sh_len {sh : List SH} {i r n : Nat} {b : Bool} (h : sh.all shOK = true) (hs : sh[i]? = some (.inr (b, r, n))) : n ≤ 1000000 := by
  have h1 := List.all_eq_true.mp h _ (List.mem_of_getElem? hs)
  exact Nat.le_of_ble_eq_true h1
theorem r_iald (hX : Cx S l w cc nL ret own R P G) {i r n : Nat} {a : Int} (hd : decode cc pc = .ok (.iaload, 1)) (hs : S.2.1[i]? = some (.inr (false, r, n))) (h0 : 0 ≤ a) (h1 : a < (n : Int)) (kk : G (pc + 1) lv (.int (iI (σ r a)) :: st) σ) : G pc lv (.int (iI a) :: .ref (w.2.2 i) :: st) σ := by
  obtain ⟨p, e, s, m, args, below, meth, c, A, cells, slots, Q, ⟨hx, hb, hml, hown, hts, hK, hI, hA, -, -, hsh, -⟩, rfl, -⟩ := hX
  intro hB H locs ls hP hS h
  have hn := sh_len hsh hs
  refine va_iald hx hb hK hP i 0 (wd_get hs) rfl (iI_in h0 h1 hn) hd ?_
  rw [iI_clamp h0 (by omega)]
  exact kk hB H locs ls hP hS h
theorem r_zald (hX : Cx S l w cc nL ret own R P G) {i r n : Nat} {a : Int} (hd : decode cc pc = .ok (.baload, 1)) (hs : S.2.1[i]? = some (.inr (true, r, n))) (h0 : 0 ≤ a) (h1 : a < (n : Int)) (kk : G (pc + 1) lv (.int (iI (σ r a)) :: st) σ) : G pc lv (.int (iI a) :: .ref (w.2.2 i) :: st) σ := by
  obtain ⟨p, e, s, m, args, below, meth, c, A, cells, slots, Q, ⟨hx, hb, hml, hown, hts, hK, hI, hA, -, -, hsh, -⟩, rfl, -⟩ := hX
  intro hB H locs ls hP hS h
  have hn := sh_len hsh hs
  refine va_zald hx hb hK hP i 1 (wd_get hs) rfl (iI_in h0 h1 hn) hd ?_
  rw [iI_clamp h0 (by omega)]
  exact kk hB H locs ls hP hS h
theorem upd_up {σ : MM} {r : Nat} {a z : Int} (h0 : 0 ≤ a) (h1 : a ≤ 2147483647) : upd (fun k => iI (σ r (k : Int))) (iI a).toNatClampNeg (iI z) = fun k : Nat => iI (up σ r a z r (k : Int)) := by
  funext k
  have h2 := iI_clamp h0 h1
  simp only [upd, up_at]
  by_cases hk : k = (iI a).toNatClampNeg
  · rw [if_pos hk, if_pos (by omega)]
  · rw [if_neg hk, if_neg (by omega)]
theorem r_iast (hX : Cx S l w cc nL ret own R P G) {i r n : Nat} {a z : Int} (hd : decode cc pc = .ok (.iastore, 1)) (hs : S.2.1[i]? = some (.inr (false, r, n))) (ho : sepR S.2.1 i r = true) (h0 : 0 ≤ a) (h1 : a < (n : Int)) (hbd : ∀ lo hi, S.2.2[r]? = some (some (lo, hi)) → lo ≤ z ∧ z ≤ hi) (kk : G (pc + 1) lv st (up σ r a z)) : G pc lv (.int (iI z) :: .int (iI a) :: .ref (w.2.2 i) :: st) σ := by
  obtain ⟨p, e, s, m, args, below, meth, c, A, cells, slots, Q, ⟨hx, hb, hml, hown, hts, hK, hI, hA, -, -, hsh, -⟩, rfl, -⟩ := hX
  intro hB H locs ls hP hS h
  have hn := sh_len hsh hs
  refine va_iast hx hb hK hP (wd_D hI hA σ) hS i 0 (wd_get hs) rfl (iI_in h0 h1 hn) hd fun H1 locs1 hP1 hD1 hS1 => kk (hB.up hbd) H1 locs1 ls ?_ hS1 h
  rw [wd_up (e := a) (v := z) hs ho (show ce w (up σ r a z) (.inr (false, r, n)) = _ by simp only [ce]; rw [← upd_up h0 (by omega)])] at hP1
  exact hP1
theorem zn (z : Int) (hz : z = 0 ∨ z = 1) : vp_nar .boolean (iI z) = iI z := by
  rcases hz with rfl | rfl <;> decide
theorem r_zast (hX : Cx S l w cc nL ret own R P G) {i r n : Nat} {a z : Int} (hd : decode cc pc = .ok (.bastore, 1)) (hs : S.2.1[i]? = some (.inr (true, r, n))) (ho : sepR S.2.1 i r = true) (h0 : 0 ≤ a) (h1 : a < (n : Int)) (hz : z = 0 ∨ z = 1) (hbd : ∀ lo hi, S.2.2[r]? = some (some (lo, hi)) → lo ≤ z ∧ z ≤ hi) (kk : G (pc + 1) lv st (up σ r a z)) : G pc lv (.int (iI z) :: .int (iI a) :: .ref (w.2.2 i) :: st) σ := by
  obtain ⟨p, e, s, m, args, below, meth, c, A, cells, slots, Q, ⟨hx, hb, hml, hown, hts, hK, hI, hA, -, -, hsh, -⟩, rfl, -⟩ := hX
  intro hB H locs ls hP hS h
  have hn := sh_len hsh hs
  refine va_zast hx hb hK hP (wd_D hI hA σ) hS i 1 (wd_get hs) rfl (iI_in h0 h1 hn) hd fun H1 locs1 hP1 hD1 hS1 => kk (hB.up hbd) H1 locs1 ls ?_ hS1 h
  rw [zn z hz] at hP1
  rw [wd_up (e := a) (v := z) hs ho (show ce w (up σ r a z) (.inr (true, r, n)) = _ by simp only [ce]; rw [← upd_up h0 (by omega)])] at hP1
  exact hP1
theorem r_alen (hX : Cx S l w cc nL ret own R P G) {i r n : Nat} (hd : decode cc pc = .ok (.arraylength, 1)) (hs : S.2.1[i]? = some (.inr (false, r, n))) (kk : G (pc + 1) lv (.int (iI (n : Int)) :: st) σ) : G pc lv (.ref (w.2.2 i) :: st) σ := by
  obtain ⟨p, e, s, m, args, below, meth, c, A, cells, slots, Q, ⟨hx, hb, hml, hown, hts, hK, hI, hA, -, -, hsh, -⟩, rfl, -⟩ := hX
  intro hB H locs ls hP hS h
  exact va_alen hx hb hK hP i 0 (wd_get hs) rfl (show Int32.ofNat n = iI (n : Int) from Int32.ofInt_eq_ofNat.symm) hd (kk hB H locs ls hP hS h)
theorem r_ret (hX : Cx S l w cc nL ret own R P G) (hd : decode cc pc = .ok (.return_, 1)) (hr : ret = none) (hp : P none σ) : G pc lv [] σ := by
  obtain ⟨p, e, s, m, args, below, meth, c, A, cells, slots, Q, -, -, hR⟩ := hX
  exact hR pc lv none σ ⟨hd, hr⟩ hp
theorem r_iret (hX : Cx S l w cc nL ret own R P G) {z : Int} (hd : decode cc pc = .ok (.ireturn, 1)) (hr : ret = some .int) (hp : P (some (.int (iI z))) σ) : G pc lv [.int (iI z)] σ := by
  obtain ⟨p, e, s, m, args, below, meth, c, A, cells, slots, Q, -, -, hR⟩ := hX
  exact hR pc lv (some (.int (iI z))) σ ⟨hd, .int, hr, Or.inl rfl, rfl⟩ hp
theorem nar_z (z : Int) (hz : z = 0 ∨ z = 1) : narrow .boolean (.int (iI z)) = .int (iI z) := by
  rcases hz with rfl | rfl <;> decide
theorem r_zret (hX : Cx S l w cc nL ret own R P G) {z : Int} (hd : decode cc pc = .ok (.ireturn, 1)) (hr : ret = some .boolean) (hz : z = 0 ∨ z = 1) (hp : P (some (.int (iI z))) σ) : G pc lv [.int (iI z)] σ := by
  obtain ⟨p, e, s, m, args, below, meth, c, A, cells, slots, Q, -, -, hR⟩ := hX
  exact hR pc lv (some (.int (iI z))) σ ⟨hd, .boolean, hr, Or.inr rfl, nar_z z hz⟩ hp
theorem r_lret (hX : Cx S l w cc nL ret own R P G) {z : Int} (hd : decode cc pc = .ok (.lreturn, 1)) (hr : ret = some .long) (hp : P (some (.long (lI z))) σ) : G pc lv [.long (lI z)] σ := by
  obtain ⟨p, e, s, m, args, below, meth, c, A, cells, slots, Q, -, -, hR⟩ := hX
  exact hR pc lv (some (.long (lI z))) σ ⟨hd, hr⟩ hp
end RULES
end
section
/-! CALLS, Math, arraycopy -/
abbrev MFs (y : MethodName) (cc : ByteArray) (nL : Nat) (ret : Option FieldType) (n : Nat) : Prop := Cond.code y cc nL ret ∈ gtb ∧ Cond.initialized y.cls ∈ gtb ∧ (y.cls ≠ "java/lang/invoke/MethodHandle" ∧ y.cls ≠ "java/lang/invoke/VarHandle") ∧ (parseMethodDescriptor y.desc).map (fun d => d.parameters.length) = some n
abbrev MFv (y : MethodName) : Prop := Cond.instanceMethod y ∈ gtb ∧ Cond.selects y.cls y y ∈ gtb
section RUN
variable {p : Program} {l : Launch} {e : Env} {R : Room} {s : State} {m : MethodId} {args : Array Value} {below : List Frame} {meth : Method} {c : Code} {H : Heap} {locs : List Loc} {cells slots : Nat} {Q : State → Prop} {S : ST} {w : WT} {PC : Option Value → MM → Prop} {pc : Nat} {ls : Array Slot} {st st0 : List Value} {a : Array Value} {A : Nat → Prop} {H0 : Heap} {σ : MM}
theorem run_go (hr : va_Run p l e R s m args below meth c H locs cells slots 0 0 (F0 m pc ls st0) st (QQ S w PC a) (Aw S w)) (hS : va_S A H0 H locs) (hA : ∀ i, i < S.2.1.length → A (w.2.2 i))
    (kk : ∀ (r : Option Value) (σ1 : MM) (H1 : Heap) (locs1 : List Loc), PC r σ1 → Bd S.2.2 σ1 → va_P w.1 S.1 (wd w S.2.1 σ1) H1 → va_S A H0 H1 locs1 → W p l e R s m args below meth c H1 locs1 cells slots Q (F0 m (pc + 3) ls (r.toList ++ st))) : W p l e R s m args below meth c H locs cells slots Q (F0 m pc ls st0) := by
  intro T hT X
  obtain ⟨v, st₀, t, T', L, h0, X', hL, e1, e2, ⟨⟨r, σ1, hv, hp, hP, hK, hI, hB, -⟩, hz, hk⟩, stp⟩ := hr T hT X
  cases hv
  rw [h0] at hz hk
  rw [← e1] at hP hz hk
  have hAw : ∀ q, Aw S w q → A q := fun q hq => by
    obtain ⟨i, h1, h2⟩ := hq
    rw [h2]
    exact hA i h1
  obtain ⟨t2, a1, b1⟩ := kk v σ1 T'.heap (locs ++ L) hp hB hP
    ⟨Nat.le_trans hS.1 hz, fun q h1 h2 => by rw [hk q (Nat.lt_of_lt_of_le h1 hS.1) (fun z => h2 (hAw q z))]; exact hS.2.1 q h1 h2, fun q hq => by
      rcases List.mem_append.mp hq with h | h
      · exact hS.2.2 q h
      · exact hAw _ (hL q h)⟩ T' rfl X'
  exact ⟨t2, stp t2 a1, b1⟩
end RUN
section CALLS
variable {S : ST} {l : Launch} {w : WT} {cc : ByteArray} {nL : Nat} {ret : Option FieldType} {own : String} {R : Room} {P : Option Value → MM → Prop} {G : GT} {pc : Nat} {lv : List (Option Value)} {stk st as : List Value} {σ : MM} {y : MethodName} {cc1 : ByteArray} {nL1 : Nat} {ret1 : Option FieldType} {fr lo n idx : Nat} {PC : Option Value → MM → Prop}
theorem r_callV (hX : Cx S l w cc nL ret own R P G) {i ci N : Nat} {C : String} {T : u_T} {fs : List FS} (hd : decode cc pc = .ok (.invokevirtual idx, 3)) (hC : CT S l w y cc1 nL1 ret1 fr lo (.ref (w.2.2 i) :: as) σ PC) (hm : MFs y cc1 nL1 ret1 n) (hm2 : MFv y) (hl : Cond.methodLink own idx y ∈ gtb) (hs : S.2.1[i]? = some (.inl (ci, fs))) (hc : S.1[ci]? = some (C, T, N)) (hyc : y.cls = C) (hn : as.length = n) (hstk : stk = as.reverse ++ .ref (w.2.2 i) :: st) (hR : fr + 1 ≤ R.frames ∧ 8 + (nL1 + 11) + lo ≤ R.locals) (hst : (st.map fun v => v.category).sum ≤ 8) (k : ∀ (r : Option Value) (σ1 : MM), PC r σ1 → G (pc + 3) lv (r.toList ++ st) σ1) : G pc lv stk σ := by
  obtain ⟨p, e, s, m, args, below, meth, c, A, cells, slots, Q, ⟨hx, hb, hml, hown, hts, hK, hI, hA, hc0, hs0, hsh, hN⟩, rfl, -⟩ := hX
  obtain ⟨m1, m2, m3, m4⟩ := hm
  intro hB H locs ls hP hS h
  subst hstk
  subst hyc
  have hlen : ∀ sig, parseMethodDescriptor y.desc = some sig → n = sig.parameters.length := fun sig h => by
    rw [h] at m4
    exact (Option.some.inj m4).symm
  refine run_go (va_runV (As := as) (rest := st) (Ts := gtb) (own := own) (nL := nL) (n := n) ⟨hx, hb, hml, hown, hts⟩ hC ⟨⟨rfl, rfl, hR.1, hR.2, pay_in hts (good_tbl m1), List.mem_cons_self, hts _ m1, hts _ m2, m3, hlen, hts _ hl⟩, hts _ hm2.1, hts _ hm2.2⟩ ⟨WDs.blind, va_recv hK hP hc (wd_get hs), fun U hU hW => ⟨rfl, by rw [hU]; exact hP, va_K.moved hW.alike hK, hI, hB, va_Nw.warmM hW hN⟩⟩ rfl hn h.1 rfl (lv_room hst) hd ⟨hc0, hs0⟩) hS hA (fun r σ1 H1 locs1 hp hB1 hP1 hS1 => k r σ1 hp hB1 H1 locs1 ls hP1 hS1 h)
theorem r_callS (hX : Cx S l w cc nL ret own R P G) (hd : decode cc pc = .ok (.invokestatic idx, 3)) (hC : CT S l w y cc1 nL1 ret1 fr lo as σ PC) (hm : MFs y cc1 nL1 ret1 n) (hm2 : Cond.static y ∈ gtb) (hl : Cond.methodLink own idx y ∈ gtb) (hn : as.length = n) (hstk : stk = as.reverse ++ st) (hR : fr + 1 ≤ R.frames ∧ 8 + (nL1 + 11) + lo ≤ R.locals) (hst : (st.map fun v => v.category).sum ≤ 8) (k : ∀ (r : Option Value) (σ1 : MM), PC r σ1 → G (pc + 3) lv (r.toList ++ st) σ1) : G pc lv stk σ := by
  obtain ⟨p, e, s, m, args, below, meth, c, A, cells, slots, Q, ⟨hx, hb, hml, hown, hts, hK, hI, hA, hc0, hs0, hsh, hN⟩, rfl, -⟩ := hX
  obtain ⟨m1, m2, m3, m4⟩ := hm
  intro hB H locs ls hP hS h
  subst hstk
  have hlen : ∀ sig, parseMethodDescriptor y.desc = some sig → n = sig.parameters.length := fun sig h => by
    rw [h] at m4
    exact (Option.some.inj m4).symm
  refine run_go (va_runS (As := as) (rest := st) (Ts := gtb) (own := own) (nL := nL) (n := n) ⟨hx, hb, hml, hown, hts⟩ hC ⟨⟨rfl, rfl, hR.1, hR.2, pay_in hts (good_tbl m1), List.mem_cons_self, hts _ m1, hts _ m2, m3, hlen, hts _ hl⟩, hts _ hm2⟩ ⟨WDs.blind, fun U hU hW => ⟨rfl, by rw [hU]; exact hP, va_K.moved hW.alike hK, hI, hB, va_Nw.warmM hW hN⟩⟩ rfl hn h.1 rfl (lv_room hst) hd ⟨hc0, hs0⟩) hS hA (fun r σ1 H1 locs1 hp hB1 hP1 hS1 => k r σ1 hp hB1 H1 locs1 ls hP1 hS1 h)
theorem r_callSN (hX : Cx S l w cc nL ret own R P G) (hd : decode cc pc = .ok (.invokestatic idx, 3)) (hC : CT S l w y cc1 nL1 ret1 fr lo as σ PC) (hm : MFs y cc1 nL1 ret1 n) (hm2 : Cond.static y ∈ gtb) {host : String} (hl : nestW = Cond.methodLinkNest own idx y host) (hn : as.length = n) (hstk : stk = as.reverse ++ st) (hR : fr + 1 ≤ R.frames ∧ 8 + (nL1 + 11) + lo ≤ R.locals) (hst : (st.map fun v => v.category).sum ≤ 8) (k : ∀ (r : Option Value) (σ1 : MM), PC r σ1 → G (pc + 3) lv (r.toList ++ st) σ1) : G pc lv stk σ := by
  obtain ⟨p, e, s, m, args, below, meth, c, A, cells, slots, Q, ⟨hx, hb, hml, hown, hts, hK, hI, hA, hc0, hs0, hsh, hN⟩, rfl, -⟩ := hX
  obtain ⟨m1, m2, m3, m4⟩ := hm
  intro hB H locs ls hP hS h
  subst hstk
  have hlen : ∀ sig, parseMethodDescriptor y.desc = some sig → n = sig.parameters.length := fun sig h => by
    rw [h] at m4
    exact (Option.some.inj m4).symm
  refine run_go (va_runSN (As := as) (rest := st) (Ts := gtb) (own := own) (nL := nL) (n := n) ⟨hx, hb, hml, hown, hts⟩ hC ⟨⟨⟨rfl, rfl, hR.1, hR.2, pay_in hts (good_tbl m1), List.mem_cons_self⟩, hts _ m1, hts _ m2, m3, hlen, va_Nw.use rfl (hl ▸ hN)⟩, hts _ hm2, trivial⟩ ⟨WDs.blind, fun U hU hW => ⟨rfl, by rw [hU]; exact hP, va_K.moved hW.alike hK, hI, hB, va_Nw.warmM hW hN⟩⟩ rfl hn h.1 rfl (lv_room hst) hd ⟨hc0, hs0⟩) hS hA (fun r σ1 H1 locs1 hp hB1 hP1 hS1 => k r σ1 hp hB1 H1 locs1 ls hP1 hS1 h)
/-- the forms of what comes back -/
abbrev PI (p : Int → MM → Prop) : Option Value → MM → Prop := fun r σ1 => ∃ z : Int, r = some (.int (iI z)) ∧ p z σ1
abbrev PL (p : Int → MM → Prop) : Option Value → MM → Prop := fun r σ1 => ∃ z : Int, r = some (.long (lI z)) ∧ p z σ1
abbrev PV (p : MM → Prop) : Option Value → MM → Prop := fun r σ1 => r = none ∧ p σ1
theorem kI {p : Int → MM → Prop} (k : ∀ (z : Int) (σ1 : MM), p z σ1 → G pc lv (.int (iI z) :: st) σ1) : ∀ (r : Option Value) (σ1 : MM), PI p r σ1 → G pc lv (r.toList ++ st) σ1 := fun r σ1 h => by
  obtain ⟨z, rfl, hz⟩ := h
  exact k z σ1 hz
theorem kL {p : Int → MM → Prop} (k : ∀ (z : Int) (σ1 : MM), p z σ1 → G pc lv (.long (lI z) :: st) σ1) : ∀ (r : Option Value) (σ1 : MM), PL p r σ1 → G pc lv (r.toList ++ st) σ1 := fun r σ1 h => by
  obtain ⟨z, rfl, hz⟩ := h
  exact k z σ1 hz
theorem kV {p : MM → Prop} (k : ∀ (σ1 : MM), p σ1 → G pc lv st σ1) : ∀ (r : Option Value) (σ1 : MM), PV p r σ1 → G pc lv (r.toList ++ st) σ1 := fun r σ1 h => by
  obtain ⟨rfl, hz⟩ := h
  exact k σ1 hz
theorem r_max (hX : Cx S l w cc nL ret own R P G) {a b : Int} (hd : decode cc pc = .ok (.invokestatic idx, 3)) (hl : Cond.methodLink own idx Lib.Math.max.name ∈ gtb) (h1 : Cond.static Lib.Math.max.name ∈ gtb) (h2 : Cond.initialized "java/lang/Math" ∈ gtb) (h3 : Cond.code Lib.Math.max.name Lib.Math.max.code 2 (some .int) ∈ gtb) (hR : 1 ≤ R.frames) (hR2 : (st.map fun v => v.category).sum + 13 ≤ R.locals) (k : ∀ z : Int, (iI a < iI b ∧ z = b) ∨ (¬ iI a < iI b ∧ z = a) → G (pc + 3) lv (.int (iI z) :: st) σ) : G pc lv (.int (iI b) :: .int (iI a) :: st) σ := by
  obtain ⟨p, e, s, m, args, below, meth, c, A, cells, slots, Q, ⟨hx, hb, hml, hown, hts, hK, hI, hA, hc0, hs0, hsh, hN⟩, rfl, -⟩ := hX
  intro hB H locs ls hP hS h
  refine va_mmax hx hb (hml.trans h.1.symm) hown (hts _ hl) (hts _ h1) (hts _ h2) (hts _ h3) hR hR2 hc0 hs0 hd ?_
  by_cases q : iI a < iI b
  · rw [if_pos q]
    exact k b (Or.inl ⟨q, rfl⟩) hB H locs ls hP hS h
  · rw [if_neg q]
    exact k a (Or.inr ⟨q, rfl⟩) hB H locs ls hP hS h
theorem r_min (hX : Cx S l w cc nL ret own R P G) {a b : Int} (hd : decode cc pc = .ok (.invokestatic idx, 3)) (hl : Cond.methodLink own idx Lib.Math.min.name ∈ gtb) (h1 : Cond.static Lib.Math.min.name ∈ gtb) (h2 : Cond.initialized "java/lang/Math" ∈ gtb) (h3 : Cond.code Lib.Math.min.name Lib.Math.min.code 2 (some .int) ∈ gtb) (hR : 1 ≤ R.frames) (hR2 : (st.map fun v => v.category).sum + 13 ≤ R.locals) (k : ∀ z : Int, (iI b < iI a ∧ z = b) ∨ (¬ iI b < iI a ∧ z = a) → G (pc + 3) lv (.int (iI z) :: st) σ) : G pc lv (.int (iI b) :: .int (iI a) :: st) σ := by
  obtain ⟨p, e, s, m, args, below, meth, c, A, cells, slots, Q, ⟨hx, hb, hml, hown, hts, hK, hI, hA, hc0, hs0, hsh, hN⟩, rfl, -⟩ := hX
  intro hB H locs ls hP hS h
  refine va_mmin hx hb (hml.trans h.1.symm) hown (hts _ hl) (hts _ h1) (hts _ h2) (hts _ h3) hR hR2 hc0 hs0 hd ?_
  by_cases q : iI b < iI a
  · rw [if_pos q]
    exact k b (Or.inl ⟨q, rfl⟩) hB H locs ls hP hS h
  · rw [if_neg q]
    exact k a (Or.inr ⟨q, rfl⟩) hB H locs ls hP hS h
theorem r_abs (hX : Cx S l w cc nL ret own R P G) {a : Int} (hd : decode cc pc = .ok (.invokestatic idx, 3)) (hl : Cond.methodLink own idx Lib.Math.abs.name ∈ gtb) (h1 : Cond.static Lib.Math.abs.name ∈ gtb) (h2 : Cond.initialized "java/lang/Math" ∈ gtb) (h3 : Cond.code Lib.Math.abs.name Lib.Math.abs.code 1 (some .int) ∈ gtb) (hR : 1 ≤ R.frames) (hR2 : (st.map fun v => v.category).sum + 13 ≤ R.locals) (ha : inr a) (k : ∀ z : Int, (0 ≤ a ∧ z = a) ∨ (a < 0 ∧ z = -a) → G (pc + 3) lv (.int (iI z) :: st) σ) : G pc lv (.int (iI a) :: st) σ := by
  obtain ⟨p, e, s, m, args, below, meth, c, A, cells, slots, Q, ⟨hx, hb, hml, hown, hts, hK, hI, hA, hc0, hs0, hsh, hN⟩, rfl, -⟩ := hX
  intro hB H locs ls hP hS h
  refine va_mabs hx hb (hml.trans h.1.symm) hown (hts _ hl) (hts _ h1) (hts _ h2) (hts _ h3) hR hR2 hc0 hs0 hd ?_
  have h0 : (0 : Int32) = iI 0 := iI_zero.symm
  have i0 : inr 0 := ⟨by omega, by omega⟩
  by_cases q : 0 ≤ a
  · rw [if_pos (by rw [h0, iI_le i0 ha]; exact q)]
    exact k a (Or.inl ⟨q, rfl⟩) hB H locs ls hP hS h
  · rw [if_neg (by rw [h0, iI_le i0 ha]; exact q), h0, iI_sub, Int.zero_sub]
    exact k (-a) (Or.inr ⟨by omega, rfl⟩) hB H locs ls hP hS h
-- arraycopy within one array
theorem wd_upG {sh : List SH} {σ σ1 : MM} {i r : Nat} {s : SH} {x : va_E} (hs : sh[i]? = some s) (ho : sepR sh i r = true) (hne : ∀ a, a ≠ r → σ1 a = σ a) (hx : ce w σ1 s = x) : (wd w sh σ).set i (w.2.2 i, x) = wd w sh σ1 := by
  have hl : i < (wd w sh σ).length := (List.getElem?_eq_some_iff.mp (wd_get (w := w) (σ := σ) hs)).1
  have hfv : ∀ f : FS, hasF r f = false → fv w.2.2 σ1 f = fv w.2.2 σ f := by
    intro f h
    cases f with
    | inr j => rfl
    | inl q =>
      have h1 : q ≠ r := by simpa [hasF] using h
      simp [fv, hne q h1]
  have hce : ∀ t : SH, hasR r t = false → ce w σ1 t = ce w σ t := by
    intro t h
    cases t with
    | inr a =>
      have h1 : a.2.1 ≠ r := by simpa [hasR] using h
      simp [ce, hne _ h1]
    | inl o =>
      have h1 : ∀ f ∈ o.2, hasF r f = false := by simpa [hasR] using h
      have h2 : o.2.map (fv w.2.2 σ1) = o.2.map (fv w.2.2 σ) := List.map_congr_left fun f hf => hfv f (h1 f hf)
      simp [ce, h2]
  apply List.ext_getElem?
  intro j
  by_cases hj : j = i
  · subst hj
    rw [List.getElem?_set_self hl, wd_get hs, hx]
  · rw [List.getElem?_set_ne (Ne.symm hj), wd_at, wd_at]
    cases hsj : sh[j]? with
    | none => rfl
    | some t => simp [hce t (sepR_ne ho hsj hj)]
def cpy (σ : MM) (r : Nat) (sp dp n : Int) : MM := fun a b => if a = r ∧ dp ≤ b ∧ b < dp + n then σ r (sp + (b - dp)) else σ a b
theorem cpy_mod {r : Nat} {sp dp n : Int} : Mod [r] σ (cpy σ r sp dp n) := fun q h => by
  have h1 : q ≠ r := by simpa using h
  funext b
  simp [cpy, h1]
theorem cpy_at {r : Nat} {sp dp n b : Int} : cpy σ r sp dp n r b = if dp ≤ b ∧ b < dp + n then σ r (sp + (b - dp)) else σ r b := by simp [cpy]
theorem Bd.cpy {bd : List (Option (Int × Int))} {r : Nat} {sp dp n : Int} (h : Bd bd σ) : Bd bd (cpy σ r sp dp n) := by
  intro q lo hi hq k
  by_cases h1 : q = r
  · subst h1
    rw [cpy_at]
    split
    · exact h q lo hi hq _
    · exact h q lo hi hq k
  · rw [cpy_mod.at q (by simpa using h1)]
    exact h q lo hi hq k
theorem r_copy (hX : Cx S l w cc nL ret own R P G) {i r len : Nat} {sp dp k : Int} (hd : decode cc pc = .ok (.invokestatic idx, 3)) (hl : Cond.methodLink own idx arraycopyName ∈ gtb) (h1 : Cond.native arraycopyName ∈ gtb) (h2 : Cond.static arraycopyName ∈ gtb) (h3 : Cond.initialized "java/lang/System" ∈ gtb) (hs : S.2.1[i]? = some (.inr (false, r, len))) (ho : sepR S.2.1 i r = true) (g1 : 0 ≤ sp) (g2 : 0 ≤ dp) (g3 : 0 ≤ k) (g4 : sp + k ≤ (len : Int)) (g5 : dp + k ≤ (len : Int)) (hR : 1 ≤ R.frames) (hR2 : (st.map fun v => v.category).sum + (nativeFrameWords "java/lang/System" "arraycopy" 5 + 11) ≤ R.locals) (kk : ∀ σ1 : MM, Mod [r] σ σ1 → (∀ b : Int, σ1 r b = if dp ≤ b ∧ b < dp + k then σ r (sp + (b - dp)) else σ r b) → G (pc + 3) lv st σ1) : G pc lv (.int (iI k) :: .int (iI dp) :: .ref (w.2.2 i) :: .int (iI sp) :: .ref (w.2.2 i) :: st) σ := by
  obtain ⟨p, e, s, m, args, below, meth, c, A, cells, slots, Q, ⟨hx, hb, hml, hown, hts, hK, hI, hA, hc0, hs0, hsh, hN⟩, rfl, -⟩ := hX
  intro hB H locs ls hP hS h
  have hn := sh_len hsh hs
  have e1 := iI_clamp g1 (by omega)
  have e2 := iI_clamp g2 (by omega)
  have e3 := iI_clamp g3 (by omega)
  have neg : ∀ z : Int, 0 ≤ z → z ≤ 2147483647 → ¬ iI z < 0 := fun z z0 z1 q => by
    rw [← iI_zero, iI_lt ⟨by omega, by omega⟩ ⟨by omega, by omega⟩] at q
    omega
  refine va_copyi hx hb (hml.trans h.1.symm) hown (hts _ hl) (hts _ h1) (hts _ h2) (hts _ h3) hK hP (wd_D hI hA σ) hS i i 0 0 (wd_get hs) (wd_get hs) rfl rfl rfl (neg sp g1 (by omega)) (neg dp g2 (by omega)) (neg k g3 (by omega)) (show (iI sp).toNatClampNeg + (iI k).toNatClampNeg ≤ len by omega) (show (iI dp).toNatClampNeg + (iI k).toNatClampNeg ≤ len by omega) (fun _ _ => rfl) hR hR2 hd fun H1 locs1 hP1 hD1 hS1 => kk _ cpy_mod (fun b => cpy_at) hB.cpy H1 locs1 ls ?_ hS1 h
  rw [wd_upG (σ1 := cpy σ r sp dp k) hs ho (fun a ha => cpy_mod.at a (by simpa using ha)) ?_] at hP1
  · exact hP1
  · simp only [ce]
    refine congrArg (fun z => (Sum.inl (w.2.1 false, len, Sum.inl z) : va_E)) ?_
    funext q
    simp only [va_cpy, cpy_at]
    by_cases c1 : (iI dp).toNatClampNeg ≤ q ∧ q < (iI dp).toNatClampNeg + (iI k).toNatClampNeg
    · rw [if_pos c1, if_pos (by omega)]
      congr 2
      omega
    · rw [if_neg c1, if_neg (by omega)]
end CALLS
section NAMING
variable {S : ST} {l : Launch} {w : WT} {cc : ByteArray} {nL : Nat} {ret : Option FieldType} {own : String} {R : Room} {P : Option Value → MM → Prop} {G : GT} {pc : Nat} {lv : List (Option Value)} {st : List Value} {σ : MM}
theorem r_nm (hX : Cx S l w cc nL ret own R P G) {a : Int} (k : ∀ x : Int, x = a → G pc lv (.int (iI x) :: st) σ) : G pc lv (.int (iI a) :: st) σ := k a rfl
end NAMING
end
section
def bdL : List (Option (Int × Int)) := [none, none, some (0, 5), none, none, some ((-6), 7), some (0, 3), some (0, 7), some (0, 1), none, none, some (0, 1), some (0, 1), some (0, 1000), none, some (0, 8), some (0, 20000000), none, some (0, 8), some (0, 11), some (0, 108), some ((-1100), 1100), some (0, 1300000), none, none, none, none, none, some (0, 5), some (0, 7), some (0, 3), none, none, some (0, 1), none, some (0, 1), some (0, 1), some (0, 1000), some (0, 8), some (0, 20000000), none, some (0, 8), some (0, 11), some (0, 200000), some (0, 1000), none, none, none, none, none, some (0, 61), some (0, 60), none, some (0, 8), some (0, 8), none, some (1, 3), some (1, 3), some (0, 12), some (0, 12), some (0, 20000), some (0, 8), none, some (0, 12), some (0, 60), some (1, 3), some (1, 3), none]
def SX : ST := (vwCl, [.inl (5, [.inr 1, .inr 10, .inr 14, .inr 17, .inr 23, .inr 25, .inl 50, .inl 51, .inl 52]), .inl (2, [.inr 2, .inr 3, .inr 4, .inr 5, .inr 6, .inr 7, .inr 8, .inr 9, .inl 53, .inl 54, .inl 55]), .inr (false, 2, 8), .inr (false, 3, 8), .inr (false, 4, 8), .inr (false, 5, 16), .inr (false, 6, 16), .inr (false, 7, 8), .inr (true, 8, 8), .inr (false, 9, 8), .inl (0, [.inr 11, .inr 12, .inr 13, .inl 56, .inl 57]), .inr (true, 11, 9), .inr (true, 12, 9), .inr (false, 13, 81), .inl (1, [.inr 1, .inr 10, .inr 15, .inr 16, .inl 58]), .inr (false, 15, 8), .inr (false, 16, 8), .inl (3, [.inr 1, .inr 10, .inr 18, .inr 19, .inr 20, .inr 21, .inr 22, .inl 59, .inl 60]), .inr (false, 18, 8), .inr (false, 19, 8), .inr (false, 20, 8), .inr (false, 21, 16), .inr (false, 22, 64), .inl (4, [.inr 1, .inr 24]), .inr (false, 24, 488), .inl (4, [.inr 1, .inr 26]), .inr (false, 26, 488), .inl (6, [.inr 28, .inr 29, .inr 30, .inr 31, .inr 32, .inl 61, .inl 62, .inl 63, .inl 64, .inr 33, .inr 34, .inl 65, .inl 66, .inr 35, .inr 36, .inr 37, .inr 38, .inr 39, .inr 40, .inl 67, .inr 41, .inr 42, .inr 43, .inr 44]), .inr (false, 28, 8), .inr (false, 29, 16), .inr (false, 30, 16), .inr (false, 31, 8), .inr (false, 32, 8), .inr (true, 33, 8), .inr (false, 34, 488), .inr (true, 35, 9), .inr (true, 36, 9), .inr (false, 37, 9), .inr (false, 38, 8), .inr (false, 39, 8), .inr (false, 40, 8), .inr (false, 41, 8), .inr (false, 42, 8), .inr (false, 43, 8), .inr (false, 44, 81)], bdL)
theorem sh_X : SX.2.1.all shOK = true := by decide +kernel
theorem sp_X50 : sepR SX.2.1 0 50 = true := by decide +kernel
theorem sp_X51 : sepR SX.2.1 0 51 = true := by decide +kernel
theorem sp_X52 : sepR SX.2.1 0 52 = true := by decide +kernel
theorem sp_X53 : sepR SX.2.1 1 53 = true := by decide +kernel
theorem sp_X54 : sepR SX.2.1 1 54 = true := by decide +kernel
theorem sp_X55 : sepR SX.2.1 1 55 = true := by decide +kernel
theorem sp_X2 : sepR SX.2.1 2 2 = true := by decide +kernel
theorem sp_X3 : sepR SX.2.1 3 3 = true := by decide +kernel
theorem sp_X4 : sepR SX.2.1 4 4 = true := by decide +kernel
theorem sp_X5 : sepR SX.2.1 5 5 = true := by decide +kernel
theorem sp_X6 : sepR SX.2.1 6 6 = true := by decide +kernel
theorem sp_X7 : sepR SX.2.1 7 7 = true := by decide +kernel
theorem sp_X8 : sepR SX.2.1 8 8 = true := by decide +kernel
theorem sp_X9 : sepR SX.2.1 9 9 = true := by decide +kernel
theorem sp_X56 : sepR SX.2.1 10 56 = true := by decide +kernel
theorem sp_X57 : sepR SX.2.1 10 57 = true := by decide +kernel
theorem sp_X11 : sepR SX.2.1 11 11 = true := by decide +kernel
theorem sp_X12 : sepR SX.2.1 12 12 = true := by decide +kernel
theorem sp_X13 : sepR SX.2.1 13 13 = true := by decide +kernel
theorem sp_X58 : sepR SX.2.1 14 58 = true := by decide +kernel
theorem sp_X15 : sepR SX.2.1 15 15 = true := by decide +kernel
theorem sp_X16 : sepR SX.2.1 16 16 = true := by decide +kernel
theorem sp_X59 : sepR SX.2.1 17 59 = true := by decide +kernel
theorem sp_X60 : sepR SX.2.1 17 60 = true := by decide +kernel
theorem sp_X18 : sepR SX.2.1 18 18 = true := by decide +kernel
theorem sp_X19 : sepR SX.2.1 19 19 = true := by decide +kernel
theorem sp_X20 : sepR SX.2.1 20 20 = true := by decide +kernel
theorem sp_X21 : sepR SX.2.1 21 21 = true := by decide +kernel
theorem sp_X22 : sepR SX.2.1 22 22 = true := by decide +kernel
theorem sp_X24 : sepR SX.2.1 24 24 = true := by decide +kernel
theorem sp_X26 : sepR SX.2.1 26 26 = true := by decide +kernel
theorem sp_X61 : sepR SX.2.1 27 61 = true := by decide +kernel
theorem sp_X62 : sepR SX.2.1 27 62 = true := by decide +kernel
theorem sp_X63 : sepR SX.2.1 27 63 = true := by decide +kernel
theorem sp_X64 : sepR SX.2.1 27 64 = true := by decide +kernel
theorem sp_X65 : sepR SX.2.1 27 65 = true := by decide +kernel
theorem sp_X66 : sepR SX.2.1 27 66 = true := by decide +kernel
theorem sp_X67 : sepR SX.2.1 27 67 = true := by decide +kernel
theorem sp_X28 : sepR SX.2.1 28 28 = true := by decide +kernel
theorem sp_X29 : sepR SX.2.1 29 29 = true := by decide +kernel
theorem sp_X30 : sepR SX.2.1 30 30 = true := by decide +kernel
theorem sp_X31 : sepR SX.2.1 31 31 = true := by decide +kernel
theorem sp_X32 : sepR SX.2.1 32 32 = true := by decide +kernel
theorem sp_X33 : sepR SX.2.1 33 33 = true := by decide +kernel
theorem sp_X34 : sepR SX.2.1 34 34 = true := by decide +kernel
theorem sp_X35 : sepR SX.2.1 35 35 = true := by decide +kernel
theorem sp_X36 : sepR SX.2.1 36 36 = true := by decide +kernel
theorem sp_X37 : sepR SX.2.1 37 37 = true := by decide +kernel
theorem sp_X38 : sepR SX.2.1 38 38 = true := by decide +kernel
theorem sp_X39 : sepR SX.2.1 39 39 = true := by decide +kernel
theorem sp_X40 : sepR SX.2.1 40 40 = true := by decide +kernel
theorem sp_X41 : sepR SX.2.1 41 41 = true := by decide +kernel
theorem sp_X42 : sepR SX.2.1 42 42 = true := by decide +kernel
theorem sp_X43 : sepR SX.2.1 43 43 = true := by decide +kernel
theorem sp_X44 : sepR SX.2.1 44 44 = true := by decide +kernel
def SG : ST := (vwCl, [.inl (0, [.inr 1, .inr 2, .inr 3, .inl 56, .inl 57]), .inr (true, 11, 9), .inr (true, 12, 9), .inr (false, 13, 81)], bdL)
theorem sh_G : SG.2.1.all shOK = true := by decide +kernel
theorem sp_G56 : sepR SG.2.1 0 56 = true := by decide +kernel
theorem sp_G57 : sepR SG.2.1 0 57 = true := by decide +kernel
theorem sp_G11 : sepR SG.2.1 1 11 = true := by decide +kernel
theorem sp_G12 : sepR SG.2.1 2 12 = true := by decide +kernel
theorem sp_G13 : sepR SG.2.1 3 13 = true := by decide +kernel
def SM : ST := (vwCl, [.inl (6, [.inr 1, .inr 2, .inr 3, .inr 4, .inr 5, .inl 61, .inl 62, .inl 63, .inl 64, .inr 6, .inr 7, .inl 65, .inl 66, .inr 8, .inr 9, .inr 10, .inr 11, .inr 12, .inr 13, .inl 67, .inr 14, .inr 15, .inr 16, .inr 17]), .inr (false, 28, 8), .inr (false, 29, 16), .inr (false, 30, 16), .inr (false, 31, 8), .inr (false, 32, 8), .inr (true, 33, 8), .inr (false, 34, 488), .inr (true, 35, 9), .inr (true, 36, 9), .inr (false, 37, 9), .inr (false, 38, 8), .inr (false, 39, 8), .inr (false, 40, 8), .inr (false, 41, 8), .inr (false, 42, 8), .inr (false, 43, 8), .inr (false, 44, 81)], bdL)
theorem sh_M : SM.2.1.all shOK = true := by decide +kernel
theorem sp_M61 : sepR SM.2.1 0 61 = true := by decide +kernel
theorem sp_M62 : sepR SM.2.1 0 62 = true := by decide +kernel
theorem sp_M63 : sepR SM.2.1 0 63 = true := by decide +kernel
theorem sp_M64 : sepR SM.2.1 0 64 = true := by decide +kernel
theorem sp_M65 : sepR SM.2.1 0 65 = true := by decide +kernel
theorem sp_M66 : sepR SM.2.1 0 66 = true := by decide +kernel
theorem sp_M67 : sepR SM.2.1 0 67 = true := by decide +kernel
theorem sp_M28 : sepR SM.2.1 1 28 = true := by decide +kernel
theorem sp_M29 : sepR SM.2.1 2 29 = true := by decide +kernel
theorem sp_M30 : sepR SM.2.1 3 30 = true := by decide +kernel
theorem sp_M31 : sepR SM.2.1 4 31 = true := by decide +kernel
theorem sp_M32 : sepR SM.2.1 5 32 = true := by decide +kernel
theorem sp_M33 : sepR SM.2.1 6 33 = true := by decide +kernel
theorem sp_M34 : sepR SM.2.1 7 34 = true := by decide +kernel
theorem sp_M35 : sepR SM.2.1 8 35 = true := by decide +kernel
theorem sp_M36 : sepR SM.2.1 9 36 = true := by decide +kernel
theorem sp_M37 : sepR SM.2.1 10 37 = true := by decide +kernel
theorem sp_M38 : sepR SM.2.1 11 38 = true := by decide +kernel
theorem sp_M39 : sepR SM.2.1 12 39 = true := by decide +kernel
theorem sp_M40 : sepR SM.2.1 13 40 = true := by decide +kernel
theorem sp_M41 : sepR SM.2.1 14 41 = true := by decide +kernel
theorem sp_M42 : sepR SM.2.1 15 42 = true := by decide +kernel
theorem sp_M43 : sepR SM.2.1 16 43 = true := by decide +kernel
theorem sp_M44 : sepR SM.2.1 17 44 = true := by decide +kernel
theorem lk_RX2_9 : Cond.fieldLink RX2 9 "LoopBoard$Loop" "kinds" "[I" ∈ gtb := gtb_in (tb1 (List.mem_of_getElem? (i := 25) rfl)) rfl
theorem lk_RX2_15 : Cond.fieldLink RX2 15 "LoopBoard$Loop" "factors" "[I" ∈ gtb := gtb_in (tb1 (List.mem_of_getElem? (i := 26) rfl)) rfl
theorem lk_RX2_18 : Cond.fieldLink RX2 18 "LoopBoard$Loop" "addends" "[I" ∈ gtb := gtb_in (tb1 (List.mem_of_getElem? (i := 27) rfl)) rfl
theorem lk_RX2_21 : Cond.fieldLink RX2 21 "LoopBoard$Loop" "sources" "[I" ∈ gtb := gtb_in (tb1 (List.mem_of_getElem? (i := 28) rfl)) rfl
theorem lk_RX2_24 : Cond.fieldLink RX2 24 "LoopBoard$Loop" "distances" "[I" ∈ gtb := gtb_in (tb1 (List.mem_of_getElem? (i := 29) rfl)) rfl
theorem lk_RX2_27 : Cond.fieldLink RX2 27 "LoopBoard$Loop" "order" "[I" ∈ gtb := gtb_in (tb1 (List.mem_of_getElem? (i := 30) rfl)) rfl
theorem lk_RX2_30 : Cond.fieldLink RX2 30 "LoopBoard$Loop" "isOrdered" "[Z" ∈ gtb := gtb_in (tb1 (List.mem_of_getElem? (i := 31) rfl)) rfl
theorem lk_RX2_34 : Cond.fieldLink RX2 34 "LoopBoard$Loop" "delays" "[I" ∈ gtb := gtb_in (tb1 (List.mem_of_getElem? (i := 32) rfl)) rfl
theorem lk_RX2_37 : Cond.fieldLink RX2 37 "LoopBoard$Loop" "count" "I" ∈ gtb := gtb_in (tb1 (List.mem_of_getElem? (i := 33) rfl)) rfl
theorem lk_RX2_44 : Cond.fieldLink RX2 44 "LoopBoard$Loop" "ordered" "I" ∈ gtb := gtb_in (tb1 (List.mem_of_getElem? (i := 34) rfl)) rfl
theorem lk_RX2_41 : Cond.fieldLink RX2 41 "LoopBoard$Loop" "firstNumber" "I" ∈ gtb := gtb_in (tb1 (List.mem_of_getElem? (i := 35) rfl)) rfl
theorem lk_RX0_9 : Cond.fieldLink RX0 9 "LoopBoard$Grid" "broken" "[Z" ∈ gtb := gtb_in (tb1 (List.mem_of_getElem? (i := 102) rfl)) rfl
theorem lk_RX0_15 : Cond.fieldLink RX0 15 "LoopBoard$Grid" "multiplying" "[Z" ∈ gtb := gtb_in (tb1 (List.mem_of_getElem? (i := 103) rfl)) rfl
theorem lk_RX0_18 : Cond.fieldLink RX0 18 "LoopBoard$Grid" "ways" "[I" ∈ gtb := gtb_in (tb1 (List.mem_of_getElem? (i := 104) rfl)) rfl
theorem lk_RX0_26 : Cond.fieldLink RX0 26 "LoopBoard$Grid" "rows" "I" ∈ gtb := gtb_in (tb1 (List.mem_of_getElem? (i := 105) rfl)) rfl
theorem lk_RX0_30 : Cond.fieldLink RX0 30 "LoopBoard$Grid" "columns" "I" ∈ gtb := gtb_in (tb1 (List.mem_of_getElem? (i := 106) rfl)) rfl
theorem lk_RX1_18 : Cond.fieldLink RX1 18 "LoopBoard$Layout" "loop" "LLoopBoard$Loop;" ∈ gtb := gtb_in (tb1 (List.mem_of_getElem? (i := 124) rfl)) rfl
theorem lk_RX1_22 : Cond.fieldLink RX1 22 "LoopBoard$Layout" "grid" "LLoopBoard$Grid;" ∈ gtb := gtb_in (tb1 (List.mem_of_getElem? (i := 125) rfl)) rfl
theorem lk_RX1_9 : Cond.fieldLink RX1 9 "LoopBoard$Layout" "cells" "[I" ∈ gtb := gtb_in (tb1 (List.mem_of_getElem? (i := 126) rfl)) rfl
theorem lk_RX1_15 : Cond.fieldLink RX1 15 "LoopBoard$Layout" "starts" "[I" ∈ gtb := gtb_in (tb1 (List.mem_of_getElem? (i := 127) rfl)) rfl
theorem lk_RX1_26 : Cond.fieldLink RX1 26 "LoopBoard$Layout" "beat" "I" ∈ gtb := gtb_in (tb1 (List.mem_of_getElem? (i := 128) rfl)) rfl
theorem lk_RX3_27 : Cond.fieldLink RX3 27 "LoopBoard$Search" "loop" "LLoopBoard$Loop;" ∈ gtb := gtb_in (tb1 (List.mem_of_getElem? (i := 146) rfl)) rfl
theorem lk_RX3_31 : Cond.fieldLink RX3 31 "LoopBoard$Search" "grid" "LLoopBoard$Grid;" ∈ gtb := gtb_in (tb1 (List.mem_of_getElem? (i := 147) rfl)) rfl
theorem lk_RX3_9 : Cond.fieldLink RX3 9 "LoopBoard$Search" "cells" "[I" ∈ gtb := gtb_in (tb1 (List.mem_of_getElem? (i := 148) rfl)) rfl
theorem lk_RX3_15 : Cond.fieldLink RX3 15 "LoopBoard$Search" "leftOvers" "[I" ∈ gtb := gtb_in (tb1 (List.mem_of_getElem? (i := 149) rfl)) rfl
theorem lk_RX3_18 : Cond.fieldLink RX3 18 "LoopBoard$Search" "nextTries" "[I" ∈ gtb := gtb_in (tb1 (List.mem_of_getElem? (i := 150) rfl)) rfl
theorem lk_RX3_21 : Cond.fieldLink RX3 21 "LoopBoard$Search" "gaps" "[I" ∈ gtb := gtb_in (tb1 (List.mem_of_getElem? (i := 151) rfl)) rfl
theorem lk_RX3_24 : Cond.fieldLink RX3 24 "LoopBoard$Search" "turns" "[I" ∈ gtb := gtb_in (tb1 (List.mem_of_getElem? (i := 152) rfl)) rfl
theorem lk_RX3_45 : Cond.fieldLink RX3 45 "LoopBoard$Search" "beat" "I" ∈ gtb := gtb_in (tb1 (List.mem_of_getElem? (i := 153) rfl)) rfl
theorem lk_RX3_35 : Cond.fieldLink RX3 35 "LoopBoard$Search" "tries" "I" ∈ gtb := gtb_in (tb1 (List.mem_of_getElem? (i := 154) rfl)) rfl
theorem lk_RX4_15 : Cond.fieldLink RX4 15 "LoopBoard$Values" "loop" "LLoopBoard$Loop;" ∈ gtb := gtb_in (tb1 (List.mem_of_getElem? (i := 180) rfl)) rfl
theorem lk_RX4_9 : Cond.fieldLink RX4 9 "LoopBoard$Values" "made" "[I" ∈ gtb := gtb_in (tb1 (List.mem_of_getElem? (i := 181) rfl)) rfl
theorem lk_RX5_12 : Cond.fieldLink RX5 12 "LoopBoard" "loop" "LLoopBoard$Loop;" ∈ gtb := gtb_in (tb1 (List.mem_of_getElem? (i := 187) rfl)) rfl
theorem lk_RX5_19 : Cond.fieldLink RX5 19 "LoopBoard" "grid" "LLoopBoard$Grid;" ∈ gtb := gtb_in (tb1 (List.mem_of_getElem? (i := 188) rfl)) rfl
theorem lk_RX5_28 : Cond.fieldLink RX5 28 "LoopBoard" "layout" "LLoopBoard$Layout;" ∈ gtb := gtb_in (tb1 (List.mem_of_getElem? (i := 189) rfl)) rfl
theorem lk_RX5_35 : Cond.fieldLink RX5 35 "LoopBoard" "search" "LLoopBoard$Search;" ∈ gtb := gtb_in (tb1 (List.mem_of_getElem? (i := 190) rfl)) rfl
theorem lk_RX5_44 : Cond.fieldLink RX5 44 "LoopBoard" "plainValues" "LLoopBoard$Values;" ∈ gtb := gtb_in (tb1 (List.mem_of_getElem? (i := 191) rfl)) rfl
theorem lk_RX5_48 : Cond.fieldLink RX5 48 "LoopBoard" "steppedValues" "LLoopBoard$Values;" ∈ gtb := gtb_in (tb1 (List.mem_of_getElem? (i := 192) rfl)) rfl
theorem lk_RX5_78 : Cond.fieldLink RX5 78 "LoopBoard" "plainRounds" "I" ∈ gtb := gtb_in (tb1 (List.mem_of_getElem? (i := 193) rfl)) rfl
theorem lk_RX5_82 : Cond.fieldLink RX5 82 "LoopBoard" "steppedRounds" "I" ∈ gtb := gtb_in (tb1 (List.mem_of_getElem? (i := 194) rfl)) rfl
theorem lk_RX5_211 : Cond.fieldLink RX5 211 "LoopBoard" "latestTries" "I" ∈ gtb := gtb_in (tb1 (List.mem_of_getElem? (i := 195) rfl)) rfl
theorem lk_RX6_7 : Cond.fieldLink RX6 7 "LoopBoardModel" "kind" "[I" ∈ gtb := gtb_in (tb3 (List.mem_of_getElem? (i := 186) rfl)) rfl
theorem lk_RX6_13 : Cond.fieldLink RX6 13 "LoopBoardModel" "operand" "[I" ∈ gtb := gtb_in (tb3 (List.mem_of_getElem? (i := 187) rfl)) rfl
theorem lk_RX6_16 : Cond.fieldLink RX6 16 "LoopBoardModel" "distance" "[I" ∈ gtb := gtb_in (tb3 (List.mem_of_getElem? (i := 188) rfl)) rfl
theorem lk_RX6_19 : Cond.fieldLink RX6 19 "LoopBoardModel" "p" "[I" ∈ gtb := gtb_in (tb3 (List.mem_of_getElem? (i := 189) rfl)) rfl
theorem lk_RX6_22 : Cond.fieldLink RX6 22 "LoopBoardModel" "q" "[I" ∈ gtb := gtb_in (tb3 (List.mem_of_getElem? (i := 190) rfl)) rfl
theorem lk_RX6_72 : Cond.fieldLink RX6 72 "LoopBoardModel" "acts" "I" ∈ gtb := gtb_in (tb3 (List.mem_of_getElem? (i := 191) rfl)) rfl
theorem lk_RX6_99 : Cond.fieldLink RX6 99 "LoopBoardModel" "first" "I" ∈ gtb := gtb_in (tb3 (List.mem_of_getElem? (i := 192) rfl)) rfl
theorem lk_RX6_79 : Cond.fieldLink RX6 79 "LoopBoardModel" "beat" "I" ∈ gtb := gtb_in (tb3 (List.mem_of_getElem? (i := 193) rfl)) rfl
theorem lk_RX6_82 : Cond.fieldLink RX6 82 "LoopBoardModel" "rounds" "I" ∈ gtb := gtb_in (tb3 (List.mem_of_getElem? (i := 194) rfl)) rfl
theorem lk_RX6_25 : Cond.fieldLink RX6 25 "LoopBoardModel" "isDone" "[Z" ∈ gtb := gtb_in (tb3 (List.mem_of_getElem? (i := 195) rfl)) rfl
theorem lk_RX6_29 : Cond.fieldLink RX6 29 "LoopBoardModel" "values" "[I" ∈ gtb := gtb_in (tb3 (List.mem_of_getElem? (i := 196) rfl)) rfl
theorem lk_RX6_32 : Cond.fieldLink RX6 32 "LoopBoardModel" "rows" "I" ∈ gtb := gtb_in (tb3 (List.mem_of_getElem? (i := 197) rfl)) rfl
theorem lk_RX6_36 : Cond.fieldLink RX6 36 "LoopBoardModel" "columns" "I" ∈ gtb := gtb_in (tb3 (List.mem_of_getElem? (i := 198) rfl)) rfl
theorem lk_RX6_39 : Cond.fieldLink RX6 39 "LoopBoardModel" "isBroken" "[Z" ∈ gtb := gtb_in (tb3 (List.mem_of_getElem? (i := 199) rfl)) rfl
theorem lk_RX6_42 : Cond.fieldLink RX6 42 "LoopBoardModel" "canMultiply" "[Z" ∈ gtb := gtb_in (tb3 (List.mem_of_getElem? (i := 200) rfl)) rfl
theorem lk_RX6_45 : Cond.fieldLink RX6 45 "LoopBoardModel" "far" "[I" ∈ gtb := gtb_in (tb3 (List.mem_of_getElem? (i := 201) rfl)) rfl
theorem lk_RX6_48 : Cond.fieldLink RX6 48 "LoopBoardModel" "cell" "[I" ∈ gtb := gtb_in (tb3 (List.mem_of_getElem? (i := 202) rfl)) rfl
theorem lk_RX6_51 : Cond.fieldLink RX6 51 "LoopBoardModel" "start" "[I" ∈ gtb := gtb_in (tb3 (List.mem_of_getElem? (i := 203) rfl)) rfl
theorem lk_RX6_54 : Cond.fieldLink RX6 54 "LoopBoardModel" "height" "[I" ∈ gtb := gtb_in (tb3 (List.mem_of_getElem? (i := 204) rfl)) rfl
theorem lk_RX6_183 : Cond.fieldLink RX6 183 "LoopBoardModel" "tries" "I" ∈ gtb := gtb_in (tb3 (List.mem_of_getElem? (i := 205) rfl)) rfl
theorem lk_RX6_57 : Cond.fieldLink RX6 57 "LoopBoardModel" "tryCell" "[I" ∈ gtb := gtb_in (tb3 (List.mem_of_getElem? (i := 206) rfl)) rfl
theorem lk_RX6_60 : Cond.fieldLink RX6 60 "LoopBoardModel" "tryOver" "[I" ∈ gtb := gtb_in (tb3 (List.mem_of_getElem? (i := 207) rfl)) rfl
theorem lk_RX6_63 : Cond.fieldLink RX6 63 "LoopBoardModel" "times" "[I" ∈ gtb := gtb_in (tb3 (List.mem_of_getElem? (i := 208) rfl)) rfl
theorem lk_RX6_66 : Cond.fieldLink RX6 66 "LoopBoardModel" "ways" "[I" ∈ gtb := gtb_in (tb3 (List.mem_of_getElem? (i := 209) rfl)) rfl
theorem lk_RL_9 : Cond.methodLink RL 9 yX5_init ∈ gtb := gtb_in (tb1 (List.mem_of_getElem? (i := 13) rfl)) rfl
theorem lk_RX5_18 : Cond.methodLink RX5 18 yX0_init ∈ gtb := gtb_in (tb1 (List.mem_of_getElem? (i := 63) rfl)) rfl
theorem lk_RX0_22 : Cond.methodLink RX0 22 yX0_renew ∈ gtb := gtb_in (tb1 (List.mem_of_getElem? (i := 67) rfl)) rfl
theorem lk_RX0_33 : Cond.methodLink RX0 33 yX0_measure ∈ gtb := gtb_in (tb1 (List.mem_of_getElem? (i := 71) rfl)) rfl
theorem lk_RX0_50 : Cond.methodLink RX0 50 yX0_singleStep ∈ gtb := gtb_in (tb1 (List.mem_of_getElem? (i := 75) rfl)) rfl
theorem lk_RX0_44 : Cond.methodLink RX0 44 yX0_isOpen ∈ gtb := gtb_in (tb1 (List.mem_of_getElem? (i := 79) rfl)) rfl
theorem lk_RX0_36 : Cond.methodLink RX0 36 yX0_isThere ∈ gtb := gtb_in (tb1 (List.mem_of_getElem? (i := 83) rfl)) rfl
theorem lk_RX0_58 : Cond.methodLink RX0 58 yX0_areNeighbours ∈ gtb := gtb_in (tb1 (List.mem_of_getElem? (i := 87) rfl)) rfl
theorem lk_RX0_62 : Cond.methodLink RX0 62 yJ9_abs_0f7a4 ∈ gtb := gtb_in (tb1 (List.mem_of_getElem? (i := 91) rfl)) rfl
theorem lk_RX0_40 : Cond.methodLink RX0 40 yX0_cells ∈ gtb := gtb_in (tb1 (List.mem_of_getElem? (i := 94) rfl)) rfl
theorem lk_RX0_54 : Cond.methodLink RX0 54 yX0_shortenThrough ∈ gtb := gtb_in (tb1 (List.mem_of_getElem? (i := 98) rfl)) rfl
theorem lk_RX5_25 : Cond.methodLink RX5 25 yX1_init ∈ gtb := gtb_in (tb1 (List.mem_of_getElem? (i := 120) rfl)) rfl
theorem lk_RX5_34 : Cond.methodLink RX5 34 yX3_init ∈ gtb := gtb_in (tb1 (List.mem_of_getElem? (i := 142) rfl)) rfl
theorem lk_RX5_41 : Cond.methodLink RX5 41 yX4_init ∈ gtb := gtb_in (tb1 (List.mem_of_getElem? (i := 176) rfl)) rfl
theorem lk_RL_13 : Cond.methodLink RL 13 yX5_input ∈ gtb := gtb_in (tb1 (List.mem_of_getElem? (i := 215) rfl)) rfl
theorem lk_RX5_51 : Cond.methodLink RX5 51 yX5_isWithin ∈ gtb := gtb_in (tb1 (List.mem_of_getElem? (i := 219) rfl)) rfl
theorem lk_RX5_55 : Cond.methodLink RX5 55 yX2_addInput ∈ gtb := gtb_in (tb1 (List.mem_of_getElem? (i := 222) rfl)) rfl
theorem lk_RX2_54 : Cond.methodLink RX2 54 yX2_setOperand ∈ gtb := gtb_in (tb1 (List.mem_of_getElem? (i := 226) rfl)) rfl
theorem lk_RX2_58 : Cond.methodLink RX2 58 yX2_arrange ∈ gtb := gtb_in (tb1 (List.mem_of_getElem? (i := 230) rfl)) rfl
theorem lk_RX2_61 : Cond.methodLink RX2 61 yX2_canFollow ∈ gtb := gtb_in (tb1 (List.mem_of_getElem? (i := 234) rfl)) rfl
theorem lk_RX2_64 : Cond.methodLink RX2 64 yX2_sourceOf ∈ gtb := gtb_in (tb1 (List.mem_of_getElem? (i := 238) rfl)) rfl
theorem lk_RX2_51 : Cond.methodLink RX2 51 yX2_isSlot ∈ gtb := gtb_in (tb2 (List.mem_of_getElem? (i := 2) rfl)) rfl
theorem lk_RX2_47 : Cond.methodLink RX2 47 yX2_isThere ∈ gtb := gtb_in (tb2 (List.mem_of_getElem? (i := 6) rfl)) rfl
theorem lk_RX2_68 : Cond.methodLink RX2 68 yX2_distanceOf ∈ gtb := gtb_in (tb2 (List.mem_of_getElem? (i := 10) rfl)) rfl
theorem lk_RX5_59 : Cond.methodLink RX5 59 yX5_actsChanged ∈ gtb := gtb_in (tb2 (List.mem_of_getElem? (i := 14) rfl)) rfl
theorem lk_RX5_132 : Cond.methodLink RX5 132 yX1_drop ∈ gtb := gtb_in (tb2 (List.mem_of_getElem? (i := 18) rfl)) rfl
theorem lk_RL_18 : Cond.methodLink RL 18 yX5_act ∈ gtb := gtb_in (tb2 (List.mem_of_getElem? (i := 22) rfl)) rfl
theorem lk_RX5_62 : Cond.methodLink RX5 62 yX5_isOperand ∈ gtb := gtb_in (tb2 (List.mem_of_getElem? (i := 26) rfl)) rfl
theorem lk_RX5_66 : Cond.methodLink RX5 66 yX2_addWork ∈ gtb := gtb_in (tb2 (List.mem_of_getElem? (i := 29) rfl)) rfl
theorem lk_RL_23 : Cond.methodLink RL 23 yX5_first ∈ gtb := gtb_in (tb2 (List.mem_of_getElem? (i := 33) rfl)) rfl
theorem lk_RX5_70 : Cond.methodLink RX5 70 yX2_firstNumber ∈ gtb := gtb_in (tb2 (List.mem_of_getElem? (i := 37) rfl)) rfl
theorem lk_RX5_74 : Cond.methodLink RX5 74 yX2_setFirstNumber ∈ gtb := gtb_in (tb2 (List.mem_of_getElem? (i := 41) rfl)) rfl
theorem lk_RL_28 : Cond.methodLink RL 28 yX5_clear ∈ gtb := gtb_in (tb2 (List.mem_of_getElem? (i := 45) rfl)) rfl
theorem lk_RX5_85 : Cond.methodLink RX5 85 yX2_count ∈ gtb := gtb_in (tb2 (List.mem_of_getElem? (i := 49) rfl)) rfl
theorem lk_RX5_88 : Cond.methodLink RX5 88 yX2_empty ∈ gtb := gtb_in (tb2 (List.mem_of_getElem? (i := 53) rfl)) rfl
theorem lk_RL_33 : Cond.methodLink RL 33 yX5_sound ∈ gtb := gtb_in (tb2 (List.mem_of_getElem? (i := 57) rfl)) rfl
theorem lk_RX5_91 : Cond.methodLink RX5 91 yX2_isSound ∈ gtb := gtb_in (tb2 (List.mem_of_getElem? (i := 61) rfl)) rfl
theorem lk_RL_37 : Cond.methodLink RL 37 yX5_plain ∈ gtb := gtb_in (tb2 (List.mem_of_getElem? (i := 65) rfl)) rfl
theorem lk_RX5_95 : Cond.methodLink RX5 95 yX2_isThere ∈ gtb := gtb_in (tb2 (List.mem_of_getElem? (i := 69) rfl)) rfl
theorem lk_RX5_103 : Cond.methodLink RX5 103 yX4_makeRound ∈ gtb := gtb_in (tb2 (List.mem_of_getElem? (i := 72) rfl)) rfl
theorem lk_RX4_23 : Cond.methodLink RX4 23 yX2_count ∈ gtb := gtb_in (tb2 (List.mem_of_getElem? (i := 76) rfl)) rfl
theorem lk_RX4_29 : Cond.methodLink RX4 29 yX2_actInOrder ∈ gtb := gtb_in (tb2 (List.mem_of_getElem? (i := 77) rfl)) rfl
theorem lk_RX4_33 : Cond.methodLink RX4 33 yX4_make ∈ gtb := gtb_in (tb2 (List.mem_of_getElem? (i := 81) rfl)) rfl
theorem lk_RX4_19 : Cond.methodLink RX4 19 yX4_isPlace ∈ gtb := gtb_in (tb2 (List.mem_of_getElem? (i := 85) rfl)) rfl
theorem lk_RX4_37 : Cond.methodLink RX4 37 yX4_valueOf ∈ gtb := gtb_in (tb2 (List.mem_of_getElem? (i := 88) rfl)) rfl
theorem lk_RX4_41 : Cond.methodLink RX4 41 yX2_kindOf ∈ gtb := gtb_in (tb2 (List.mem_of_getElem? (i := 92) rfl)) rfl
theorem lk_RX4_44 : Cond.methodLink RX4 44 yX2_factorOf ∈ gtb := gtb_in (tb2 (List.mem_of_getElem? (i := 96) rfl)) rfl
theorem lk_RX4_47 : Cond.methodLink RX4 47 yX2_addendOf ∈ gtb := gtb_in (tb2 (List.mem_of_getElem? (i := 100) rfl)) rfl
theorem lk_RX4_50 : Cond.methodLink RX4 50 yX4_operand ∈ gtb := gtb_in (tb2 (List.mem_of_getElem? (i := 104) rfl)) rfl
theorem lk_RX4_61 : Cond.methodLink RX4 61 yX2_distanceOf ∈ gtb := gtb_in (tb2 (List.mem_of_getElem? (i := 108) rfl)) rfl
theorem lk_RX4_64 : Cond.methodLink RX4 64 yX2_firstNumber ∈ gtb := gtb_in (tb2 (List.mem_of_getElem? (i := 109) rfl)) rfl
theorem lk_RX4_67 : Cond.methodLink RX4 67 yX2_sourceOf ∈ gtb := gtb_in (tb2 (List.mem_of_getElem? (i := 110) rfl)) rfl
theorem lk_RX4_70 : Cond.methodLink RX4 70 yX4_at ∈ gtb := gtb_in (tb2 (List.mem_of_getElem? (i := 111) rfl)) rfl
theorem lk_RX4_53 : Cond.methodLink RX4 53 yJ9_min_7cf53 ∈ gtb := gtb_in (tb2 (List.mem_of_getElem? (i := 115) rfl)) rfl
theorem lk_RX4_58 : Cond.methodLink RX4 58 yJ9_max_7cf53 ∈ gtb := gtb_in (tb2 (List.mem_of_getElem? (i := 118) rfl)) rfl
theorem lk_RX5_106 : Cond.methodLink RX5 106 yX4_at ∈ gtb := gtb_in (tb2 (List.mem_of_getElem? (i := 121) rfl)) rfl
theorem lk_RL_42 : Cond.methodLink RL 42 yX5_about ∈ gtb := gtb_in (tb2 (List.mem_of_getElem? (i := 122) rfl)) rfl
theorem lk_RX5_109 : Cond.methodLink RX5 109 yX2_kindOf ∈ gtb := gtb_in (tb2 (List.mem_of_getElem? (i := 126) rfl)) rfl
theorem lk_RX5_113 : Cond.methodLink RX5 113 yX2_lengthOf ∈ gtb := gtb_in (tb2 (List.mem_of_getElem? (i := 127) rfl)) rfl
theorem lk_RX5_116 : Cond.methodLink RX5 116 yX2_sourceOf ∈ gtb := gtb_in (tb2 (List.mem_of_getElem? (i := 131) rfl)) rfl
theorem lk_RX5_119 : Cond.methodLink RX5 119 yX2_distanceOf ∈ gtb := gtb_in (tb2 (List.mem_of_getElem? (i := 132) rfl)) rfl
theorem lk_RX5_122 : Cond.methodLink RX5 122 yX2_factorOf ∈ gtb := gtb_in (tb2 (List.mem_of_getElem? (i := 133) rfl)) rfl
theorem lk_RX5_125 : Cond.methodLink RX5 125 yX2_addendOf ∈ gtb := gtb_in (tb2 (List.mem_of_getElem? (i := 134) rfl)) rfl
theorem lk_RL_46 : Cond.methodLink RL 46 yX5_board ∈ gtb := gtb_in (tb2 (List.mem_of_getElem? (i := 135) rfl)) rfl
theorem lk_RX5_128 : Cond.methodLink RX5 128 yX0_renew ∈ gtb := gtb_in (tb2 (List.mem_of_getElem? (i := 139) rfl)) rfl
theorem lk_RX5_135 : Cond.methodLink RX5 135 yX0_cells ∈ gtb := gtb_in (tb2 (List.mem_of_getElem? (i := 140) rfl)) rfl
theorem lk_RL_50 : Cond.methodLink RL 50 yX5_breaks ∈ gtb := gtb_in (tb2 (List.mem_of_getElem? (i := 141) rfl)) rfl
theorem lk_RX5_138 : Cond.methodLink RX5 138 yX0_isThere ∈ gtb := gtb_in (tb2 (List.mem_of_getElem? (i := 145) rfl)) rfl
theorem lk_RX5_139 : Cond.methodLink RX5 139 yX0_isBroken ∈ gtb := gtb_in (tb2 (List.mem_of_getElem? (i := 146) rfl)) rfl
theorem lk_RX5_142 : Cond.methodLink RX5 142 yX0_setBroken ∈ gtb := gtb_in (tb2 (List.mem_of_getElem? (i := 150) rfl)) rfl
theorem lk_RL_55 : Cond.methodLink RL 55 yX5_multiplies ∈ gtb := gtb_in (tb2 (List.mem_of_getElem? (i := 154) rfl)) rfl
theorem lk_RX5_146 : Cond.methodLink RX5 146 yX0_isMultiplying ∈ gtb := gtb_in (tb2 (List.mem_of_getElem? (i := 158) rfl)) rfl
theorem lk_RX5_149 : Cond.methodLink RX5 149 yX0_setMultiplying ∈ gtb := gtb_in (tb2 (List.mem_of_getElem? (i := 162) rfl)) rfl
theorem lk_RL_59 : Cond.methodLink RL 59 yX5_way ∈ gtb := gtb_in (tb2 (List.mem_of_getElem? (i := 166) rfl)) rfl
theorem lk_RX5_152 : Cond.methodLink RX5 152 yX0_wayBetween ∈ gtb := gtb_in (tb2 (List.mem_of_getElem? (i := 170) rfl)) rfl
theorem lk_RL_63 : Cond.methodLink RL 63 yX5_plan ∈ gtb := gtb_in (tb2 (List.mem_of_getElem? (i := 174) rfl)) rfl
theorem lk_RX5_155 : Cond.methodLink RX5 155 yX1_begin ∈ gtb := gtb_in (tb2 (List.mem_of_getElem? (i := 178) rfl)) rfl
theorem lk_RX1_30 : Cond.methodLink RX1 30 yJ7_fill_53178 ∈ gtb := gtb_in (tb2 (List.mem_of_getElem? (i := 182) rfl)) rfl
theorem lk_RL_67 : Cond.methodLink RL 67 yX5_lay ∈ gtb := gtb_in (tb2 (List.mem_of_getElem? (i := 185) rfl)) rfl
theorem lk_RX5_158 : Cond.methodLink RX5 158 yX1_stands ∈ gtb := gtb_in (tb2 (List.mem_of_getElem? (i := 189) rfl)) rfl
theorem lk_RX5_161 : Cond.methodLink RX5 161 yX1_put ∈ gtb := gtb_in (tb2 (List.mem_of_getElem? (i := 193) rfl)) rfl
theorem lk_RX1_36 : Cond.methodLink RX1 36 yX2_isThere ∈ gtb := gtb_in (tb2 (List.mem_of_getElem? (i := 197) rfl)) rfl
theorem lk_RL_72 : Cond.methodLink RL 72 yX5_lacks ∈ gtb := gtb_in (tb2 (List.mem_of_getElem? (i := 198) rfl)) rfl
theorem lk_RX5_165 : Cond.methodLink RX5 165 yX1_firstLack ∈ gtb := gtb_in (tb2 (List.mem_of_getElem? (i := 202) rfl)) rfl
theorem lk_RX1_60 : Cond.methodLink RX1 60 yX2_count ∈ gtb := gtb_in (tb2 (List.mem_of_getElem? (i := 206) rfl)) rfl
theorem lk_RX1_63 : Cond.methodLink RX1 63 yX1_cellOf ∈ gtb := gtb_in (tb2 (List.mem_of_getElem? (i := 207) rfl)) rfl
theorem lk_RX1_66 : Cond.methodLink RX1 66 yX0_isBroken ∈ gtb := gtb_in (tb2 (List.mem_of_getElem? (i := 211) rfl)) rfl
theorem lk_RX1_71 : Cond.methodLink RX1 71 yX2_kindOf ∈ gtb := gtb_in (tb2 (List.mem_of_getElem? (i := 212) rfl)) rfl
theorem lk_RX1_74 : Cond.methodLink RX1 74 yX0_suits ∈ gtb := gtb_in (tb2 (List.mem_of_getElem? (i := 213) rfl)) rfl
theorem lk_RX1_78 : Cond.methodLink RX1 78 yX1_meetsOneAhead ∈ gtb := gtb_in (tb2 (List.mem_of_getElem? (i := 217) rfl)) rfl
theorem lk_RX1_42 : Cond.methodLink RX1 42 yX1_startOf ∈ gtb := gtb_in (tb2 (List.mem_of_getElem? (i := 221) rfl)) rfl
theorem lk_RX1_81 : Cond.methodLink RX1 81 yX1_isLate ∈ gtb := gtb_in (tb2 (List.mem_of_getElem? (i := 225) rfl)) rfl
theorem lk_RX1_84 : Cond.methodLink RX1 84 yX2_sourceOf ∈ gtb := gtb_in (tb2 (List.mem_of_getElem? (i := 229) rfl)) rfl
theorem lk_RX1_87 : Cond.methodLink RX1 87 yX0_wayBetween ∈ gtb := gtb_in (tb2 (List.mem_of_getElem? (i := 230) rfl)) rfl
theorem lk_RX1_91 : Cond.methodLink RX1 91 yX1_usedAt ∈ gtb := gtb_in (tb2 (List.mem_of_getElem? (i := 231) rfl)) rfl
theorem lk_RX1_97 : Cond.methodLink RX1 97 yX2_distanceOf ∈ gtb := gtb_in (tb2 (List.mem_of_getElem? (i := 235) rfl)) rfl
theorem lk_RX1_94 : Cond.methodLink RX1 94 yX1_madeAt ∈ gtb := gtb_in (tb2 (List.mem_of_getElem? (i := 236) rfl)) rfl
theorem lk_RX1_46 : Cond.methodLink RX1 46 yX2_lengthOf ∈ gtb := gtb_in (tb3 (List.mem_of_getElem? (i := 0) rfl)) rfl
theorem lk_RL_76 : Cond.methodLink RL 76 yX5_laid ∈ gtb := gtb_in (tb3 (List.mem_of_getElem? (i := 1) rfl)) rfl
theorem lk_RX5_168 : Cond.methodLink RX5 168 yX1_cellOf ∈ gtb := gtb_in (tb3 (List.mem_of_getElem? (i := 5) rfl)) rfl
theorem lk_RX5_171 : Cond.methodLink RX5 171 yX1_startOf ∈ gtb := gtb_in (tb3 (List.mem_of_getElem? (i := 6) rfl)) rfl
theorem lk_RL_80 : Cond.methodLink RL 80 yX5_kept ∈ gtb := gtb_in (tb3 (List.mem_of_getElem? (i := 7) rfl)) rfl
theorem lk_RX5_174 : Cond.methodLink RX5 174 yX1_isGood ∈ gtb := gtb_in (tb3 (List.mem_of_getElem? (i := 11) rfl)) rfl
theorem lk_RX1_49 : Cond.methodLink RX1 49 yX1_stands ∈ gtb := gtb_in (tb3 (List.mem_of_getElem? (i := 15) rfl)) rfl
theorem lk_RX1_53 : Cond.methodLink RX1 53 yX2_isSound ∈ gtb := gtb_in (tb3 (List.mem_of_getElem? (i := 16) rfl)) rfl
theorem lk_RX1_56 : Cond.methodLink RX1 56 yX1_firstLack ∈ gtb := gtb_in (tb3 (List.mem_of_getElem? (i := 17) rfl)) rfl
theorem lk_RX5_177 : Cond.methodLink RX5 177 yX1_mostKept ∈ gtb := gtb_in (tb3 (List.mem_of_getElem? (i := 18) rfl)) rfl
theorem lk_RX1_100 : Cond.methodLink RX1 100 yJ9_max_7cf53 ∈ gtb := gtb_in (tb3 (List.mem_of_getElem? (i := 22) rfl)) rfl
theorem lk_RL_84 : Cond.methodLink RL 84 yX5_step ∈ gtb := gtb_in (tb3 (List.mem_of_getElem? (i := 23) rfl)) rfl
theorem lk_RX5_180 : Cond.methodLink RX5 180 yX1_endOf ∈ gtb := gtb_in (tb3 (List.mem_of_getElem? (i := 27) rfl)) rfl
theorem lk_RX5_183 : Cond.methodLink RX5 183 yX5_stepBeat ∈ gtb := gtb_in (tb3 (List.mem_of_getElem? (i := 31) rfl)) rfl
theorem lk_RX5_229 : Cond.methodLink RX5 229 yX1_roundStarting ∈ gtb := gtb_in (tb3 (List.mem_of_getElem? (i := 35) rfl)) rfl
theorem lk_RX5_232 : Cond.methodLink RX5 232 yX4_make ∈ gtb := gtb_in (tb3 (List.mem_of_getElem? (i := 39) rfl)) rfl
theorem lk_RL_88 : Cond.methodLink RL 88 yX5_stepped ∈ gtb := gtb_in (tb3 (List.mem_of_getElem? (i := 40) rfl)) rfl
theorem lk_RL_92 : Cond.methodLink RL 92 yX5_works ∈ gtb := gtb_in (tb3 (List.mem_of_getElem? (i := 45) rfl)) rfl
theorem lk_RX5_188 : Cond.methodLink RX5 188 yX1_actStarting ∈ gtb := gtb_in (tb3 (List.mem_of_getElem? (i := 49) rfl)) rfl
theorem lk_RX1_105 : Cond.methodLink RX1 105 yX1_roundStarting ∈ gtb := gtb_in (tb3 (List.mem_of_getElem? (i := 53) rfl)) rfl
theorem lk_RL_96 : Cond.methodLink RL 96 yX5_bound ∈ gtb := gtb_in (tb3 (List.mem_of_getElem? (i := 54) rfl)) rfl
theorem lk_RX5_191 : Cond.methodLink RX5 191 yX5_placesBound ∈ gtb := gtb_in (tb3 (List.mem_of_getElem? (i := 58) rfl)) rfl
theorem lk_RX5_235 : Cond.methodLink RX5 235 yX2_products ∈ gtb := gtb_in (tb3 (List.mem_of_getElem? (i := 62) rfl)) rfl
theorem lk_RX5_220 : Cond.methodLink RX5 220 yX0_unbroken ∈ gtb := gtb_in (tb3 (List.mem_of_getElem? (i := 66) rfl)) rfl
theorem lk_RX5_238 : Cond.methodLink RX5 238 yX0_unbrokenMultiplying ∈ gtb := gtb_in (tb3 (List.mem_of_getElem? (i := 70) rfl)) rfl
theorem lk_RX0_47 : Cond.methodLink RX0 47 yX0_isMultiplying ∈ gtb := gtb_in (tb3 (List.mem_of_getElem? (i := 74) rfl)) rfl
theorem lk_RX5_241 : Cond.methodLink RX5 241 yX5_cutUp ∈ gtb := gtb_in (tb3 (List.mem_of_getElem? (i := 75) rfl)) rfl
theorem lk_RX5_226 : Cond.methodLink RX5 226 yJ9_floorDiv_7cf53 ∈ gtb := gtb_in (tb3 (List.mem_of_getElem? (i := 78) rfl)) rfl
theorem lk_RX5_197 : Cond.methodLink RX5 197 yJ9_max_7cf53 ∈ gtb := gtb_in (tb3 (List.mem_of_getElem? (i := 81) rfl)) rfl
theorem lk_RX5_194 : Cond.methodLink RX5 194 yX2_ringsBound ∈ gtb := gtb_in (tb3 (List.mem_of_getElem? (i := 82) rfl)) rfl
theorem lk_RX2_71 : Cond.methodLink RX2 71 yX2_ringsAllow ∈ gtb := gtb_in (tb3 (List.mem_of_getElem? (i := 86) rfl)) rfl
theorem lk_RX2_74 : Cond.methodLink RX2 74 yJ7_fill_53178 ∈ gtb := gtb_in (tb3 (List.mem_of_getElem? (i := 90) rfl)) rfl
theorem lk_RX2_80 : Cond.methodLink RX2 80 yX2_delaysGrow ∈ gtb := gtb_in (tb3 (List.mem_of_getElem? (i := 91) rfl)) rfl
theorem lk_RX2_83 : Cond.methodLink RX2 83 yX2_lengthOf ∈ gtb := gtb_in (tb3 (List.mem_of_getElem? (i := 95) rfl)) rfl
theorem lk_RL_100 : Cond.methodLink RL 100 yX5_find ∈ gtb := gtb_in (tb3 (List.mem_of_getElem? (i := 96) rfl)) rfl
theorem lk_RX5_202 : Cond.methodLink RX5 202 yX3_run ∈ gtb := gtb_in (tb3 (List.mem_of_getElem? (i := 100) rfl)) rfl
theorem lk_RX3_52 : Cond.methodLink RX3 52 yX0_cells ∈ gtb := gtb_in (tb3 (List.mem_of_getElem? (i := 104) rfl)) rfl
theorem lk_RX3_39 : Cond.methodLink RX3 39 yX2_isThere ∈ gtb := gtb_in (tb3 (List.mem_of_getElem? (i := 106) rfl)) rfl
theorem lk_RX3_57 : Cond.methodLink RX3 57 yX3_goesNext ∈ gtb := gtb_in (tb3 (List.mem_of_getElem? (i := 107) rfl)) rfl
theorem lk_RX3_60 : Cond.methodLink RX3 60 yX3_isFree ∈ gtb := gtb_in (tb3 (List.mem_of_getElem? (i := 111) rfl)) rfl
theorem lk_RX3_69 : Cond.methodLink RX3 69 yX0_isBroken ∈ gtb := gtb_in (tb3 (List.mem_of_getElem? (i := 115) rfl)) rfl
theorem lk_RX3_72 : Cond.methodLink RX3 72 yX2_kindOf ∈ gtb := gtb_in (tb3 (List.mem_of_getElem? (i := 116) rfl)) rfl
theorem lk_RX3_76 : Cond.methodLink RX3 76 yX0_suits ∈ gtb := gtb_in (tb3 (List.mem_of_getElem? (i := 117) rfl)) rfl
theorem lk_RX3_63 : Cond.methodLink RX3 63 yX3_measureGaps ∈ gtb := gtb_in (tb3 (List.mem_of_getElem? (i := 118) rfl)) rfl
theorem lk_RX3_80 : Cond.methodLink RX3 80 yX2_sourceOf ∈ gtb := gtb_in (tb3 (List.mem_of_getElem? (i := 122) rfl)) rfl
theorem lk_RX3_83 : Cond.methodLink RX3 83 yX0_wayBetween ∈ gtb := gtb_in (tb3 (List.mem_of_getElem? (i := 123) rfl)) rfl
theorem lk_RX3_87 : Cond.methodLink RX3 87 yX2_distanceOf ∈ gtb := gtb_in (tb3 (List.mem_of_getElem? (i := 124) rfl)) rfl
theorem lk_RX3_90 : Cond.methodLink RX3 90 yX2_lengthOf ∈ gtb := gtb_in (tb3 (List.mem_of_getElem? (i := 125) rfl)) rfl
theorem lk_RX3_66 : Cond.methodLink RX3 66 yX3_turnsSettle ∈ gtb := gtb_in (tb3 (List.mem_of_getElem? (i := 127) rfl)) rfl
theorem lk_RX3_96 : Cond.methodLink RX3 96 yX3_beginRow ∈ gtb := gtb_in (tb3 (List.mem_of_getElem? (i := 131) rfl)) rfl
theorem lk_RX3_106 : Cond.methodLink RX3 106 yJ9_max_7cf53 ∈ gtb := gtb_in (tb3 (List.mem_of_getElem? (i := 138) rfl)) rfl
theorem lk_RX5_205 : Cond.methodLink RX5 205 yX3_triesMade ∈ gtb := gtb_in (tb3 (List.mem_of_getElem? (i := 139) rfl)) rfl
theorem lk_RX5_208 : Cond.methodLink RX5 208 yX5_takeFound ∈ gtb := gtb_in (tb3 (List.mem_of_getElem? (i := 143) rfl)) rfl
theorem lk_RX5_244 : Cond.methodLink RX5 244 yX3_cellOf ∈ gtb := gtb_in (tb3 (List.mem_of_getElem? (i := 147) rfl)) rfl
theorem lk_RX5_245 : Cond.methodLink RX5 245 yX3_startOf ∈ gtb := gtb_in (tb3 (List.mem_of_getElem? (i := 151) rfl)) rfl
theorem lk_RX3_48 : Cond.methodLink RX3 48 yX2_count ∈ gtb := gtb_in (tb3 (List.mem_of_getElem? (i := 155) rfl)) rfl
theorem lk_RL_104 : Cond.methodLink RL 104 yX5_tries ∈ gtb := gtb_in (tb3 (List.mem_of_getElem? (i := 156) rfl)) rfl
theorem lk_RL_108 : Cond.methodLink RL 108 yX5_told ∈ gtb := gtb_in (tb3 (List.mem_of_getElem? (i := 160) rfl)) rfl
theorem lk_RX5_214 : Cond.methodLink RX5 214 yX0_rows ∈ gtb := gtb_in (tb3 (List.mem_of_getElem? (i := 164) rfl)) rfl
theorem lk_RX5_217 : Cond.methodLink RX5 217 yX0_columns ∈ gtb := gtb_in (tb3 (List.mem_of_getElem? (i := 168) rfl)) rfl
theorem lk_RX5_223 : Cond.methodLink RX5 223 yX1_beat ∈ gtb := gtb_in (tb3 (List.mem_of_getElem? (i := 172) rfl)) rfl
theorem lk_RL_12 : Cond.methodLink RL 12 yX6_init ∈ gtb := gtb_in (tb3 (List.mem_of_getElem? (i := 178) rfl)) rfl
theorem lk_RX6_69 : Cond.methodLink RX6 69 yX6_whole ∈ gtb := gtb_in (tb3 (List.mem_of_getElem? (i := 182) rfl)) rfl
theorem lk_RL_17 : Cond.methodLink RL 17 yX6_input ∈ gtb := gtb_in (tb4 (List.mem_of_getElem? (i := 19) rfl)) rfl
theorem lk_RX6_75 : Cond.methodLink RX6 75 yX6_in ∈ gtb := gtb_in (tb4 (List.mem_of_getElem? (i := 25) rfl)) rfl
theorem lk_RX6_89 : Cond.methodLink RX6 89 yX6_enter ∈ gtb := gtb_in (tb4 (List.mem_of_getElem? (i := 28) rfl)) rfl
theorem lk_RL_22 : Cond.methodLink RL 22 yX6_act ∈ gtb := gtb_in (tb4 (List.mem_of_getElem? (i := 32) rfl)) rfl
theorem lk_RL_27 : Cond.methodLink RL 27 yX6_first ∈ gtb := gtb_in (tb4 (List.mem_of_getElem? (i := 39) rfl)) rfl
theorem lk_RL_32 : Cond.methodLink RL 32 yX6_clear ∈ gtb := gtb_in (tb4 (List.mem_of_getElem? (i := 43) rfl)) rfl
theorem lk_RL_36 : Cond.methodLink RL 36 yX6_sound ∈ gtb := gtb_in (tb4 (List.mem_of_getElem? (i := 47) rfl)) rfl
theorem lk_RX6_109 : Cond.methodLink RX6 109 yX6_isSound ∈ gtb := gtb_in (tb4 (List.mem_of_getElem? (i := 51) rfl)) rfl
theorem lk_RX6_102 : Cond.methodLink RX6 102 yX6_isAct ∈ gtb := gtb_in (tb4 (List.mem_of_getElem? (i := 55) rfl)) rfl
theorem lk_RX6_106 : Cond.methodLink RX6 106 yX6_isReady ∈ gtb := gtb_in (tb4 (List.mem_of_getElem? (i := 59) rfl)) rfl
theorem lk_RL_41 : Cond.methodLink RL 41 yX6_plain ∈ gtb := gtb_in (tb4 (List.mem_of_getElem? (i := 63) rfl)) rfl
theorem lk_RX6_126 : Cond.methodLink RX6 126 yX6_workTo ∈ gtb := gtb_in (tb4 (List.mem_of_getElem? (i := 70) rfl)) rfl
theorem lk_RX6_117 : Cond.methodLink RX6 117 yX6_made ∈ gtb := gtb_in (tb4 (List.mem_of_getElem? (i := 74) rfl)) rfl
theorem lk_RX6_113 : Cond.methodLink RX6 113 yX6_valueOf ∈ gtb := gtb_in (tb4 (List.mem_of_getElem? (i := 78) rfl)) rfl
theorem lk_RL_45 : Cond.methodLink RL 45 yX6_about ∈ gtb := gtb_in (tb4 (List.mem_of_getElem? (i := 82) rfl)) rfl
theorem lk_RX6_130 : Cond.methodLink RX6 130 yX6_lengthOf ∈ gtb := gtb_in (tb4 (List.mem_of_getElem? (i := 86) rfl)) rfl
theorem lk_RL_49 : Cond.methodLink RL 49 yX6_board ∈ gtb := gtb_in (tb4 (List.mem_of_getElem? (i := 90) rfl)) rfl
theorem lk_RX6_133 : Cond.methodLink RX6 133 yX6_cells ∈ gtb := gtb_in (tb4 (List.mem_of_getElem? (i := 94) rfl)) rfl
theorem lk_RL_54 : Cond.methodLink RL 54 yX6_breaks ∈ gtb := gtb_in (tb4 (List.mem_of_getElem? (i := 98) rfl)) rfl
theorem lk_RX6_137 : Cond.methodLink RX6 137 yX6_isCell ∈ gtb := gtb_in (tb4 (List.mem_of_getElem? (i := 102) rfl)) rfl
theorem lk_RL_58 : Cond.methodLink RL 58 yX6_multiplies ∈ gtb := gtb_in (tb4 (List.mem_of_getElem? (i := 106) rfl)) rfl
theorem lk_RL_62 : Cond.methodLink RL 62 yX6_way ∈ gtb := gtb_in (tb4 (List.mem_of_getElem? (i := 110) rfl)) rfl
theorem lk_RX6_144 : Cond.methodLink RX6 144 yX6_wayOf ∈ gtb := gtb_in (tb4 (List.mem_of_getElem? (i := 114) rfl)) rfl
theorem lk_RX6_140 : Cond.methodLink RX6 140 yX6_areBeside ∈ gtb := gtb_in (tb4 (List.mem_of_getElem? (i := 118) rfl)) rfl
theorem lk_RL_66 : Cond.methodLink RL 66 yX6_plan ∈ gtb := gtb_in (tb4 (List.mem_of_getElem? (i := 122) rfl)) rfl
theorem lk_RL_71 : Cond.methodLink RL 71 yX6_lay ∈ gtb := gtb_in (tb4 (List.mem_of_getElem? (i := 127) rfl)) rfl
theorem lk_RL_75 : Cond.methodLink RL 75 yX6_lacks ∈ gtb := gtb_in (tb4 (List.mem_of_getElem? (i := 132) rfl)) rfl
theorem lk_RX6_154 : Cond.methodLink RX6 154 yX6_lacking ∈ gtb := gtb_in (tb4 (List.mem_of_getElem? (i := 136) rfl)) rfl
theorem lk_RX6_151 : Cond.methodLink RX6 151 yX6_isLate ∈ gtb := gtb_in (tb4 (List.mem_of_getElem? (i := 140) rfl)) rfl
theorem lk_RL_79 : Cond.methodLink RL 79 yX6_laid ∈ gtb := gtb_in (tb4 (List.mem_of_getElem? (i := 144) rfl)) rfl
theorem lk_RL_83 : Cond.methodLink RL 83 yX6_kept ∈ gtb := gtb_in (tb4 (List.mem_of_getElem? (i := 148) rfl)) rfl
theorem lk_RX6_157 : Cond.methodLink RX6 157 yX6_whyNot ∈ gtb := gtb_in (tb4 (List.mem_of_getElem? (i := 152) rfl)) rfl
theorem lk_RL_87 : Cond.methodLink RL 87 yX6_step ∈ gtb := gtb_in (tb4 (List.mem_of_getElem? (i := 156) rfl)) rfl
theorem lk_RL_91 : Cond.methodLink RL 91 yX6_stepped ∈ gtb := gtb_in (tb4 (List.mem_of_getElem? (i := 160) rfl)) rfl
theorem lk_RX6_162 : Cond.methodLink RX6 162 yX6_plain ∈ gtb := gtb_in (tb4 (List.mem_of_getElem? (i := 165) rfl)) rfl
theorem lk_RL_95 : Cond.methodLink RL 95 yX6_works ∈ gtb := gtb_in (tb4 (List.mem_of_getElem? (i := 166) rfl)) rfl
theorem lk_RL_99 : Cond.methodLink RL 99 yX6_bound ∈ gtb := gtb_in (tb4 (List.mem_of_getElem? (i := 171) rfl)) rfl
theorem lk_RX6_171 : Cond.methodLink RX6 171 yX6_places ∈ gtb := gtb_in (tb4 (List.mem_of_getElem? (i := 175) rfl)) rfl
theorem lk_RX6_174 : Cond.methodLink RX6 174 yX6_rings ∈ gtb := gtb_in (tb4 (List.mem_of_getElem? (i := 179) rfl)) rfl
theorem lk_RX6_168 : Cond.methodLink RX6 168 yX6_ringsHold ∈ gtb := gtb_in (tb4 (List.mem_of_getElem? (i := 183) rfl)) rfl
theorem lk_RL_103 : Cond.methodLink RL 103 yX6_find ∈ gtb := gtb_in (tb4 (List.mem_of_getElem? (i := 187) rfl)) rfl
theorem lk_RX6_189 : Cond.methodLink RX6 189 yX6_search ∈ gtb := gtb_in (tb4 (List.mem_of_getElem? (i := 191) rfl)) rfl
theorem lk_RX6_186 : Cond.methodLink RX6 186 yX6_goesAt ∈ gtb := gtb_in (tb4 (List.mem_of_getElem? (i := 195) rfl)) rfl
theorem lk_RX6_180 : Cond.methodLink RX6 180 yX6_canStart ∈ gtb := gtb_in (tb4 (List.mem_of_getElem? (i := 199) rfl)) rfl
theorem lk_RX6_177 : Cond.methodLink RX6 177 yX6_up ∈ gtb := gtb_in (tb4 (List.mem_of_getElem? (i := 203) rfl)) rfl
theorem lk_RL_107 : Cond.methodLink RL 107 yX6_tries ∈ gtb := gtb_in (tb4 (List.mem_of_getElem? (i := 206) rfl)) rfl
theorem lk_RL_111 : Cond.methodLink RL 111 yX6_told ∈ gtb := gtb_in (tb4 (List.mem_of_getElem? (i := 210) rfl)) rfl
theorem in_X0 : ∀ x ∈ u_ws RX0 TX0 5, x ∈ gtb := by
  intro x hx
  have e : u_ws RX0 TX0 5 = [155, 157, 159, 161, 163].filterMap (fun i => lw_tbl[i]?) := by decide +kernel
  rw [e] at hx
  obtain ⟨i, -, hi⟩ := List.mem_filterMap.mp hx
  have hg : (u_ws RX0 TX0 5).all goodWord = true := by decide +kernel
  exact gtb_in (List.mem_of_getElem? hi) (List.all_eq_true.mp hg x (by rw [e]; exact hx))
theorem in_X1 : ∀ x ∈ u_ws RX1 TX1 5, x ∈ gtb := by
  intro x hx
  have e : u_ws RX1 TX1 5 = [177, 179, 181, 183, 185].filterMap (fun i => lw_tbl[i]?) := by decide +kernel
  rw [e] at hx
  obtain ⟨i, -, hi⟩ := List.mem_filterMap.mp hx
  have hg : (u_ws RX1 TX1 5).all goodWord = true := by decide +kernel
  exact gtb_in (List.mem_of_getElem? hi) (List.all_eq_true.mp hg x (by rw [e]; exact hx))
theorem in_X2 : ∀ x ∈ u_ws RX2 TX2 11, x ∈ gtb := by
  intro x hx
  have e : u_ws RX2 TX2 11 = [84, 86, 88, 90, 92, 94, 96, 98, 100, 102, 104].filterMap (fun i => lw_tbl[i]?) := by decide +kernel
  rw [e] at hx
  obtain ⟨i, -, hi⟩ := List.mem_filterMap.mp hx
  have hg : (u_ws RX2 TX2 11).all goodWord = true := by decide +kernel
  exact gtb_in (List.mem_of_getElem? hi) (List.all_eq_true.mp hg x (by rw [e]; exact hx))
theorem in_X3 : ∀ x ∈ u_ws RX3 TX3 9, x ∈ gtb := by
  intro x hx
  have e : u_ws RX3 TX3 9 = [203, 205, 207, 209, 211, 213, 215, 217, 219].filterMap (fun i => lw_tbl[i]?) := by decide +kernel
  rw [e] at hx
  obtain ⟨i, -, hi⟩ := List.mem_filterMap.mp hx
  have hg : (u_ws RX3 TX3 9).all goodWord = true := by decide +kernel
  exact gtb_in (List.mem_of_getElem? hi) (List.all_eq_true.mp hg x (by rw [e]; exact hx))
theorem in_X4 : ∀ x ∈ u_ws RX4 TX4 2, x ∈ gtb := by
  intro x hx
  have e : u_ws RX4 TX4 2 = [230, 232].filterMap (fun i => lw_tbl[i]?) := by decide +kernel
  rw [e] at hx
  obtain ⟨i, -, hi⟩ := List.mem_filterMap.mp hx
  have hg : (u_ws RX4 TX4 2).all goodWord = true := by decide +kernel
  exact gtb_in (List.mem_of_getElem? hi) (List.all_eq_true.mp hg x (by rw [e]; exact hx))
theorem in_X5 : ∀ x ∈ u_ws RX5 TX5 9, x ∈ gtb := by
  intro x hx
  have e : u_ws RX5 TX5 9 = [244, 246, 248, 250, 252, 254, 256, 258, 260].filterMap (fun i => lw_tbl[i]?) := by decide +kernel
  rw [e] at hx
  obtain ⟨i, -, hi⟩ := List.mem_filterMap.mp hx
  have hg : (u_ws RX5 TX5 9).all goodWord = true := by decide +kernel
  exact gtb_in (List.mem_of_getElem? hi) (List.all_eq_true.mp hg x (by rw [e]; exact hx))
theorem in_X6 : ∀ x ∈ u_ws RX6 TX6 24, x ∈ gtb := by
  intro x hx
  have e : u_ws RX6 TX6 24 = [738, 740, 742, 744, 746, 748, 750, 752, 754, 756, 758, 760, 762, 764, 766, 768, 770, 772, 774, 776, 778, 780, 782, 784].filterMap (fun i => lw_tbl[i]?) := by decide +kernel
  rw [e] at hx
  obtain ⟨i, -, hi⟩ := List.mem_filterMap.mp hx
  have hg : (u_ws RX6 TX6 24).all goodWord = true := by decide +kernel
  exact gtb_in (List.mem_of_getElem? hi) (List.all_eq_true.mp hg x (by rw [e]; exact hx))
theorem mf_X5_init : MFs yX5_init cX5_init 1 none 0 := ⟨gtb_in (tb1 (List.mem_of_getElem? (i := 15) rfl)) rfl, gtb_in (tb1 (List.mem_of_getElem? (i := 1) rfl)) rfl, ⟨by decide +kernel, by decide +kernel⟩, by decide +kernel⟩
theorem mi_X5_init : Cond.instanceMethod yX5_init ∈ gtb := gtb_in (tb1 (List.mem_of_getElem? (i := 14) rfl)) rfl
theorem mf_X2_init : MFs yX2_init cX2_init 1 none 0 := ⟨gtb_in (tb1 (List.mem_of_getElem? (i := 23) rfl)) rfl, gtb_in (tb1 (List.mem_of_getElem? (i := 2) rfl)) rfl, ⟨by decide +kernel, by decide +kernel⟩, by decide +kernel⟩
theorem mi_X2_init : Cond.instanceMethod yX2_init ∈ gtb := gtb_in (tb1 (List.mem_of_getElem? (i := 22) rfl)) rfl
theorem mf_X0_init : MFs yX0_init cX0_init 1 none 0 := ⟨gtb_in (tb1 (List.mem_of_getElem? (i := 65) rfl)) rfl, gtb_in (tb1 (List.mem_of_getElem? (i := 3) rfl)) rfl, ⟨by decide +kernel, by decide +kernel⟩, by decide +kernel⟩
theorem mi_X0_init : Cond.instanceMethod yX0_init ∈ gtb := gtb_in (tb1 (List.mem_of_getElem? (i := 64) rfl)) rfl
theorem mf_X0_renew : MFs yX0_renew cX0_renew 4 none 2 := ⟨gtb_in (tb1 (List.mem_of_getElem? (i := 70) rfl)) rfl, gtb_in (tb1 (List.mem_of_getElem? (i := 3) rfl)) rfl, ⟨by decide +kernel, by decide +kernel⟩, by decide +kernel⟩
theorem mv_X0_renew : MFv yX0_renew := ⟨gtb_in (tb1 (List.mem_of_getElem? (i := 68) rfl)) rfl, gtb_in (tb1 (List.mem_of_getElem? (i := 69) rfl)) rfl⟩
theorem mf_X0_measure : MFs yX0_measure cX0_measure 3 none 0 := ⟨gtb_in (tb1 (List.mem_of_getElem? (i := 74) rfl)) rfl, gtb_in (tb1 (List.mem_of_getElem? (i := 3) rfl)) rfl, ⟨by decide +kernel, by decide +kernel⟩, by decide +kernel⟩
theorem mv_X0_measure : MFv yX0_measure := ⟨gtb_in (tb1 (List.mem_of_getElem? (i := 73) rfl)) rfl, gtb_in (List.mem_append_left _ (List.mem_of_getElem? (i := 0) rfl)) rfl⟩
theorem mf_X0_singleStep : MFs yX0_singleStep cX0_singleStep 3 (some .int) 2 := ⟨gtb_in (tb1 (List.mem_of_getElem? (i := 78) rfl)) rfl, gtb_in (tb1 (List.mem_of_getElem? (i := 3) rfl)) rfl, ⟨by decide +kernel, by decide +kernel⟩, by decide +kernel⟩
theorem mv_X0_singleStep : MFv yX0_singleStep := ⟨gtb_in (tb1 (List.mem_of_getElem? (i := 77) rfl)) rfl, gtb_in (List.mem_append_left _ (List.mem_of_getElem? (i := 1) rfl)) rfl⟩
theorem mf_X0_isOpen : MFs yX0_isOpen cX0_isOpen 2 (some .boolean) 1 := ⟨gtb_in (tb1 (List.mem_of_getElem? (i := 82) rfl)) rfl, gtb_in (tb1 (List.mem_of_getElem? (i := 3) rfl)) rfl, ⟨by decide +kernel, by decide +kernel⟩, by decide +kernel⟩
theorem mv_X0_isOpen : MFv yX0_isOpen := ⟨gtb_in (tb1 (List.mem_of_getElem? (i := 81) rfl)) rfl, gtb_in (List.mem_append_left _ (List.mem_of_getElem? (i := 2) rfl)) rfl⟩
theorem mf_X0_isThere : MFs yX0_isThere cX0_isThere 2 (some .boolean) 1 := ⟨gtb_in (tb1 (List.mem_of_getElem? (i := 86) rfl)) rfl, gtb_in (tb1 (List.mem_of_getElem? (i := 3) rfl)) rfl, ⟨by decide +kernel, by decide +kernel⟩, by decide +kernel⟩
theorem mv_X0_isThere : MFv yX0_isThere := ⟨gtb_in (tb1 (List.mem_of_getElem? (i := 84) rfl)) rfl, gtb_in (tb1 (List.mem_of_getElem? (i := 85) rfl)) rfl⟩
theorem mf_X0_areNeighbours : MFs yX0_areNeighbours cX0_areNeighbours 5 (some .boolean) 2 := ⟨gtb_in (tb1 (List.mem_of_getElem? (i := 90) rfl)) rfl, gtb_in (tb1 (List.mem_of_getElem? (i := 3) rfl)) rfl, ⟨by decide +kernel, by decide +kernel⟩, by decide +kernel⟩
theorem mv_X0_areNeighbours : MFv yX0_areNeighbours := ⟨gtb_in (tb1 (List.mem_of_getElem? (i := 89) rfl)) rfl, gtb_in (List.mem_append_left _ (List.mem_of_getElem? (i := 3) rfl)) rfl⟩
theorem mf_J9_abs_0f7a4 : MFs yJ9_abs_0f7a4 cJ9_abs_0f7a4 1 (some .int) 1 := ⟨gtb_in (tb1 (List.mem_of_getElem? (i := 93) rfl)) rfl, gtb_in (tb1 (List.mem_of_getElem? (i := 4) rfl)) rfl, ⟨by decide +kernel, by decide +kernel⟩, by decide +kernel⟩
theorem ms_J9_abs_0f7a4 : Cond.static yJ9_abs_0f7a4 ∈ gtb := gtb_in (tb1 (List.mem_of_getElem? (i := 92) rfl)) rfl
theorem mf_X0_cells : MFs yX0_cells cX0_cells 1 (some .int) 0 := ⟨gtb_in (tb1 (List.mem_of_getElem? (i := 97) rfl)) rfl, gtb_in (tb1 (List.mem_of_getElem? (i := 3) rfl)) rfl, ⟨by decide +kernel, by decide +kernel⟩, by decide +kernel⟩
theorem mv_X0_cells : MFv yX0_cells := ⟨gtb_in (tb1 (List.mem_of_getElem? (i := 95) rfl)) rfl, gtb_in (tb1 (List.mem_of_getElem? (i := 96) rfl)) rfl⟩
theorem mf_X0_shortenThrough : MFs yX0_shortenThrough cX0_shortenThrough 5 none 1 := ⟨gtb_in (tb1 (List.mem_of_getElem? (i := 101) rfl)) rfl, gtb_in (tb1 (List.mem_of_getElem? (i := 3) rfl)) rfl, ⟨by decide +kernel, by decide +kernel⟩, by decide +kernel⟩
theorem mv_X0_shortenThrough : MFv yX0_shortenThrough := ⟨gtb_in (tb1 (List.mem_of_getElem? (i := 100) rfl)) rfl, gtb_in (List.mem_append_left _ (List.mem_of_getElem? (i := 4) rfl)) rfl⟩
theorem mf_X1_init : MFs yX1_init cX1_init 3 none 2 := ⟨gtb_in (tb1 (List.mem_of_getElem? (i := 122) rfl)) rfl, gtb_in (tb1 (List.mem_of_getElem? (i := 5) rfl)) rfl, ⟨by decide +kernel, by decide +kernel⟩, by decide +kernel⟩
theorem mi_X1_init : Cond.instanceMethod yX1_init ∈ gtb := gtb_in (tb1 (List.mem_of_getElem? (i := 121) rfl)) rfl
theorem mf_X3_init : MFs yX3_init cX3_init 3 none 2 := ⟨gtb_in (tb1 (List.mem_of_getElem? (i := 144) rfl)) rfl, gtb_in (tb1 (List.mem_of_getElem? (i := 6) rfl)) rfl, ⟨by decide +kernel, by decide +kernel⟩, by decide +kernel⟩
theorem mi_X3_init : Cond.instanceMethod yX3_init ∈ gtb := gtb_in (tb1 (List.mem_of_getElem? (i := 143) rfl)) rfl
theorem mf_X4_init : MFs yX4_init cX4_init 2 none 1 := ⟨gtb_in (tb1 (List.mem_of_getElem? (i := 178) rfl)) rfl, gtb_in (tb1 (List.mem_of_getElem? (i := 7) rfl)) rfl, ⟨by decide +kernel, by decide +kernel⟩, by decide +kernel⟩
theorem mi_X4_init : Cond.instanceMethod yX4_init ∈ gtb := gtb_in (tb1 (List.mem_of_getElem? (i := 177) rfl)) rfl
theorem mf_X5_input : MFs yX5_input cX5_input 4 (some .int) 2 := ⟨gtb_in (tb1 (List.mem_of_getElem? (i := 218) rfl)) rfl, gtb_in (tb1 (List.mem_of_getElem? (i := 1) rfl)) rfl, ⟨by decide +kernel, by decide +kernel⟩, by decide +kernel⟩
theorem mv_X5_input : MFv yX5_input := ⟨gtb_in (tb1 (List.mem_of_getElem? (i := 216) rfl)) rfl, gtb_in (tb1 (List.mem_of_getElem? (i := 217) rfl)) rfl⟩
theorem mf_X5_isWithin : MFs yX5_isWithin cX5_isWithin 3 (some .boolean) 3 := ⟨gtb_in (tb1 (List.mem_of_getElem? (i := 221) rfl)) rfl, gtb_in (tb1 (List.mem_of_getElem? (i := 1) rfl)) rfl, ⟨by decide +kernel, by decide +kernel⟩, by decide +kernel⟩
theorem ms_X5_isWithin : Cond.static yX5_isWithin ∈ gtb := gtb_in (tb1 (List.mem_of_getElem? (i := 220) rfl)) rfl
theorem mf_X2_addInput : MFs yX2_addInput cX2_addInput 4 (some .int) 2 := ⟨gtb_in (tb1 (List.mem_of_getElem? (i := 225) rfl)) rfl, gtb_in (tb1 (List.mem_of_getElem? (i := 2) rfl)) rfl, ⟨by decide +kernel, by decide +kernel⟩, by decide +kernel⟩
theorem mv_X2_addInput : MFv yX2_addInput := ⟨gtb_in (tb1 (List.mem_of_getElem? (i := 223) rfl)) rfl, gtb_in (tb1 (List.mem_of_getElem? (i := 224) rfl)) rfl⟩
theorem mf_X2_setOperand : MFs yX2_setOperand cX2_setOperand 4 none 3 := ⟨gtb_in (tb1 (List.mem_of_getElem? (i := 229) rfl)) rfl, gtb_in (tb1 (List.mem_of_getElem? (i := 2) rfl)) rfl, ⟨by decide +kernel, by decide +kernel⟩, by decide +kernel⟩
theorem mv_X2_setOperand : MFv yX2_setOperand := ⟨gtb_in (tb1 (List.mem_of_getElem? (i := 228) rfl)) rfl, gtb_in (List.mem_append_left _ (List.mem_of_getElem? (i := 5) rfl)) rfl⟩
theorem mf_X2_arrange : MFs yX2_arrange cX2_arrange 4 none 0 := ⟨gtb_in (tb1 (List.mem_of_getElem? (i := 233) rfl)) rfl, gtb_in (tb1 (List.mem_of_getElem? (i := 2) rfl)) rfl, ⟨by decide +kernel, by decide +kernel⟩, by decide +kernel⟩
theorem mv_X2_arrange : MFv yX2_arrange := ⟨gtb_in (tb1 (List.mem_of_getElem? (i := 232) rfl)) rfl, gtb_in (List.mem_append_left _ (List.mem_of_getElem? (i := 6) rfl)) rfl⟩
theorem mf_X2_canFollow : MFs yX2_canFollow cX2_canFollow 3 (some .boolean) 1 := ⟨gtb_in (tb1 (List.mem_of_getElem? (i := 237) rfl)) rfl, gtb_in (tb1 (List.mem_of_getElem? (i := 2) rfl)) rfl, ⟨by decide +kernel, by decide +kernel⟩, by decide +kernel⟩
theorem mv_X2_canFollow : MFv yX2_canFollow := ⟨gtb_in (tb1 (List.mem_of_getElem? (i := 236) rfl)) rfl, gtb_in (List.mem_append_left _ (List.mem_of_getElem? (i := 7) rfl)) rfl⟩
theorem mf_X2_sourceOf : MFs yX2_sourceOf cX2_sourceOf 2 (some .int) 1 := ⟨gtb_in (tb2 (List.mem_of_getElem? (i := 1) rfl)) rfl, gtb_in (tb1 (List.mem_of_getElem? (i := 2) rfl)) rfl, ⟨by decide +kernel, by decide +kernel⟩, by decide +kernel⟩
theorem mv_X2_sourceOf : MFv yX2_sourceOf := ⟨gtb_in (tb1 (List.mem_of_getElem? (i := 239) rfl)) rfl, gtb_in (tb2 (List.mem_of_getElem? (i := 0) rfl)) rfl⟩
theorem mf_X2_isSlot : MFs yX2_isSlot cX2_isSlot 2 (some .boolean) 1 := ⟨gtb_in (tb2 (List.mem_of_getElem? (i := 5) rfl)) rfl, gtb_in (tb1 (List.mem_of_getElem? (i := 2) rfl)) rfl, ⟨by decide +kernel, by decide +kernel⟩, by decide +kernel⟩
theorem mv_X2_isSlot : MFv yX2_isSlot := ⟨gtb_in (tb2 (List.mem_of_getElem? (i := 4) rfl)) rfl, gtb_in (List.mem_append_left _ (List.mem_of_getElem? (i := 8) rfl)) rfl⟩
theorem mf_X2_isThere : MFs yX2_isThere cX2_isThere 2 (some .boolean) 1 := ⟨gtb_in (tb2 (List.mem_of_getElem? (i := 9) rfl)) rfl, gtb_in (tb1 (List.mem_of_getElem? (i := 2) rfl)) rfl, ⟨by decide +kernel, by decide +kernel⟩, by decide +kernel⟩
theorem mv_X2_isThere : MFv yX2_isThere := ⟨gtb_in (tb2 (List.mem_of_getElem? (i := 7) rfl)) rfl, gtb_in (tb2 (List.mem_of_getElem? (i := 8) rfl)) rfl⟩
theorem mf_X2_distanceOf : MFs yX2_distanceOf cX2_distanceOf 2 (some .int) 1 := ⟨gtb_in (tb2 (List.mem_of_getElem? (i := 13) rfl)) rfl, gtb_in (tb1 (List.mem_of_getElem? (i := 2) rfl)) rfl, ⟨by decide +kernel, by decide +kernel⟩, by decide +kernel⟩
theorem mv_X2_distanceOf : MFv yX2_distanceOf := ⟨gtb_in (tb2 (List.mem_of_getElem? (i := 11) rfl)) rfl, gtb_in (tb2 (List.mem_of_getElem? (i := 12) rfl)) rfl⟩
theorem mf_X5_actsChanged : MFs yX5_actsChanged cX5_actsChanged 1 none 0 := ⟨gtb_in (tb2 (List.mem_of_getElem? (i := 17) rfl)) rfl, gtb_in (tb1 (List.mem_of_getElem? (i := 1) rfl)) rfl, ⟨by decide +kernel, by decide +kernel⟩, by decide +kernel⟩
theorem mv_X5_actsChanged : MFv yX5_actsChanged := ⟨gtb_in (tb2 (List.mem_of_getElem? (i := 16) rfl)) rfl, gtb_in (List.mem_append_left _ (List.mem_of_getElem? (i := 9) rfl)) rfl⟩
theorem mf_X1_drop : MFs yX1_drop cX1_drop 1 none 0 := ⟨gtb_in (tb2 (List.mem_of_getElem? (i := 21) rfl)) rfl, gtb_in (tb1 (List.mem_of_getElem? (i := 5) rfl)) rfl, ⟨by decide +kernel, by decide +kernel⟩, by decide +kernel⟩
theorem mv_X1_drop : MFv yX1_drop := ⟨gtb_in (tb2 (List.mem_of_getElem? (i := 19) rfl)) rfl, gtb_in (tb2 (List.mem_of_getElem? (i := 20) rfl)) rfl⟩
theorem mf_X5_act : MFs yX5_act cX5_act 8 (some .int) 5 := ⟨gtb_in (tb2 (List.mem_of_getElem? (i := 25) rfl)) rfl, gtb_in (tb1 (List.mem_of_getElem? (i := 1) rfl)) rfl, ⟨by decide +kernel, by decide +kernel⟩, by decide +kernel⟩
theorem mv_X5_act : MFv yX5_act := ⟨gtb_in (tb2 (List.mem_of_getElem? (i := 23) rfl)) rfl, gtb_in (tb2 (List.mem_of_getElem? (i := 24) rfl)) rfl⟩
theorem mf_X5_isOperand : MFs yX5_isOperand cX5_isOperand 2 (some .boolean) 2 := ⟨gtb_in (tb2 (List.mem_of_getElem? (i := 28) rfl)) rfl, gtb_in (tb1 (List.mem_of_getElem? (i := 1) rfl)) rfl, ⟨by decide +kernel, by decide +kernel⟩, by decide +kernel⟩
theorem ms_X5_isOperand : Cond.static yX5_isOperand ∈ gtb := gtb_in (tb2 (List.mem_of_getElem? (i := 27) rfl)) rfl
theorem mf_X2_addWork : MFs yX2_addWork cX2_addWork 7 (some .int) 5 := ⟨gtb_in (tb2 (List.mem_of_getElem? (i := 32) rfl)) rfl, gtb_in (tb1 (List.mem_of_getElem? (i := 2) rfl)) rfl, ⟨by decide +kernel, by decide +kernel⟩, by decide +kernel⟩
theorem mv_X2_addWork : MFv yX2_addWork := ⟨gtb_in (tb2 (List.mem_of_getElem? (i := 30) rfl)) rfl, gtb_in (tb2 (List.mem_of_getElem? (i := 31) rfl)) rfl⟩
theorem mf_X5_first : MFs yX5_first cX5_first 3 (some .int) 1 := ⟨gtb_in (tb2 (List.mem_of_getElem? (i := 36) rfl)) rfl, gtb_in (tb1 (List.mem_of_getElem? (i := 1) rfl)) rfl, ⟨by decide +kernel, by decide +kernel⟩, by decide +kernel⟩
theorem mv_X5_first : MFv yX5_first := ⟨gtb_in (tb2 (List.mem_of_getElem? (i := 34) rfl)) rfl, gtb_in (tb2 (List.mem_of_getElem? (i := 35) rfl)) rfl⟩
theorem mf_X2_firstNumber : MFs yX2_firstNumber cX2_firstNumber 1 (some .int) 0 := ⟨gtb_in (tb2 (List.mem_of_getElem? (i := 40) rfl)) rfl, gtb_in (tb1 (List.mem_of_getElem? (i := 2) rfl)) rfl, ⟨by decide +kernel, by decide +kernel⟩, by decide +kernel⟩
theorem mv_X2_firstNumber : MFv yX2_firstNumber := ⟨gtb_in (tb2 (List.mem_of_getElem? (i := 38) rfl)) rfl, gtb_in (tb2 (List.mem_of_getElem? (i := 39) rfl)) rfl⟩
theorem mf_X2_setFirstNumber : MFs yX2_setFirstNumber cX2_setFirstNumber 2 none 1 := ⟨gtb_in (tb2 (List.mem_of_getElem? (i := 44) rfl)) rfl, gtb_in (tb1 (List.mem_of_getElem? (i := 2) rfl)) rfl, ⟨by decide +kernel, by decide +kernel⟩, by decide +kernel⟩
theorem mv_X2_setFirstNumber : MFv yX2_setFirstNumber := ⟨gtb_in (tb2 (List.mem_of_getElem? (i := 42) rfl)) rfl, gtb_in (tb2 (List.mem_of_getElem? (i := 43) rfl)) rfl⟩
theorem mf_X5_clear : MFs yX5_clear cX5_clear 2 (some .int) 0 := ⟨gtb_in (tb2 (List.mem_of_getElem? (i := 48) rfl)) rfl, gtb_in (tb1 (List.mem_of_getElem? (i := 1) rfl)) rfl, ⟨by decide +kernel, by decide +kernel⟩, by decide +kernel⟩
theorem mv_X5_clear : MFv yX5_clear := ⟨gtb_in (tb2 (List.mem_of_getElem? (i := 46) rfl)) rfl, gtb_in (tb2 (List.mem_of_getElem? (i := 47) rfl)) rfl⟩
theorem mf_X2_count : MFs yX2_count cX2_count 1 (some .int) 0 := ⟨gtb_in (tb2 (List.mem_of_getElem? (i := 52) rfl)) rfl, gtb_in (tb1 (List.mem_of_getElem? (i := 2) rfl)) rfl, ⟨by decide +kernel, by decide +kernel⟩, by decide +kernel⟩
theorem mv_X2_count : MFv yX2_count := ⟨gtb_in (tb2 (List.mem_of_getElem? (i := 50) rfl)) rfl, gtb_in (tb2 (List.mem_of_getElem? (i := 51) rfl)) rfl⟩
theorem mf_X2_empty : MFs yX2_empty cX2_empty 1 none 0 := ⟨gtb_in (tb2 (List.mem_of_getElem? (i := 56) rfl)) rfl, gtb_in (tb1 (List.mem_of_getElem? (i := 2) rfl)) rfl, ⟨by decide +kernel, by decide +kernel⟩, by decide +kernel⟩
theorem mv_X2_empty : MFv yX2_empty := ⟨gtb_in (tb2 (List.mem_of_getElem? (i := 54) rfl)) rfl, gtb_in (tb2 (List.mem_of_getElem? (i := 55) rfl)) rfl⟩
theorem mf_X5_sound : MFs yX5_sound cX5_sound 1 (some .int) 0 := ⟨gtb_in (tb2 (List.mem_of_getElem? (i := 60) rfl)) rfl, gtb_in (tb1 (List.mem_of_getElem? (i := 1) rfl)) rfl, ⟨by decide +kernel, by decide +kernel⟩, by decide +kernel⟩
theorem mv_X5_sound : MFv yX5_sound := ⟨gtb_in (tb2 (List.mem_of_getElem? (i := 58) rfl)) rfl, gtb_in (tb2 (List.mem_of_getElem? (i := 59) rfl)) rfl⟩
theorem mf_X2_isSound : MFs yX2_isSound cX2_isSound 1 (some .boolean) 0 := ⟨gtb_in (tb2 (List.mem_of_getElem? (i := 64) rfl)) rfl, gtb_in (tb1 (List.mem_of_getElem? (i := 2) rfl)) rfl, ⟨by decide +kernel, by decide +kernel⟩, by decide +kernel⟩
theorem mv_X2_isSound : MFv yX2_isSound := ⟨gtb_in (tb2 (List.mem_of_getElem? (i := 62) rfl)) rfl, gtb_in (tb2 (List.mem_of_getElem? (i := 63) rfl)) rfl⟩
theorem mf_X5_plain : MFs yX5_plain cX5_plain 3 (some .long) 2 := ⟨gtb_in (tb2 (List.mem_of_getElem? (i := 68) rfl)) rfl, gtb_in (tb1 (List.mem_of_getElem? (i := 1) rfl)) rfl, ⟨by decide +kernel, by decide +kernel⟩, by decide +kernel⟩
theorem mv_X5_plain : MFv yX5_plain := ⟨gtb_in (tb2 (List.mem_of_getElem? (i := 66) rfl)) rfl, gtb_in (tb2 (List.mem_of_getElem? (i := 67) rfl)) rfl⟩
theorem mf_X4_makeRound : MFs yX4_makeRound cX4_makeRound 3 none 1 := ⟨gtb_in (tb2 (List.mem_of_getElem? (i := 75) rfl)) rfl, gtb_in (tb1 (List.mem_of_getElem? (i := 7) rfl)) rfl, ⟨by decide +kernel, by decide +kernel⟩, by decide +kernel⟩
theorem mv_X4_makeRound : MFv yX4_makeRound := ⟨gtb_in (tb2 (List.mem_of_getElem? (i := 73) rfl)) rfl, gtb_in (tb2 (List.mem_of_getElem? (i := 74) rfl)) rfl⟩
theorem mf_X2_actInOrder : MFs yX2_actInOrder cX2_actInOrder 2 (some .int) 1 := ⟨gtb_in (tb2 (List.mem_of_getElem? (i := 80) rfl)) rfl, gtb_in (tb1 (List.mem_of_getElem? (i := 2) rfl)) rfl, ⟨by decide +kernel, by decide +kernel⟩, by decide +kernel⟩
theorem mv_X2_actInOrder : MFv yX2_actInOrder := ⟨gtb_in (tb2 (List.mem_of_getElem? (i := 78) rfl)) rfl, gtb_in (tb2 (List.mem_of_getElem? (i := 79) rfl)) rfl⟩
theorem mf_X4_make : MFs yX4_make cX4_make 3 none 2 := ⟨gtb_in (tb2 (List.mem_of_getElem? (i := 84) rfl)) rfl, gtb_in (tb1 (List.mem_of_getElem? (i := 7) rfl)) rfl, ⟨by decide +kernel, by decide +kernel⟩, by decide +kernel⟩
theorem mv_X4_make : MFv yX4_make := ⟨gtb_in (tb2 (List.mem_of_getElem? (i := 82) rfl)) rfl, gtb_in (tb2 (List.mem_of_getElem? (i := 83) rfl)) rfl⟩
theorem mf_X4_isPlace : MFs yX4_isPlace cX4_isPlace 2 (some .boolean) 2 := ⟨gtb_in (tb2 (List.mem_of_getElem? (i := 87) rfl)) rfl, gtb_in (tb1 (List.mem_of_getElem? (i := 7) rfl)) rfl, ⟨by decide +kernel, by decide +kernel⟩, by decide +kernel⟩
theorem ms_X4_isPlace : Cond.static yX4_isPlace ∈ gtb := gtb_in (tb2 (List.mem_of_getElem? (i := 86) rfl)) rfl
theorem mf_X4_valueOf : MFs yX4_valueOf cX4_valueOf 5 (some .int) 2 := ⟨gtb_in (tb2 (List.mem_of_getElem? (i := 91) rfl)) rfl, gtb_in (tb1 (List.mem_of_getElem? (i := 7) rfl)) rfl, ⟨by decide +kernel, by decide +kernel⟩, by decide +kernel⟩
theorem mv_X4_valueOf : MFv yX4_valueOf := ⟨gtb_in (tb2 (List.mem_of_getElem? (i := 90) rfl)) rfl, gtb_in (List.mem_append_left _ (List.mem_of_getElem? (i := 10) rfl)) rfl⟩
theorem mf_X2_kindOf : MFs yX2_kindOf cX2_kindOf 2 (some .int) 1 := ⟨gtb_in (tb2 (List.mem_of_getElem? (i := 95) rfl)) rfl, gtb_in (tb1 (List.mem_of_getElem? (i := 2) rfl)) rfl, ⟨by decide +kernel, by decide +kernel⟩, by decide +kernel⟩
theorem mv_X2_kindOf : MFv yX2_kindOf := ⟨gtb_in (tb2 (List.mem_of_getElem? (i := 93) rfl)) rfl, gtb_in (tb2 (List.mem_of_getElem? (i := 94) rfl)) rfl⟩
theorem mf_X2_factorOf : MFs yX2_factorOf cX2_factorOf 2 (some .int) 1 := ⟨gtb_in (tb2 (List.mem_of_getElem? (i := 99) rfl)) rfl, gtb_in (tb1 (List.mem_of_getElem? (i := 2) rfl)) rfl, ⟨by decide +kernel, by decide +kernel⟩, by decide +kernel⟩
theorem mv_X2_factorOf : MFv yX2_factorOf := ⟨gtb_in (tb2 (List.mem_of_getElem? (i := 97) rfl)) rfl, gtb_in (tb2 (List.mem_of_getElem? (i := 98) rfl)) rfl⟩
theorem mf_X2_addendOf : MFs yX2_addendOf cX2_addendOf 2 (some .int) 1 := ⟨gtb_in (tb2 (List.mem_of_getElem? (i := 103) rfl)) rfl, gtb_in (tb1 (List.mem_of_getElem? (i := 2) rfl)) rfl, ⟨by decide +kernel, by decide +kernel⟩, by decide +kernel⟩
theorem mv_X2_addendOf : MFv yX2_addendOf := ⟨gtb_in (tb2 (List.mem_of_getElem? (i := 101) rfl)) rfl, gtb_in (tb2 (List.mem_of_getElem? (i := 102) rfl)) rfl⟩
theorem mf_X4_operand : MFs yX4_operand cX4_operand 4 (some .int) 2 := ⟨gtb_in (tb2 (List.mem_of_getElem? (i := 107) rfl)) rfl, gtb_in (tb1 (List.mem_of_getElem? (i := 7) rfl)) rfl, ⟨by decide +kernel, by decide +kernel⟩, by decide +kernel⟩
theorem mv_X4_operand : MFv yX4_operand := ⟨gtb_in (tb2 (List.mem_of_getElem? (i := 106) rfl)) rfl, gtb_in (List.mem_append_left _ (List.mem_of_getElem? (i := 11) rfl)) rfl⟩
theorem mf_X4_at : MFs yX4_at cX4_at 3 (some .int) 2 := ⟨gtb_in (tb2 (List.mem_of_getElem? (i := 114) rfl)) rfl, gtb_in (tb1 (List.mem_of_getElem? (i := 7) rfl)) rfl, ⟨by decide +kernel, by decide +kernel⟩, by decide +kernel⟩
theorem mv_X4_at : MFv yX4_at := ⟨gtb_in (tb2 (List.mem_of_getElem? (i := 112) rfl)) rfl, gtb_in (tb2 (List.mem_of_getElem? (i := 113) rfl)) rfl⟩
theorem mf_J9_min_7cf53 : MFs yJ9_min_7cf53 cJ9_min_7cf53 2 (some .int) 2 := ⟨gtb_in (tb2 (List.mem_of_getElem? (i := 117) rfl)) rfl, gtb_in (tb1 (List.mem_of_getElem? (i := 4) rfl)) rfl, ⟨by decide +kernel, by decide +kernel⟩, by decide +kernel⟩
theorem ms_J9_min_7cf53 : Cond.static yJ9_min_7cf53 ∈ gtb := gtb_in (tb2 (List.mem_of_getElem? (i := 116) rfl)) rfl
theorem mf_J9_max_7cf53 : MFs yJ9_max_7cf53 cJ9_max_7cf53 2 (some .int) 2 := ⟨gtb_in (tb2 (List.mem_of_getElem? (i := 120) rfl)) rfl, gtb_in (tb1 (List.mem_of_getElem? (i := 4) rfl)) rfl, ⟨by decide +kernel, by decide +kernel⟩, by decide +kernel⟩
theorem ms_J9_max_7cf53 : Cond.static yJ9_max_7cf53 ∈ gtb := gtb_in (tb2 (List.mem_of_getElem? (i := 119) rfl)) rfl
theorem mf_X5_about : MFs yX5_about cX5_about 3 (some .int) 2 := ⟨gtb_in (tb2 (List.mem_of_getElem? (i := 125) rfl)) rfl, gtb_in (tb1 (List.mem_of_getElem? (i := 1) rfl)) rfl, ⟨by decide +kernel, by decide +kernel⟩, by decide +kernel⟩
theorem mv_X5_about : MFv yX5_about := ⟨gtb_in (tb2 (List.mem_of_getElem? (i := 123) rfl)) rfl, gtb_in (tb2 (List.mem_of_getElem? (i := 124) rfl)) rfl⟩
theorem mf_X2_lengthOf : MFs yX2_lengthOf cX2_lengthOf 2 (some .int) 1 := ⟨gtb_in (tb2 (List.mem_of_getElem? (i := 130) rfl)) rfl, gtb_in (tb1 (List.mem_of_getElem? (i := 2) rfl)) rfl, ⟨by decide +kernel, by decide +kernel⟩, by decide +kernel⟩
theorem mv_X2_lengthOf : MFv yX2_lengthOf := ⟨gtb_in (tb2 (List.mem_of_getElem? (i := 128) rfl)) rfl, gtb_in (tb2 (List.mem_of_getElem? (i := 129) rfl)) rfl⟩
theorem mf_X5_board : MFs yX5_board cX5_board 3 (some .int) 2 := ⟨gtb_in (tb2 (List.mem_of_getElem? (i := 138) rfl)) rfl, gtb_in (tb1 (List.mem_of_getElem? (i := 1) rfl)) rfl, ⟨by decide +kernel, by decide +kernel⟩, by decide +kernel⟩
theorem mv_X5_board : MFv yX5_board := ⟨gtb_in (tb2 (List.mem_of_getElem? (i := 136) rfl)) rfl, gtb_in (tb2 (List.mem_of_getElem? (i := 137) rfl)) rfl⟩
theorem mf_X5_breaks : MFs yX5_breaks cX5_breaks 4 (some .int) 2 := ⟨gtb_in (tb2 (List.mem_of_getElem? (i := 144) rfl)) rfl, gtb_in (tb1 (List.mem_of_getElem? (i := 1) rfl)) rfl, ⟨by decide +kernel, by decide +kernel⟩, by decide +kernel⟩
theorem mv_X5_breaks : MFv yX5_breaks := ⟨gtb_in (tb2 (List.mem_of_getElem? (i := 142) rfl)) rfl, gtb_in (tb2 (List.mem_of_getElem? (i := 143) rfl)) rfl⟩
theorem mf_X0_isBroken : MFs yX0_isBroken cX0_isBroken 2 (some .boolean) 1 := ⟨gtb_in (tb2 (List.mem_of_getElem? (i := 149) rfl)) rfl, gtb_in (tb1 (List.mem_of_getElem? (i := 3) rfl)) rfl, ⟨by decide +kernel, by decide +kernel⟩, by decide +kernel⟩
theorem mv_X0_isBroken : MFv yX0_isBroken := ⟨gtb_in (tb2 (List.mem_of_getElem? (i := 147) rfl)) rfl, gtb_in (tb2 (List.mem_of_getElem? (i := 148) rfl)) rfl⟩
theorem mf_X0_setBroken : MFs yX0_setBroken cX0_setBroken 3 none 2 := ⟨gtb_in (tb2 (List.mem_of_getElem? (i := 153) rfl)) rfl, gtb_in (tb1 (List.mem_of_getElem? (i := 3) rfl)) rfl, ⟨by decide +kernel, by decide +kernel⟩, by decide +kernel⟩
theorem mv_X0_setBroken : MFv yX0_setBroken := ⟨gtb_in (tb2 (List.mem_of_getElem? (i := 151) rfl)) rfl, gtb_in (tb2 (List.mem_of_getElem? (i := 152) rfl)) rfl⟩
theorem mf_X5_multiplies : MFs yX5_multiplies cX5_multiplies 4 (some .int) 2 := ⟨gtb_in (tb2 (List.mem_of_getElem? (i := 157) rfl)) rfl, gtb_in (tb1 (List.mem_of_getElem? (i := 1) rfl)) rfl, ⟨by decide +kernel, by decide +kernel⟩, by decide +kernel⟩
theorem mv_X5_multiplies : MFv yX5_multiplies := ⟨gtb_in (tb2 (List.mem_of_getElem? (i := 155) rfl)) rfl, gtb_in (tb2 (List.mem_of_getElem? (i := 156) rfl)) rfl⟩
theorem mf_X0_isMultiplying : MFs yX0_isMultiplying cX0_isMultiplying 2 (some .boolean) 1 := ⟨gtb_in (tb2 (List.mem_of_getElem? (i := 161) rfl)) rfl, gtb_in (tb1 (List.mem_of_getElem? (i := 3) rfl)) rfl, ⟨by decide +kernel, by decide +kernel⟩, by decide +kernel⟩
theorem mv_X0_isMultiplying : MFv yX0_isMultiplying := ⟨gtb_in (tb2 (List.mem_of_getElem? (i := 159) rfl)) rfl, gtb_in (tb2 (List.mem_of_getElem? (i := 160) rfl)) rfl⟩
theorem mf_X0_setMultiplying : MFs yX0_setMultiplying cX0_setMultiplying 3 none 2 := ⟨gtb_in (tb2 (List.mem_of_getElem? (i := 165) rfl)) rfl, gtb_in (tb1 (List.mem_of_getElem? (i := 3) rfl)) rfl, ⟨by decide +kernel, by decide +kernel⟩, by decide +kernel⟩
theorem mv_X0_setMultiplying : MFv yX0_setMultiplying := ⟨gtb_in (tb2 (List.mem_of_getElem? (i := 163) rfl)) rfl, gtb_in (tb2 (List.mem_of_getElem? (i := 164) rfl)) rfl⟩
theorem mf_X5_way : MFs yX5_way cX5_way 3 (some .int) 2 := ⟨gtb_in (tb2 (List.mem_of_getElem? (i := 169) rfl)) rfl, gtb_in (tb1 (List.mem_of_getElem? (i := 1) rfl)) rfl, ⟨by decide +kernel, by decide +kernel⟩, by decide +kernel⟩
theorem mv_X5_way : MFv yX5_way := ⟨gtb_in (tb2 (List.mem_of_getElem? (i := 167) rfl)) rfl, gtb_in (tb2 (List.mem_of_getElem? (i := 168) rfl)) rfl⟩
theorem mf_X0_wayBetween : MFs yX0_wayBetween cX0_wayBetween 4 (some .int) 2 := ⟨gtb_in (tb2 (List.mem_of_getElem? (i := 173) rfl)) rfl, gtb_in (tb1 (List.mem_of_getElem? (i := 3) rfl)) rfl, ⟨by decide +kernel, by decide +kernel⟩, by decide +kernel⟩
theorem mv_X0_wayBetween : MFv yX0_wayBetween := ⟨gtb_in (tb2 (List.mem_of_getElem? (i := 171) rfl)) rfl, gtb_in (tb2 (List.mem_of_getElem? (i := 172) rfl)) rfl⟩
theorem mf_X5_plan : MFs yX5_plan cX5_plan 2 (some .int) 1 := ⟨gtb_in (tb2 (List.mem_of_getElem? (i := 177) rfl)) rfl, gtb_in (tb1 (List.mem_of_getElem? (i := 1) rfl)) rfl, ⟨by decide +kernel, by decide +kernel⟩, by decide +kernel⟩
theorem mv_X5_plan : MFv yX5_plan := ⟨gtb_in (tb2 (List.mem_of_getElem? (i := 175) rfl)) rfl, gtb_in (tb2 (List.mem_of_getElem? (i := 176) rfl)) rfl⟩
theorem mf_X1_begin : MFs yX1_begin cX1_begin 2 none 1 := ⟨gtb_in (tb2 (List.mem_of_getElem? (i := 181) rfl)) rfl, gtb_in (tb1 (List.mem_of_getElem? (i := 5) rfl)) rfl, ⟨by decide +kernel, by decide +kernel⟩, by decide +kernel⟩
theorem mv_X1_begin : MFv yX1_begin := ⟨gtb_in (tb2 (List.mem_of_getElem? (i := 179) rfl)) rfl, gtb_in (tb2 (List.mem_of_getElem? (i := 180) rfl)) rfl⟩
theorem mf_J7_fill_53178 : MFs yJ7_fill_53178 cJ7_fill_53178 4 none 2 := ⟨gtb_in (tb2 (List.mem_of_getElem? (i := 184) rfl)) rfl, gtb_in (tb1 (List.mem_of_getElem? (i := 9) rfl)) rfl, ⟨by decide +kernel, by decide +kernel⟩, by decide +kernel⟩
theorem ms_J7_fill_53178 : Cond.static yJ7_fill_53178 ∈ gtb := gtb_in (tb2 (List.mem_of_getElem? (i := 183) rfl)) rfl
theorem mf_X5_lay : MFs yX5_lay cX5_lay 4 (some .int) 3 := ⟨gtb_in (tb2 (List.mem_of_getElem? (i := 188) rfl)) rfl, gtb_in (tb1 (List.mem_of_getElem? (i := 1) rfl)) rfl, ⟨by decide +kernel, by decide +kernel⟩, by decide +kernel⟩
theorem mv_X5_lay : MFv yX5_lay := ⟨gtb_in (tb2 (List.mem_of_getElem? (i := 186) rfl)) rfl, gtb_in (tb2 (List.mem_of_getElem? (i := 187) rfl)) rfl⟩
theorem mf_X1_stands : MFs yX1_stands cX1_stands 1 (some .boolean) 0 := ⟨gtb_in (tb2 (List.mem_of_getElem? (i := 192) rfl)) rfl, gtb_in (tb1 (List.mem_of_getElem? (i := 5) rfl)) rfl, ⟨by decide +kernel, by decide +kernel⟩, by decide +kernel⟩
theorem mv_X1_stands : MFv yX1_stands := ⟨gtb_in (tb2 (List.mem_of_getElem? (i := 190) rfl)) rfl, gtb_in (tb2 (List.mem_of_getElem? (i := 191) rfl)) rfl⟩
theorem mf_X1_put : MFs yX1_put cX1_put 4 none 3 := ⟨gtb_in (tb2 (List.mem_of_getElem? (i := 196) rfl)) rfl, gtb_in (tb1 (List.mem_of_getElem? (i := 5) rfl)) rfl, ⟨by decide +kernel, by decide +kernel⟩, by decide +kernel⟩
theorem mv_X1_put : MFv yX1_put := ⟨gtb_in (tb2 (List.mem_of_getElem? (i := 194) rfl)) rfl, gtb_in (tb2 (List.mem_of_getElem? (i := 195) rfl)) rfl⟩
theorem mf_X5_lacks : MFs yX5_lacks cX5_lacks 1 (some .int) 0 := ⟨gtb_in (tb2 (List.mem_of_getElem? (i := 201) rfl)) rfl, gtb_in (tb1 (List.mem_of_getElem? (i := 1) rfl)) rfl, ⟨by decide +kernel, by decide +kernel⟩, by decide +kernel⟩
theorem mv_X5_lacks : MFv yX5_lacks := ⟨gtb_in (tb2 (List.mem_of_getElem? (i := 199) rfl)) rfl, gtb_in (tb2 (List.mem_of_getElem? (i := 200) rfl)) rfl⟩
theorem mf_X1_firstLack : MFs yX1_firstLack cX1_firstLack 3 (some .int) 0 := ⟨gtb_in (tb2 (List.mem_of_getElem? (i := 205) rfl)) rfl, gtb_in (tb1 (List.mem_of_getElem? (i := 5) rfl)) rfl, ⟨by decide +kernel, by decide +kernel⟩, by decide +kernel⟩
theorem mv_X1_firstLack : MFv yX1_firstLack := ⟨gtb_in (tb2 (List.mem_of_getElem? (i := 203) rfl)) rfl, gtb_in (tb2 (List.mem_of_getElem? (i := 204) rfl)) rfl⟩
theorem mf_X1_cellOf : MFs yX1_cellOf cX1_cellOf 2 (some .int) 1 := ⟨gtb_in (tb2 (List.mem_of_getElem? (i := 210) rfl)) rfl, gtb_in (tb1 (List.mem_of_getElem? (i := 5) rfl)) rfl, ⟨by decide +kernel, by decide +kernel⟩, by decide +kernel⟩
theorem mv_X1_cellOf : MFv yX1_cellOf := ⟨gtb_in (tb2 (List.mem_of_getElem? (i := 208) rfl)) rfl, gtb_in (tb2 (List.mem_of_getElem? (i := 209) rfl)) rfl⟩
theorem mf_X0_suits : MFs yX0_suits cX0_suits 3 (some .boolean) 2 := ⟨gtb_in (tb2 (List.mem_of_getElem? (i := 216) rfl)) rfl, gtb_in (tb1 (List.mem_of_getElem? (i := 3) rfl)) rfl, ⟨by decide +kernel, by decide +kernel⟩, by decide +kernel⟩
theorem mv_X0_suits : MFv yX0_suits := ⟨gtb_in (tb2 (List.mem_of_getElem? (i := 214) rfl)) rfl, gtb_in (tb2 (List.mem_of_getElem? (i := 215) rfl)) rfl⟩
theorem mf_X1_meetsOneAhead : MFs yX1_meetsOneAhead cX1_meetsOneAhead 4 (some .boolean) 1 := ⟨gtb_in (tb2 (List.mem_of_getElem? (i := 220) rfl)) rfl, gtb_in (tb1 (List.mem_of_getElem? (i := 5) rfl)) rfl, ⟨by decide +kernel, by decide +kernel⟩, by decide +kernel⟩
theorem mv_X1_meetsOneAhead : MFv yX1_meetsOneAhead := ⟨gtb_in (tb2 (List.mem_of_getElem? (i := 219) rfl)) rfl, gtb_in (List.mem_append_left _ (List.mem_of_getElem? (i := 12) rfl)) rfl⟩
theorem mf_X1_startOf : MFs yX1_startOf cX1_startOf 2 (some .int) 1 := ⟨gtb_in (tb2 (List.mem_of_getElem? (i := 224) rfl)) rfl, gtb_in (tb1 (List.mem_of_getElem? (i := 5) rfl)) rfl, ⟨by decide +kernel, by decide +kernel⟩, by decide +kernel⟩
theorem mv_X1_startOf : MFv yX1_startOf := ⟨gtb_in (tb2 (List.mem_of_getElem? (i := 222) rfl)) rfl, gtb_in (tb2 (List.mem_of_getElem? (i := 223) rfl)) rfl⟩
theorem mf_X1_isLate : MFs yX1_isLate cX1_isLate 4 (some .boolean) 1 := ⟨gtb_in (tb2 (List.mem_of_getElem? (i := 228) rfl)) rfl, gtb_in (tb1 (List.mem_of_getElem? (i := 5) rfl)) rfl, ⟨by decide +kernel, by decide +kernel⟩, by decide +kernel⟩
theorem mv_X1_isLate : MFv yX1_isLate := ⟨gtb_in (tb2 (List.mem_of_getElem? (i := 227) rfl)) rfl, gtb_in (List.mem_append_left _ (List.mem_of_getElem? (i := 13) rfl)) rfl⟩
theorem mf_X1_usedAt : MFs yX1_usedAt cX1_usedAt 2 (some .int) 1 := ⟨gtb_in (tb2 (List.mem_of_getElem? (i := 234) rfl)) rfl, gtb_in (tb1 (List.mem_of_getElem? (i := 5) rfl)) rfl, ⟨by decide +kernel, by decide +kernel⟩, by decide +kernel⟩
theorem mv_X1_usedAt : MFv yX1_usedAt := ⟨gtb_in (tb2 (List.mem_of_getElem? (i := 233) rfl)) rfl, gtb_in (List.mem_append_left _ (List.mem_of_getElem? (i := 14) rfl)) rfl⟩
theorem mf_X1_madeAt : MFs yX1_madeAt cX1_madeAt 2 (some .int) 1 := ⟨gtb_in (tb2 (List.mem_of_getElem? (i := 239) rfl)) rfl, gtb_in (tb1 (List.mem_of_getElem? (i := 5) rfl)) rfl, ⟨by decide +kernel, by decide +kernel⟩, by decide +kernel⟩
theorem mv_X1_madeAt : MFv yX1_madeAt := ⟨gtb_in (tb2 (List.mem_of_getElem? (i := 238) rfl)) rfl, gtb_in (List.mem_append_left _ (List.mem_of_getElem? (i := 15) rfl)) rfl⟩
theorem mf_X5_laid : MFs yX5_laid cX5_laid 3 (some .int) 2 := ⟨gtb_in (tb3 (List.mem_of_getElem? (i := 4) rfl)) rfl, gtb_in (tb1 (List.mem_of_getElem? (i := 1) rfl)) rfl, ⟨by decide +kernel, by decide +kernel⟩, by decide +kernel⟩
theorem mv_X5_laid : MFv yX5_laid := ⟨gtb_in (tb3 (List.mem_of_getElem? (i := 2) rfl)) rfl, gtb_in (tb3 (List.mem_of_getElem? (i := 3) rfl)) rfl⟩
theorem mf_X5_kept : MFs yX5_kept cX5_kept 2 (some .int) 1 := ⟨gtb_in (tb3 (List.mem_of_getElem? (i := 10) rfl)) rfl, gtb_in (tb1 (List.mem_of_getElem? (i := 1) rfl)) rfl, ⟨by decide +kernel, by decide +kernel⟩, by decide +kernel⟩
theorem mv_X5_kept : MFv yX5_kept := ⟨gtb_in (tb3 (List.mem_of_getElem? (i := 8) rfl)) rfl, gtb_in (tb3 (List.mem_of_getElem? (i := 9) rfl)) rfl⟩
theorem mf_X1_isGood : MFs yX1_isGood cX1_isGood 1 (some .boolean) 0 := ⟨gtb_in (tb3 (List.mem_of_getElem? (i := 14) rfl)) rfl, gtb_in (tb1 (List.mem_of_getElem? (i := 5) rfl)) rfl, ⟨by decide +kernel, by decide +kernel⟩, by decide +kernel⟩
theorem mv_X1_isGood : MFv yX1_isGood := ⟨gtb_in (tb3 (List.mem_of_getElem? (i := 12) rfl)) rfl, gtb_in (tb3 (List.mem_of_getElem? (i := 13) rfl)) rfl⟩
theorem mf_X1_mostKept : MFs yX1_mostKept cX1_mostKept 5 (some .int) 1 := ⟨gtb_in (tb3 (List.mem_of_getElem? (i := 21) rfl)) rfl, gtb_in (tb1 (List.mem_of_getElem? (i := 5) rfl)) rfl, ⟨by decide +kernel, by decide +kernel⟩, by decide +kernel⟩
theorem mv_X1_mostKept : MFv yX1_mostKept := ⟨gtb_in (tb3 (List.mem_of_getElem? (i := 19) rfl)) rfl, gtb_in (tb3 (List.mem_of_getElem? (i := 20) rfl)) rfl⟩
theorem mf_X5_step : MFs yX5_step cX5_step 4 (some .int) 1 := ⟨gtb_in (tb3 (List.mem_of_getElem? (i := 26) rfl)) rfl, gtb_in (tb1 (List.mem_of_getElem? (i := 1) rfl)) rfl, ⟨by decide +kernel, by decide +kernel⟩, by decide +kernel⟩
theorem mv_X5_step : MFv yX5_step := ⟨gtb_in (tb3 (List.mem_of_getElem? (i := 24) rfl)) rfl, gtb_in (tb3 (List.mem_of_getElem? (i := 25) rfl)) rfl⟩
theorem mf_X1_endOf : MFs yX1_endOf cX1_endOf 4 (some .int) 1 := ⟨gtb_in (tb3 (List.mem_of_getElem? (i := 30) rfl)) rfl, gtb_in (tb1 (List.mem_of_getElem? (i := 5) rfl)) rfl, ⟨by decide +kernel, by decide +kernel⟩, by decide +kernel⟩
theorem mv_X1_endOf : MFv yX1_endOf := ⟨gtb_in (tb3 (List.mem_of_getElem? (i := 28) rfl)) rfl, gtb_in (tb3 (List.mem_of_getElem? (i := 29) rfl)) rfl⟩
theorem mf_X5_stepBeat : MFs yX5_stepBeat cX5_stepBeat 5 none 2 := ⟨gtb_in (tb3 (List.mem_of_getElem? (i := 34) rfl)) rfl, gtb_in (tb1 (List.mem_of_getElem? (i := 1) rfl)) rfl, ⟨by decide +kernel, by decide +kernel⟩, by decide +kernel⟩
theorem mv_X5_stepBeat : MFv yX5_stepBeat := ⟨gtb_in (tb3 (List.mem_of_getElem? (i := 33) rfl)) rfl, gtb_in (List.mem_append_left _ (List.mem_of_getElem? (i := 16) rfl)) rfl⟩
theorem mf_X1_roundStarting : MFs yX1_roundStarting cX1_roundStarting 4 (some .int) 2 := ⟨gtb_in (tb3 (List.mem_of_getElem? (i := 38) rfl)) rfl, gtb_in (tb1 (List.mem_of_getElem? (i := 5) rfl)) rfl, ⟨by decide +kernel, by decide +kernel⟩, by decide +kernel⟩
theorem mv_X1_roundStarting : MFv yX1_roundStarting := ⟨gtb_in (tb3 (List.mem_of_getElem? (i := 36) rfl)) rfl, gtb_in (tb3 (List.mem_of_getElem? (i := 37) rfl)) rfl⟩
theorem mf_X5_stepped : MFs yX5_stepped cX5_stepped 3 (some .long) 2 := ⟨gtb_in (tb3 (List.mem_of_getElem? (i := 43) rfl)) rfl, gtb_in (tb1 (List.mem_of_getElem? (i := 1) rfl)) rfl, ⟨by decide +kernel, by decide +kernel⟩, by decide +kernel⟩
theorem mv_X5_stepped : MFv yX5_stepped := ⟨gtb_in (tb3 (List.mem_of_getElem? (i := 41) rfl)) rfl, gtb_in (tb3 (List.mem_of_getElem? (i := 42) rfl)) rfl⟩
theorem mf_X5_works : MFs yX5_works cX5_works 3 (some .int) 2 := ⟨gtb_in (tb3 (List.mem_of_getElem? (i := 48) rfl)) rfl, gtb_in (tb1 (List.mem_of_getElem? (i := 1) rfl)) rfl, ⟨by decide +kernel, by decide +kernel⟩, by decide +kernel⟩
theorem mv_X5_works : MFv yX5_works := ⟨gtb_in (tb3 (List.mem_of_getElem? (i := 46) rfl)) rfl, gtb_in (tb3 (List.mem_of_getElem? (i := 47) rfl)) rfl⟩
theorem mf_X1_actStarting : MFs yX1_actStarting cX1_actStarting 4 (some .int) 2 := ⟨gtb_in (tb3 (List.mem_of_getElem? (i := 52) rfl)) rfl, gtb_in (tb1 (List.mem_of_getElem? (i := 5) rfl)) rfl, ⟨by decide +kernel, by decide +kernel⟩, by decide +kernel⟩
theorem mv_X1_actStarting : MFv yX1_actStarting := ⟨gtb_in (tb3 (List.mem_of_getElem? (i := 50) rfl)) rfl, gtb_in (tb3 (List.mem_of_getElem? (i := 51) rfl)) rfl⟩
theorem mf_X5_bound : MFs yX5_bound cX5_bound 2 (some .int) 1 := ⟨gtb_in (tb3 (List.mem_of_getElem? (i := 57) rfl)) rfl, gtb_in (tb1 (List.mem_of_getElem? (i := 1) rfl)) rfl, ⟨by decide +kernel, by decide +kernel⟩, by decide +kernel⟩
theorem mv_X5_bound : MFv yX5_bound := ⟨gtb_in (tb3 (List.mem_of_getElem? (i := 55) rfl)) rfl, gtb_in (tb3 (List.mem_of_getElem? (i := 56) rfl)) rfl⟩
theorem mf_X5_placesBound : MFs yX5_placesBound cX5_placesBound 5 (some .int) 0 := ⟨gtb_in (tb3 (List.mem_of_getElem? (i := 61) rfl)) rfl, gtb_in (tb1 (List.mem_of_getElem? (i := 1) rfl)) rfl, ⟨by decide +kernel, by decide +kernel⟩, by decide +kernel⟩
theorem mv_X5_placesBound : MFv yX5_placesBound := ⟨gtb_in (tb3 (List.mem_of_getElem? (i := 60) rfl)) rfl, gtb_in (List.mem_append_left _ (List.mem_of_getElem? (i := 17) rfl)) rfl⟩
theorem mf_X2_products : MFs yX2_products cX2_products 3 (some .int) 0 := ⟨gtb_in (tb3 (List.mem_of_getElem? (i := 65) rfl)) rfl, gtb_in (tb1 (List.mem_of_getElem? (i := 2) rfl)) rfl, ⟨by decide +kernel, by decide +kernel⟩, by decide +kernel⟩
theorem mv_X2_products : MFv yX2_products := ⟨gtb_in (tb3 (List.mem_of_getElem? (i := 63) rfl)) rfl, gtb_in (tb3 (List.mem_of_getElem? (i := 64) rfl)) rfl⟩
theorem mf_X0_unbroken : MFs yX0_unbroken cX0_unbroken 3 (some .int) 0 := ⟨gtb_in (tb3 (List.mem_of_getElem? (i := 69) rfl)) rfl, gtb_in (tb1 (List.mem_of_getElem? (i := 3) rfl)) rfl, ⟨by decide +kernel, by decide +kernel⟩, by decide +kernel⟩
theorem mv_X0_unbroken : MFv yX0_unbroken := ⟨gtb_in (tb3 (List.mem_of_getElem? (i := 67) rfl)) rfl, gtb_in (tb3 (List.mem_of_getElem? (i := 68) rfl)) rfl⟩
theorem mf_X0_unbrokenMultiplying : MFs yX0_unbrokenMultiplying cX0_unbrokenMultiplying 3 (some .int) 0 := ⟨gtb_in (tb3 (List.mem_of_getElem? (i := 73) rfl)) rfl, gtb_in (tb1 (List.mem_of_getElem? (i := 3) rfl)) rfl, ⟨by decide +kernel, by decide +kernel⟩, by decide +kernel⟩
theorem mv_X0_unbrokenMultiplying : MFv yX0_unbrokenMultiplying := ⟨gtb_in (tb3 (List.mem_of_getElem? (i := 71) rfl)) rfl, gtb_in (tb3 (List.mem_of_getElem? (i := 72) rfl)) rfl⟩
theorem mf_X5_cutUp : MFs yX5_cutUp cX5_cutUp 2 (some .int) 2 := ⟨gtb_in (tb3 (List.mem_of_getElem? (i := 77) rfl)) rfl, gtb_in (tb1 (List.mem_of_getElem? (i := 1) rfl)) rfl, ⟨by decide +kernel, by decide +kernel⟩, by decide +kernel⟩
theorem ms_X5_cutUp : Cond.static yX5_cutUp ∈ gtb := gtb_in (tb3 (List.mem_of_getElem? (i := 76) rfl)) rfl
theorem mf_J9_floorDiv_7cf53 : MFs yJ9_floorDiv_7cf53 cJ9_floorDiv_7cf53 3 (some .int) 2 := ⟨gtb_in (tb3 (List.mem_of_getElem? (i := 80) rfl)) rfl, gtb_in (tb1 (List.mem_of_getElem? (i := 4) rfl)) rfl, ⟨by decide +kernel, by decide +kernel⟩, by decide +kernel⟩
theorem ms_J9_floorDiv_7cf53 : Cond.static yJ9_floorDiv_7cf53 ∈ gtb := gtb_in (tb3 (List.mem_of_getElem? (i := 79) rfl)) rfl
theorem mf_X2_ringsBound : MFs yX2_ringsBound cX2_ringsBound 2 (some .int) 0 := ⟨gtb_in (tb3 (List.mem_of_getElem? (i := 85) rfl)) rfl, gtb_in (tb1 (List.mem_of_getElem? (i := 2) rfl)) rfl, ⟨by decide +kernel, by decide +kernel⟩, by decide +kernel⟩
theorem mv_X2_ringsBound : MFv yX2_ringsBound := ⟨gtb_in (tb3 (List.mem_of_getElem? (i := 83) rfl)) rfl, gtb_in (tb3 (List.mem_of_getElem? (i := 84) rfl)) rfl⟩
theorem mf_X2_ringsAllow : MFs yX2_ringsAllow cX2_ringsAllow 3 (some .boolean) 1 := ⟨gtb_in (tb3 (List.mem_of_getElem? (i := 89) rfl)) rfl, gtb_in (tb1 (List.mem_of_getElem? (i := 2) rfl)) rfl, ⟨by decide +kernel, by decide +kernel⟩, by decide +kernel⟩
theorem mv_X2_ringsAllow : MFv yX2_ringsAllow := ⟨gtb_in (tb3 (List.mem_of_getElem? (i := 88) rfl)) rfl, gtb_in (List.mem_append_left _ (List.mem_of_getElem? (i := 18) rfl)) rfl⟩
theorem mf_X2_delaysGrow : MFs yX2_delaysGrow cX2_delaysGrow 7 (some .boolean) 1 := ⟨gtb_in (tb3 (List.mem_of_getElem? (i := 94) rfl)) rfl, gtb_in (tb1 (List.mem_of_getElem? (i := 2) rfl)) rfl, ⟨by decide +kernel, by decide +kernel⟩, by decide +kernel⟩
theorem mv_X2_delaysGrow : MFv yX2_delaysGrow := ⟨gtb_in (tb3 (List.mem_of_getElem? (i := 93) rfl)) rfl, gtb_in (List.mem_append_left _ (List.mem_of_getElem? (i := 19) rfl)) rfl⟩
theorem mf_X5_find : MFs yX5_find cX5_find 6 (some .int) 0 := ⟨gtb_in (tb3 (List.mem_of_getElem? (i := 99) rfl)) rfl, gtb_in (tb1 (List.mem_of_getElem? (i := 1) rfl)) rfl, ⟨by decide +kernel, by decide +kernel⟩, by decide +kernel⟩
theorem mv_X5_find : MFv yX5_find := ⟨gtb_in (tb3 (List.mem_of_getElem? (i := 97) rfl)) rfl, gtb_in (tb3 (List.mem_of_getElem? (i := 98) rfl)) rfl⟩
theorem mf_X3_run : MFs yX3_run cX3_run 5 (some .int) 1 := ⟨gtb_in (tb3 (List.mem_of_getElem? (i := 103) rfl)) rfl, gtb_in (tb1 (List.mem_of_getElem? (i := 6) rfl)) rfl, ⟨by decide +kernel, by decide +kernel⟩, by decide +kernel⟩
theorem mv_X3_run : MFv yX3_run := ⟨gtb_in (tb3 (List.mem_of_getElem? (i := 101) rfl)) rfl, gtb_in (tb3 (List.mem_of_getElem? (i := 102) rfl)) rfl⟩
theorem mf_X3_goesNext : MFs yX3_goesNext cX3_goesNext 2 (some .boolean) 1 := ⟨gtb_in (tb3 (List.mem_of_getElem? (i := 110) rfl)) rfl, gtb_in (tb1 (List.mem_of_getElem? (i := 6) rfl)) rfl, ⟨by decide +kernel, by decide +kernel⟩, by decide +kernel⟩
theorem mv_X3_goesNext : MFv yX3_goesNext := ⟨gtb_in (tb3 (List.mem_of_getElem? (i := 109) rfl)) rfl, gtb_in (List.mem_append_left _ (List.mem_of_getElem? (i := 20) rfl)) rfl⟩
theorem mf_X3_isFree : MFs yX3_isFree cX3_isFree 3 (some .boolean) 1 := ⟨gtb_in (tb3 (List.mem_of_getElem? (i := 114) rfl)) rfl, gtb_in (tb1 (List.mem_of_getElem? (i := 6) rfl)) rfl, ⟨by decide +kernel, by decide +kernel⟩, by decide +kernel⟩
theorem mv_X3_isFree : MFv yX3_isFree := ⟨gtb_in (tb3 (List.mem_of_getElem? (i := 113) rfl)) rfl, gtb_in (List.mem_append_left _ (List.mem_of_getElem? (i := 21) rfl)) rfl⟩
theorem mf_X3_measureGaps : MFs yX3_measureGaps cX3_measureGaps 7 (some .boolean) 1 := ⟨gtb_in (tb3 (List.mem_of_getElem? (i := 121) rfl)) rfl, gtb_in (tb1 (List.mem_of_getElem? (i := 6) rfl)) rfl, ⟨by decide +kernel, by decide +kernel⟩, by decide +kernel⟩
theorem mv_X3_measureGaps : MFv yX3_measureGaps := ⟨gtb_in (tb3 (List.mem_of_getElem? (i := 120) rfl)) rfl, gtb_in (List.mem_append_left _ (List.mem_of_getElem? (i := 22) rfl)) rfl⟩
theorem mf_X3_turnsSettle : MFs yX3_turnsSettle cX3_turnsSettle 8 (some .boolean) 1 := ⟨gtb_in (tb3 (List.mem_of_getElem? (i := 130) rfl)) rfl, gtb_in (tb1 (List.mem_of_getElem? (i := 6) rfl)) rfl, ⟨by decide +kernel, by decide +kernel⟩, by decide +kernel⟩
theorem mv_X3_turnsSettle : MFv yX3_turnsSettle := ⟨gtb_in (tb3 (List.mem_of_getElem? (i := 129) rfl)) rfl, gtb_in (List.mem_append_left _ (List.mem_of_getElem? (i := 23) rfl)) rfl⟩
theorem mf_X3_beginRow : MFs yX3_beginRow cX3_beginRow 5 none 1 := ⟨gtb_in (tb3 (List.mem_of_getElem? (i := 134) rfl)) rfl, gtb_in (tb1 (List.mem_of_getElem? (i := 6) rfl)) rfl, ⟨by decide +kernel, by decide +kernel⟩, by decide +kernel⟩
theorem mv_X3_beginRow : MFv yX3_beginRow := ⟨gtb_in (tb3 (List.mem_of_getElem? (i := 133) rfl)) rfl, gtb_in (List.mem_append_left _ (List.mem_of_getElem? (i := 24) rfl)) rfl⟩
theorem mf_X3_triesMade : MFs yX3_triesMade cX3_triesMade 1 (some .int) 0 := ⟨gtb_in (tb3 (List.mem_of_getElem? (i := 142) rfl)) rfl, gtb_in (tb1 (List.mem_of_getElem? (i := 6) rfl)) rfl, ⟨by decide +kernel, by decide +kernel⟩, by decide +kernel⟩
theorem mv_X3_triesMade : MFv yX3_triesMade := ⟨gtb_in (tb3 (List.mem_of_getElem? (i := 140) rfl)) rfl, gtb_in (tb3 (List.mem_of_getElem? (i := 141) rfl)) rfl⟩
theorem mf_X5_takeFound : MFs yX5_takeFound cX5_takeFound 3 none 1 := ⟨gtb_in (tb3 (List.mem_of_getElem? (i := 146) rfl)) rfl, gtb_in (tb1 (List.mem_of_getElem? (i := 1) rfl)) rfl, ⟨by decide +kernel, by decide +kernel⟩, by decide +kernel⟩
theorem mv_X5_takeFound : MFv yX5_takeFound := ⟨gtb_in (tb3 (List.mem_of_getElem? (i := 145) rfl)) rfl, gtb_in (List.mem_append_left _ (List.mem_of_getElem? (i := 25) rfl)) rfl⟩
theorem mf_X3_cellOf : MFs yX3_cellOf cX3_cellOf 2 (some .int) 1 := ⟨gtb_in (tb3 (List.mem_of_getElem? (i := 150) rfl)) rfl, gtb_in (tb1 (List.mem_of_getElem? (i := 6) rfl)) rfl, ⟨by decide +kernel, by decide +kernel⟩, by decide +kernel⟩
theorem mv_X3_cellOf : MFv yX3_cellOf := ⟨gtb_in (tb3 (List.mem_of_getElem? (i := 148) rfl)) rfl, gtb_in (tb3 (List.mem_of_getElem? (i := 149) rfl)) rfl⟩
theorem mf_X3_startOf : MFs yX3_startOf cX3_startOf 2 (some .int) 1 := ⟨gtb_in (tb3 (List.mem_of_getElem? (i := 154) rfl)) rfl, gtb_in (tb1 (List.mem_of_getElem? (i := 6) rfl)) rfl, ⟨by decide +kernel, by decide +kernel⟩, by decide +kernel⟩
theorem mv_X3_startOf : MFv yX3_startOf := ⟨gtb_in (tb3 (List.mem_of_getElem? (i := 152) rfl)) rfl, gtb_in (tb3 (List.mem_of_getElem? (i := 153) rfl)) rfl⟩
theorem mf_X5_tries : MFs yX5_tries cX5_tries 1 (some .int) 0 := ⟨gtb_in (tb3 (List.mem_of_getElem? (i := 159) rfl)) rfl, gtb_in (tb1 (List.mem_of_getElem? (i := 1) rfl)) rfl, ⟨by decide +kernel, by decide +kernel⟩, by decide +kernel⟩
theorem mv_X5_tries : MFv yX5_tries := ⟨gtb_in (tb3 (List.mem_of_getElem? (i := 157) rfl)) rfl, gtb_in (tb3 (List.mem_of_getElem? (i := 158) rfl)) rfl⟩
theorem mf_X5_told : MFs yX5_told cX5_told 2 (some .int) 1 := ⟨gtb_in (tb3 (List.mem_of_getElem? (i := 163) rfl)) rfl, gtb_in (tb1 (List.mem_of_getElem? (i := 1) rfl)) rfl, ⟨by decide +kernel, by decide +kernel⟩, by decide +kernel⟩
theorem mv_X5_told : MFv yX5_told := ⟨gtb_in (tb3 (List.mem_of_getElem? (i := 161) rfl)) rfl, gtb_in (tb3 (List.mem_of_getElem? (i := 162) rfl)) rfl⟩
theorem mf_X0_rows : MFs yX0_rows cX0_rows 1 (some .int) 0 := ⟨gtb_in (tb3 (List.mem_of_getElem? (i := 167) rfl)) rfl, gtb_in (tb1 (List.mem_of_getElem? (i := 3) rfl)) rfl, ⟨by decide +kernel, by decide +kernel⟩, by decide +kernel⟩
theorem mv_X0_rows : MFv yX0_rows := ⟨gtb_in (tb3 (List.mem_of_getElem? (i := 165) rfl)) rfl, gtb_in (tb3 (List.mem_of_getElem? (i := 166) rfl)) rfl⟩
theorem mf_X0_columns : MFs yX0_columns cX0_columns 1 (some .int) 0 := ⟨gtb_in (tb3 (List.mem_of_getElem? (i := 171) rfl)) rfl, gtb_in (tb1 (List.mem_of_getElem? (i := 3) rfl)) rfl, ⟨by decide +kernel, by decide +kernel⟩, by decide +kernel⟩
theorem mv_X0_columns : MFv yX0_columns := ⟨gtb_in (tb3 (List.mem_of_getElem? (i := 169) rfl)) rfl, gtb_in (tb3 (List.mem_of_getElem? (i := 170) rfl)) rfl⟩
theorem mf_X1_beat : MFs yX1_beat cX1_beat 1 (some .int) 0 := ⟨gtb_in (tb3 (List.mem_of_getElem? (i := 175) rfl)) rfl, gtb_in (tb1 (List.mem_of_getElem? (i := 5) rfl)) rfl, ⟨by decide +kernel, by decide +kernel⟩, by decide +kernel⟩
theorem mv_X1_beat : MFv yX1_beat := ⟨gtb_in (tb3 (List.mem_of_getElem? (i := 173) rfl)) rfl, gtb_in (tb3 (List.mem_of_getElem? (i := 174) rfl)) rfl⟩
theorem mf_X6_init : MFs yX6_init cX6_init 1 none 0 := ⟨gtb_in (tb3 (List.mem_of_getElem? (i := 180) rfl)) rfl, gtb_in (tb1 (List.mem_of_getElem? (i := 8) rfl)) rfl, ⟨by decide +kernel, by decide +kernel⟩, by decide +kernel⟩
theorem mi_X6_init : Cond.instanceMethod yX6_init ∈ gtb := gtb_in (tb3 (List.mem_of_getElem? (i := 179) rfl)) rfl
theorem mf_X6_whole : MFs yX6_whole cX6_whole 2 none 0 := ⟨gtb_in (tb3 (List.mem_of_getElem? (i := 185) rfl)) rfl, gtb_in (tb1 (List.mem_of_getElem? (i := 8) rfl)) rfl, ⟨by decide +kernel, by decide +kernel⟩, by decide +kernel⟩
theorem mv_X6_whole : MFv yX6_whole := ⟨gtb_in (tb3 (List.mem_of_getElem? (i := 184) rfl)) rfl, gtb_in (List.mem_append_left _ (List.mem_of_getElem? (i := 26) rfl)) rfl⟩
theorem mf_X6_input : MFs yX6_input cX6_input 3 (some .int) 2 := ⟨gtb_in (tb4 (List.mem_of_getElem? (i := 22) rfl)) rfl, gtb_in (tb1 (List.mem_of_getElem? (i := 8) rfl)) rfl, ⟨by decide +kernel, by decide +kernel⟩, by decide +kernel⟩
theorem mv_X6_input : MFv yX6_input := ⟨gtb_in (tb4 (List.mem_of_getElem? (i := 20) rfl)) rfl, gtb_in (tb4 (List.mem_of_getElem? (i := 21) rfl)) rfl⟩
theorem mf_X6_in : MFs yX6_in cX6_in 6 (some .boolean) 3 := ⟨gtb_in (tb4 (List.mem_of_getElem? (i := 27) rfl)) rfl, gtb_in (tb1 (List.mem_of_getElem? (i := 8) rfl)) rfl, ⟨by decide +kernel, by decide +kernel⟩, by decide +kernel⟩
theorem ms_X6_in : Cond.static yX6_in ∈ gtb := gtb_in (tb4 (List.mem_of_getElem? (i := 26) rfl)) rfl
theorem mf_X6_enter : MFs yX6_enter cX6_enter 2 (some .int) 1 := ⟨gtb_in (tb4 (List.mem_of_getElem? (i := 31) rfl)) rfl, gtb_in (tb1 (List.mem_of_getElem? (i := 8) rfl)) rfl, ⟨by decide +kernel, by decide +kernel⟩, by decide +kernel⟩
theorem mv_X6_enter : MFv yX6_enter := ⟨gtb_in (tb4 (List.mem_of_getElem? (i := 30) rfl)) rfl, gtb_in (List.mem_append_left _ (List.mem_of_getElem? (i := 27) rfl)) rfl⟩
theorem mf_X6_act : MFs yX6_act cX6_act 6 (some .int) 5 := ⟨gtb_in (tb4 (List.mem_of_getElem? (i := 35) rfl)) rfl, gtb_in (tb1 (List.mem_of_getElem? (i := 8) rfl)) rfl, ⟨by decide +kernel, by decide +kernel⟩, by decide +kernel⟩
theorem mv_X6_act : MFv yX6_act := ⟨gtb_in (tb4 (List.mem_of_getElem? (i := 33) rfl)) rfl, gtb_in (tb4 (List.mem_of_getElem? (i := 34) rfl)) rfl⟩
theorem mf_X6_first : MFs yX6_first cX6_first 3 (some .int) 1 := ⟨gtb_in (tb4 (List.mem_of_getElem? (i := 42) rfl)) rfl, gtb_in (tb1 (List.mem_of_getElem? (i := 8) rfl)) rfl, ⟨by decide +kernel, by decide +kernel⟩, by decide +kernel⟩
theorem mv_X6_first : MFv yX6_first := ⟨gtb_in (tb4 (List.mem_of_getElem? (i := 40) rfl)) rfl, gtb_in (tb4 (List.mem_of_getElem? (i := 41) rfl)) rfl⟩
theorem mf_X6_clear : MFs yX6_clear cX6_clear 2 (some .int) 0 := ⟨gtb_in (tb4 (List.mem_of_getElem? (i := 46) rfl)) rfl, gtb_in (tb1 (List.mem_of_getElem? (i := 8) rfl)) rfl, ⟨by decide +kernel, by decide +kernel⟩, by decide +kernel⟩
theorem mv_X6_clear : MFv yX6_clear := ⟨gtb_in (tb4 (List.mem_of_getElem? (i := 44) rfl)) rfl, gtb_in (tb4 (List.mem_of_getElem? (i := 45) rfl)) rfl⟩
theorem mf_X6_sound : MFs yX6_sound cX6_sound 1 (some .int) 0 := ⟨gtb_in (tb4 (List.mem_of_getElem? (i := 50) rfl)) rfl, gtb_in (tb1 (List.mem_of_getElem? (i := 8) rfl)) rfl, ⟨by decide +kernel, by decide +kernel⟩, by decide +kernel⟩
theorem mv_X6_sound : MFv yX6_sound := ⟨gtb_in (tb4 (List.mem_of_getElem? (i := 48) rfl)) rfl, gtb_in (tb4 (List.mem_of_getElem? (i := 49) rfl)) rfl⟩
theorem mf_X6_isSound : MFs yX6_isSound cX6_isSound 4 (some .boolean) 0 := ⟨gtb_in (tb4 (List.mem_of_getElem? (i := 54) rfl)) rfl, gtb_in (tb1 (List.mem_of_getElem? (i := 8) rfl)) rfl, ⟨by decide +kernel, by decide +kernel⟩, by decide +kernel⟩
theorem mv_X6_isSound : MFv yX6_isSound := ⟨gtb_in (tb4 (List.mem_of_getElem? (i := 53) rfl)) rfl, gtb_in (List.mem_append_left _ (List.mem_of_getElem? (i := 28) rfl)) rfl⟩
theorem mf_X6_isAct : MFs yX6_isAct cX6_isAct 2 (some .boolean) 1 := ⟨gtb_in (tb4 (List.mem_of_getElem? (i := 58) rfl)) rfl, gtb_in (tb1 (List.mem_of_getElem? (i := 8) rfl)) rfl, ⟨by decide +kernel, by decide +kernel⟩, by decide +kernel⟩
theorem mv_X6_isAct : MFv yX6_isAct := ⟨gtb_in (tb4 (List.mem_of_getElem? (i := 57) rfl)) rfl, gtb_in (List.mem_append_left _ (List.mem_of_getElem? (i := 29) rfl)) rfl⟩
theorem mf_X6_isReady : MFs yX6_isReady cX6_isReady 4 (some .boolean) 1 := ⟨gtb_in (tb4 (List.mem_of_getElem? (i := 62) rfl)) rfl, gtb_in (tb1 (List.mem_of_getElem? (i := 8) rfl)) rfl, ⟨by decide +kernel, by decide +kernel⟩, by decide +kernel⟩
theorem mv_X6_isReady : MFv yX6_isReady := ⟨gtb_in (tb4 (List.mem_of_getElem? (i := 61) rfl)) rfl, gtb_in (List.mem_append_left _ (List.mem_of_getElem? (i := 30) rfl)) rfl⟩
theorem mf_X6_plain : MFs yX6_plain cX6_plain 3 (some .long) 2 := ⟨gtb_in (tb4 (List.mem_of_getElem? (i := 66) rfl)) rfl, gtb_in (tb1 (List.mem_of_getElem? (i := 8) rfl)) rfl, ⟨by decide +kernel, by decide +kernel⟩, by decide +kernel⟩
theorem mv_X6_plain : MFv yX6_plain := ⟨gtb_in (tb4 (List.mem_of_getElem? (i := 64) rfl)) rfl, gtb_in (tb4 (List.mem_of_getElem? (i := 65) rfl)) rfl⟩
theorem mf_X6_workTo : MFs yX6_workTo cX6_workTo 5 none 1 := ⟨gtb_in (tb4 (List.mem_of_getElem? (i := 73) rfl)) rfl, gtb_in (tb1 (List.mem_of_getElem? (i := 8) rfl)) rfl, ⟨by decide +kernel, by decide +kernel⟩, by decide +kernel⟩
theorem mv_X6_workTo : MFv yX6_workTo := ⟨gtb_in (tb4 (List.mem_of_getElem? (i := 72) rfl)) rfl, gtb_in (List.mem_append_left _ (List.mem_of_getElem? (i := 31) rfl)) rfl⟩
theorem mf_X6_made : MFs yX6_made cX6_made 5 (some .int) 2 := ⟨gtb_in (tb4 (List.mem_of_getElem? (i := 77) rfl)) rfl, gtb_in (tb1 (List.mem_of_getElem? (i := 8) rfl)) rfl, ⟨by decide +kernel, by decide +kernel⟩, by decide +kernel⟩
theorem mv_X6_made : MFv yX6_made := ⟨gtb_in (tb4 (List.mem_of_getElem? (i := 76) rfl)) rfl, gtb_in (List.mem_append_left _ (List.mem_of_getElem? (i := 32) rfl)) rfl⟩
theorem mf_X6_valueOf : MFs yX6_valueOf cX6_valueOf 4 (some .int) 2 := ⟨gtb_in (tb4 (List.mem_of_getElem? (i := 81) rfl)) rfl, gtb_in (tb1 (List.mem_of_getElem? (i := 8) rfl)) rfl, ⟨by decide +kernel, by decide +kernel⟩, by decide +kernel⟩
theorem mv_X6_valueOf : MFv yX6_valueOf := ⟨gtb_in (tb4 (List.mem_of_getElem? (i := 80) rfl)) rfl, gtb_in (List.mem_append_left _ (List.mem_of_getElem? (i := 33) rfl)) rfl⟩
theorem mf_X6_about : MFs yX6_about cX6_about 4 (some .int) 2 := ⟨gtb_in (tb4 (List.mem_of_getElem? (i := 85) rfl)) rfl, gtb_in (tb1 (List.mem_of_getElem? (i := 8) rfl)) rfl, ⟨by decide +kernel, by decide +kernel⟩, by decide +kernel⟩
theorem mv_X6_about : MFv yX6_about := ⟨gtb_in (tb4 (List.mem_of_getElem? (i := 83) rfl)) rfl, gtb_in (tb4 (List.mem_of_getElem? (i := 84) rfl)) rfl⟩
theorem mf_X6_lengthOf : MFs yX6_lengthOf cX6_lengthOf 2 (some .int) 1 := ⟨gtb_in (tb4 (List.mem_of_getElem? (i := 89) rfl)) rfl, gtb_in (tb1 (List.mem_of_getElem? (i := 8) rfl)) rfl, ⟨by decide +kernel, by decide +kernel⟩, by decide +kernel⟩
theorem mv_X6_lengthOf : MFv yX6_lengthOf := ⟨gtb_in (tb4 (List.mem_of_getElem? (i := 88) rfl)) rfl, gtb_in (List.mem_append_left _ (List.mem_of_getElem? (i := 34) rfl)) rfl⟩
theorem mf_X6_board : MFs yX6_board cX6_board 3 (some .int) 2 := ⟨gtb_in (tb4 (List.mem_of_getElem? (i := 93) rfl)) rfl, gtb_in (tb1 (List.mem_of_getElem? (i := 8) rfl)) rfl, ⟨by decide +kernel, by decide +kernel⟩, by decide +kernel⟩
theorem mv_X6_board : MFv yX6_board := ⟨gtb_in (tb4 (List.mem_of_getElem? (i := 91) rfl)) rfl, gtb_in (tb4 (List.mem_of_getElem? (i := 92) rfl)) rfl⟩
theorem mf_X6_cells : MFs yX6_cells cX6_cells 1 (some .int) 0 := ⟨gtb_in (tb4 (List.mem_of_getElem? (i := 97) rfl)) rfl, gtb_in (tb1 (List.mem_of_getElem? (i := 8) rfl)) rfl, ⟨by decide +kernel, by decide +kernel⟩, by decide +kernel⟩
theorem mv_X6_cells : MFv yX6_cells := ⟨gtb_in (tb4 (List.mem_of_getElem? (i := 96) rfl)) rfl, gtb_in (List.mem_append_left _ (List.mem_of_getElem? (i := 35) rfl)) rfl⟩
theorem mf_X6_breaks : MFs yX6_breaks cX6_breaks 4 (some .int) 2 := ⟨gtb_in (tb4 (List.mem_of_getElem? (i := 101) rfl)) rfl, gtb_in (tb1 (List.mem_of_getElem? (i := 8) rfl)) rfl, ⟨by decide +kernel, by decide +kernel⟩, by decide +kernel⟩
theorem mv_X6_breaks : MFv yX6_breaks := ⟨gtb_in (tb4 (List.mem_of_getElem? (i := 99) rfl)) rfl, gtb_in (tb4 (List.mem_of_getElem? (i := 100) rfl)) rfl⟩
theorem mf_X6_isCell : MFs yX6_isCell cX6_isCell 2 (some .boolean) 1 := ⟨gtb_in (tb4 (List.mem_of_getElem? (i := 105) rfl)) rfl, gtb_in (tb1 (List.mem_of_getElem? (i := 8) rfl)) rfl, ⟨by decide +kernel, by decide +kernel⟩, by decide +kernel⟩
theorem mv_X6_isCell : MFv yX6_isCell := ⟨gtb_in (tb4 (List.mem_of_getElem? (i := 104) rfl)) rfl, gtb_in (List.mem_append_left _ (List.mem_of_getElem? (i := 36) rfl)) rfl⟩
theorem mf_X6_multiplies : MFs yX6_multiplies cX6_multiplies 4 (some .int) 2 := ⟨gtb_in (tb4 (List.mem_of_getElem? (i := 109) rfl)) rfl, gtb_in (tb1 (List.mem_of_getElem? (i := 8) rfl)) rfl, ⟨by decide +kernel, by decide +kernel⟩, by decide +kernel⟩
theorem mv_X6_multiplies : MFv yX6_multiplies := ⟨gtb_in (tb4 (List.mem_of_getElem? (i := 107) rfl)) rfl, gtb_in (tb4 (List.mem_of_getElem? (i := 108) rfl)) rfl⟩
theorem mf_X6_way : MFs yX6_way cX6_way 4 (some .int) 2 := ⟨gtb_in (tb4 (List.mem_of_getElem? (i := 113) rfl)) rfl, gtb_in (tb1 (List.mem_of_getElem? (i := 8) rfl)) rfl, ⟨by decide +kernel, by decide +kernel⟩, by decide +kernel⟩
theorem mv_X6_way : MFv yX6_way := ⟨gtb_in (tb4 (List.mem_of_getElem? (i := 111) rfl)) rfl, gtb_in (tb4 (List.mem_of_getElem? (i := 112) rfl)) rfl⟩
theorem mf_X6_wayOf : MFs yX6_wayOf cX6_wayOf 6 (some .int) 2 := ⟨gtb_in (tb4 (List.mem_of_getElem? (i := 117) rfl)) rfl, gtb_in (tb1 (List.mem_of_getElem? (i := 8) rfl)) rfl, ⟨by decide +kernel, by decide +kernel⟩, by decide +kernel⟩
theorem mv_X6_wayOf : MFv yX6_wayOf := ⟨gtb_in (tb4 (List.mem_of_getElem? (i := 116) rfl)) rfl, gtb_in (List.mem_append_left _ (List.mem_of_getElem? (i := 37) rfl)) rfl⟩
theorem mf_X6_areBeside : MFs yX6_areBeside cX6_areBeside 5 (some .boolean) 2 := ⟨gtb_in (tb4 (List.mem_of_getElem? (i := 121) rfl)) rfl, gtb_in (tb1 (List.mem_of_getElem? (i := 8) rfl)) rfl, ⟨by decide +kernel, by decide +kernel⟩, by decide +kernel⟩
theorem mv_X6_areBeside : MFv yX6_areBeside := ⟨gtb_in (tb4 (List.mem_of_getElem? (i := 120) rfl)) rfl, gtb_in (List.mem_append_left _ (List.mem_of_getElem? (i := 38) rfl)) rfl⟩
theorem mf_X6_plan : MFs yX6_plan cX6_plan 3 (some .int) 1 := ⟨gtb_in (tb4 (List.mem_of_getElem? (i := 125) rfl)) rfl, gtb_in (tb1 (List.mem_of_getElem? (i := 8) rfl)) rfl, ⟨by decide +kernel, by decide +kernel⟩, by decide +kernel⟩
theorem mv_X6_plan : MFv yX6_plan := ⟨gtb_in (tb4 (List.mem_of_getElem? (i := 123) rfl)) rfl, gtb_in (tb4 (List.mem_of_getElem? (i := 124) rfl)) rfl⟩
theorem mf_X6_lay : MFs yX6_lay cX6_lay 4 (some .int) 3 := ⟨gtb_in (tb4 (List.mem_of_getElem? (i := 130) rfl)) rfl, gtb_in (tb1 (List.mem_of_getElem? (i := 8) rfl)) rfl, ⟨by decide +kernel, by decide +kernel⟩, by decide +kernel⟩
theorem mv_X6_lay : MFv yX6_lay := ⟨gtb_in (tb4 (List.mem_of_getElem? (i := 128) rfl)) rfl, gtb_in (tb4 (List.mem_of_getElem? (i := 129) rfl)) rfl⟩
theorem mf_X6_lacks : MFs yX6_lacks cX6_lacks 1 (some .int) 0 := ⟨gtb_in (tb4 (List.mem_of_getElem? (i := 135) rfl)) rfl, gtb_in (tb1 (List.mem_of_getElem? (i := 8) rfl)) rfl, ⟨by decide +kernel, by decide +kernel⟩, by decide +kernel⟩
theorem mv_X6_lacks : MFv yX6_lacks := ⟨gtb_in (tb4 (List.mem_of_getElem? (i := 133) rfl)) rfl, gtb_in (tb4 (List.mem_of_getElem? (i := 134) rfl)) rfl⟩
theorem mf_X6_lacking : MFs yX6_lacking cX6_lacking 3 (some .int) 0 := ⟨gtb_in (tb4 (List.mem_of_getElem? (i := 139) rfl)) rfl, gtb_in (tb1 (List.mem_of_getElem? (i := 8) rfl)) rfl, ⟨by decide +kernel, by decide +kernel⟩, by decide +kernel⟩
theorem mv_X6_lacking : MFv yX6_lacking := ⟨gtb_in (tb4 (List.mem_of_getElem? (i := 138) rfl)) rfl, gtb_in (List.mem_append_left _ (List.mem_of_getElem? (i := 39) rfl)) rfl⟩
theorem mf_X6_isLate : MFs yX6_isLate cX6_isLate 5 (some .boolean) 1 := ⟨gtb_in (tb4 (List.mem_of_getElem? (i := 143) rfl)) rfl, gtb_in (tb1 (List.mem_of_getElem? (i := 8) rfl)) rfl, ⟨by decide +kernel, by decide +kernel⟩, by decide +kernel⟩
theorem mv_X6_isLate : MFv yX6_isLate := ⟨gtb_in (tb4 (List.mem_of_getElem? (i := 142) rfl)) rfl, gtb_in (List.mem_append_left _ (List.mem_of_getElem? (i := 40) rfl)) rfl⟩
theorem mf_X6_laid : MFs yX6_laid cX6_laid 3 (some .int) 2 := ⟨gtb_in (tb4 (List.mem_of_getElem? (i := 147) rfl)) rfl, gtb_in (tb1 (List.mem_of_getElem? (i := 8) rfl)) rfl, ⟨by decide +kernel, by decide +kernel⟩, by decide +kernel⟩
theorem mv_X6_laid : MFv yX6_laid := ⟨gtb_in (tb4 (List.mem_of_getElem? (i := 145) rfl)) rfl, gtb_in (tb4 (List.mem_of_getElem? (i := 146) rfl)) rfl⟩
theorem mf_X6_kept : MFs yX6_kept cX6_kept 7 (some .int) 1 := ⟨gtb_in (tb4 (List.mem_of_getElem? (i := 151) rfl)) rfl, gtb_in (tb1 (List.mem_of_getElem? (i := 8) rfl)) rfl, ⟨by decide +kernel, by decide +kernel⟩, by decide +kernel⟩
theorem mv_X6_kept : MFv yX6_kept := ⟨gtb_in (tb4 (List.mem_of_getElem? (i := 149) rfl)) rfl, gtb_in (tb4 (List.mem_of_getElem? (i := 150) rfl)) rfl⟩
theorem mf_X6_whyNot : MFs yX6_whyNot cX6_whyNot 1 (some .int) 0 := ⟨gtb_in (tb4 (List.mem_of_getElem? (i := 155) rfl)) rfl, gtb_in (tb1 (List.mem_of_getElem? (i := 8) rfl)) rfl, ⟨by decide +kernel, by decide +kernel⟩, by decide +kernel⟩
theorem mv_X6_whyNot : MFv yX6_whyNot := ⟨gtb_in (tb4 (List.mem_of_getElem? (i := 154) rfl)) rfl, gtb_in (List.mem_append_left _ (List.mem_of_getElem? (i := 41) rfl)) rfl⟩
theorem mf_X6_step : MFs yX6_step cX6_step 6 (some .int) 1 := ⟨gtb_in (tb4 (List.mem_of_getElem? (i := 159) rfl)) rfl, gtb_in (tb1 (List.mem_of_getElem? (i := 8) rfl)) rfl, ⟨by decide +kernel, by decide +kernel⟩, by decide +kernel⟩
theorem mv_X6_step : MFv yX6_step := ⟨gtb_in (tb4 (List.mem_of_getElem? (i := 157) rfl)) rfl, gtb_in (tb4 (List.mem_of_getElem? (i := 158) rfl)) rfl⟩
theorem mf_X6_stepped : MFs yX6_stepped cX6_stepped 3 (some .long) 2 := ⟨gtb_in (tb4 (List.mem_of_getElem? (i := 163) rfl)) rfl, gtb_in (tb1 (List.mem_of_getElem? (i := 8) rfl)) rfl, ⟨by decide +kernel, by decide +kernel⟩, by decide +kernel⟩
theorem mv_X6_stepped : MFv yX6_stepped := ⟨gtb_in (tb4 (List.mem_of_getElem? (i := 161) rfl)) rfl, gtb_in (tb4 (List.mem_of_getElem? (i := 162) rfl)) rfl⟩
theorem mf_X6_works : MFs yX6_works cX6_works 5 (some .int) 2 := ⟨gtb_in (tb4 (List.mem_of_getElem? (i := 169) rfl)) rfl, gtb_in (tb1 (List.mem_of_getElem? (i := 8) rfl)) rfl, ⟨by decide +kernel, by decide +kernel⟩, by decide +kernel⟩
theorem mv_X6_works : MFv yX6_works := ⟨gtb_in (tb4 (List.mem_of_getElem? (i := 167) rfl)) rfl, gtb_in (tb4 (List.mem_of_getElem? (i := 168) rfl)) rfl⟩
theorem mf_X6_bound : MFs yX6_bound cX6_bound 2 (some .int) 1 := ⟨gtb_in (tb4 (List.mem_of_getElem? (i := 174) rfl)) rfl, gtb_in (tb1 (List.mem_of_getElem? (i := 8) rfl)) rfl, ⟨by decide +kernel, by decide +kernel⟩, by decide +kernel⟩
theorem mv_X6_bound : MFv yX6_bound := ⟨gtb_in (tb4 (List.mem_of_getElem? (i := 172) rfl)) rfl, gtb_in (tb4 (List.mem_of_getElem? (i := 173) rfl)) rfl⟩
theorem mf_X6_places : MFs yX6_places cX6_places 6 (some .int) 0 := ⟨gtb_in (tb4 (List.mem_of_getElem? (i := 178) rfl)) rfl, gtb_in (tb1 (List.mem_of_getElem? (i := 8) rfl)) rfl, ⟨by decide +kernel, by decide +kernel⟩, by decide +kernel⟩
theorem mv_X6_places : MFv yX6_places := ⟨gtb_in (tb4 (List.mem_of_getElem? (i := 177) rfl)) rfl, gtb_in (List.mem_append_left _ (List.mem_of_getElem? (i := 42) rfl)) rfl⟩
theorem mf_X6_rings : MFs yX6_rings cX6_rings 2 (some .int) 0 := ⟨gtb_in (tb4 (List.mem_of_getElem? (i := 182) rfl)) rfl, gtb_in (tb1 (List.mem_of_getElem? (i := 8) rfl)) rfl, ⟨by decide +kernel, by decide +kernel⟩, by decide +kernel⟩
theorem mv_X6_rings : MFv yX6_rings := ⟨gtb_in (tb4 (List.mem_of_getElem? (i := 181) rfl)) rfl, gtb_in (List.mem_append_left _ (List.mem_of_getElem? (i := 43) rfl)) rfl⟩
theorem mf_X6_ringsHold : MFs yX6_ringsHold cX6_ringsHold 6 (some .boolean) 1 := ⟨gtb_in (tb4 (List.mem_of_getElem? (i := 186) rfl)) rfl, gtb_in (tb1 (List.mem_of_getElem? (i := 8) rfl)) rfl, ⟨by decide +kernel, by decide +kernel⟩, by decide +kernel⟩
theorem mv_X6_ringsHold : MFv yX6_ringsHold := ⟨gtb_in (tb4 (List.mem_of_getElem? (i := 185) rfl)) rfl, gtb_in (List.mem_append_left _ (List.mem_of_getElem? (i := 44) rfl)) rfl⟩
theorem mf_X6_find : MFs yX6_find cX6_find 7 (some .int) 0 := ⟨gtb_in (tb4 (List.mem_of_getElem? (i := 190) rfl)) rfl, gtb_in (tb1 (List.mem_of_getElem? (i := 8) rfl)) rfl, ⟨by decide +kernel, by decide +kernel⟩, by decide +kernel⟩
theorem mv_X6_find : MFv yX6_find := ⟨gtb_in (tb4 (List.mem_of_getElem? (i := 188) rfl)) rfl, gtb_in (tb4 (List.mem_of_getElem? (i := 189) rfl)) rfl⟩
theorem mf_X6_search : MFs yX6_search cX6_search 6 (some .int) 1 := ⟨gtb_in (tb4 (List.mem_of_getElem? (i := 194) rfl)) rfl, gtb_in (tb1 (List.mem_of_getElem? (i := 8) rfl)) rfl, ⟨by decide +kernel, by decide +kernel⟩, by decide +kernel⟩
theorem mv_X6_search : MFv yX6_search := ⟨gtb_in (tb4 (List.mem_of_getElem? (i := 193) rfl)) rfl, gtb_in (List.mem_append_left _ (List.mem_of_getElem? (i := 45) rfl)) rfl⟩
theorem mf_X6_goesAt : MFs yX6_goesAt cX6_goesAt 4 (some .boolean) 2 := ⟨gtb_in (tb4 (List.mem_of_getElem? (i := 198) rfl)) rfl, gtb_in (tb1 (List.mem_of_getElem? (i := 8) rfl)) rfl, ⟨by decide +kernel, by decide +kernel⟩, by decide +kernel⟩
theorem mv_X6_goesAt : MFv yX6_goesAt := ⟨gtb_in (tb4 (List.mem_of_getElem? (i := 197) rfl)) rfl, gtb_in (List.mem_append_left _ (List.mem_of_getElem? (i := 46) rfl)) rfl⟩
theorem mf_X6_canStart : MFs yX6_canStart cX6_canStart 10 (some .boolean) 2 := ⟨gtb_in (tb4 (List.mem_of_getElem? (i := 202) rfl)) rfl, gtb_in (tb1 (List.mem_of_getElem? (i := 8) rfl)) rfl, ⟨by decide +kernel, by decide +kernel⟩, by decide +kernel⟩
theorem mv_X6_canStart : MFv yX6_canStart := ⟨gtb_in (tb4 (List.mem_of_getElem? (i := 201) rfl)) rfl, gtb_in (List.mem_append_left _ (List.mem_of_getElem? (i := 47) rfl)) rfl⟩
theorem mf_X6_up : MFs yX6_up cX6_up 3 (some .int) 2 := ⟨gtb_in (tb4 (List.mem_of_getElem? (i := 205) rfl)) rfl, gtb_in (tb1 (List.mem_of_getElem? (i := 8) rfl)) rfl, ⟨by decide +kernel, by decide +kernel⟩, by decide +kernel⟩
theorem ms_X6_up : Cond.static yX6_up ∈ gtb := gtb_in (tb4 (List.mem_of_getElem? (i := 204) rfl)) rfl
theorem mf_X6_tries : MFs yX6_tries cX6_tries 1 (some .int) 0 := ⟨gtb_in (tb4 (List.mem_of_getElem? (i := 209) rfl)) rfl, gtb_in (tb1 (List.mem_of_getElem? (i := 8) rfl)) rfl, ⟨by decide +kernel, by decide +kernel⟩, by decide +kernel⟩
theorem mv_X6_tries : MFv yX6_tries := ⟨gtb_in (tb4 (List.mem_of_getElem? (i := 207) rfl)) rfl, gtb_in (tb4 (List.mem_of_getElem? (i := 208) rfl)) rfl⟩
theorem mf_X6_told : MFs yX6_told cX6_told 4 (some .int) 1 := ⟨gtb_in (tb4 (List.mem_of_getElem? (i := 213) rfl)) rfl, gtb_in (tb1 (List.mem_of_getElem? (i := 8) rfl)) rfl, ⟨by decide +kernel, by decide +kernel⟩, by decide +kernel⟩
theorem mv_X6_told : MFv yX6_told := ⟨gtb_in (tb4 (List.mem_of_getElem? (i := 211) rfl)) rfl, gtb_in (tb4 (List.mem_of_getElem? (i := 212) rfl)) rfl⟩
theorem lc_RX5_99 : Cond.constantLong RX5 99 (lI (-10000000001)) ∈ gtb := gtb_in (tb2 (List.mem_of_getElem? (i := 70) rfl)) rfl
theorem lc_RX5_101 : Cond.constantLong RX5 101 (lI (-10000000005)) ∈ gtb := gtb_in (tb2 (List.mem_of_getElem? (i := 71) rfl)) rfl
theorem lc_RX5_186 : Cond.constantLong RX5 186 (lI (-10000000003)) ∈ gtb := gtb_in (tb3 (List.mem_of_getElem? (i := 44) rfl)) rfl
theorem lc_RX6_85 : Cond.constantLong RX6 85 (lI (-1000)) ∈ gtb := gtb_in (tb4 (List.mem_of_getElem? (i := 23) rfl)) rfl
theorem lc_RX6_87 : Cond.constantLong RX6 87 (lI 1000) ∈ gtb := gtb_in (tb4 (List.mem_of_getElem? (i := 24) rfl)) rfl
theorem lc_RX6_93 : Cond.constantLong RX6 93 (lI 5) ∈ gtb := gtb_in (tb4 (List.mem_of_getElem? (i := 36) rfl)) rfl
theorem lc_RX6_95 : Cond.constantLong RX6 95 (lI 7) ∈ gtb := gtb_in (tb4 (List.mem_of_getElem? (i := 37) rfl)) rfl
theorem lc_RX6_97 : Cond.constantLong RX6 97 (lI 3) ∈ gtb := gtb_in (tb4 (List.mem_of_getElem? (i := 38) rfl)) rfl
theorem lc_RX6_120 : Cond.constantLong RX6 120 (lI 60) ∈ gtb := gtb_in (tb4 (List.mem_of_getElem? (i := 67) rfl)) rfl
theorem lc_RX6_122 : Cond.constantLong RX6 122 (lI (-10000000001)) ∈ gtb := gtb_in (tb4 (List.mem_of_getElem? (i := 68) rfl)) rfl
theorem lc_RX6_124 : Cond.constantLong RX6 124 (lI (-10000000005)) ∈ gtb := gtb_in (tb4 (List.mem_of_getElem? (i := 69) rfl)) rfl
theorem lc_RX6_147 : Cond.constantLong RX6 147 (lI 12) ∈ gtb := gtb_in (tb4 (List.mem_of_getElem? (i := 126) rfl)) rfl
theorem lc_RX6_149 : Cond.constantLong RX6 149 (lI 299) ∈ gtb := gtb_in (tb4 (List.mem_of_getElem? (i := 131) rfl)) rfl
theorem lc_RX6_160 : Cond.constantLong RX6 160 (lI (-10000000003)) ∈ gtb := gtb_in (tb4 (List.mem_of_getElem? (i := 164) rfl)) rfl
theorem lc_RX6_166 : Cond.constantLong RX6 166 (lI 10000) ∈ gtb := gtb_in (tb4 (List.mem_of_getElem? (i := 170) rfl)) rfl
theorem lc_RX3_56 : Cond.constant RX3 56 (iI 60000) ∈ gtb := gtb_in (tb3 (List.mem_of_getElem? (i := 105) rfl)) rfl
theorem ac_n : Cond.native arraycopyName ∈ gtb := gtb_in (tb3 (List.mem_of_getElem? (i := 137) rfl)) rfl
theorem ac_s : Cond.static arraycopyName ∈ gtb := gtb_in (tb3 (List.mem_of_getElem? (i := 136) rfl)) rfl
theorem ac_i : Cond.initialized "java/lang/System" ∈ gtb := gtb_in (tb1 (List.mem_of_getElem? (i := 10) rfl)) rfl
theorem ma_i : Cond.initialized "java/lang/Math" ∈ gtb := gtb_in (tb1 (List.mem_of_getElem? (i := 4) rfl)) rfl
theorem lq_RX0_62 : Cond.methodLink RX0 62 Lib.Math.abs.name ∈ gtb := gtb_in (tb1 (List.mem_of_getElem? (i := 91) rfl)) rfl
theorem lq_RX4_53 : Cond.methodLink RX4 53 Lib.Math.min.name ∈ gtb := gtb_in (tb2 (List.mem_of_getElem? (i := 115) rfl)) rfl
theorem lq_RX4_58 : Cond.methodLink RX4 58 Lib.Math.max.name ∈ gtb := gtb_in (tb2 (List.mem_of_getElem? (i := 118) rfl)) rfl
theorem lq_RX1_100 : Cond.methodLink RX1 100 Lib.Math.max.name ∈ gtb := gtb_in (tb3 (List.mem_of_getElem? (i := 22) rfl)) rfl
theorem lq_RX5_197 : Cond.methodLink RX5 197 Lib.Math.max.name ∈ gtb := gtb_in (tb3 (List.mem_of_getElem? (i := 81) rfl)) rfl
theorem lk_RX3_100 : Cond.methodLink RX3 100 arraycopyName ∈ gtb := gtb_in (tb3 (List.mem_of_getElem? (i := 135) rfl)) rfl
theorem lq_RX3_106 : Cond.methodLink RX3 106 Lib.Math.max.name ∈ gtb := gtb_in (tb3 (List.mem_of_getElem? (i := 138) rfl)) rfl
theorem ma_max_s : Cond.static Lib.Math.max.name ∈ gtb := gtb_in (tb2 (List.mem_of_getElem? (i := 119) rfl)) rfl
theorem ma_max_c : Cond.code Lib.Math.max.name Lib.Math.max.code 2 (some .int) ∈ gtb := gtb_in (tb2 (List.mem_of_getElem? (i := 120) rfl)) rfl
theorem ma_min_s : Cond.static Lib.Math.min.name ∈ gtb := gtb_in (tb2 (List.mem_of_getElem? (i := 116) rfl)) rfl
theorem ma_min_c : Cond.code Lib.Math.min.name Lib.Math.min.code 2 (some .int) ∈ gtb := gtb_in (tb2 (List.mem_of_getElem? (i := 117) rfl)) rfl
theorem ma_abs_s : Cond.static Lib.Math.abs.name ∈ gtb := gtb_in (tb1 (List.mem_of_getElem? (i := 92) rfl)) rfl
theorem ma_abs_c : Cond.code Lib.Math.abs.name Lib.Math.abs.code 1 (some .int) ∈ gtb := gtb_in (tb1 (List.mem_of_getElem? (i := 93) rfl)) rfl
section WORLD
variable {l : Launch} {w : WT} {cc : ByteArray} {nL : Nat} {ret : Option FieldType} {own : String} {R : Room} {P : Option Value → MM → Prop} {G : GT} {pc : Nat} {lv : List (Option Value)} {st : List Value} {σ : MM} {a z : Int}
theorem ld_X2 (hX : Cx SX l w cc nL ret own R P G) (hd : decode cc pc = .ok (.iaload, 1)) (h0 : 0 ≤ a) (h1 : a < 8) (kk : 0 ≤ σ 2 a → σ 2 a ≤ 5 → G (pc + 1) lv (.int (iI (σ 2 a)) :: st) σ) : G pc lv (.int (iI a) :: .ref (w.2.2 2) :: st) σ := r_bd hX fun hB => r_iald hX hd (i := 2) (r := 2) (n := 8) rfl h0 h1 (kk (hB 2 0 5 rfl a).1 (hB 2 0 5 rfl a).2)
theorem st_X2 (hX : Cx SX l w cc nL ret own R P G) (hd : decode cc pc = .ok (.iastore, 1)) (h0 : 0 ≤ a) (h1 : a < 8) (hv : 0 ≤ z ∧ z ≤ 5) (kk : ∀ σ1 : MM, Mod [2] σ σ1 → (∀ b : Int, σ1 2 b = if b = a then z else σ 2 b) → G (pc + 1) lv st σ1) : G pc lv (.int (iI z) :: .int (iI a) :: .ref (w.2.2 2) :: st) σ := r_iast hX hd (i := 2) (r := 2) (n := 8) rfl sp_X2 h0 h1 (fun lo hi h => by
    have e : (some (some ((0 : Int), (5 : Int))) : Option (Option (Int × Int))) = some (some (lo, hi)) := h
    cases e
    exact hv) (kk _ Mod.up (fun b => up_at))
theorem ld_X3 (hX : Cx SX l w cc nL ret own R P G) (hd : decode cc pc = .ok (.iaload, 1)) (h0 : 0 ≤ a) (h1 : a < 8) (kk : G (pc + 1) lv (.int (iI (σ 3 a)) :: st) σ) : G pc lv (.int (iI a) :: .ref (w.2.2 3) :: st) σ := r_iald hX hd (i := 3) (r := 3) (n := 8) rfl h0 h1 kk
theorem st_X3 (hX : Cx SX l w cc nL ret own R P G) (hd : decode cc pc = .ok (.iastore, 1)) (h0 : 0 ≤ a) (h1 : a < 8) (kk : ∀ σ1 : MM, Mod [3] σ σ1 → (∀ b : Int, σ1 3 b = if b = a then z else σ 3 b) → G (pc + 1) lv st σ1) : G pc lv (.int (iI z) :: .int (iI a) :: .ref (w.2.2 3) :: st) σ := r_iast hX hd (i := 3) (r := 3) (n := 8) rfl sp_X3 h0 h1 (fun lo hi h => by
    have e : (some none : Option (Option (Int × Int))) = some (some (lo, hi)) := h
    cases e) (kk _ Mod.up (fun b => up_at))
theorem ld_X4 (hX : Cx SX l w cc nL ret own R P G) (hd : decode cc pc = .ok (.iaload, 1)) (h0 : 0 ≤ a) (h1 : a < 8) (kk : G (pc + 1) lv (.int (iI (σ 4 a)) :: st) σ) : G pc lv (.int (iI a) :: .ref (w.2.2 4) :: st) σ := r_iald hX hd (i := 4) (r := 4) (n := 8) rfl h0 h1 kk
theorem st_X4 (hX : Cx SX l w cc nL ret own R P G) (hd : decode cc pc = .ok (.iastore, 1)) (h0 : 0 ≤ a) (h1 : a < 8) (kk : ∀ σ1 : MM, Mod [4] σ σ1 → (∀ b : Int, σ1 4 b = if b = a then z else σ 4 b) → G (pc + 1) lv st σ1) : G pc lv (.int (iI z) :: .int (iI a) :: .ref (w.2.2 4) :: st) σ := r_iast hX hd (i := 4) (r := 4) (n := 8) rfl sp_X4 h0 h1 (fun lo hi h => by
    have e : (some none : Option (Option (Int × Int))) = some (some (lo, hi)) := h
    cases e) (kk _ Mod.up (fun b => up_at))
theorem ld_X5 (hX : Cx SX l w cc nL ret own R P G) (hd : decode cc pc = .ok (.iaload, 1)) (h0 : 0 ≤ a) (h1 : a < 16) (kk : (-6) ≤ σ 5 a → σ 5 a ≤ 7 → G (pc + 1) lv (.int (iI (σ 5 a)) :: st) σ) : G pc lv (.int (iI a) :: .ref (w.2.2 5) :: st) σ := r_bd hX fun hB => r_iald hX hd (i := 5) (r := 5) (n := 16) rfl h0 h1 (kk (hB 5 (-6) 7 rfl a).1 (hB 5 (-6) 7 rfl a).2)
theorem st_X5 (hX : Cx SX l w cc nL ret own R P G) (hd : decode cc pc = .ok (.iastore, 1)) (h0 : 0 ≤ a) (h1 : a < 16) (hv : (-6) ≤ z ∧ z ≤ 7) (kk : ∀ σ1 : MM, Mod [5] σ σ1 → (∀ b : Int, σ1 5 b = if b = a then z else σ 5 b) → G (pc + 1) lv st σ1) : G pc lv (.int (iI z) :: .int (iI a) :: .ref (w.2.2 5) :: st) σ := r_iast hX hd (i := 5) (r := 5) (n := 16) rfl sp_X5 h0 h1 (fun lo hi h => by
    have e : (some (some (((-6) : Int), (7 : Int))) : Option (Option (Int × Int))) = some (some (lo, hi)) := h
    cases e
    exact hv) (kk _ Mod.up (fun b => up_at))
theorem ld_X6 (hX : Cx SX l w cc nL ret own R P G) (hd : decode cc pc = .ok (.iaload, 1)) (h0 : 0 ≤ a) (h1 : a < 16) (kk : 0 ≤ σ 6 a → σ 6 a ≤ 3 → G (pc + 1) lv (.int (iI (σ 6 a)) :: st) σ) : G pc lv (.int (iI a) :: .ref (w.2.2 6) :: st) σ := r_bd hX fun hB => r_iald hX hd (i := 6) (r := 6) (n := 16) rfl h0 h1 (kk (hB 6 0 3 rfl a).1 (hB 6 0 3 rfl a).2)
theorem st_X6 (hX : Cx SX l w cc nL ret own R P G) (hd : decode cc pc = .ok (.iastore, 1)) (h0 : 0 ≤ a) (h1 : a < 16) (hv : 0 ≤ z ∧ z ≤ 3) (kk : ∀ σ1 : MM, Mod [6] σ σ1 → (∀ b : Int, σ1 6 b = if b = a then z else σ 6 b) → G (pc + 1) lv st σ1) : G pc lv (.int (iI z) :: .int (iI a) :: .ref (w.2.2 6) :: st) σ := r_iast hX hd (i := 6) (r := 6) (n := 16) rfl sp_X6 h0 h1 (fun lo hi h => by
    have e : (some (some ((0 : Int), (3 : Int))) : Option (Option (Int × Int))) = some (some (lo, hi)) := h
    cases e
    exact hv) (kk _ Mod.up (fun b => up_at))
theorem ld_X7 (hX : Cx SX l w cc nL ret own R P G) (hd : decode cc pc = .ok (.iaload, 1)) (h0 : 0 ≤ a) (h1 : a < 8) (kk : 0 ≤ σ 7 a → σ 7 a ≤ 7 → G (pc + 1) lv (.int (iI (σ 7 a)) :: st) σ) : G pc lv (.int (iI a) :: .ref (w.2.2 7) :: st) σ := r_bd hX fun hB => r_iald hX hd (i := 7) (r := 7) (n := 8) rfl h0 h1 (kk (hB 7 0 7 rfl a).1 (hB 7 0 7 rfl a).2)
theorem st_X7 (hX : Cx SX l w cc nL ret own R P G) (hd : decode cc pc = .ok (.iastore, 1)) (h0 : 0 ≤ a) (h1 : a < 8) (hv : 0 ≤ z ∧ z ≤ 7) (kk : ∀ σ1 : MM, Mod [7] σ σ1 → (∀ b : Int, σ1 7 b = if b = a then z else σ 7 b) → G (pc + 1) lv st σ1) : G pc lv (.int (iI z) :: .int (iI a) :: .ref (w.2.2 7) :: st) σ := r_iast hX hd (i := 7) (r := 7) (n := 8) rfl sp_X7 h0 h1 (fun lo hi h => by
    have e : (some (some ((0 : Int), (7 : Int))) : Option (Option (Int × Int))) = some (some (lo, hi)) := h
    cases e
    exact hv) (kk _ Mod.up (fun b => up_at))
theorem ld_X8 (hX : Cx SX l w cc nL ret own R P G) (hd : decode cc pc = .ok (.baload, 1)) (h0 : 0 ≤ a) (h1 : a < 8) (kk : 0 ≤ σ 8 a → σ 8 a ≤ 1 → G (pc + 1) lv (.int (iI (σ 8 a)) :: st) σ) : G pc lv (.int (iI a) :: .ref (w.2.2 8) :: st) σ := r_bd hX fun hB => r_zald hX hd (i := 8) (r := 8) (n := 8) rfl h0 h1 (kk (hB 8 0 1 rfl a).1 (hB 8 0 1 rfl a).2)
theorem st_X8 (hX : Cx SX l w cc nL ret own R P G) (hd : decode cc pc = .ok (.bastore, 1)) (h0 : 0 ≤ a) (h1 : a < 8) (hv : 0 ≤ z ∧ z ≤ 1) (kk : ∀ σ1 : MM, Mod [8] σ σ1 → (∀ b : Int, σ1 8 b = if b = a then z else σ 8 b) → G (pc + 1) lv st σ1) : G pc lv (.int (iI z) :: .int (iI a) :: .ref (w.2.2 8) :: st) σ := r_zast hX hd (i := 8) (r := 8) (n := 8) rfl sp_X8 h0 h1 (by omega) (fun lo hi h => by
    have e : (some (some ((0 : Int), (1 : Int))) : Option (Option (Int × Int))) = some (some (lo, hi)) := h
    cases e
    exact hv) (kk _ Mod.up (fun b => up_at))
theorem ld_X9 (hX : Cx SX l w cc nL ret own R P G) (hd : decode cc pc = .ok (.iaload, 1)) (h0 : 0 ≤ a) (h1 : a < 8) (kk : G (pc + 1) lv (.int (iI (σ 9 a)) :: st) σ) : G pc lv (.int (iI a) :: .ref (w.2.2 9) :: st) σ := r_iald hX hd (i := 9) (r := 9) (n := 8) rfl h0 h1 kk
theorem st_X9 (hX : Cx SX l w cc nL ret own R P G) (hd : decode cc pc = .ok (.iastore, 1)) (h0 : 0 ≤ a) (h1 : a < 8) (kk : ∀ σ1 : MM, Mod [9] σ σ1 → (∀ b : Int, σ1 9 b = if b = a then z else σ 9 b) → G (pc + 1) lv st σ1) : G pc lv (.int (iI z) :: .int (iI a) :: .ref (w.2.2 9) :: st) σ := r_iast hX hd (i := 9) (r := 9) (n := 8) rfl sp_X9 h0 h1 (fun lo hi h => by
    have e : (some none : Option (Option (Int × Int))) = some (some (lo, hi)) := h
    cases e) (kk _ Mod.up (fun b => up_at))
theorem ld_X11 (hX : Cx SX l w cc nL ret own R P G) (hd : decode cc pc = .ok (.baload, 1)) (h0 : 0 ≤ a) (h1 : a < 9) (kk : 0 ≤ σ 11 a → σ 11 a ≤ 1 → G (pc + 1) lv (.int (iI (σ 11 a)) :: st) σ) : G pc lv (.int (iI a) :: .ref (w.2.2 11) :: st) σ := r_bd hX fun hB => r_zald hX hd (i := 11) (r := 11) (n := 9) rfl h0 h1 (kk (hB 11 0 1 rfl a).1 (hB 11 0 1 rfl a).2)
theorem st_X11 (hX : Cx SX l w cc nL ret own R P G) (hd : decode cc pc = .ok (.bastore, 1)) (h0 : 0 ≤ a) (h1 : a < 9) (hv : 0 ≤ z ∧ z ≤ 1) (kk : ∀ σ1 : MM, Mod [11] σ σ1 → (∀ b : Int, σ1 11 b = if b = a then z else σ 11 b) → G (pc + 1) lv st σ1) : G pc lv (.int (iI z) :: .int (iI a) :: .ref (w.2.2 11) :: st) σ := r_zast hX hd (i := 11) (r := 11) (n := 9) rfl sp_X11 h0 h1 (by omega) (fun lo hi h => by
    have e : (some (some ((0 : Int), (1 : Int))) : Option (Option (Int × Int))) = some (some (lo, hi)) := h
    cases e
    exact hv) (kk _ Mod.up (fun b => up_at))
theorem ld_X12 (hX : Cx SX l w cc nL ret own R P G) (hd : decode cc pc = .ok (.baload, 1)) (h0 : 0 ≤ a) (h1 : a < 9) (kk : 0 ≤ σ 12 a → σ 12 a ≤ 1 → G (pc + 1) lv (.int (iI (σ 12 a)) :: st) σ) : G pc lv (.int (iI a) :: .ref (w.2.2 12) :: st) σ := r_bd hX fun hB => r_zald hX hd (i := 12) (r := 12) (n := 9) rfl h0 h1 (kk (hB 12 0 1 rfl a).1 (hB 12 0 1 rfl a).2)
theorem st_X12 (hX : Cx SX l w cc nL ret own R P G) (hd : decode cc pc = .ok (.bastore, 1)) (h0 : 0 ≤ a) (h1 : a < 9) (hv : 0 ≤ z ∧ z ≤ 1) (kk : ∀ σ1 : MM, Mod [12] σ σ1 → (∀ b : Int, σ1 12 b = if b = a then z else σ 12 b) → G (pc + 1) lv st σ1) : G pc lv (.int (iI z) :: .int (iI a) :: .ref (w.2.2 12) :: st) σ := r_zast hX hd (i := 12) (r := 12) (n := 9) rfl sp_X12 h0 h1 (by omega) (fun lo hi h => by
    have e : (some (some ((0 : Int), (1 : Int))) : Option (Option (Int × Int))) = some (some (lo, hi)) := h
    cases e
    exact hv) (kk _ Mod.up (fun b => up_at))
theorem ld_X13 (hX : Cx SX l w cc nL ret own R P G) (hd : decode cc pc = .ok (.iaload, 1)) (h0 : 0 ≤ a) (h1 : a < 81) (kk : 0 ≤ σ 13 a → σ 13 a ≤ 1000 → G (pc + 1) lv (.int (iI (σ 13 a)) :: st) σ) : G pc lv (.int (iI a) :: .ref (w.2.2 13) :: st) σ := r_bd hX fun hB => r_iald hX hd (i := 13) (r := 13) (n := 81) rfl h0 h1 (kk (hB 13 0 1000 rfl a).1 (hB 13 0 1000 rfl a).2)
theorem st_X13 (hX : Cx SX l w cc nL ret own R P G) (hd : decode cc pc = .ok (.iastore, 1)) (h0 : 0 ≤ a) (h1 : a < 81) (hv : 0 ≤ z ∧ z ≤ 1000) (kk : ∀ σ1 : MM, Mod [13] σ σ1 → (∀ b : Int, σ1 13 b = if b = a then z else σ 13 b) → G (pc + 1) lv st σ1) : G pc lv (.int (iI z) :: .int (iI a) :: .ref (w.2.2 13) :: st) σ := r_iast hX hd (i := 13) (r := 13) (n := 81) rfl sp_X13 h0 h1 (fun lo hi h => by
    have e : (some (some ((0 : Int), (1000 : Int))) : Option (Option (Int × Int))) = some (some (lo, hi)) := h
    cases e
    exact hv) (kk _ Mod.up (fun b => up_at))
theorem ld_X15 (hX : Cx SX l w cc nL ret own R P G) (hd : decode cc pc = .ok (.iaload, 1)) (h0 : 0 ≤ a) (h1 : a < 8) (kk : 0 ≤ σ 15 a → σ 15 a ≤ 8 → G (pc + 1) lv (.int (iI (σ 15 a)) :: st) σ) : G pc lv (.int (iI a) :: .ref (w.2.2 15) :: st) σ := r_bd hX fun hB => r_iald hX hd (i := 15) (r := 15) (n := 8) rfl h0 h1 (kk (hB 15 0 8 rfl a).1 (hB 15 0 8 rfl a).2)
theorem st_X15 (hX : Cx SX l w cc nL ret own R P G) (hd : decode cc pc = .ok (.iastore, 1)) (h0 : 0 ≤ a) (h1 : a < 8) (hv : 0 ≤ z ∧ z ≤ 8) (kk : ∀ σ1 : MM, Mod [15] σ σ1 → (∀ b : Int, σ1 15 b = if b = a then z else σ 15 b) → G (pc + 1) lv st σ1) : G pc lv (.int (iI z) :: .int (iI a) :: .ref (w.2.2 15) :: st) σ := r_iast hX hd (i := 15) (r := 15) (n := 8) rfl sp_X15 h0 h1 (fun lo hi h => by
    have e : (some (some ((0 : Int), (8 : Int))) : Option (Option (Int × Int))) = some (some (lo, hi)) := h
    cases e
    exact hv) (kk _ Mod.up (fun b => up_at))
theorem ld_X16 (hX : Cx SX l w cc nL ret own R P G) (hd : decode cc pc = .ok (.iaload, 1)) (h0 : 0 ≤ a) (h1 : a < 8) (kk : 0 ≤ σ 16 a → σ 16 a ≤ 20000000 → G (pc + 1) lv (.int (iI (σ 16 a)) :: st) σ) : G pc lv (.int (iI a) :: .ref (w.2.2 16) :: st) σ := r_bd hX fun hB => r_iald hX hd (i := 16) (r := 16) (n := 8) rfl h0 h1 (kk (hB 16 0 20000000 rfl a).1 (hB 16 0 20000000 rfl a).2)
theorem st_X16 (hX : Cx SX l w cc nL ret own R P G) (hd : decode cc pc = .ok (.iastore, 1)) (h0 : 0 ≤ a) (h1 : a < 8) (hv : 0 ≤ z ∧ z ≤ 20000000) (kk : ∀ σ1 : MM, Mod [16] σ σ1 → (∀ b : Int, σ1 16 b = if b = a then z else σ 16 b) → G (pc + 1) lv st σ1) : G pc lv (.int (iI z) :: .int (iI a) :: .ref (w.2.2 16) :: st) σ := r_iast hX hd (i := 16) (r := 16) (n := 8) rfl sp_X16 h0 h1 (fun lo hi h => by
    have e : (some (some ((0 : Int), (20000000 : Int))) : Option (Option (Int × Int))) = some (some (lo, hi)) := h
    cases e
    exact hv) (kk _ Mod.up (fun b => up_at))
theorem ld_X18 (hX : Cx SX l w cc nL ret own R P G) (hd : decode cc pc = .ok (.iaload, 1)) (h0 : 0 ≤ a) (h1 : a < 8) (kk : 0 ≤ σ 18 a → σ 18 a ≤ 8 → G (pc + 1) lv (.int (iI (σ 18 a)) :: st) σ) : G pc lv (.int (iI a) :: .ref (w.2.2 18) :: st) σ := r_bd hX fun hB => r_iald hX hd (i := 18) (r := 18) (n := 8) rfl h0 h1 (kk (hB 18 0 8 rfl a).1 (hB 18 0 8 rfl a).2)
theorem st_X18 (hX : Cx SX l w cc nL ret own R P G) (hd : decode cc pc = .ok (.iastore, 1)) (h0 : 0 ≤ a) (h1 : a < 8) (hv : 0 ≤ z ∧ z ≤ 8) (kk : ∀ σ1 : MM, Mod [18] σ σ1 → (∀ b : Int, σ1 18 b = if b = a then z else σ 18 b) → G (pc + 1) lv st σ1) : G pc lv (.int (iI z) :: .int (iI a) :: .ref (w.2.2 18) :: st) σ := r_iast hX hd (i := 18) (r := 18) (n := 8) rfl sp_X18 h0 h1 (fun lo hi h => by
    have e : (some (some ((0 : Int), (8 : Int))) : Option (Option (Int × Int))) = some (some (lo, hi)) := h
    cases e
    exact hv) (kk _ Mod.up (fun b => up_at))
theorem ld_X19 (hX : Cx SX l w cc nL ret own R P G) (hd : decode cc pc = .ok (.iaload, 1)) (h0 : 0 ≤ a) (h1 : a < 8) (kk : 0 ≤ σ 19 a → σ 19 a ≤ 11 → G (pc + 1) lv (.int (iI (σ 19 a)) :: st) σ) : G pc lv (.int (iI a) :: .ref (w.2.2 19) :: st) σ := r_bd hX fun hB => r_iald hX hd (i := 19) (r := 19) (n := 8) rfl h0 h1 (kk (hB 19 0 11 rfl a).1 (hB 19 0 11 rfl a).2)
theorem st_X19 (hX : Cx SX l w cc nL ret own R P G) (hd : decode cc pc = .ok (.iastore, 1)) (h0 : 0 ≤ a) (h1 : a < 8) (hv : 0 ≤ z ∧ z ≤ 11) (kk : ∀ σ1 : MM, Mod [19] σ σ1 → (∀ b : Int, σ1 19 b = if b = a then z else σ 19 b) → G (pc + 1) lv st σ1) : G pc lv (.int (iI z) :: .int (iI a) :: .ref (w.2.2 19) :: st) σ := r_iast hX hd (i := 19) (r := 19) (n := 8) rfl sp_X19 h0 h1 (fun lo hi h => by
    have e : (some (some ((0 : Int), (11 : Int))) : Option (Option (Int × Int))) = some (some (lo, hi)) := h
    cases e
    exact hv) (kk _ Mod.up (fun b => up_at))
theorem ld_X20 (hX : Cx SX l w cc nL ret own R P G) (hd : decode cc pc = .ok (.iaload, 1)) (h0 : 0 ≤ a) (h1 : a < 8) (kk : 0 ≤ σ 20 a → σ 20 a ≤ 108 → G (pc + 1) lv (.int (iI (σ 20 a)) :: st) σ) : G pc lv (.int (iI a) :: .ref (w.2.2 20) :: st) σ := r_bd hX fun hB => r_iald hX hd (i := 20) (r := 20) (n := 8) rfl h0 h1 (kk (hB 20 0 108 rfl a).1 (hB 20 0 108 rfl a).2)
theorem st_X20 (hX : Cx SX l w cc nL ret own R P G) (hd : decode cc pc = .ok (.iastore, 1)) (h0 : 0 ≤ a) (h1 : a < 8) (hv : 0 ≤ z ∧ z ≤ 108) (kk : ∀ σ1 : MM, Mod [20] σ σ1 → (∀ b : Int, σ1 20 b = if b = a then z else σ 20 b) → G (pc + 1) lv st σ1) : G pc lv (.int (iI z) :: .int (iI a) :: .ref (w.2.2 20) :: st) σ := r_iast hX hd (i := 20) (r := 20) (n := 8) rfl sp_X20 h0 h1 (fun lo hi h => by
    have e : (some (some ((0 : Int), (108 : Int))) : Option (Option (Int × Int))) = some (some (lo, hi)) := h
    cases e
    exact hv) (kk _ Mod.up (fun b => up_at))
theorem ld_X21 (hX : Cx SX l w cc nL ret own R P G) (hd : decode cc pc = .ok (.iaload, 1)) (h0 : 0 ≤ a) (h1 : a < 16) (kk : (-1100) ≤ σ 21 a → σ 21 a ≤ 1100 → G (pc + 1) lv (.int (iI (σ 21 a)) :: st) σ) : G pc lv (.int (iI a) :: .ref (w.2.2 21) :: st) σ := r_bd hX fun hB => r_iald hX hd (i := 21) (r := 21) (n := 16) rfl h0 h1 (kk (hB 21 (-1100) 1100 rfl a).1 (hB 21 (-1100) 1100 rfl a).2)
theorem st_X21 (hX : Cx SX l w cc nL ret own R P G) (hd : decode cc pc = .ok (.iastore, 1)) (h0 : 0 ≤ a) (h1 : a < 16) (hv : (-1100) ≤ z ∧ z ≤ 1100) (kk : ∀ σ1 : MM, Mod [21] σ σ1 → (∀ b : Int, σ1 21 b = if b = a then z else σ 21 b) → G (pc + 1) lv st σ1) : G pc lv (.int (iI z) :: .int (iI a) :: .ref (w.2.2 21) :: st) σ := r_iast hX hd (i := 21) (r := 21) (n := 16) rfl sp_X21 h0 h1 (fun lo hi h => by
    have e : (some (some (((-1100) : Int), (1100 : Int))) : Option (Option (Int × Int))) = some (some (lo, hi)) := h
    cases e
    exact hv) (kk _ Mod.up (fun b => up_at))
theorem ld_X22 (hX : Cx SX l w cc nL ret own R P G) (hd : decode cc pc = .ok (.iaload, 1)) (h0 : 0 ≤ a) (h1 : a < 64) (kk : 0 ≤ σ 22 a → σ 22 a ≤ 1300000 → G (pc + 1) lv (.int (iI (σ 22 a)) :: st) σ) : G pc lv (.int (iI a) :: .ref (w.2.2 22) :: st) σ := r_bd hX fun hB => r_iald hX hd (i := 22) (r := 22) (n := 64) rfl h0 h1 (kk (hB 22 0 1300000 rfl a).1 (hB 22 0 1300000 rfl a).2)
theorem st_X22 (hX : Cx SX l w cc nL ret own R P G) (hd : decode cc pc = .ok (.iastore, 1)) (h0 : 0 ≤ a) (h1 : a < 64) (hv : 0 ≤ z ∧ z ≤ 1300000) (kk : ∀ σ1 : MM, Mod [22] σ σ1 → (∀ b : Int, σ1 22 b = if b = a then z else σ 22 b) → G (pc + 1) lv st σ1) : G pc lv (.int (iI z) :: .int (iI a) :: .ref (w.2.2 22) :: st) σ := r_iast hX hd (i := 22) (r := 22) (n := 64) rfl sp_X22 h0 h1 (fun lo hi h => by
    have e : (some (some ((0 : Int), (1300000 : Int))) : Option (Option (Int × Int))) = some (some (lo, hi)) := h
    cases e
    exact hv) (kk _ Mod.up (fun b => up_at))
theorem ld_X24 (hX : Cx SX l w cc nL ret own R P G) (hd : decode cc pc = .ok (.iaload, 1)) (h0 : 0 ≤ a) (h1 : a < 488) (kk : G (pc + 1) lv (.int (iI (σ 24 a)) :: st) σ) : G pc lv (.int (iI a) :: .ref (w.2.2 24) :: st) σ := r_iald hX hd (i := 24) (r := 24) (n := 488) rfl h0 h1 kk
theorem st_X24 (hX : Cx SX l w cc nL ret own R P G) (hd : decode cc pc = .ok (.iastore, 1)) (h0 : 0 ≤ a) (h1 : a < 488) (kk : ∀ σ1 : MM, Mod [24] σ σ1 → (∀ b : Int, σ1 24 b = if b = a then z else σ 24 b) → G (pc + 1) lv st σ1) : G pc lv (.int (iI z) :: .int (iI a) :: .ref (w.2.2 24) :: st) σ := r_iast hX hd (i := 24) (r := 24) (n := 488) rfl sp_X24 h0 h1 (fun lo hi h => by
    have e : (some none : Option (Option (Int × Int))) = some (some (lo, hi)) := h
    cases e) (kk _ Mod.up (fun b => up_at))
theorem ld_X26 (hX : Cx SX l w cc nL ret own R P G) (hd : decode cc pc = .ok (.iaload, 1)) (h0 : 0 ≤ a) (h1 : a < 488) (kk : G (pc + 1) lv (.int (iI (σ 26 a)) :: st) σ) : G pc lv (.int (iI a) :: .ref (w.2.2 26) :: st) σ := r_iald hX hd (i := 26) (r := 26) (n := 488) rfl h0 h1 kk
theorem st_X26 (hX : Cx SX l w cc nL ret own R P G) (hd : decode cc pc = .ok (.iastore, 1)) (h0 : 0 ≤ a) (h1 : a < 488) (kk : ∀ σ1 : MM, Mod [26] σ σ1 → (∀ b : Int, σ1 26 b = if b = a then z else σ 26 b) → G (pc + 1) lv st σ1) : G pc lv (.int (iI z) :: .int (iI a) :: .ref (w.2.2 26) :: st) σ := r_iast hX hd (i := 26) (r := 26) (n := 488) rfl sp_X26 h0 h1 (fun lo hi h => by
    have e : (some none : Option (Option (Int × Int))) = some (some (lo, hi)) := h
    cases e) (kk _ Mod.up (fun b => up_at))
theorem ld_X28 (hX : Cx SX l w cc nL ret own R P G) (hd : decode cc pc = .ok (.iaload, 1)) (h0 : 0 ≤ a) (h1 : a < 8) (kk : 0 ≤ σ 28 a → σ 28 a ≤ 5 → G (pc + 1) lv (.int (iI (σ 28 a)) :: st) σ) : G pc lv (.int (iI a) :: .ref (w.2.2 28) :: st) σ := r_bd hX fun hB => r_iald hX hd (i := 28) (r := 28) (n := 8) rfl h0 h1 (kk (hB 28 0 5 rfl a).1 (hB 28 0 5 rfl a).2)
theorem st_X28 (hX : Cx SX l w cc nL ret own R P G) (hd : decode cc pc = .ok (.iastore, 1)) (h0 : 0 ≤ a) (h1 : a < 8) (hv : 0 ≤ z ∧ z ≤ 5) (kk : ∀ σ1 : MM, Mod [28] σ σ1 → (∀ b : Int, σ1 28 b = if b = a then z else σ 28 b) → G (pc + 1) lv st σ1) : G pc lv (.int (iI z) :: .int (iI a) :: .ref (w.2.2 28) :: st) σ := r_iast hX hd (i := 28) (r := 28) (n := 8) rfl sp_X28 h0 h1 (fun lo hi h => by
    have e : (some (some ((0 : Int), (5 : Int))) : Option (Option (Int × Int))) = some (some (lo, hi)) := h
    cases e
    exact hv) (kk _ Mod.up (fun b => up_at))
theorem ld_X29 (hX : Cx SX l w cc nL ret own R P G) (hd : decode cc pc = .ok (.iaload, 1)) (h0 : 0 ≤ a) (h1 : a < 16) (kk : 0 ≤ σ 29 a → σ 29 a ≤ 7 → G (pc + 1) lv (.int (iI (σ 29 a)) :: st) σ) : G pc lv (.int (iI a) :: .ref (w.2.2 29) :: st) σ := r_bd hX fun hB => r_iald hX hd (i := 29) (r := 29) (n := 16) rfl h0 h1 (kk (hB 29 0 7 rfl a).1 (hB 29 0 7 rfl a).2)
theorem st_X29 (hX : Cx SX l w cc nL ret own R P G) (hd : decode cc pc = .ok (.iastore, 1)) (h0 : 0 ≤ a) (h1 : a < 16) (hv : 0 ≤ z ∧ z ≤ 7) (kk : ∀ σ1 : MM, Mod [29] σ σ1 → (∀ b : Int, σ1 29 b = if b = a then z else σ 29 b) → G (pc + 1) lv st σ1) : G pc lv (.int (iI z) :: .int (iI a) :: .ref (w.2.2 29) :: st) σ := r_iast hX hd (i := 29) (r := 29) (n := 16) rfl sp_X29 h0 h1 (fun lo hi h => by
    have e : (some (some ((0 : Int), (7 : Int))) : Option (Option (Int × Int))) = some (some (lo, hi)) := h
    cases e
    exact hv) (kk _ Mod.up (fun b => up_at))
theorem ld_X30 (hX : Cx SX l w cc nL ret own R P G) (hd : decode cc pc = .ok (.iaload, 1)) (h0 : 0 ≤ a) (h1 : a < 16) (kk : 0 ≤ σ 30 a → σ 30 a ≤ 3 → G (pc + 1) lv (.int (iI (σ 30 a)) :: st) σ) : G pc lv (.int (iI a) :: .ref (w.2.2 30) :: st) σ := r_bd hX fun hB => r_iald hX hd (i := 30) (r := 30) (n := 16) rfl h0 h1 (kk (hB 30 0 3 rfl a).1 (hB 30 0 3 rfl a).2)
theorem st_X30 (hX : Cx SX l w cc nL ret own R P G) (hd : decode cc pc = .ok (.iastore, 1)) (h0 : 0 ≤ a) (h1 : a < 16) (hv : 0 ≤ z ∧ z ≤ 3) (kk : ∀ σ1 : MM, Mod [30] σ σ1 → (∀ b : Int, σ1 30 b = if b = a then z else σ 30 b) → G (pc + 1) lv st σ1) : G pc lv (.int (iI z) :: .int (iI a) :: .ref (w.2.2 30) :: st) σ := r_iast hX hd (i := 30) (r := 30) (n := 16) rfl sp_X30 h0 h1 (fun lo hi h => by
    have e : (some (some ((0 : Int), (3 : Int))) : Option (Option (Int × Int))) = some (some (lo, hi)) := h
    cases e
    exact hv) (kk _ Mod.up (fun b => up_at))
theorem ld_X31 (hX : Cx SX l w cc nL ret own R P G) (hd : decode cc pc = .ok (.iaload, 1)) (h0 : 0 ≤ a) (h1 : a < 8) (kk : G (pc + 1) lv (.int (iI (σ 31 a)) :: st) σ) : G pc lv (.int (iI a) :: .ref (w.2.2 31) :: st) σ := r_iald hX hd (i := 31) (r := 31) (n := 8) rfl h0 h1 kk
theorem st_X31 (hX : Cx SX l w cc nL ret own R P G) (hd : decode cc pc = .ok (.iastore, 1)) (h0 : 0 ≤ a) (h1 : a < 8) (kk : ∀ σ1 : MM, Mod [31] σ σ1 → (∀ b : Int, σ1 31 b = if b = a then z else σ 31 b) → G (pc + 1) lv st σ1) : G pc lv (.int (iI z) :: .int (iI a) :: .ref (w.2.2 31) :: st) σ := r_iast hX hd (i := 31) (r := 31) (n := 8) rfl sp_X31 h0 h1 (fun lo hi h => by
    have e : (some none : Option (Option (Int × Int))) = some (some (lo, hi)) := h
    cases e) (kk _ Mod.up (fun b => up_at))
theorem ld_X32 (hX : Cx SX l w cc nL ret own R P G) (hd : decode cc pc = .ok (.iaload, 1)) (h0 : 0 ≤ a) (h1 : a < 8) (kk : G (pc + 1) lv (.int (iI (σ 32 a)) :: st) σ) : G pc lv (.int (iI a) :: .ref (w.2.2 32) :: st) σ := r_iald hX hd (i := 32) (r := 32) (n := 8) rfl h0 h1 kk
theorem st_X32 (hX : Cx SX l w cc nL ret own R P G) (hd : decode cc pc = .ok (.iastore, 1)) (h0 : 0 ≤ a) (h1 : a < 8) (kk : ∀ σ1 : MM, Mod [32] σ σ1 → (∀ b : Int, σ1 32 b = if b = a then z else σ 32 b) → G (pc + 1) lv st σ1) : G pc lv (.int (iI z) :: .int (iI a) :: .ref (w.2.2 32) :: st) σ := r_iast hX hd (i := 32) (r := 32) (n := 8) rfl sp_X32 h0 h1 (fun lo hi h => by
    have e : (some none : Option (Option (Int × Int))) = some (some (lo, hi)) := h
    cases e) (kk _ Mod.up (fun b => up_at))
theorem ld_X33 (hX : Cx SX l w cc nL ret own R P G) (hd : decode cc pc = .ok (.baload, 1)) (h0 : 0 ≤ a) (h1 : a < 8) (kk : 0 ≤ σ 33 a → σ 33 a ≤ 1 → G (pc + 1) lv (.int (iI (σ 33 a)) :: st) σ) : G pc lv (.int (iI a) :: .ref (w.2.2 33) :: st) σ := r_bd hX fun hB => r_zald hX hd (i := 33) (r := 33) (n := 8) rfl h0 h1 (kk (hB 33 0 1 rfl a).1 (hB 33 0 1 rfl a).2)
theorem st_X33 (hX : Cx SX l w cc nL ret own R P G) (hd : decode cc pc = .ok (.bastore, 1)) (h0 : 0 ≤ a) (h1 : a < 8) (hv : 0 ≤ z ∧ z ≤ 1) (kk : ∀ σ1 : MM, Mod [33] σ σ1 → (∀ b : Int, σ1 33 b = if b = a then z else σ 33 b) → G (pc + 1) lv st σ1) : G pc lv (.int (iI z) :: .int (iI a) :: .ref (w.2.2 33) :: st) σ := r_zast hX hd (i := 33) (r := 33) (n := 8) rfl sp_X33 h0 h1 (by omega) (fun lo hi h => by
    have e : (some (some ((0 : Int), (1 : Int))) : Option (Option (Int × Int))) = some (some (lo, hi)) := h
    cases e
    exact hv) (kk _ Mod.up (fun b => up_at))
theorem ld_X34 (hX : Cx SX l w cc nL ret own R P G) (hd : decode cc pc = .ok (.iaload, 1)) (h0 : 0 ≤ a) (h1 : a < 488) (kk : G (pc + 1) lv (.int (iI (σ 34 a)) :: st) σ) : G pc lv (.int (iI a) :: .ref (w.2.2 34) :: st) σ := r_iald hX hd (i := 34) (r := 34) (n := 488) rfl h0 h1 kk
theorem st_X34 (hX : Cx SX l w cc nL ret own R P G) (hd : decode cc pc = .ok (.iastore, 1)) (h0 : 0 ≤ a) (h1 : a < 488) (kk : ∀ σ1 : MM, Mod [34] σ σ1 → (∀ b : Int, σ1 34 b = if b = a then z else σ 34 b) → G (pc + 1) lv st σ1) : G pc lv (.int (iI z) :: .int (iI a) :: .ref (w.2.2 34) :: st) σ := r_iast hX hd (i := 34) (r := 34) (n := 488) rfl sp_X34 h0 h1 (fun lo hi h => by
    have e : (some none : Option (Option (Int × Int))) = some (some (lo, hi)) := h
    cases e) (kk _ Mod.up (fun b => up_at))
theorem ld_X35 (hX : Cx SX l w cc nL ret own R P G) (hd : decode cc pc = .ok (.baload, 1)) (h0 : 0 ≤ a) (h1 : a < 9) (kk : 0 ≤ σ 35 a → σ 35 a ≤ 1 → G (pc + 1) lv (.int (iI (σ 35 a)) :: st) σ) : G pc lv (.int (iI a) :: .ref (w.2.2 35) :: st) σ := r_bd hX fun hB => r_zald hX hd (i := 35) (r := 35) (n := 9) rfl h0 h1 (kk (hB 35 0 1 rfl a).1 (hB 35 0 1 rfl a).2)
theorem st_X35 (hX : Cx SX l w cc nL ret own R P G) (hd : decode cc pc = .ok (.bastore, 1)) (h0 : 0 ≤ a) (h1 : a < 9) (hv : 0 ≤ z ∧ z ≤ 1) (kk : ∀ σ1 : MM, Mod [35] σ σ1 → (∀ b : Int, σ1 35 b = if b = a then z else σ 35 b) → G (pc + 1) lv st σ1) : G pc lv (.int (iI z) :: .int (iI a) :: .ref (w.2.2 35) :: st) σ := r_zast hX hd (i := 35) (r := 35) (n := 9) rfl sp_X35 h0 h1 (by omega) (fun lo hi h => by
    have e : (some (some ((0 : Int), (1 : Int))) : Option (Option (Int × Int))) = some (some (lo, hi)) := h
    cases e
    exact hv) (kk _ Mod.up (fun b => up_at))
theorem ld_X36 (hX : Cx SX l w cc nL ret own R P G) (hd : decode cc pc = .ok (.baload, 1)) (h0 : 0 ≤ a) (h1 : a < 9) (kk : 0 ≤ σ 36 a → σ 36 a ≤ 1 → G (pc + 1) lv (.int (iI (σ 36 a)) :: st) σ) : G pc lv (.int (iI a) :: .ref (w.2.2 36) :: st) σ := r_bd hX fun hB => r_zald hX hd (i := 36) (r := 36) (n := 9) rfl h0 h1 (kk (hB 36 0 1 rfl a).1 (hB 36 0 1 rfl a).2)
theorem st_X36 (hX : Cx SX l w cc nL ret own R P G) (hd : decode cc pc = .ok (.bastore, 1)) (h0 : 0 ≤ a) (h1 : a < 9) (hv : 0 ≤ z ∧ z ≤ 1) (kk : ∀ σ1 : MM, Mod [36] σ σ1 → (∀ b : Int, σ1 36 b = if b = a then z else σ 36 b) → G (pc + 1) lv st σ1) : G pc lv (.int (iI z) :: .int (iI a) :: .ref (w.2.2 36) :: st) σ := r_zast hX hd (i := 36) (r := 36) (n := 9) rfl sp_X36 h0 h1 (by omega) (fun lo hi h => by
    have e : (some (some ((0 : Int), (1 : Int))) : Option (Option (Int × Int))) = some (some (lo, hi)) := h
    cases e
    exact hv) (kk _ Mod.up (fun b => up_at))
theorem ld_X37 (hX : Cx SX l w cc nL ret own R P G) (hd : decode cc pc = .ok (.iaload, 1)) (h0 : 0 ≤ a) (h1 : a < 9) (kk : 0 ≤ σ 37 a → σ 37 a ≤ 1000 → G (pc + 1) lv (.int (iI (σ 37 a)) :: st) σ) : G pc lv (.int (iI a) :: .ref (w.2.2 37) :: st) σ := r_bd hX fun hB => r_iald hX hd (i := 37) (r := 37) (n := 9) rfl h0 h1 (kk (hB 37 0 1000 rfl a).1 (hB 37 0 1000 rfl a).2)
theorem st_X37 (hX : Cx SX l w cc nL ret own R P G) (hd : decode cc pc = .ok (.iastore, 1)) (h0 : 0 ≤ a) (h1 : a < 9) (hv : 0 ≤ z ∧ z ≤ 1000) (kk : ∀ σ1 : MM, Mod [37] σ σ1 → (∀ b : Int, σ1 37 b = if b = a then z else σ 37 b) → G (pc + 1) lv st σ1) : G pc lv (.int (iI z) :: .int (iI a) :: .ref (w.2.2 37) :: st) σ := r_iast hX hd (i := 37) (r := 37) (n := 9) rfl sp_X37 h0 h1 (fun lo hi h => by
    have e : (some (some ((0 : Int), (1000 : Int))) : Option (Option (Int × Int))) = some (some (lo, hi)) := h
    cases e
    exact hv) (kk _ Mod.up (fun b => up_at))
theorem ld_X38 (hX : Cx SX l w cc nL ret own R P G) (hd : decode cc pc = .ok (.iaload, 1)) (h0 : 0 ≤ a) (h1 : a < 8) (kk : 0 ≤ σ 38 a → σ 38 a ≤ 8 → G (pc + 1) lv (.int (iI (σ 38 a)) :: st) σ) : G pc lv (.int (iI a) :: .ref (w.2.2 38) :: st) σ := r_bd hX fun hB => r_iald hX hd (i := 38) (r := 38) (n := 8) rfl h0 h1 (kk (hB 38 0 8 rfl a).1 (hB 38 0 8 rfl a).2)
theorem st_X38 (hX : Cx SX l w cc nL ret own R P G) (hd : decode cc pc = .ok (.iastore, 1)) (h0 : 0 ≤ a) (h1 : a < 8) (hv : 0 ≤ z ∧ z ≤ 8) (kk : ∀ σ1 : MM, Mod [38] σ σ1 → (∀ b : Int, σ1 38 b = if b = a then z else σ 38 b) → G (pc + 1) lv st σ1) : G pc lv (.int (iI z) :: .int (iI a) :: .ref (w.2.2 38) :: st) σ := r_iast hX hd (i := 38) (r := 38) (n := 8) rfl sp_X38 h0 h1 (fun lo hi h => by
    have e : (some (some ((0 : Int), (8 : Int))) : Option (Option (Int × Int))) = some (some (lo, hi)) := h
    cases e
    exact hv) (kk _ Mod.up (fun b => up_at))
theorem ld_X39 (hX : Cx SX l w cc nL ret own R P G) (hd : decode cc pc = .ok (.iaload, 1)) (h0 : 0 ≤ a) (h1 : a < 8) (kk : 0 ≤ σ 39 a → σ 39 a ≤ 20000000 → G (pc + 1) lv (.int (iI (σ 39 a)) :: st) σ) : G pc lv (.int (iI a) :: .ref (w.2.2 39) :: st) σ := r_bd hX fun hB => r_iald hX hd (i := 39) (r := 39) (n := 8) rfl h0 h1 (kk (hB 39 0 20000000 rfl a).1 (hB 39 0 20000000 rfl a).2)
theorem st_X39 (hX : Cx SX l w cc nL ret own R P G) (hd : decode cc pc = .ok (.iastore, 1)) (h0 : 0 ≤ a) (h1 : a < 8) (hv : 0 ≤ z ∧ z ≤ 20000000) (kk : ∀ σ1 : MM, Mod [39] σ σ1 → (∀ b : Int, σ1 39 b = if b = a then z else σ 39 b) → G (pc + 1) lv st σ1) : G pc lv (.int (iI z) :: .int (iI a) :: .ref (w.2.2 39) :: st) σ := r_iast hX hd (i := 39) (r := 39) (n := 8) rfl sp_X39 h0 h1 (fun lo hi h => by
    have e : (some (some ((0 : Int), (20000000 : Int))) : Option (Option (Int × Int))) = some (some (lo, hi)) := h
    cases e
    exact hv) (kk _ Mod.up (fun b => up_at))
theorem ld_X40 (hX : Cx SX l w cc nL ret own R P G) (hd : decode cc pc = .ok (.iaload, 1)) (h0 : 0 ≤ a) (h1 : a < 8) (kk : G (pc + 1) lv (.int (iI (σ 40 a)) :: st) σ) : G pc lv (.int (iI a) :: .ref (w.2.2 40) :: st) σ := r_iald hX hd (i := 40) (r := 40) (n := 8) rfl h0 h1 kk
theorem st_X40 (hX : Cx SX l w cc nL ret own R P G) (hd : decode cc pc = .ok (.iastore, 1)) (h0 : 0 ≤ a) (h1 : a < 8) (kk : ∀ σ1 : MM, Mod [40] σ σ1 → (∀ b : Int, σ1 40 b = if b = a then z else σ 40 b) → G (pc + 1) lv st σ1) : G pc lv (.int (iI z) :: .int (iI a) :: .ref (w.2.2 40) :: st) σ := r_iast hX hd (i := 40) (r := 40) (n := 8) rfl sp_X40 h0 h1 (fun lo hi h => by
    have e : (some none : Option (Option (Int × Int))) = some (some (lo, hi)) := h
    cases e) (kk _ Mod.up (fun b => up_at))
theorem ld_X41 (hX : Cx SX l w cc nL ret own R P G) (hd : decode cc pc = .ok (.iaload, 1)) (h0 : 0 ≤ a) (h1 : a < 8) (kk : 0 ≤ σ 41 a → σ 41 a ≤ 8 → G (pc + 1) lv (.int (iI (σ 41 a)) :: st) σ) : G pc lv (.int (iI a) :: .ref (w.2.2 41) :: st) σ := r_bd hX fun hB => r_iald hX hd (i := 41) (r := 41) (n := 8) rfl h0 h1 (kk (hB 41 0 8 rfl a).1 (hB 41 0 8 rfl a).2)
theorem st_X41 (hX : Cx SX l w cc nL ret own R P G) (hd : decode cc pc = .ok (.iastore, 1)) (h0 : 0 ≤ a) (h1 : a < 8) (hv : 0 ≤ z ∧ z ≤ 8) (kk : ∀ σ1 : MM, Mod [41] σ σ1 → (∀ b : Int, σ1 41 b = if b = a then z else σ 41 b) → G (pc + 1) lv st σ1) : G pc lv (.int (iI z) :: .int (iI a) :: .ref (w.2.2 41) :: st) σ := r_iast hX hd (i := 41) (r := 41) (n := 8) rfl sp_X41 h0 h1 (fun lo hi h => by
    have e : (some (some ((0 : Int), (8 : Int))) : Option (Option (Int × Int))) = some (some (lo, hi)) := h
    cases e
    exact hv) (kk _ Mod.up (fun b => up_at))
theorem ld_X42 (hX : Cx SX l w cc nL ret own R P G) (hd : decode cc pc = .ok (.iaload, 1)) (h0 : 0 ≤ a) (h1 : a < 8) (kk : 0 ≤ σ 42 a → σ 42 a ≤ 11 → G (pc + 1) lv (.int (iI (σ 42 a)) :: st) σ) : G pc lv (.int (iI a) :: .ref (w.2.2 42) :: st) σ := r_bd hX fun hB => r_iald hX hd (i := 42) (r := 42) (n := 8) rfl h0 h1 (kk (hB 42 0 11 rfl a).1 (hB 42 0 11 rfl a).2)
theorem st_X42 (hX : Cx SX l w cc nL ret own R P G) (hd : decode cc pc = .ok (.iastore, 1)) (h0 : 0 ≤ a) (h1 : a < 8) (hv : 0 ≤ z ∧ z ≤ 11) (kk : ∀ σ1 : MM, Mod [42] σ σ1 → (∀ b : Int, σ1 42 b = if b = a then z else σ 42 b) → G (pc + 1) lv st σ1) : G pc lv (.int (iI z) :: .int (iI a) :: .ref (w.2.2 42) :: st) σ := r_iast hX hd (i := 42) (r := 42) (n := 8) rfl sp_X42 h0 h1 (fun lo hi h => by
    have e : (some (some ((0 : Int), (11 : Int))) : Option (Option (Int × Int))) = some (some (lo, hi)) := h
    cases e
    exact hv) (kk _ Mod.up (fun b => up_at))
theorem ld_X43 (hX : Cx SX l w cc nL ret own R P G) (hd : decode cc pc = .ok (.iaload, 1)) (h0 : 0 ≤ a) (h1 : a < 8) (kk : 0 ≤ σ 43 a → σ 43 a ≤ 200000 → G (pc + 1) lv (.int (iI (σ 43 a)) :: st) σ) : G pc lv (.int (iI a) :: .ref (w.2.2 43) :: st) σ := r_bd hX fun hB => r_iald hX hd (i := 43) (r := 43) (n := 8) rfl h0 h1 (kk (hB 43 0 200000 rfl a).1 (hB 43 0 200000 rfl a).2)
theorem st_X43 (hX : Cx SX l w cc nL ret own R P G) (hd : decode cc pc = .ok (.iastore, 1)) (h0 : 0 ≤ a) (h1 : a < 8) (hv : 0 ≤ z ∧ z ≤ 200000) (kk : ∀ σ1 : MM, Mod [43] σ σ1 → (∀ b : Int, σ1 43 b = if b = a then z else σ 43 b) → G (pc + 1) lv st σ1) : G pc lv (.int (iI z) :: .int (iI a) :: .ref (w.2.2 43) :: st) σ := r_iast hX hd (i := 43) (r := 43) (n := 8) rfl sp_X43 h0 h1 (fun lo hi h => by
    have e : (some (some ((0 : Int), (200000 : Int))) : Option (Option (Int × Int))) = some (some (lo, hi)) := h
    cases e
    exact hv) (kk _ Mod.up (fun b => up_at))
theorem ld_X44 (hX : Cx SX l w cc nL ret own R P G) (hd : decode cc pc = .ok (.iaload, 1)) (h0 : 0 ≤ a) (h1 : a < 81) (kk : 0 ≤ σ 44 a → σ 44 a ≤ 1000 → G (pc + 1) lv (.int (iI (σ 44 a)) :: st) σ) : G pc lv (.int (iI a) :: .ref (w.2.2 44) :: st) σ := r_bd hX fun hB => r_iald hX hd (i := 44) (r := 44) (n := 81) rfl h0 h1 (kk (hB 44 0 1000 rfl a).1 (hB 44 0 1000 rfl a).2)
theorem st_X44 (hX : Cx SX l w cc nL ret own R P G) (hd : decode cc pc = .ok (.iastore, 1)) (h0 : 0 ≤ a) (h1 : a < 81) (hv : 0 ≤ z ∧ z ≤ 1000) (kk : ∀ σ1 : MM, Mod [44] σ σ1 → (∀ b : Int, σ1 44 b = if b = a then z else σ 44 b) → G (pc + 1) lv st σ1) : G pc lv (.int (iI z) :: .int (iI a) :: .ref (w.2.2 44) :: st) σ := r_iast hX hd (i := 44) (r := 44) (n := 81) rfl sp_X44 h0 h1 (fun lo hi h => by
    have e : (some (some ((0 : Int), (1000 : Int))) : Option (Option (Int × Int))) = some (some (lo, hi)) := h
    cases e
    exact hv) (kk _ Mod.up (fun b => up_at))
theorem fg_X0_12 (hX : Cx SX l w cc nL ret RX5 R P G) (hd : decode cc pc = .ok (.getfield 12, 3)) (kk : G (pc + 3) lv (.ref (w.2.2 1) :: st) σ) : G pc lv (.ref (w.2.2 0) :: st) σ := r_getR hX hd (i := 0) (j := 1) rfl rfl in_X5 (k := 0) (by decide) rfl lk_RX5_12 kk
theorem fg_X0_19 (hX : Cx SX l w cc nL ret RX5 R P G) (hd : decode cc pc = .ok (.getfield 19, 3)) (kk : G (pc + 3) lv (.ref (w.2.2 10) :: st) σ) : G pc lv (.ref (w.2.2 0) :: st) σ := r_getR hX hd (i := 0) (j := 10) rfl rfl in_X5 (k := 1) (by decide) rfl lk_RX5_19 kk
theorem fg_X0_28 (hX : Cx SX l w cc nL ret RX5 R P G) (hd : decode cc pc = .ok (.getfield 28, 3)) (kk : G (pc + 3) lv (.ref (w.2.2 14) :: st) σ) : G pc lv (.ref (w.2.2 0) :: st) σ := r_getR hX hd (i := 0) (j := 14) rfl rfl in_X5 (k := 2) (by decide) rfl lk_RX5_28 kk
theorem fg_X0_35 (hX : Cx SX l w cc nL ret RX5 R P G) (hd : decode cc pc = .ok (.getfield 35, 3)) (kk : G (pc + 3) lv (.ref (w.2.2 17) :: st) σ) : G pc lv (.ref (w.2.2 0) :: st) σ := r_getR hX hd (i := 0) (j := 17) rfl rfl in_X5 (k := 3) (by decide) rfl lk_RX5_35 kk
theorem fg_X0_44 (hX : Cx SX l w cc nL ret RX5 R P G) (hd : decode cc pc = .ok (.getfield 44, 3)) (kk : G (pc + 3) lv (.ref (w.2.2 23) :: st) σ) : G pc lv (.ref (w.2.2 0) :: st) σ := r_getR hX hd (i := 0) (j := 23) rfl rfl in_X5 (k := 4) (by decide) rfl lk_RX5_44 kk
theorem fg_X0_48 (hX : Cx SX l w cc nL ret RX5 R P G) (hd : decode cc pc = .ok (.getfield 48, 3)) (kk : G (pc + 3) lv (.ref (w.2.2 25) :: st) σ) : G pc lv (.ref (w.2.2 0) :: st) σ := r_getR hX hd (i := 0) (j := 25) rfl rfl in_X5 (k := 5) (by decide) rfl lk_RX5_48 kk
theorem fg_X0_78 (hX : Cx SX l w cc nL ret RX5 R P G) (hd : decode cc pc = .ok (.getfield 78, 3)) (kk : 0 ≤ σ 50 0 → σ 50 0 ≤ 61 → G (pc + 3) lv (.int (iI (σ 50 0)) :: st) σ) : G pc lv (.ref (w.2.2 0) :: st) σ := r_bd hX fun hB => r_getI hX hd (i := 0) (r := 50) rfl rfl in_X5 (k := 6) (by decide) rfl lk_RX5_78 (kk (hB 50 0 61 rfl 0).1 (hB 50 0 61 rfl 0).2)
theorem fp_X0_78 (hX : Cx SX l w cc nL ret RX5 R P G) (hd : decode cc pc = .ok (.putfield 78, 3)) (hv : 0 ≤ z ∧ z ≤ 61) (kk : ∀ σ1 : MM, Mod [50] σ σ1 → σ1 50 0 = z → G (pc + 3) lv st σ1) : G pc lv (.int (iI z) :: .ref (w.2.2 0) :: st) σ := r_putI hX hd (i := 0) (r := 50) rfl rfl in_X5 tyX5 tyX5_ok nmX5 (k := 6) (by decide) rfl lk_RX5_78 rfl (by decide +kernel) sp_X50 (by decide +kernel) (fun lo hi h => by
    have e : (some (some ((0 : Int), (61 : Int))) : Option (Option (Int × Int))) = some (some (lo, hi)) := h
    cases e
    exact hv) (kk _ Mod.up (by rw [up_at]; rfl))
theorem fg_X0_82 (hX : Cx SX l w cc nL ret RX5 R P G) (hd : decode cc pc = .ok (.getfield 82, 3)) (kk : 0 ≤ σ 51 0 → σ 51 0 ≤ 60 → G (pc + 3) lv (.int (iI (σ 51 0)) :: st) σ) : G pc lv (.ref (w.2.2 0) :: st) σ := r_bd hX fun hB => r_getI hX hd (i := 0) (r := 51) rfl rfl in_X5 (k := 7) (by decide) rfl lk_RX5_82 (kk (hB 51 0 60 rfl 0).1 (hB 51 0 60 rfl 0).2)
theorem fp_X0_82 (hX : Cx SX l w cc nL ret RX5 R P G) (hd : decode cc pc = .ok (.putfield 82, 3)) (hv : 0 ≤ z ∧ z ≤ 60) (kk : ∀ σ1 : MM, Mod [51] σ σ1 → σ1 51 0 = z → G (pc + 3) lv st σ1) : G pc lv (.int (iI z) :: .ref (w.2.2 0) :: st) σ := r_putI hX hd (i := 0) (r := 51) rfl rfl in_X5 tyX5 tyX5_ok nmX5 (k := 7) (by decide) rfl lk_RX5_82 rfl (by decide +kernel) sp_X51 (by decide +kernel) (fun lo hi h => by
    have e : (some (some ((0 : Int), (60 : Int))) : Option (Option (Int × Int))) = some (some (lo, hi)) := h
    cases e
    exact hv) (kk _ Mod.up (by rw [up_at]; rfl))
theorem fg_X0_211 (hX : Cx SX l w cc nL ret RX5 R P G) (hd : decode cc pc = .ok (.getfield 211, 3)) (kk : G (pc + 3) lv (.int (iI (σ 52 0)) :: st) σ) : G pc lv (.ref (w.2.2 0) :: st) σ := r_getI hX hd (i := 0) (r := 52) rfl rfl in_X5 (k := 8) (by decide) rfl lk_RX5_211 kk
theorem fp_X0_211 (hX : Cx SX l w cc nL ret RX5 R P G) (hd : decode cc pc = .ok (.putfield 211, 3)) (kk : ∀ σ1 : MM, Mod [52] σ σ1 → σ1 52 0 = z → G (pc + 3) lv st σ1) : G pc lv (.int (iI z) :: .ref (w.2.2 0) :: st) σ := r_putI hX hd (i := 0) (r := 52) rfl rfl in_X5 tyX5 tyX5_ok nmX5 (k := 8) (by decide) rfl lk_RX5_211 rfl (by decide +kernel) sp_X52 (by decide +kernel) (fun lo hi h => by
    have e : (some none : Option (Option (Int × Int))) = some (some (lo, hi)) := h
    cases e) (kk _ Mod.up (by rw [up_at]; rfl))
theorem fg_X1_9 (hX : Cx SX l w cc nL ret RX2 R P G) (hd : decode cc pc = .ok (.getfield 9, 3)) (kk : G (pc + 3) lv (.ref (w.2.2 2) :: st) σ) : G pc lv (.ref (w.2.2 1) :: st) σ := r_getR hX hd (i := 1) (j := 2) rfl rfl in_X2 (k := 0) (by decide) rfl lk_RX2_9 kk
theorem fg_X1_15 (hX : Cx SX l w cc nL ret RX2 R P G) (hd : decode cc pc = .ok (.getfield 15, 3)) (kk : G (pc + 3) lv (.ref (w.2.2 3) :: st) σ) : G pc lv (.ref (w.2.2 1) :: st) σ := r_getR hX hd (i := 1) (j := 3) rfl rfl in_X2 (k := 1) (by decide) rfl lk_RX2_15 kk
theorem fg_X1_18 (hX : Cx SX l w cc nL ret RX2 R P G) (hd : decode cc pc = .ok (.getfield 18, 3)) (kk : G (pc + 3) lv (.ref (w.2.2 4) :: st) σ) : G pc lv (.ref (w.2.2 1) :: st) σ := r_getR hX hd (i := 1) (j := 4) rfl rfl in_X2 (k := 2) (by decide) rfl lk_RX2_18 kk
theorem fg_X1_21 (hX : Cx SX l w cc nL ret RX2 R P G) (hd : decode cc pc = .ok (.getfield 21, 3)) (kk : G (pc + 3) lv (.ref (w.2.2 5) :: st) σ) : G pc lv (.ref (w.2.2 1) :: st) σ := r_getR hX hd (i := 1) (j := 5) rfl rfl in_X2 (k := 3) (by decide) rfl lk_RX2_21 kk
theorem fg_X1_24 (hX : Cx SX l w cc nL ret RX2 R P G) (hd : decode cc pc = .ok (.getfield 24, 3)) (kk : G (pc + 3) lv (.ref (w.2.2 6) :: st) σ) : G pc lv (.ref (w.2.2 1) :: st) σ := r_getR hX hd (i := 1) (j := 6) rfl rfl in_X2 (k := 4) (by decide) rfl lk_RX2_24 kk
theorem fg_X1_27 (hX : Cx SX l w cc nL ret RX2 R P G) (hd : decode cc pc = .ok (.getfield 27, 3)) (kk : G (pc + 3) lv (.ref (w.2.2 7) :: st) σ) : G pc lv (.ref (w.2.2 1) :: st) σ := r_getR hX hd (i := 1) (j := 7) rfl rfl in_X2 (k := 5) (by decide) rfl lk_RX2_27 kk
theorem fg_X1_30 (hX : Cx SX l w cc nL ret RX2 R P G) (hd : decode cc pc = .ok (.getfield 30, 3)) (kk : G (pc + 3) lv (.ref (w.2.2 8) :: st) σ) : G pc lv (.ref (w.2.2 1) :: st) σ := r_getR hX hd (i := 1) (j := 8) rfl rfl in_X2 (k := 6) (by decide) rfl lk_RX2_30 kk
theorem fg_X1_34 (hX : Cx SX l w cc nL ret RX2 R P G) (hd : decode cc pc = .ok (.getfield 34, 3)) (kk : G (pc + 3) lv (.ref (w.2.2 9) :: st) σ) : G pc lv (.ref (w.2.2 1) :: st) σ := r_getR hX hd (i := 1) (j := 9) rfl rfl in_X2 (k := 7) (by decide) rfl lk_RX2_34 kk
theorem fg_X1_37 (hX : Cx SX l w cc nL ret RX2 R P G) (hd : decode cc pc = .ok (.getfield 37, 3)) (kk : 0 ≤ σ 53 0 → σ 53 0 ≤ 8 → G (pc + 3) lv (.int (iI (σ 53 0)) :: st) σ) : G pc lv (.ref (w.2.2 1) :: st) σ := r_bd hX fun hB => r_getI hX hd (i := 1) (r := 53) rfl rfl in_X2 (k := 8) (by decide) rfl lk_RX2_37 (kk (hB 53 0 8 rfl 0).1 (hB 53 0 8 rfl 0).2)
theorem fp_X1_37 (hX : Cx SX l w cc nL ret RX2 R P G) (hd : decode cc pc = .ok (.putfield 37, 3)) (hv : 0 ≤ z ∧ z ≤ 8) (kk : ∀ σ1 : MM, Mod [53] σ σ1 → σ1 53 0 = z → G (pc + 3) lv st σ1) : G pc lv (.int (iI z) :: .ref (w.2.2 1) :: st) σ := r_putI hX hd (i := 1) (r := 53) rfl rfl in_X2 tyX2 tyX2_ok nmX2 (k := 8) (by decide) rfl lk_RX2_37 rfl (by decide +kernel) sp_X53 (by decide +kernel) (fun lo hi h => by
    have e : (some (some ((0 : Int), (8 : Int))) : Option (Option (Int × Int))) = some (some (lo, hi)) := h
    cases e
    exact hv) (kk _ Mod.up (by rw [up_at]; rfl))
theorem fg_X1_44 (hX : Cx SX l w cc nL ret RX2 R P G) (hd : decode cc pc = .ok (.getfield 44, 3)) (kk : 0 ≤ σ 54 0 → σ 54 0 ≤ 8 → G (pc + 3) lv (.int (iI (σ 54 0)) :: st) σ) : G pc lv (.ref (w.2.2 1) :: st) σ := r_bd hX fun hB => r_getI hX hd (i := 1) (r := 54) rfl rfl in_X2 (k := 9) (by decide) rfl lk_RX2_44 (kk (hB 54 0 8 rfl 0).1 (hB 54 0 8 rfl 0).2)
theorem fp_X1_44 (hX : Cx SX l w cc nL ret RX2 R P G) (hd : decode cc pc = .ok (.putfield 44, 3)) (hv : 0 ≤ z ∧ z ≤ 8) (kk : ∀ σ1 : MM, Mod [54] σ σ1 → σ1 54 0 = z → G (pc + 3) lv st σ1) : G pc lv (.int (iI z) :: .ref (w.2.2 1) :: st) σ := r_putI hX hd (i := 1) (r := 54) rfl rfl in_X2 tyX2 tyX2_ok nmX2 (k := 9) (by decide) rfl lk_RX2_44 rfl (by decide +kernel) sp_X54 (by decide +kernel) (fun lo hi h => by
    have e : (some (some ((0 : Int), (8 : Int))) : Option (Option (Int × Int))) = some (some (lo, hi)) := h
    cases e
    exact hv) (kk _ Mod.up (by rw [up_at]; rfl))
theorem fg_X1_41 (hX : Cx SX l w cc nL ret RX2 R P G) (hd : decode cc pc = .ok (.getfield 41, 3)) (kk : G (pc + 3) lv (.int (iI (σ 55 0)) :: st) σ) : G pc lv (.ref (w.2.2 1) :: st) σ := r_getI hX hd (i := 1) (r := 55) rfl rfl in_X2 (k := 10) (by decide) rfl lk_RX2_41 kk
theorem fp_X1_41 (hX : Cx SX l w cc nL ret RX2 R P G) (hd : decode cc pc = .ok (.putfield 41, 3)) (kk : ∀ σ1 : MM, Mod [55] σ σ1 → σ1 55 0 = z → G (pc + 3) lv st σ1) : G pc lv (.int (iI z) :: .ref (w.2.2 1) :: st) σ := r_putI hX hd (i := 1) (r := 55) rfl rfl in_X2 tyX2 tyX2_ok nmX2 (k := 10) (by decide) rfl lk_RX2_41 rfl (by decide +kernel) sp_X55 (by decide +kernel) (fun lo hi h => by
    have e : (some none : Option (Option (Int × Int))) = some (some (lo, hi)) := h
    cases e) (kk _ Mod.up (by rw [up_at]; rfl))
theorem fg_X10_9 (hX : Cx SX l w cc nL ret RX0 R P G) (hd : decode cc pc = .ok (.getfield 9, 3)) (kk : G (pc + 3) lv (.ref (w.2.2 11) :: st) σ) : G pc lv (.ref (w.2.2 10) :: st) σ := r_getR hX hd (i := 10) (j := 11) rfl rfl in_X0 (k := 0) (by decide) rfl lk_RX0_9 kk
theorem fg_X10_15 (hX : Cx SX l w cc nL ret RX0 R P G) (hd : decode cc pc = .ok (.getfield 15, 3)) (kk : G (pc + 3) lv (.ref (w.2.2 12) :: st) σ) : G pc lv (.ref (w.2.2 10) :: st) σ := r_getR hX hd (i := 10) (j := 12) rfl rfl in_X0 (k := 1) (by decide) rfl lk_RX0_15 kk
theorem fg_X10_18 (hX : Cx SX l w cc nL ret RX0 R P G) (hd : decode cc pc = .ok (.getfield 18, 3)) (kk : G (pc + 3) lv (.ref (w.2.2 13) :: st) σ) : G pc lv (.ref (w.2.2 10) :: st) σ := r_getR hX hd (i := 10) (j := 13) rfl rfl in_X0 (k := 2) (by decide) rfl lk_RX0_18 kk
theorem fg_X10_26 (hX : Cx SX l w cc nL ret RX0 R P G) (hd : decode cc pc = .ok (.getfield 26, 3)) (kk : 1 ≤ σ 56 0 → σ 56 0 ≤ 3 → G (pc + 3) lv (.int (iI (σ 56 0)) :: st) σ) : G pc lv (.ref (w.2.2 10) :: st) σ := r_bd hX fun hB => r_getI hX hd (i := 10) (r := 56) rfl rfl in_X0 (k := 3) (by decide) rfl lk_RX0_26 (kk (hB 56 1 3 rfl 0).1 (hB 56 1 3 rfl 0).2)
theorem fp_X10_26 (hX : Cx SX l w cc nL ret RX0 R P G) (hd : decode cc pc = .ok (.putfield 26, 3)) (hv : 1 ≤ z ∧ z ≤ 3) (kk : ∀ σ1 : MM, Mod [56] σ σ1 → σ1 56 0 = z → G (pc + 3) lv st σ1) : G pc lv (.int (iI z) :: .ref (w.2.2 10) :: st) σ := r_putI hX hd (i := 10) (r := 56) rfl rfl in_X0 tyX0 tyX0_ok nmX0 (k := 3) (by decide) rfl lk_RX0_26 rfl (by decide +kernel) sp_X56 (by decide +kernel) (fun lo hi h => by
    have e : (some (some ((1 : Int), (3 : Int))) : Option (Option (Int × Int))) = some (some (lo, hi)) := h
    cases e
    exact hv) (kk _ Mod.up (by rw [up_at]; rfl))
theorem fg_X10_30 (hX : Cx SX l w cc nL ret RX0 R P G) (hd : decode cc pc = .ok (.getfield 30, 3)) (kk : 1 ≤ σ 57 0 → σ 57 0 ≤ 3 → G (pc + 3) lv (.int (iI (σ 57 0)) :: st) σ) : G pc lv (.ref (w.2.2 10) :: st) σ := r_bd hX fun hB => r_getI hX hd (i := 10) (r := 57) rfl rfl in_X0 (k := 4) (by decide) rfl lk_RX0_30 (kk (hB 57 1 3 rfl 0).1 (hB 57 1 3 rfl 0).2)
theorem fp_X10_30 (hX : Cx SX l w cc nL ret RX0 R P G) (hd : decode cc pc = .ok (.putfield 30, 3)) (hv : 1 ≤ z ∧ z ≤ 3) (kk : ∀ σ1 : MM, Mod [57] σ σ1 → σ1 57 0 = z → G (pc + 3) lv st σ1) : G pc lv (.int (iI z) :: .ref (w.2.2 10) :: st) σ := r_putI hX hd (i := 10) (r := 57) rfl rfl in_X0 tyX0 tyX0_ok nmX0 (k := 4) (by decide) rfl lk_RX0_30 rfl (by decide +kernel) sp_X57 (by decide +kernel) (fun lo hi h => by
    have e : (some (some ((1 : Int), (3 : Int))) : Option (Option (Int × Int))) = some (some (lo, hi)) := h
    cases e
    exact hv) (kk _ Mod.up (by rw [up_at]; rfl))
theorem fg_X14_18 (hX : Cx SX l w cc nL ret RX1 R P G) (hd : decode cc pc = .ok (.getfield 18, 3)) (kk : G (pc + 3) lv (.ref (w.2.2 1) :: st) σ) : G pc lv (.ref (w.2.2 14) :: st) σ := r_getR hX hd (i := 14) (j := 1) rfl rfl in_X1 (k := 0) (by decide) rfl lk_RX1_18 kk
theorem fg_X14_22 (hX : Cx SX l w cc nL ret RX1 R P G) (hd : decode cc pc = .ok (.getfield 22, 3)) (kk : G (pc + 3) lv (.ref (w.2.2 10) :: st) σ) : G pc lv (.ref (w.2.2 14) :: st) σ := r_getR hX hd (i := 14) (j := 10) rfl rfl in_X1 (k := 1) (by decide) rfl lk_RX1_22 kk
theorem fg_X14_9 (hX : Cx SX l w cc nL ret RX1 R P G) (hd : decode cc pc = .ok (.getfield 9, 3)) (kk : G (pc + 3) lv (.ref (w.2.2 15) :: st) σ) : G pc lv (.ref (w.2.2 14) :: st) σ := r_getR hX hd (i := 14) (j := 15) rfl rfl in_X1 (k := 2) (by decide) rfl lk_RX1_9 kk
theorem fg_X14_15 (hX : Cx SX l w cc nL ret RX1 R P G) (hd : decode cc pc = .ok (.getfield 15, 3)) (kk : G (pc + 3) lv (.ref (w.2.2 16) :: st) σ) : G pc lv (.ref (w.2.2 14) :: st) σ := r_getR hX hd (i := 14) (j := 16) rfl rfl in_X1 (k := 3) (by decide) rfl lk_RX1_15 kk
theorem fg_X14_26 (hX : Cx SX l w cc nL ret RX1 R P G) (hd : decode cc pc = .ok (.getfield 26, 3)) (kk : 0 ≤ σ 58 0 → σ 58 0 ≤ 12 → G (pc + 3) lv (.int (iI (σ 58 0)) :: st) σ) : G pc lv (.ref (w.2.2 14) :: st) σ := r_bd hX fun hB => r_getI hX hd (i := 14) (r := 58) rfl rfl in_X1 (k := 4) (by decide) rfl lk_RX1_26 (kk (hB 58 0 12 rfl 0).1 (hB 58 0 12 rfl 0).2)
theorem fp_X14_26 (hX : Cx SX l w cc nL ret RX1 R P G) (hd : decode cc pc = .ok (.putfield 26, 3)) (hv : 0 ≤ z ∧ z ≤ 12) (kk : ∀ σ1 : MM, Mod [58] σ σ1 → σ1 58 0 = z → G (pc + 3) lv st σ1) : G pc lv (.int (iI z) :: .ref (w.2.2 14) :: st) σ := r_putI hX hd (i := 14) (r := 58) rfl rfl in_X1 tyX1 tyX1_ok nmX1 (k := 4) (by decide) rfl lk_RX1_26 rfl (by decide +kernel) sp_X58 (by decide +kernel) (fun lo hi h => by
    have e : (some (some ((0 : Int), (12 : Int))) : Option (Option (Int × Int))) = some (some (lo, hi)) := h
    cases e
    exact hv) (kk _ Mod.up (by rw [up_at]; rfl))
theorem fg_X17_27 (hX : Cx SX l w cc nL ret RX3 R P G) (hd : decode cc pc = .ok (.getfield 27, 3)) (kk : G (pc + 3) lv (.ref (w.2.2 1) :: st) σ) : G pc lv (.ref (w.2.2 17) :: st) σ := r_getR hX hd (i := 17) (j := 1) rfl rfl in_X3 (k := 0) (by decide) rfl lk_RX3_27 kk
theorem fg_X17_31 (hX : Cx SX l w cc nL ret RX3 R P G) (hd : decode cc pc = .ok (.getfield 31, 3)) (kk : G (pc + 3) lv (.ref (w.2.2 10) :: st) σ) : G pc lv (.ref (w.2.2 17) :: st) σ := r_getR hX hd (i := 17) (j := 10) rfl rfl in_X3 (k := 1) (by decide) rfl lk_RX3_31 kk
theorem fg_X17_9 (hX : Cx SX l w cc nL ret RX3 R P G) (hd : decode cc pc = .ok (.getfield 9, 3)) (kk : G (pc + 3) lv (.ref (w.2.2 18) :: st) σ) : G pc lv (.ref (w.2.2 17) :: st) σ := r_getR hX hd (i := 17) (j := 18) rfl rfl in_X3 (k := 2) (by decide) rfl lk_RX3_9 kk
theorem fg_X17_15 (hX : Cx SX l w cc nL ret RX3 R P G) (hd : decode cc pc = .ok (.getfield 15, 3)) (kk : G (pc + 3) lv (.ref (w.2.2 19) :: st) σ) : G pc lv (.ref (w.2.2 17) :: st) σ := r_getR hX hd (i := 17) (j := 19) rfl rfl in_X3 (k := 3) (by decide) rfl lk_RX3_15 kk
theorem fg_X17_18 (hX : Cx SX l w cc nL ret RX3 R P G) (hd : decode cc pc = .ok (.getfield 18, 3)) (kk : G (pc + 3) lv (.ref (w.2.2 20) :: st) σ) : G pc lv (.ref (w.2.2 17) :: st) σ := r_getR hX hd (i := 17) (j := 20) rfl rfl in_X3 (k := 4) (by decide) rfl lk_RX3_18 kk
theorem fg_X17_21 (hX : Cx SX l w cc nL ret RX3 R P G) (hd : decode cc pc = .ok (.getfield 21, 3)) (kk : G (pc + 3) lv (.ref (w.2.2 21) :: st) σ) : G pc lv (.ref (w.2.2 17) :: st) σ := r_getR hX hd (i := 17) (j := 21) rfl rfl in_X3 (k := 5) (by decide) rfl lk_RX3_21 kk
theorem fg_X17_24 (hX : Cx SX l w cc nL ret RX3 R P G) (hd : decode cc pc = .ok (.getfield 24, 3)) (kk : G (pc + 3) lv (.ref (w.2.2 22) :: st) σ) : G pc lv (.ref (w.2.2 17) :: st) σ := r_getR hX hd (i := 17) (j := 22) rfl rfl in_X3 (k := 6) (by decide) rfl lk_RX3_24 kk
theorem fg_X17_45 (hX : Cx SX l w cc nL ret RX3 R P G) (hd : decode cc pc = .ok (.getfield 45, 3)) (kk : 0 ≤ σ 59 0 → σ 59 0 ≤ 12 → G (pc + 3) lv (.int (iI (σ 59 0)) :: st) σ) : G pc lv (.ref (w.2.2 17) :: st) σ := r_bd hX fun hB => r_getI hX hd (i := 17) (r := 59) rfl rfl in_X3 (k := 7) (by decide) rfl lk_RX3_45 (kk (hB 59 0 12 rfl 0).1 (hB 59 0 12 rfl 0).2)
theorem fp_X17_45 (hX : Cx SX l w cc nL ret RX3 R P G) (hd : decode cc pc = .ok (.putfield 45, 3)) (hv : 0 ≤ z ∧ z ≤ 12) (kk : ∀ σ1 : MM, Mod [59] σ σ1 → σ1 59 0 = z → G (pc + 3) lv st σ1) : G pc lv (.int (iI z) :: .ref (w.2.2 17) :: st) σ := r_putI hX hd (i := 17) (r := 59) rfl rfl in_X3 tyX3 tyX3_ok nmX3 (k := 7) (by decide) rfl lk_RX3_45 rfl (by decide +kernel) sp_X59 (by decide +kernel) (fun lo hi h => by
    have e : (some (some ((0 : Int), (12 : Int))) : Option (Option (Int × Int))) = some (some (lo, hi)) := h
    cases e
    exact hv) (kk _ Mod.up (by rw [up_at]; rfl))
theorem fg_X17_35 (hX : Cx SX l w cc nL ret RX3 R P G) (hd : decode cc pc = .ok (.getfield 35, 3)) (kk : 0 ≤ σ 60 0 → σ 60 0 ≤ 20000 → G (pc + 3) lv (.int (iI (σ 60 0)) :: st) σ) : G pc lv (.ref (w.2.2 17) :: st) σ := r_bd hX fun hB => r_getI hX hd (i := 17) (r := 60) rfl rfl in_X3 (k := 8) (by decide) rfl lk_RX3_35 (kk (hB 60 0 20000 rfl 0).1 (hB 60 0 20000 rfl 0).2)
theorem fp_X17_35 (hX : Cx SX l w cc nL ret RX3 R P G) (hd : decode cc pc = .ok (.putfield 35, 3)) (hv : 0 ≤ z ∧ z ≤ 20000) (kk : ∀ σ1 : MM, Mod [60] σ σ1 → σ1 60 0 = z → G (pc + 3) lv st σ1) : G pc lv (.int (iI z) :: .ref (w.2.2 17) :: st) σ := r_putI hX hd (i := 17) (r := 60) rfl rfl in_X3 tyX3 tyX3_ok nmX3 (k := 8) (by decide) rfl lk_RX3_35 rfl (by decide +kernel) sp_X60 (by decide +kernel) (fun lo hi h => by
    have e : (some (some ((0 : Int), (20000 : Int))) : Option (Option (Int × Int))) = some (some (lo, hi)) := h
    cases e
    exact hv) (kk _ Mod.up (by rw [up_at]; rfl))
theorem fg_X23_15 (hX : Cx SX l w cc nL ret RX4 R P G) (hd : decode cc pc = .ok (.getfield 15, 3)) (kk : G (pc + 3) lv (.ref (w.2.2 1) :: st) σ) : G pc lv (.ref (w.2.2 23) :: st) σ := r_getR hX hd (i := 23) (j := 1) rfl rfl in_X4 (k := 0) (by decide) rfl lk_RX4_15 kk
theorem fg_X23_9 (hX : Cx SX l w cc nL ret RX4 R P G) (hd : decode cc pc = .ok (.getfield 9, 3)) (kk : G (pc + 3) lv (.ref (w.2.2 24) :: st) σ) : G pc lv (.ref (w.2.2 23) :: st) σ := r_getR hX hd (i := 23) (j := 24) rfl rfl in_X4 (k := 1) (by decide) rfl lk_RX4_9 kk
theorem fg_X25_15 (hX : Cx SX l w cc nL ret RX4 R P G) (hd : decode cc pc = .ok (.getfield 15, 3)) (kk : G (pc + 3) lv (.ref (w.2.2 1) :: st) σ) : G pc lv (.ref (w.2.2 25) :: st) σ := r_getR hX hd (i := 25) (j := 1) rfl rfl in_X4 (k := 0) (by decide) rfl lk_RX4_15 kk
theorem fg_X25_9 (hX : Cx SX l w cc nL ret RX4 R P G) (hd : decode cc pc = .ok (.getfield 9, 3)) (kk : G (pc + 3) lv (.ref (w.2.2 26) :: st) σ) : G pc lv (.ref (w.2.2 25) :: st) σ := r_getR hX hd (i := 25) (j := 26) rfl rfl in_X4 (k := 1) (by decide) rfl lk_RX4_9 kk
theorem fg_X27_7 (hX : Cx SX l w cc nL ret RX6 R P G) (hd : decode cc pc = .ok (.getfield 7, 3)) (kk : G (pc + 3) lv (.ref (w.2.2 28) :: st) σ) : G pc lv (.ref (w.2.2 27) :: st) σ := r_getR hX hd (i := 27) (j := 28) rfl rfl in_X6 (k := 0) (by decide) rfl lk_RX6_7 kk
theorem fg_X27_13 (hX : Cx SX l w cc nL ret RX6 R P G) (hd : decode cc pc = .ok (.getfield 13, 3)) (kk : G (pc + 3) lv (.ref (w.2.2 29) :: st) σ) : G pc lv (.ref (w.2.2 27) :: st) σ := r_getR hX hd (i := 27) (j := 29) rfl rfl in_X6 (k := 1) (by decide) rfl lk_RX6_13 kk
theorem fg_X27_16 (hX : Cx SX l w cc nL ret RX6 R P G) (hd : decode cc pc = .ok (.getfield 16, 3)) (kk : G (pc + 3) lv (.ref (w.2.2 30) :: st) σ) : G pc lv (.ref (w.2.2 27) :: st) σ := r_getR hX hd (i := 27) (j := 30) rfl rfl in_X6 (k := 2) (by decide) rfl lk_RX6_16 kk
theorem fg_X27_19 (hX : Cx SX l w cc nL ret RX6 R P G) (hd : decode cc pc = .ok (.getfield 19, 3)) (kk : G (pc + 3) lv (.ref (w.2.2 31) :: st) σ) : G pc lv (.ref (w.2.2 27) :: st) σ := r_getR hX hd (i := 27) (j := 31) rfl rfl in_X6 (k := 3) (by decide) rfl lk_RX6_19 kk
theorem fg_X27_22 (hX : Cx SX l w cc nL ret RX6 R P G) (hd : decode cc pc = .ok (.getfield 22, 3)) (kk : G (pc + 3) lv (.ref (w.2.2 32) :: st) σ) : G pc lv (.ref (w.2.2 27) :: st) σ := r_getR hX hd (i := 27) (j := 32) rfl rfl in_X6 (k := 4) (by decide) rfl lk_RX6_22 kk
theorem fg_X27_72 (hX : Cx SX l w cc nL ret RX6 R P G) (hd : decode cc pc = .ok (.getfield 72, 3)) (kk : 0 ≤ σ 61 0 → σ 61 0 ≤ 8 → G (pc + 3) lv (.int (iI (σ 61 0)) :: st) σ) : G pc lv (.ref (w.2.2 27) :: st) σ := r_bd hX fun hB => r_getI hX hd (i := 27) (r := 61) rfl rfl in_X6 (k := 5) (by decide) rfl lk_RX6_72 (kk (hB 61 0 8 rfl 0).1 (hB 61 0 8 rfl 0).2)
theorem fp_X27_72 (hX : Cx SX l w cc nL ret RX6 R P G) (hd : decode cc pc = .ok (.putfield 72, 3)) (hv : 0 ≤ z ∧ z ≤ 8) (kk : ∀ σ1 : MM, Mod [61] σ σ1 → σ1 61 0 = z → G (pc + 3) lv st σ1) : G pc lv (.int (iI z) :: .ref (w.2.2 27) :: st) σ := r_putI hX hd (i := 27) (r := 61) rfl rfl in_X6 tyX6 tyX6_ok nmX6 (k := 5) (by decide) rfl lk_RX6_72 rfl (by decide +kernel) sp_X61 (by decide +kernel) (fun lo hi h => by
    have e : (some (some ((0 : Int), (8 : Int))) : Option (Option (Int × Int))) = some (some (lo, hi)) := h
    cases e
    exact hv) (kk _ Mod.up (by rw [up_at]; rfl))
theorem fg_X27_99 (hX : Cx SX l w cc nL ret RX6 R P G) (hd : decode cc pc = .ok (.getfield 99, 3)) (kk : G (pc + 3) lv (.int (iI (σ 62 0)) :: st) σ) : G pc lv (.ref (w.2.2 27) :: st) σ := r_getI hX hd (i := 27) (r := 62) rfl rfl in_X6 (k := 6) (by decide) rfl lk_RX6_99 kk
theorem fp_X27_99 (hX : Cx SX l w cc nL ret RX6 R P G) (hd : decode cc pc = .ok (.putfield 99, 3)) (kk : ∀ σ1 : MM, Mod [62] σ σ1 → σ1 62 0 = z → G (pc + 3) lv st σ1) : G pc lv (.int (iI z) :: .ref (w.2.2 27) :: st) σ := r_putI hX hd (i := 27) (r := 62) rfl rfl in_X6 tyX6 tyX6_ok nmX6 (k := 6) (by decide) rfl lk_RX6_99 rfl (by decide +kernel) sp_X62 (by decide +kernel) (fun lo hi h => by
    have e : (some none : Option (Option (Int × Int))) = some (some (lo, hi)) := h
    cases e) (kk _ Mod.up (by rw [up_at]; rfl))
theorem fg_X27_79 (hX : Cx SX l w cc nL ret RX6 R P G) (hd : decode cc pc = .ok (.getfield 79, 3)) (kk : 0 ≤ σ 63 0 → σ 63 0 ≤ 12 → G (pc + 3) lv (.int (iI (σ 63 0)) :: st) σ) : G pc lv (.ref (w.2.2 27) :: st) σ := r_bd hX fun hB => r_getI hX hd (i := 27) (r := 63) rfl rfl in_X6 (k := 7) (by decide) rfl lk_RX6_79 (kk (hB 63 0 12 rfl 0).1 (hB 63 0 12 rfl 0).2)
theorem fp_X27_79 (hX : Cx SX l w cc nL ret RX6 R P G) (hd : decode cc pc = .ok (.putfield 79, 3)) (hv : 0 ≤ z ∧ z ≤ 12) (kk : ∀ σ1 : MM, Mod [63] σ σ1 → σ1 63 0 = z → G (pc + 3) lv st σ1) : G pc lv (.int (iI z) :: .ref (w.2.2 27) :: st) σ := r_putI hX hd (i := 27) (r := 63) rfl rfl in_X6 tyX6 tyX6_ok nmX6 (k := 7) (by decide) rfl lk_RX6_79 rfl (by decide +kernel) sp_X63 (by decide +kernel) (fun lo hi h => by
    have e : (some (some ((0 : Int), (12 : Int))) : Option (Option (Int × Int))) = some (some (lo, hi)) := h
    cases e
    exact hv) (kk _ Mod.up (by rw [up_at]; rfl))
theorem fg_X27_82 (hX : Cx SX l w cc nL ret RX6 R P G) (hd : decode cc pc = .ok (.getfield 82, 3)) (kk : 0 ≤ σ 64 0 → σ 64 0 ≤ 60 → G (pc + 3) lv (.int (iI (σ 64 0)) :: st) σ) : G pc lv (.ref (w.2.2 27) :: st) σ := r_bd hX fun hB => r_getI hX hd (i := 27) (r := 64) rfl rfl in_X6 (k := 8) (by decide) rfl lk_RX6_82 (kk (hB 64 0 60 rfl 0).1 (hB 64 0 60 rfl 0).2)
theorem fp_X27_82 (hX : Cx SX l w cc nL ret RX6 R P G) (hd : decode cc pc = .ok (.putfield 82, 3)) (hv : 0 ≤ z ∧ z ≤ 60) (kk : ∀ σ1 : MM, Mod [64] σ σ1 → σ1 64 0 = z → G (pc + 3) lv st σ1) : G pc lv (.int (iI z) :: .ref (w.2.2 27) :: st) σ := r_putI hX hd (i := 27) (r := 64) rfl rfl in_X6 tyX6 tyX6_ok nmX6 (k := 8) (by decide) rfl lk_RX6_82 rfl (by decide +kernel) sp_X64 (by decide +kernel) (fun lo hi h => by
    have e : (some (some ((0 : Int), (60 : Int))) : Option (Option (Int × Int))) = some (some (lo, hi)) := h
    cases e
    exact hv) (kk _ Mod.up (by rw [up_at]; rfl))
theorem fg_X27_25 (hX : Cx SX l w cc nL ret RX6 R P G) (hd : decode cc pc = .ok (.getfield 25, 3)) (kk : G (pc + 3) lv (.ref (w.2.2 33) :: st) σ) : G pc lv (.ref (w.2.2 27) :: st) σ := r_getR hX hd (i := 27) (j := 33) rfl rfl in_X6 (k := 9) (by decide) rfl lk_RX6_25 kk
theorem fg_X27_29 (hX : Cx SX l w cc nL ret RX6 R P G) (hd : decode cc pc = .ok (.getfield 29, 3)) (kk : G (pc + 3) lv (.ref (w.2.2 34) :: st) σ) : G pc lv (.ref (w.2.2 27) :: st) σ := r_getR hX hd (i := 27) (j := 34) rfl rfl in_X6 (k := 10) (by decide) rfl lk_RX6_29 kk
theorem fg_X27_32 (hX : Cx SX l w cc nL ret RX6 R P G) (hd : decode cc pc = .ok (.getfield 32, 3)) (kk : 1 ≤ σ 65 0 → σ 65 0 ≤ 3 → G (pc + 3) lv (.int (iI (σ 65 0)) :: st) σ) : G pc lv (.ref (w.2.2 27) :: st) σ := r_bd hX fun hB => r_getI hX hd (i := 27) (r := 65) rfl rfl in_X6 (k := 11) (by decide) rfl lk_RX6_32 (kk (hB 65 1 3 rfl 0).1 (hB 65 1 3 rfl 0).2)
theorem fp_X27_32 (hX : Cx SX l w cc nL ret RX6 R P G) (hd : decode cc pc = .ok (.putfield 32, 3)) (hv : 1 ≤ z ∧ z ≤ 3) (kk : ∀ σ1 : MM, Mod [65] σ σ1 → σ1 65 0 = z → G (pc + 3) lv st σ1) : G pc lv (.int (iI z) :: .ref (w.2.2 27) :: st) σ := r_putI hX hd (i := 27) (r := 65) rfl rfl in_X6 tyX6 tyX6_ok nmX6 (k := 11) (by decide) rfl lk_RX6_32 rfl (by decide +kernel) sp_X65 (by decide +kernel) (fun lo hi h => by
    have e : (some (some ((1 : Int), (3 : Int))) : Option (Option (Int × Int))) = some (some (lo, hi)) := h
    cases e
    exact hv) (kk _ Mod.up (by rw [up_at]; rfl))
theorem fg_X27_36 (hX : Cx SX l w cc nL ret RX6 R P G) (hd : decode cc pc = .ok (.getfield 36, 3)) (kk : 1 ≤ σ 66 0 → σ 66 0 ≤ 3 → G (pc + 3) lv (.int (iI (σ 66 0)) :: st) σ) : G pc lv (.ref (w.2.2 27) :: st) σ := r_bd hX fun hB => r_getI hX hd (i := 27) (r := 66) rfl rfl in_X6 (k := 12) (by decide) rfl lk_RX6_36 (kk (hB 66 1 3 rfl 0).1 (hB 66 1 3 rfl 0).2)
theorem fp_X27_36 (hX : Cx SX l w cc nL ret RX6 R P G) (hd : decode cc pc = .ok (.putfield 36, 3)) (hv : 1 ≤ z ∧ z ≤ 3) (kk : ∀ σ1 : MM, Mod [66] σ σ1 → σ1 66 0 = z → G (pc + 3) lv st σ1) : G pc lv (.int (iI z) :: .ref (w.2.2 27) :: st) σ := r_putI hX hd (i := 27) (r := 66) rfl rfl in_X6 tyX6 tyX6_ok nmX6 (k := 12) (by decide) rfl lk_RX6_36 rfl (by decide +kernel) sp_X66 (by decide +kernel) (fun lo hi h => by
    have e : (some (some ((1 : Int), (3 : Int))) : Option (Option (Int × Int))) = some (some (lo, hi)) := h
    cases e
    exact hv) (kk _ Mod.up (by rw [up_at]; rfl))
theorem fg_X27_39 (hX : Cx SX l w cc nL ret RX6 R P G) (hd : decode cc pc = .ok (.getfield 39, 3)) (kk : G (pc + 3) lv (.ref (w.2.2 35) :: st) σ) : G pc lv (.ref (w.2.2 27) :: st) σ := r_getR hX hd (i := 27) (j := 35) rfl rfl in_X6 (k := 13) (by decide) rfl lk_RX6_39 kk
theorem fg_X27_42 (hX : Cx SX l w cc nL ret RX6 R P G) (hd : decode cc pc = .ok (.getfield 42, 3)) (kk : G (pc + 3) lv (.ref (w.2.2 36) :: st) σ) : G pc lv (.ref (w.2.2 27) :: st) σ := r_getR hX hd (i := 27) (j := 36) rfl rfl in_X6 (k := 14) (by decide) rfl lk_RX6_42 kk
theorem fg_X27_45 (hX : Cx SX l w cc nL ret RX6 R P G) (hd : decode cc pc = .ok (.getfield 45, 3)) (kk : G (pc + 3) lv (.ref (w.2.2 37) :: st) σ) : G pc lv (.ref (w.2.2 27) :: st) σ := r_getR hX hd (i := 27) (j := 37) rfl rfl in_X6 (k := 15) (by decide) rfl lk_RX6_45 kk
theorem fg_X27_48 (hX : Cx SX l w cc nL ret RX6 R P G) (hd : decode cc pc = .ok (.getfield 48, 3)) (kk : G (pc + 3) lv (.ref (w.2.2 38) :: st) σ) : G pc lv (.ref (w.2.2 27) :: st) σ := r_getR hX hd (i := 27) (j := 38) rfl rfl in_X6 (k := 16) (by decide) rfl lk_RX6_48 kk
theorem fg_X27_51 (hX : Cx SX l w cc nL ret RX6 R P G) (hd : decode cc pc = .ok (.getfield 51, 3)) (kk : G (pc + 3) lv (.ref (w.2.2 39) :: st) σ) : G pc lv (.ref (w.2.2 27) :: st) σ := r_getR hX hd (i := 27) (j := 39) rfl rfl in_X6 (k := 17) (by decide) rfl lk_RX6_51 kk
theorem fg_X27_54 (hX : Cx SX l w cc nL ret RX6 R P G) (hd : decode cc pc = .ok (.getfield 54, 3)) (kk : G (pc + 3) lv (.ref (w.2.2 40) :: st) σ) : G pc lv (.ref (w.2.2 27) :: st) σ := r_getR hX hd (i := 27) (j := 40) rfl rfl in_X6 (k := 18) (by decide) rfl lk_RX6_54 kk
theorem fg_X27_183 (hX : Cx SX l w cc nL ret RX6 R P G) (hd : decode cc pc = .ok (.getfield 183, 3)) (kk : G (pc + 3) lv (.int (iI (σ 67 0)) :: st) σ) : G pc lv (.ref (w.2.2 27) :: st) σ := r_getI hX hd (i := 27) (r := 67) rfl rfl in_X6 (k := 19) (by decide) rfl lk_RX6_183 kk
theorem fp_X27_183 (hX : Cx SX l w cc nL ret RX6 R P G) (hd : decode cc pc = .ok (.putfield 183, 3)) (kk : ∀ σ1 : MM, Mod [67] σ σ1 → σ1 67 0 = z → G (pc + 3) lv st σ1) : G pc lv (.int (iI z) :: .ref (w.2.2 27) :: st) σ := r_putI hX hd (i := 27) (r := 67) rfl rfl in_X6 tyX6 tyX6_ok nmX6 (k := 19) (by decide) rfl lk_RX6_183 rfl (by decide +kernel) sp_X67 (by decide +kernel) (fun lo hi h => by
    have e : (some none : Option (Option (Int × Int))) = some (some (lo, hi)) := h
    cases e) (kk _ Mod.up (by rw [up_at]; rfl))
theorem fg_X27_57 (hX : Cx SX l w cc nL ret RX6 R P G) (hd : decode cc pc = .ok (.getfield 57, 3)) (kk : G (pc + 3) lv (.ref (w.2.2 41) :: st) σ) : G pc lv (.ref (w.2.2 27) :: st) σ := r_getR hX hd (i := 27) (j := 41) rfl rfl in_X6 (k := 20) (by decide) rfl lk_RX6_57 kk
theorem fg_X27_60 (hX : Cx SX l w cc nL ret RX6 R P G) (hd : decode cc pc = .ok (.getfield 60, 3)) (kk : G (pc + 3) lv (.ref (w.2.2 42) :: st) σ) : G pc lv (.ref (w.2.2 27) :: st) σ := r_getR hX hd (i := 27) (j := 42) rfl rfl in_X6 (k := 21) (by decide) rfl lk_RX6_60 kk
theorem fg_X27_63 (hX : Cx SX l w cc nL ret RX6 R P G) (hd : decode cc pc = .ok (.getfield 63, 3)) (kk : G (pc + 3) lv (.ref (w.2.2 43) :: st) σ) : G pc lv (.ref (w.2.2 27) :: st) σ := r_getR hX hd (i := 27) (j := 43) rfl rfl in_X6 (k := 22) (by decide) rfl lk_RX6_63 kk
theorem fg_X27_66 (hX : Cx SX l w cc nL ret RX6 R P G) (hd : decode cc pc = .ok (.getfield 66, 3)) (kk : G (pc + 3) lv (.ref (w.2.2 44) :: st) σ) : G pc lv (.ref (w.2.2 27) :: st) σ := r_getR hX hd (i := 27) (j := 44) rfl rfl in_X6 (k := 23) (by decide) rfl lk_RX6_66 kk
theorem ld_G11 (hX : Cx SG l w cc nL ret own R P G) (hd : decode cc pc = .ok (.baload, 1)) (h0 : 0 ≤ a) (h1 : a < 9) (kk : 0 ≤ σ 11 a → σ 11 a ≤ 1 → G (pc + 1) lv (.int (iI (σ 11 a)) :: st) σ) : G pc lv (.int (iI a) :: .ref (w.2.2 1) :: st) σ := r_bd hX fun hB => r_zald hX hd (i := 1) (r := 11) (n := 9) rfl h0 h1 (kk (hB 11 0 1 rfl a).1 (hB 11 0 1 rfl a).2)
theorem st_G11 (hX : Cx SG l w cc nL ret own R P G) (hd : decode cc pc = .ok (.bastore, 1)) (h0 : 0 ≤ a) (h1 : a < 9) (hv : 0 ≤ z ∧ z ≤ 1) (kk : ∀ σ1 : MM, Mod [11] σ σ1 → (∀ b : Int, σ1 11 b = if b = a then z else σ 11 b) → G (pc + 1) lv st σ1) : G pc lv (.int (iI z) :: .int (iI a) :: .ref (w.2.2 1) :: st) σ := r_zast hX hd (i := 1) (r := 11) (n := 9) rfl sp_G11 h0 h1 (by omega) (fun lo hi h => by
    have e : (some (some ((0 : Int), (1 : Int))) : Option (Option (Int × Int))) = some (some (lo, hi)) := h
    cases e
    exact hv) (kk _ Mod.up (fun b => up_at))
theorem ld_G12 (hX : Cx SG l w cc nL ret own R P G) (hd : decode cc pc = .ok (.baload, 1)) (h0 : 0 ≤ a) (h1 : a < 9) (kk : 0 ≤ σ 12 a → σ 12 a ≤ 1 → G (pc + 1) lv (.int (iI (σ 12 a)) :: st) σ) : G pc lv (.int (iI a) :: .ref (w.2.2 2) :: st) σ := r_bd hX fun hB => r_zald hX hd (i := 2) (r := 12) (n := 9) rfl h0 h1 (kk (hB 12 0 1 rfl a).1 (hB 12 0 1 rfl a).2)
theorem st_G12 (hX : Cx SG l w cc nL ret own R P G) (hd : decode cc pc = .ok (.bastore, 1)) (h0 : 0 ≤ a) (h1 : a < 9) (hv : 0 ≤ z ∧ z ≤ 1) (kk : ∀ σ1 : MM, Mod [12] σ σ1 → (∀ b : Int, σ1 12 b = if b = a then z else σ 12 b) → G (pc + 1) lv st σ1) : G pc lv (.int (iI z) :: .int (iI a) :: .ref (w.2.2 2) :: st) σ := r_zast hX hd (i := 2) (r := 12) (n := 9) rfl sp_G12 h0 h1 (by omega) (fun lo hi h => by
    have e : (some (some ((0 : Int), (1 : Int))) : Option (Option (Int × Int))) = some (some (lo, hi)) := h
    cases e
    exact hv) (kk _ Mod.up (fun b => up_at))
theorem ld_G13 (hX : Cx SG l w cc nL ret own R P G) (hd : decode cc pc = .ok (.iaload, 1)) (h0 : 0 ≤ a) (h1 : a < 81) (kk : 0 ≤ σ 13 a → σ 13 a ≤ 1000 → G (pc + 1) lv (.int (iI (σ 13 a)) :: st) σ) : G pc lv (.int (iI a) :: .ref (w.2.2 3) :: st) σ := r_bd hX fun hB => r_iald hX hd (i := 3) (r := 13) (n := 81) rfl h0 h1 (kk (hB 13 0 1000 rfl a).1 (hB 13 0 1000 rfl a).2)
theorem st_G13 (hX : Cx SG l w cc nL ret own R P G) (hd : decode cc pc = .ok (.iastore, 1)) (h0 : 0 ≤ a) (h1 : a < 81) (hv : 0 ≤ z ∧ z ≤ 1000) (kk : ∀ σ1 : MM, Mod [13] σ σ1 → (∀ b : Int, σ1 13 b = if b = a then z else σ 13 b) → G (pc + 1) lv st σ1) : G pc lv (.int (iI z) :: .int (iI a) :: .ref (w.2.2 3) :: st) σ := r_iast hX hd (i := 3) (r := 13) (n := 81) rfl sp_G13 h0 h1 (fun lo hi h => by
    have e : (some (some ((0 : Int), (1000 : Int))) : Option (Option (Int × Int))) = some (some (lo, hi)) := h
    cases e
    exact hv) (kk _ Mod.up (fun b => up_at))
theorem fg_G10_9 (hX : Cx SG l w cc nL ret RX0 R P G) (hd : decode cc pc = .ok (.getfield 9, 3)) (kk : G (pc + 3) lv (.ref (w.2.2 1) :: st) σ) : G pc lv (.ref (w.2.2 0) :: st) σ := r_getR hX hd (i := 0) (j := 1) rfl rfl in_X0 (k := 0) (by decide) rfl lk_RX0_9 kk
theorem fg_G10_15 (hX : Cx SG l w cc nL ret RX0 R P G) (hd : decode cc pc = .ok (.getfield 15, 3)) (kk : G (pc + 3) lv (.ref (w.2.2 2) :: st) σ) : G pc lv (.ref (w.2.2 0) :: st) σ := r_getR hX hd (i := 0) (j := 2) rfl rfl in_X0 (k := 1) (by decide) rfl lk_RX0_15 kk
theorem fg_G10_18 (hX : Cx SG l w cc nL ret RX0 R P G) (hd : decode cc pc = .ok (.getfield 18, 3)) (kk : G (pc + 3) lv (.ref (w.2.2 3) :: st) σ) : G pc lv (.ref (w.2.2 0) :: st) σ := r_getR hX hd (i := 0) (j := 3) rfl rfl in_X0 (k := 2) (by decide) rfl lk_RX0_18 kk
theorem fg_G10_26 (hX : Cx SG l w cc nL ret RX0 R P G) (hd : decode cc pc = .ok (.getfield 26, 3)) (kk : 1 ≤ σ 56 0 → σ 56 0 ≤ 3 → G (pc + 3) lv (.int (iI (σ 56 0)) :: st) σ) : G pc lv (.ref (w.2.2 0) :: st) σ := r_bd hX fun hB => r_getI hX hd (i := 0) (r := 56) rfl rfl in_X0 (k := 3) (by decide) rfl lk_RX0_26 (kk (hB 56 1 3 rfl 0).1 (hB 56 1 3 rfl 0).2)
theorem fp_G10_26 (hX : Cx SG l w cc nL ret RX0 R P G) (hd : decode cc pc = .ok (.putfield 26, 3)) (hv : 1 ≤ z ∧ z ≤ 3) (kk : ∀ σ1 : MM, Mod [56] σ σ1 → σ1 56 0 = z → G (pc + 3) lv st σ1) : G pc lv (.int (iI z) :: .ref (w.2.2 0) :: st) σ := r_putI hX hd (i := 0) (r := 56) rfl rfl in_X0 tyX0 tyX0_ok nmX0 (k := 3) (by decide) rfl lk_RX0_26 rfl (by decide +kernel) sp_G56 (by decide +kernel) (fun lo hi h => by
    have e : (some (some ((1 : Int), (3 : Int))) : Option (Option (Int × Int))) = some (some (lo, hi)) := h
    cases e
    exact hv) (kk _ Mod.up (by rw [up_at]; rfl))
theorem fg_G10_30 (hX : Cx SG l w cc nL ret RX0 R P G) (hd : decode cc pc = .ok (.getfield 30, 3)) (kk : 1 ≤ σ 57 0 → σ 57 0 ≤ 3 → G (pc + 3) lv (.int (iI (σ 57 0)) :: st) σ) : G pc lv (.ref (w.2.2 0) :: st) σ := r_bd hX fun hB => r_getI hX hd (i := 0) (r := 57) rfl rfl in_X0 (k := 4) (by decide) rfl lk_RX0_30 (kk (hB 57 1 3 rfl 0).1 (hB 57 1 3 rfl 0).2)
theorem fp_G10_30 (hX : Cx SG l w cc nL ret RX0 R P G) (hd : decode cc pc = .ok (.putfield 30, 3)) (hv : 1 ≤ z ∧ z ≤ 3) (kk : ∀ σ1 : MM, Mod [57] σ σ1 → σ1 57 0 = z → G (pc + 3) lv st σ1) : G pc lv (.int (iI z) :: .ref (w.2.2 0) :: st) σ := r_putI hX hd (i := 0) (r := 57) rfl rfl in_X0 tyX0 tyX0_ok nmX0 (k := 4) (by decide) rfl lk_RX0_30 rfl (by decide +kernel) sp_G57 (by decide +kernel) (fun lo hi h => by
    have e : (some (some ((1 : Int), (3 : Int))) : Option (Option (Int × Int))) = some (some (lo, hi)) := h
    cases e
    exact hv) (kk _ Mod.up (by rw [up_at]; rfl))
theorem ld_M28 (hX : Cx SM l w cc nL ret own R P G) (hd : decode cc pc = .ok (.iaload, 1)) (h0 : 0 ≤ a) (h1 : a < 8) (kk : 0 ≤ σ 28 a → σ 28 a ≤ 5 → G (pc + 1) lv (.int (iI (σ 28 a)) :: st) σ) : G pc lv (.int (iI a) :: .ref (w.2.2 1) :: st) σ := r_bd hX fun hB => r_iald hX hd (i := 1) (r := 28) (n := 8) rfl h0 h1 (kk (hB 28 0 5 rfl a).1 (hB 28 0 5 rfl a).2)
theorem st_M28 (hX : Cx SM l w cc nL ret own R P G) (hd : decode cc pc = .ok (.iastore, 1)) (h0 : 0 ≤ a) (h1 : a < 8) (hv : 0 ≤ z ∧ z ≤ 5) (kk : ∀ σ1 : MM, Mod [28] σ σ1 → (∀ b : Int, σ1 28 b = if b = a then z else σ 28 b) → G (pc + 1) lv st σ1) : G pc lv (.int (iI z) :: .int (iI a) :: .ref (w.2.2 1) :: st) σ := r_iast hX hd (i := 1) (r := 28) (n := 8) rfl sp_M28 h0 h1 (fun lo hi h => by
    have e : (some (some ((0 : Int), (5 : Int))) : Option (Option (Int × Int))) = some (some (lo, hi)) := h
    cases e
    exact hv) (kk _ Mod.up (fun b => up_at))
theorem ld_M29 (hX : Cx SM l w cc nL ret own R P G) (hd : decode cc pc = .ok (.iaload, 1)) (h0 : 0 ≤ a) (h1 : a < 16) (kk : 0 ≤ σ 29 a → σ 29 a ≤ 7 → G (pc + 1) lv (.int (iI (σ 29 a)) :: st) σ) : G pc lv (.int (iI a) :: .ref (w.2.2 2) :: st) σ := r_bd hX fun hB => r_iald hX hd (i := 2) (r := 29) (n := 16) rfl h0 h1 (kk (hB 29 0 7 rfl a).1 (hB 29 0 7 rfl a).2)
theorem st_M29 (hX : Cx SM l w cc nL ret own R P G) (hd : decode cc pc = .ok (.iastore, 1)) (h0 : 0 ≤ a) (h1 : a < 16) (hv : 0 ≤ z ∧ z ≤ 7) (kk : ∀ σ1 : MM, Mod [29] σ σ1 → (∀ b : Int, σ1 29 b = if b = a then z else σ 29 b) → G (pc + 1) lv st σ1) : G pc lv (.int (iI z) :: .int (iI a) :: .ref (w.2.2 2) :: st) σ := r_iast hX hd (i := 2) (r := 29) (n := 16) rfl sp_M29 h0 h1 (fun lo hi h => by
    have e : (some (some ((0 : Int), (7 : Int))) : Option (Option (Int × Int))) = some (some (lo, hi)) := h
    cases e
    exact hv) (kk _ Mod.up (fun b => up_at))
theorem ld_M30 (hX : Cx SM l w cc nL ret own R P G) (hd : decode cc pc = .ok (.iaload, 1)) (h0 : 0 ≤ a) (h1 : a < 16) (kk : 0 ≤ σ 30 a → σ 30 a ≤ 3 → G (pc + 1) lv (.int (iI (σ 30 a)) :: st) σ) : G pc lv (.int (iI a) :: .ref (w.2.2 3) :: st) σ := r_bd hX fun hB => r_iald hX hd (i := 3) (r := 30) (n := 16) rfl h0 h1 (kk (hB 30 0 3 rfl a).1 (hB 30 0 3 rfl a).2)
theorem st_M30 (hX : Cx SM l w cc nL ret own R P G) (hd : decode cc pc = .ok (.iastore, 1)) (h0 : 0 ≤ a) (h1 : a < 16) (hv : 0 ≤ z ∧ z ≤ 3) (kk : ∀ σ1 : MM, Mod [30] σ σ1 → (∀ b : Int, σ1 30 b = if b = a then z else σ 30 b) → G (pc + 1) lv st σ1) : G pc lv (.int (iI z) :: .int (iI a) :: .ref (w.2.2 3) :: st) σ := r_iast hX hd (i := 3) (r := 30) (n := 16) rfl sp_M30 h0 h1 (fun lo hi h => by
    have e : (some (some ((0 : Int), (3 : Int))) : Option (Option (Int × Int))) = some (some (lo, hi)) := h
    cases e
    exact hv) (kk _ Mod.up (fun b => up_at))
theorem ld_M31 (hX : Cx SM l w cc nL ret own R P G) (hd : decode cc pc = .ok (.iaload, 1)) (h0 : 0 ≤ a) (h1 : a < 8) (kk : G (pc + 1) lv (.int (iI (σ 31 a)) :: st) σ) : G pc lv (.int (iI a) :: .ref (w.2.2 4) :: st) σ := r_iald hX hd (i := 4) (r := 31) (n := 8) rfl h0 h1 kk
theorem st_M31 (hX : Cx SM l w cc nL ret own R P G) (hd : decode cc pc = .ok (.iastore, 1)) (h0 : 0 ≤ a) (h1 : a < 8) (kk : ∀ σ1 : MM, Mod [31] σ σ1 → (∀ b : Int, σ1 31 b = if b = a then z else σ 31 b) → G (pc + 1) lv st σ1) : G pc lv (.int (iI z) :: .int (iI a) :: .ref (w.2.2 4) :: st) σ := r_iast hX hd (i := 4) (r := 31) (n := 8) rfl sp_M31 h0 h1 (fun lo hi h => by
    have e : (some none : Option (Option (Int × Int))) = some (some (lo, hi)) := h
    cases e) (kk _ Mod.up (fun b => up_at))
theorem ld_M32 (hX : Cx SM l w cc nL ret own R P G) (hd : decode cc pc = .ok (.iaload, 1)) (h0 : 0 ≤ a) (h1 : a < 8) (kk : G (pc + 1) lv (.int (iI (σ 32 a)) :: st) σ) : G pc lv (.int (iI a) :: .ref (w.2.2 5) :: st) σ := r_iald hX hd (i := 5) (r := 32) (n := 8) rfl h0 h1 kk
theorem st_M32 (hX : Cx SM l w cc nL ret own R P G) (hd : decode cc pc = .ok (.iastore, 1)) (h0 : 0 ≤ a) (h1 : a < 8) (kk : ∀ σ1 : MM, Mod [32] σ σ1 → (∀ b : Int, σ1 32 b = if b = a then z else σ 32 b) → G (pc + 1) lv st σ1) : G pc lv (.int (iI z) :: .int (iI a) :: .ref (w.2.2 5) :: st) σ := r_iast hX hd (i := 5) (r := 32) (n := 8) rfl sp_M32 h0 h1 (fun lo hi h => by
    have e : (some none : Option (Option (Int × Int))) = some (some (lo, hi)) := h
    cases e) (kk _ Mod.up (fun b => up_at))
theorem ld_M33 (hX : Cx SM l w cc nL ret own R P G) (hd : decode cc pc = .ok (.baload, 1)) (h0 : 0 ≤ a) (h1 : a < 8) (kk : 0 ≤ σ 33 a → σ 33 a ≤ 1 → G (pc + 1) lv (.int (iI (σ 33 a)) :: st) σ) : G pc lv (.int (iI a) :: .ref (w.2.2 6) :: st) σ := r_bd hX fun hB => r_zald hX hd (i := 6) (r := 33) (n := 8) rfl h0 h1 (kk (hB 33 0 1 rfl a).1 (hB 33 0 1 rfl a).2)
theorem st_M33 (hX : Cx SM l w cc nL ret own R P G) (hd : decode cc pc = .ok (.bastore, 1)) (h0 : 0 ≤ a) (h1 : a < 8) (hv : 0 ≤ z ∧ z ≤ 1) (kk : ∀ σ1 : MM, Mod [33] σ σ1 → (∀ b : Int, σ1 33 b = if b = a then z else σ 33 b) → G (pc + 1) lv st σ1) : G pc lv (.int (iI z) :: .int (iI a) :: .ref (w.2.2 6) :: st) σ := r_zast hX hd (i := 6) (r := 33) (n := 8) rfl sp_M33 h0 h1 (by omega) (fun lo hi h => by
    have e : (some (some ((0 : Int), (1 : Int))) : Option (Option (Int × Int))) = some (some (lo, hi)) := h
    cases e
    exact hv) (kk _ Mod.up (fun b => up_at))
theorem ld_M34 (hX : Cx SM l w cc nL ret own R P G) (hd : decode cc pc = .ok (.iaload, 1)) (h0 : 0 ≤ a) (h1 : a < 488) (kk : G (pc + 1) lv (.int (iI (σ 34 a)) :: st) σ) : G pc lv (.int (iI a) :: .ref (w.2.2 7) :: st) σ := r_iald hX hd (i := 7) (r := 34) (n := 488) rfl h0 h1 kk
theorem st_M34 (hX : Cx SM l w cc nL ret own R P G) (hd : decode cc pc = .ok (.iastore, 1)) (h0 : 0 ≤ a) (h1 : a < 488) (kk : ∀ σ1 : MM, Mod [34] σ σ1 → (∀ b : Int, σ1 34 b = if b = a then z else σ 34 b) → G (pc + 1) lv st σ1) : G pc lv (.int (iI z) :: .int (iI a) :: .ref (w.2.2 7) :: st) σ := r_iast hX hd (i := 7) (r := 34) (n := 488) rfl sp_M34 h0 h1 (fun lo hi h => by
    have e : (some none : Option (Option (Int × Int))) = some (some (lo, hi)) := h
    cases e) (kk _ Mod.up (fun b => up_at))
theorem ld_M35 (hX : Cx SM l w cc nL ret own R P G) (hd : decode cc pc = .ok (.baload, 1)) (h0 : 0 ≤ a) (h1 : a < 9) (kk : 0 ≤ σ 35 a → σ 35 a ≤ 1 → G (pc + 1) lv (.int (iI (σ 35 a)) :: st) σ) : G pc lv (.int (iI a) :: .ref (w.2.2 8) :: st) σ := r_bd hX fun hB => r_zald hX hd (i := 8) (r := 35) (n := 9) rfl h0 h1 (kk (hB 35 0 1 rfl a).1 (hB 35 0 1 rfl a).2)
theorem st_M35 (hX : Cx SM l w cc nL ret own R P G) (hd : decode cc pc = .ok (.bastore, 1)) (h0 : 0 ≤ a) (h1 : a < 9) (hv : 0 ≤ z ∧ z ≤ 1) (kk : ∀ σ1 : MM, Mod [35] σ σ1 → (∀ b : Int, σ1 35 b = if b = a then z else σ 35 b) → G (pc + 1) lv st σ1) : G pc lv (.int (iI z) :: .int (iI a) :: .ref (w.2.2 8) :: st) σ := r_zast hX hd (i := 8) (r := 35) (n := 9) rfl sp_M35 h0 h1 (by omega) (fun lo hi h => by
    have e : (some (some ((0 : Int), (1 : Int))) : Option (Option (Int × Int))) = some (some (lo, hi)) := h
    cases e
    exact hv) (kk _ Mod.up (fun b => up_at))
theorem ld_M36 (hX : Cx SM l w cc nL ret own R P G) (hd : decode cc pc = .ok (.baload, 1)) (h0 : 0 ≤ a) (h1 : a < 9) (kk : 0 ≤ σ 36 a → σ 36 a ≤ 1 → G (pc + 1) lv (.int (iI (σ 36 a)) :: st) σ) : G pc lv (.int (iI a) :: .ref (w.2.2 9) :: st) σ := r_bd hX fun hB => r_zald hX hd (i := 9) (r := 36) (n := 9) rfl h0 h1 (kk (hB 36 0 1 rfl a).1 (hB 36 0 1 rfl a).2)
theorem st_M36 (hX : Cx SM l w cc nL ret own R P G) (hd : decode cc pc = .ok (.bastore, 1)) (h0 : 0 ≤ a) (h1 : a < 9) (hv : 0 ≤ z ∧ z ≤ 1) (kk : ∀ σ1 : MM, Mod [36] σ σ1 → (∀ b : Int, σ1 36 b = if b = a then z else σ 36 b) → G (pc + 1) lv st σ1) : G pc lv (.int (iI z) :: .int (iI a) :: .ref (w.2.2 9) :: st) σ := r_zast hX hd (i := 9) (r := 36) (n := 9) rfl sp_M36 h0 h1 (by omega) (fun lo hi h => by
    have e : (some (some ((0 : Int), (1 : Int))) : Option (Option (Int × Int))) = some (some (lo, hi)) := h
    cases e
    exact hv) (kk _ Mod.up (fun b => up_at))
theorem ld_M37 (hX : Cx SM l w cc nL ret own R P G) (hd : decode cc pc = .ok (.iaload, 1)) (h0 : 0 ≤ a) (h1 : a < 9) (kk : 0 ≤ σ 37 a → σ 37 a ≤ 1000 → G (pc + 1) lv (.int (iI (σ 37 a)) :: st) σ) : G pc lv (.int (iI a) :: .ref (w.2.2 10) :: st) σ := r_bd hX fun hB => r_iald hX hd (i := 10) (r := 37) (n := 9) rfl h0 h1 (kk (hB 37 0 1000 rfl a).1 (hB 37 0 1000 rfl a).2)
theorem st_M37 (hX : Cx SM l w cc nL ret own R P G) (hd : decode cc pc = .ok (.iastore, 1)) (h0 : 0 ≤ a) (h1 : a < 9) (hv : 0 ≤ z ∧ z ≤ 1000) (kk : ∀ σ1 : MM, Mod [37] σ σ1 → (∀ b : Int, σ1 37 b = if b = a then z else σ 37 b) → G (pc + 1) lv st σ1) : G pc lv (.int (iI z) :: .int (iI a) :: .ref (w.2.2 10) :: st) σ := r_iast hX hd (i := 10) (r := 37) (n := 9) rfl sp_M37 h0 h1 (fun lo hi h => by
    have e : (some (some ((0 : Int), (1000 : Int))) : Option (Option (Int × Int))) = some (some (lo, hi)) := h
    cases e
    exact hv) (kk _ Mod.up (fun b => up_at))
theorem ld_M38 (hX : Cx SM l w cc nL ret own R P G) (hd : decode cc pc = .ok (.iaload, 1)) (h0 : 0 ≤ a) (h1 : a < 8) (kk : 0 ≤ σ 38 a → σ 38 a ≤ 8 → G (pc + 1) lv (.int (iI (σ 38 a)) :: st) σ) : G pc lv (.int (iI a) :: .ref (w.2.2 11) :: st) σ := r_bd hX fun hB => r_iald hX hd (i := 11) (r := 38) (n := 8) rfl h0 h1 (kk (hB 38 0 8 rfl a).1 (hB 38 0 8 rfl a).2)
theorem st_M38 (hX : Cx SM l w cc nL ret own R P G) (hd : decode cc pc = .ok (.iastore, 1)) (h0 : 0 ≤ a) (h1 : a < 8) (hv : 0 ≤ z ∧ z ≤ 8) (kk : ∀ σ1 : MM, Mod [38] σ σ1 → (∀ b : Int, σ1 38 b = if b = a then z else σ 38 b) → G (pc + 1) lv st σ1) : G pc lv (.int (iI z) :: .int (iI a) :: .ref (w.2.2 11) :: st) σ := r_iast hX hd (i := 11) (r := 38) (n := 8) rfl sp_M38 h0 h1 (fun lo hi h => by
    have e : (some (some ((0 : Int), (8 : Int))) : Option (Option (Int × Int))) = some (some (lo, hi)) := h
    cases e
    exact hv) (kk _ Mod.up (fun b => up_at))
theorem ld_M39 (hX : Cx SM l w cc nL ret own R P G) (hd : decode cc pc = .ok (.iaload, 1)) (h0 : 0 ≤ a) (h1 : a < 8) (kk : 0 ≤ σ 39 a → σ 39 a ≤ 20000000 → G (pc + 1) lv (.int (iI (σ 39 a)) :: st) σ) : G pc lv (.int (iI a) :: .ref (w.2.2 12) :: st) σ := r_bd hX fun hB => r_iald hX hd (i := 12) (r := 39) (n := 8) rfl h0 h1 (kk (hB 39 0 20000000 rfl a).1 (hB 39 0 20000000 rfl a).2)
theorem st_M39 (hX : Cx SM l w cc nL ret own R P G) (hd : decode cc pc = .ok (.iastore, 1)) (h0 : 0 ≤ a) (h1 : a < 8) (hv : 0 ≤ z ∧ z ≤ 20000000) (kk : ∀ σ1 : MM, Mod [39] σ σ1 → (∀ b : Int, σ1 39 b = if b = a then z else σ 39 b) → G (pc + 1) lv st σ1) : G pc lv (.int (iI z) :: .int (iI a) :: .ref (w.2.2 12) :: st) σ := r_iast hX hd (i := 12) (r := 39) (n := 8) rfl sp_M39 h0 h1 (fun lo hi h => by
    have e : (some (some ((0 : Int), (20000000 : Int))) : Option (Option (Int × Int))) = some (some (lo, hi)) := h
    cases e
    exact hv) (kk _ Mod.up (fun b => up_at))
theorem ld_M40 (hX : Cx SM l w cc nL ret own R P G) (hd : decode cc pc = .ok (.iaload, 1)) (h0 : 0 ≤ a) (h1 : a < 8) (kk : G (pc + 1) lv (.int (iI (σ 40 a)) :: st) σ) : G pc lv (.int (iI a) :: .ref (w.2.2 13) :: st) σ := r_iald hX hd (i := 13) (r := 40) (n := 8) rfl h0 h1 kk
theorem st_M40 (hX : Cx SM l w cc nL ret own R P G) (hd : decode cc pc = .ok (.iastore, 1)) (h0 : 0 ≤ a) (h1 : a < 8) (kk : ∀ σ1 : MM, Mod [40] σ σ1 → (∀ b : Int, σ1 40 b = if b = a then z else σ 40 b) → G (pc + 1) lv st σ1) : G pc lv (.int (iI z) :: .int (iI a) :: .ref (w.2.2 13) :: st) σ := r_iast hX hd (i := 13) (r := 40) (n := 8) rfl sp_M40 h0 h1 (fun lo hi h => by
    have e : (some none : Option (Option (Int × Int))) = some (some (lo, hi)) := h
    cases e) (kk _ Mod.up (fun b => up_at))
theorem ld_M41 (hX : Cx SM l w cc nL ret own R P G) (hd : decode cc pc = .ok (.iaload, 1)) (h0 : 0 ≤ a) (h1 : a < 8) (kk : 0 ≤ σ 41 a → σ 41 a ≤ 8 → G (pc + 1) lv (.int (iI (σ 41 a)) :: st) σ) : G pc lv (.int (iI a) :: .ref (w.2.2 14) :: st) σ := r_bd hX fun hB => r_iald hX hd (i := 14) (r := 41) (n := 8) rfl h0 h1 (kk (hB 41 0 8 rfl a).1 (hB 41 0 8 rfl a).2)
theorem st_M41 (hX : Cx SM l w cc nL ret own R P G) (hd : decode cc pc = .ok (.iastore, 1)) (h0 : 0 ≤ a) (h1 : a < 8) (hv : 0 ≤ z ∧ z ≤ 8) (kk : ∀ σ1 : MM, Mod [41] σ σ1 → (∀ b : Int, σ1 41 b = if b = a then z else σ 41 b) → G (pc + 1) lv st σ1) : G pc lv (.int (iI z) :: .int (iI a) :: .ref (w.2.2 14) :: st) σ := r_iast hX hd (i := 14) (r := 41) (n := 8) rfl sp_M41 h0 h1 (fun lo hi h => by
    have e : (some (some ((0 : Int), (8 : Int))) : Option (Option (Int × Int))) = some (some (lo, hi)) := h
    cases e
    exact hv) (kk _ Mod.up (fun b => up_at))
theorem ld_M42 (hX : Cx SM l w cc nL ret own R P G) (hd : decode cc pc = .ok (.iaload, 1)) (h0 : 0 ≤ a) (h1 : a < 8) (kk : 0 ≤ σ 42 a → σ 42 a ≤ 11 → G (pc + 1) lv (.int (iI (σ 42 a)) :: st) σ) : G pc lv (.int (iI a) :: .ref (w.2.2 15) :: st) σ := r_bd hX fun hB => r_iald hX hd (i := 15) (r := 42) (n := 8) rfl h0 h1 (kk (hB 42 0 11 rfl a).1 (hB 42 0 11 rfl a).2)
theorem st_M42 (hX : Cx SM l w cc nL ret own R P G) (hd : decode cc pc = .ok (.iastore, 1)) (h0 : 0 ≤ a) (h1 : a < 8) (hv : 0 ≤ z ∧ z ≤ 11) (kk : ∀ σ1 : MM, Mod [42] σ σ1 → (∀ b : Int, σ1 42 b = if b = a then z else σ 42 b) → G (pc + 1) lv st σ1) : G pc lv (.int (iI z) :: .int (iI a) :: .ref (w.2.2 15) :: st) σ := r_iast hX hd (i := 15) (r := 42) (n := 8) rfl sp_M42 h0 h1 (fun lo hi h => by
    have e : (some (some ((0 : Int), (11 : Int))) : Option (Option (Int × Int))) = some (some (lo, hi)) := h
    cases e
    exact hv) (kk _ Mod.up (fun b => up_at))
theorem ld_M43 (hX : Cx SM l w cc nL ret own R P G) (hd : decode cc pc = .ok (.iaload, 1)) (h0 : 0 ≤ a) (h1 : a < 8) (kk : 0 ≤ σ 43 a → σ 43 a ≤ 200000 → G (pc + 1) lv (.int (iI (σ 43 a)) :: st) σ) : G pc lv (.int (iI a) :: .ref (w.2.2 16) :: st) σ := r_bd hX fun hB => r_iald hX hd (i := 16) (r := 43) (n := 8) rfl h0 h1 (kk (hB 43 0 200000 rfl a).1 (hB 43 0 200000 rfl a).2)
theorem st_M43 (hX : Cx SM l w cc nL ret own R P G) (hd : decode cc pc = .ok (.iastore, 1)) (h0 : 0 ≤ a) (h1 : a < 8) (hv : 0 ≤ z ∧ z ≤ 200000) (kk : ∀ σ1 : MM, Mod [43] σ σ1 → (∀ b : Int, σ1 43 b = if b = a then z else σ 43 b) → G (pc + 1) lv st σ1) : G pc lv (.int (iI z) :: .int (iI a) :: .ref (w.2.2 16) :: st) σ := r_iast hX hd (i := 16) (r := 43) (n := 8) rfl sp_M43 h0 h1 (fun lo hi h => by
    have e : (some (some ((0 : Int), (200000 : Int))) : Option (Option (Int × Int))) = some (some (lo, hi)) := h
    cases e
    exact hv) (kk _ Mod.up (fun b => up_at))
theorem ld_M44 (hX : Cx SM l w cc nL ret own R P G) (hd : decode cc pc = .ok (.iaload, 1)) (h0 : 0 ≤ a) (h1 : a < 81) (kk : 0 ≤ σ 44 a → σ 44 a ≤ 1000 → G (pc + 1) lv (.int (iI (σ 44 a)) :: st) σ) : G pc lv (.int (iI a) :: .ref (w.2.2 17) :: st) σ := r_bd hX fun hB => r_iald hX hd (i := 17) (r := 44) (n := 81) rfl h0 h1 (kk (hB 44 0 1000 rfl a).1 (hB 44 0 1000 rfl a).2)
theorem st_M44 (hX : Cx SM l w cc nL ret own R P G) (hd : decode cc pc = .ok (.iastore, 1)) (h0 : 0 ≤ a) (h1 : a < 81) (hv : 0 ≤ z ∧ z ≤ 1000) (kk : ∀ σ1 : MM, Mod [44] σ σ1 → (∀ b : Int, σ1 44 b = if b = a then z else σ 44 b) → G (pc + 1) lv st σ1) : G pc lv (.int (iI z) :: .int (iI a) :: .ref (w.2.2 17) :: st) σ := r_iast hX hd (i := 17) (r := 44) (n := 81) rfl sp_M44 h0 h1 (fun lo hi h => by
    have e : (some (some ((0 : Int), (1000 : Int))) : Option (Option (Int × Int))) = some (some (lo, hi)) := h
    cases e
    exact hv) (kk _ Mod.up (fun b => up_at))
theorem fg_M27_7 (hX : Cx SM l w cc nL ret RX6 R P G) (hd : decode cc pc = .ok (.getfield 7, 3)) (kk : G (pc + 3) lv (.ref (w.2.2 1) :: st) σ) : G pc lv (.ref (w.2.2 0) :: st) σ := r_getR hX hd (i := 0) (j := 1) rfl rfl in_X6 (k := 0) (by decide) rfl lk_RX6_7 kk
theorem fg_M27_13 (hX : Cx SM l w cc nL ret RX6 R P G) (hd : decode cc pc = .ok (.getfield 13, 3)) (kk : G (pc + 3) lv (.ref (w.2.2 2) :: st) σ) : G pc lv (.ref (w.2.2 0) :: st) σ := r_getR hX hd (i := 0) (j := 2) rfl rfl in_X6 (k := 1) (by decide) rfl lk_RX6_13 kk
theorem fg_M27_16 (hX : Cx SM l w cc nL ret RX6 R P G) (hd : decode cc pc = .ok (.getfield 16, 3)) (kk : G (pc + 3) lv (.ref (w.2.2 3) :: st) σ) : G pc lv (.ref (w.2.2 0) :: st) σ := r_getR hX hd (i := 0) (j := 3) rfl rfl in_X6 (k := 2) (by decide) rfl lk_RX6_16 kk
theorem fg_M27_19 (hX : Cx SM l w cc nL ret RX6 R P G) (hd : decode cc pc = .ok (.getfield 19, 3)) (kk : G (pc + 3) lv (.ref (w.2.2 4) :: st) σ) : G pc lv (.ref (w.2.2 0) :: st) σ := r_getR hX hd (i := 0) (j := 4) rfl rfl in_X6 (k := 3) (by decide) rfl lk_RX6_19 kk
theorem fg_M27_22 (hX : Cx SM l w cc nL ret RX6 R P G) (hd : decode cc pc = .ok (.getfield 22, 3)) (kk : G (pc + 3) lv (.ref (w.2.2 5) :: st) σ) : G pc lv (.ref (w.2.2 0) :: st) σ := r_getR hX hd (i := 0) (j := 5) rfl rfl in_X6 (k := 4) (by decide) rfl lk_RX6_22 kk
theorem fg_M27_72 (hX : Cx SM l w cc nL ret RX6 R P G) (hd : decode cc pc = .ok (.getfield 72, 3)) (kk : 0 ≤ σ 61 0 → σ 61 0 ≤ 8 → G (pc + 3) lv (.int (iI (σ 61 0)) :: st) σ) : G pc lv (.ref (w.2.2 0) :: st) σ := r_bd hX fun hB => r_getI hX hd (i := 0) (r := 61) rfl rfl in_X6 (k := 5) (by decide) rfl lk_RX6_72 (kk (hB 61 0 8 rfl 0).1 (hB 61 0 8 rfl 0).2)
theorem fp_M27_72 (hX : Cx SM l w cc nL ret RX6 R P G) (hd : decode cc pc = .ok (.putfield 72, 3)) (hv : 0 ≤ z ∧ z ≤ 8) (kk : ∀ σ1 : MM, Mod [61] σ σ1 → σ1 61 0 = z → G (pc + 3) lv st σ1) : G pc lv (.int (iI z) :: .ref (w.2.2 0) :: st) σ := r_putI hX hd (i := 0) (r := 61) rfl rfl in_X6 tyX6 tyX6_ok nmX6 (k := 5) (by decide) rfl lk_RX6_72 rfl (by decide +kernel) sp_M61 (by decide +kernel) (fun lo hi h => by
    have e : (some (some ((0 : Int), (8 : Int))) : Option (Option (Int × Int))) = some (some (lo, hi)) := h
    cases e
    exact hv) (kk _ Mod.up (by rw [up_at]; rfl))
theorem fg_M27_99 (hX : Cx SM l w cc nL ret RX6 R P G) (hd : decode cc pc = .ok (.getfield 99, 3)) (kk : G (pc + 3) lv (.int (iI (σ 62 0)) :: st) σ) : G pc lv (.ref (w.2.2 0) :: st) σ := r_getI hX hd (i := 0) (r := 62) rfl rfl in_X6 (k := 6) (by decide) rfl lk_RX6_99 kk
theorem fp_M27_99 (hX : Cx SM l w cc nL ret RX6 R P G) (hd : decode cc pc = .ok (.putfield 99, 3)) (kk : ∀ σ1 : MM, Mod [62] σ σ1 → σ1 62 0 = z → G (pc + 3) lv st σ1) : G pc lv (.int (iI z) :: .ref (w.2.2 0) :: st) σ := r_putI hX hd (i := 0) (r := 62) rfl rfl in_X6 tyX6 tyX6_ok nmX6 (k := 6) (by decide) rfl lk_RX6_99 rfl (by decide +kernel) sp_M62 (by decide +kernel) (fun lo hi h => by
    have e : (some none : Option (Option (Int × Int))) = some (some (lo, hi)) := h
    cases e) (kk _ Mod.up (by rw [up_at]; rfl))
theorem fg_M27_79 (hX : Cx SM l w cc nL ret RX6 R P G) (hd : decode cc pc = .ok (.getfield 79, 3)) (kk : 0 ≤ σ 63 0 → σ 63 0 ≤ 12 → G (pc + 3) lv (.int (iI (σ 63 0)) :: st) σ) : G pc lv (.ref (w.2.2 0) :: st) σ := r_bd hX fun hB => r_getI hX hd (i := 0) (r := 63) rfl rfl in_X6 (k := 7) (by decide) rfl lk_RX6_79 (kk (hB 63 0 12 rfl 0).1 (hB 63 0 12 rfl 0).2)
theorem fp_M27_79 (hX : Cx SM l w cc nL ret RX6 R P G) (hd : decode cc pc = .ok (.putfield 79, 3)) (hv : 0 ≤ z ∧ z ≤ 12) (kk : ∀ σ1 : MM, Mod [63] σ σ1 → σ1 63 0 = z → G (pc + 3) lv st σ1) : G pc lv (.int (iI z) :: .ref (w.2.2 0) :: st) σ := r_putI hX hd (i := 0) (r := 63) rfl rfl in_X6 tyX6 tyX6_ok nmX6 (k := 7) (by decide) rfl lk_RX6_79 rfl (by decide +kernel) sp_M63 (by decide +kernel) (fun lo hi h => by
    have e : (some (some ((0 : Int), (12 : Int))) : Option (Option (Int × Int))) = some (some (lo, hi)) := h
    cases e
    exact hv) (kk _ Mod.up (by rw [up_at]; rfl))
theorem fg_M27_82 (hX : Cx SM l w cc nL ret RX6 R P G) (hd : decode cc pc = .ok (.getfield 82, 3)) (kk : 0 ≤ σ 64 0 → σ 64 0 ≤ 60 → G (pc + 3) lv (.int (iI (σ 64 0)) :: st) σ) : G pc lv (.ref (w.2.2 0) :: st) σ := r_bd hX fun hB => r_getI hX hd (i := 0) (r := 64) rfl rfl in_X6 (k := 8) (by decide) rfl lk_RX6_82 (kk (hB 64 0 60 rfl 0).1 (hB 64 0 60 rfl 0).2)
theorem fp_M27_82 (hX : Cx SM l w cc nL ret RX6 R P G) (hd : decode cc pc = .ok (.putfield 82, 3)) (hv : 0 ≤ z ∧ z ≤ 60) (kk : ∀ σ1 : MM, Mod [64] σ σ1 → σ1 64 0 = z → G (pc + 3) lv st σ1) : G pc lv (.int (iI z) :: .ref (w.2.2 0) :: st) σ := r_putI hX hd (i := 0) (r := 64) rfl rfl in_X6 tyX6 tyX6_ok nmX6 (k := 8) (by decide) rfl lk_RX6_82 rfl (by decide +kernel) sp_M64 (by decide +kernel) (fun lo hi h => by
    have e : (some (some ((0 : Int), (60 : Int))) : Option (Option (Int × Int))) = some (some (lo, hi)) := h
    cases e
    exact hv) (kk _ Mod.up (by rw [up_at]; rfl))
theorem fg_M27_25 (hX : Cx SM l w cc nL ret RX6 R P G) (hd : decode cc pc = .ok (.getfield 25, 3)) (kk : G (pc + 3) lv (.ref (w.2.2 6) :: st) σ) : G pc lv (.ref (w.2.2 0) :: st) σ := r_getR hX hd (i := 0) (j := 6) rfl rfl in_X6 (k := 9) (by decide) rfl lk_RX6_25 kk
theorem fg_M27_29 (hX : Cx SM l w cc nL ret RX6 R P G) (hd : decode cc pc = .ok (.getfield 29, 3)) (kk : G (pc + 3) lv (.ref (w.2.2 7) :: st) σ) : G pc lv (.ref (w.2.2 0) :: st) σ := r_getR hX hd (i := 0) (j := 7) rfl rfl in_X6 (k := 10) (by decide) rfl lk_RX6_29 kk
theorem fg_M27_32 (hX : Cx SM l w cc nL ret RX6 R P G) (hd : decode cc pc = .ok (.getfield 32, 3)) (kk : 1 ≤ σ 65 0 → σ 65 0 ≤ 3 → G (pc + 3) lv (.int (iI (σ 65 0)) :: st) σ) : G pc lv (.ref (w.2.2 0) :: st) σ := r_bd hX fun hB => r_getI hX hd (i := 0) (r := 65) rfl rfl in_X6 (k := 11) (by decide) rfl lk_RX6_32 (kk (hB 65 1 3 rfl 0).1 (hB 65 1 3 rfl 0).2)
theorem fp_M27_32 (hX : Cx SM l w cc nL ret RX6 R P G) (hd : decode cc pc = .ok (.putfield 32, 3)) (hv : 1 ≤ z ∧ z ≤ 3) (kk : ∀ σ1 : MM, Mod [65] σ σ1 → σ1 65 0 = z → G (pc + 3) lv st σ1) : G pc lv (.int (iI z) :: .ref (w.2.2 0) :: st) σ := r_putI hX hd (i := 0) (r := 65) rfl rfl in_X6 tyX6 tyX6_ok nmX6 (k := 11) (by decide) rfl lk_RX6_32 rfl (by decide +kernel) sp_M65 (by decide +kernel) (fun lo hi h => by
    have e : (some (some ((1 : Int), (3 : Int))) : Option (Option (Int × Int))) = some (some (lo, hi)) := h
    cases e
    exact hv) (kk _ Mod.up (by rw [up_at]; rfl))
theorem fg_M27_36 (hX : Cx SM l w cc nL ret RX6 R P G) (hd : decode cc pc = .ok (.getfield 36, 3)) (kk : 1 ≤ σ 66 0 → σ 66 0 ≤ 3 → G (pc + 3) lv (.int (iI (σ 66 0)) :: st) σ) : G pc lv (.ref (w.2.2 0) :: st) σ := r_bd hX fun hB => r_getI hX hd (i := 0) (r := 66) rfl rfl in_X6 (k := 12) (by decide) rfl lk_RX6_36 (kk (hB 66 1 3 rfl 0).1 (hB 66 1 3 rfl 0).2)
theorem fp_M27_36 (hX : Cx SM l w cc nL ret RX6 R P G) (hd : decode cc pc = .ok (.putfield 36, 3)) (hv : 1 ≤ z ∧ z ≤ 3) (kk : ∀ σ1 : MM, Mod [66] σ σ1 → σ1 66 0 = z → G (pc + 3) lv st σ1) : G pc lv (.int (iI z) :: .ref (w.2.2 0) :: st) σ := r_putI hX hd (i := 0) (r := 66) rfl rfl in_X6 tyX6 tyX6_ok nmX6 (k := 12) (by decide) rfl lk_RX6_36 rfl (by decide +kernel) sp_M66 (by decide +kernel) (fun lo hi h => by
    have e : (some (some ((1 : Int), (3 : Int))) : Option (Option (Int × Int))) = some (some (lo, hi)) := h
    cases e
    exact hv) (kk _ Mod.up (by rw [up_at]; rfl))
theorem fg_M27_39 (hX : Cx SM l w cc nL ret RX6 R P G) (hd : decode cc pc = .ok (.getfield 39, 3)) (kk : G (pc + 3) lv (.ref (w.2.2 8) :: st) σ) : G pc lv (.ref (w.2.2 0) :: st) σ := r_getR hX hd (i := 0) (j := 8) rfl rfl in_X6 (k := 13) (by decide) rfl lk_RX6_39 kk
theorem fg_M27_42 (hX : Cx SM l w cc nL ret RX6 R P G) (hd : decode cc pc = .ok (.getfield 42, 3)) (kk : G (pc + 3) lv (.ref (w.2.2 9) :: st) σ) : G pc lv (.ref (w.2.2 0) :: st) σ := r_getR hX hd (i := 0) (j := 9) rfl rfl in_X6 (k := 14) (by decide) rfl lk_RX6_42 kk
theorem fg_M27_45 (hX : Cx SM l w cc nL ret RX6 R P G) (hd : decode cc pc = .ok (.getfield 45, 3)) (kk : G (pc + 3) lv (.ref (w.2.2 10) :: st) σ) : G pc lv (.ref (w.2.2 0) :: st) σ := r_getR hX hd (i := 0) (j := 10) rfl rfl in_X6 (k := 15) (by decide) rfl lk_RX6_45 kk
theorem fg_M27_48 (hX : Cx SM l w cc nL ret RX6 R P G) (hd : decode cc pc = .ok (.getfield 48, 3)) (kk : G (pc + 3) lv (.ref (w.2.2 11) :: st) σ) : G pc lv (.ref (w.2.2 0) :: st) σ := r_getR hX hd (i := 0) (j := 11) rfl rfl in_X6 (k := 16) (by decide) rfl lk_RX6_48 kk
theorem fg_M27_51 (hX : Cx SM l w cc nL ret RX6 R P G) (hd : decode cc pc = .ok (.getfield 51, 3)) (kk : G (pc + 3) lv (.ref (w.2.2 12) :: st) σ) : G pc lv (.ref (w.2.2 0) :: st) σ := r_getR hX hd (i := 0) (j := 12) rfl rfl in_X6 (k := 17) (by decide) rfl lk_RX6_51 kk
theorem fg_M27_54 (hX : Cx SM l w cc nL ret RX6 R P G) (hd : decode cc pc = .ok (.getfield 54, 3)) (kk : G (pc + 3) lv (.ref (w.2.2 13) :: st) σ) : G pc lv (.ref (w.2.2 0) :: st) σ := r_getR hX hd (i := 0) (j := 13) rfl rfl in_X6 (k := 18) (by decide) rfl lk_RX6_54 kk
theorem fg_M27_183 (hX : Cx SM l w cc nL ret RX6 R P G) (hd : decode cc pc = .ok (.getfield 183, 3)) (kk : G (pc + 3) lv (.int (iI (σ 67 0)) :: st) σ) : G pc lv (.ref (w.2.2 0) :: st) σ := r_getI hX hd (i := 0) (r := 67) rfl rfl in_X6 (k := 19) (by decide) rfl lk_RX6_183 kk
theorem fp_M27_183 (hX : Cx SM l w cc nL ret RX6 R P G) (hd : decode cc pc = .ok (.putfield 183, 3)) (kk : ∀ σ1 : MM, Mod [67] σ σ1 → σ1 67 0 = z → G (pc + 3) lv st σ1) : G pc lv (.int (iI z) :: .ref (w.2.2 0) :: st) σ := r_putI hX hd (i := 0) (r := 67) rfl rfl in_X6 tyX6 tyX6_ok nmX6 (k := 19) (by decide) rfl lk_RX6_183 rfl (by decide +kernel) sp_M67 (by decide +kernel) (fun lo hi h => by
    have e : (some none : Option (Option (Int × Int))) = some (some (lo, hi)) := h
    cases e) (kk _ Mod.up (by rw [up_at]; rfl))
theorem fg_M27_57 (hX : Cx SM l w cc nL ret RX6 R P G) (hd : decode cc pc = .ok (.getfield 57, 3)) (kk : G (pc + 3) lv (.ref (w.2.2 14) :: st) σ) : G pc lv (.ref (w.2.2 0) :: st) σ := r_getR hX hd (i := 0) (j := 14) rfl rfl in_X6 (k := 20) (by decide) rfl lk_RX6_57 kk
theorem fg_M27_60 (hX : Cx SM l w cc nL ret RX6 R P G) (hd : decode cc pc = .ok (.getfield 60, 3)) (kk : G (pc + 3) lv (.ref (w.2.2 15) :: st) σ) : G pc lv (.ref (w.2.2 0) :: st) σ := r_getR hX hd (i := 0) (j := 15) rfl rfl in_X6 (k := 21) (by decide) rfl lk_RX6_60 kk
theorem fg_M27_63 (hX : Cx SM l w cc nL ret RX6 R P G) (hd : decode cc pc = .ok (.getfield 63, 3)) (kk : G (pc + 3) lv (.ref (w.2.2 16) :: st) σ) : G pc lv (.ref (w.2.2 0) :: st) σ := r_getR hX hd (i := 0) (j := 16) rfl rfl in_X6 (k := 22) (by decide) rfl lk_RX6_63 kk
theorem fg_M27_66 (hX : Cx SM l w cc nL ret RX6 R P G) (hd : decode cc pc = .ok (.getfield 66, 3)) (kk : G (pc + 3) lv (.ref (w.2.2 17) :: st) σ) : G pc lv (.ref (w.2.2 0) :: st) σ := r_getR hX hd (i := 0) (j := 17) rfl rfl in_X6 (k := 23) (by decide) rfl lk_RX6_66 kk
end WORLD
end
section
/-! PURE: sums of flags; what comes of ordering acts -/
def sm (f : Int → Int) : Nat → Int
  | 0 => 0
  | n + 1 => sm f n + f n
theorem sm_congr {f g : Int → Int} : ∀ (n : Nat), (∀ k : Int, 0 ≤ k → k < n → f k = g k) → sm f n = sm g n
  | 0, _ => rfl
  | n + 1, h => by
    rw [sm, sm, sm_congr n (fun k h0 h1 => h k h0 (by omega)), h n (by omega) (by omega)]
theorem sm_bd {f : Int → Int} : ∀ (n : Nat), (∀ k : Int, 0 ≤ k → k < n → f k = 0 ∨ f k = 1) → 0 ≤ sm f n ∧ sm f n ≤ n
  | 0, _ => by simp [sm]
  | n + 1, h => by
    have h1 := sm_bd n (fun k h0 h1 => h k h0 (by omega))
    have h2 := h n (by omega) (by omega)
    rw [sm]
    omega
theorem sm_lt {f : Int → Int} : ∀ (n : Nat), (∀ k : Int, 0 ≤ k → k < n → f k = 0 ∨ f k = 1) → ∀ a : Int, 0 ≤ a → a < n → f a = 0 → sm f n < n
  | 0, _, a, h0, h1, _ => by omega
  | n + 1, h, a, h0, h1, ha => by
    have h2 := h n (by omega) (by omega)
    have h3 := sm_bd n (fun k h0 h1 => h k h0 (by omega))
    rw [sm]
    by_cases e : a = n
    · subst e
      omega
    · have := sm_lt n (fun k h0 h1 => h k h0 (by omega)) a h0 (by omega) ha
      omega
theorem sm_all {f : Int → Int} (n : Nat) (h : ∀ k : Int, 0 ≤ k → k < n → f k = 0 ∨ f k = 1) (hs : sm f n = n) (a : Int) (h0 : 0 ≤ a) (h1 : a < n) : f a = 1 := by
  rcases h a h0 h1 with q | q
  · have := sm_lt n h a h0 h1 q
    omega
  · exact q
theorem sm_one {f : Int → Int} : ∀ (n : Nat), (∀ k : Int, 0 ≤ k → k < n → f k = 1) → sm f n = n
  | 0, _ => by simp [sm]
  | n + 1, h => by
    rw [sm, sm_one n (fun k h0 h1 => h k h0 (by omega)), h n (by omega) (by omega)]
    omega
theorem sm_zero {f : Int → Int} : ∀ (n : Nat), (∀ k : Int, 0 ≤ k → k < n → f k = 0) → sm f n = 0
  | 0, _ => by simp [sm]
  | n + 1, h => by
    rw [sm, sm_zero n (fun k h0 h1 => h k h0 (by omega)), h n (by omega) (by omega)]
    omega
theorem sm_up {f g : Int → Int} {a : Int} (hg : ∀ b, g b = if b = a then 1 else f b) (ha : f a = 0) : ∀ (n : Nat), 0 ≤ a → sm g n = sm f n + (if a < n then 1 else 0)
  | 0, h0 => by
    simp only [sm]
    rw [if_neg (by omega)]
    rfl
  | n + 1, h0 => by
    rw [sm, sm, sm_up hg ha n h0, hg n]
    by_cases e : (n : Int) = a
    · rw [if_pos e, if_neg (by omega), if_pos (by omega)]
      rw [e, ha]
    · rw [if_neg e]
      by_cases q : a < (n : Int)
      · rw [if_pos q, if_pos (by omega)]
        omega
      · rw [if_neg q, if_neg (by omega)]
        omega
/-- an operand's value can be had behind the acts of flags o -/
def CF (src dist : Int → Int) (c : Int) (o : Int → Int) (s : Int) : Prop := src s = -6 ∨ (0 ≤ src s ∧ src s < c ∧ (0 < dist s ∨ o (src s) = 1))
def CF2 (src dist : Int → Int) (c : Int) (o : Int → Int) (a : Int) : Prop := CF src dist c o (2 * a) ∧ CF src dist c o (2 * a + 1)
theorem CF.mono {src dist : Int → Int} {c : Int} {o o1 : Int → Int} {s : Int} (h : CF src dist c o s) (hm : ∀ a, 0 ≤ a → a < c → o a = 1 → o1 a = 1) : CF src dist c o1 s := by
  rcases h with h | ⟨h1, h2, h3⟩
  · exact Or.inl h
  · refine Or.inr ⟨h1, h2, ?_⟩
    rcases h3 with h3 | h3
    · exact Or.inl h3
    · exact Or.inr (hm _ h1 h2 h3)
theorem CF2.mono {src dist : Int → Int} {c : Int} {o o1 : Int → Int} {a : Int} (h : CF2 src dist c o a) (hm : ∀ a, 0 ≤ a → a < c → o a = 1 → o1 a = 1) : CF2 src dist c o1 a := ⟨h.1.mono hm, h.2.mono hm⟩
def Dep (src dist : Int → Int) (c : Int) (ord : Int → Int) (i s : Int) : Prop := src s = -6 ∨ (0 ≤ src s ∧ src s < c ∧ (0 < dist s ∨ ∃ j, 0 ≤ j ∧ j < i ∧ ord j = src s))
theorem Dep.up {src dist : Int → Int} {c : Int} {ord ord1 : Int → Int} {i s : Int} (h : Dep src dist c ord i s) (he : ∀ j, 0 ≤ j → j < i → ord1 j = ord j) : Dep src dist c ord1 i s := by
  rcases h with h | ⟨h1, h2, h3⟩
  · exact Or.inl h
  · refine Or.inr ⟨h1, h2, ?_⟩
    rcases h3 with h3 | ⟨j, j1, j2, j3⟩
    · exact Or.inl h3
    · exact Or.inr ⟨j, j1, j2, by rw [he j j1 j2]; exact j3⟩
def AR (src dist : Int → Int) (c : Int) (ord o : Int → Int) (n : Int) : Prop :=
  (0 ≤ n ∧ n ≤ c ∧ n = sm o c.toNat) ∧ (∀ a, 0 ≤ a → a < c → o a = 0 ∨ o a = 1) ∧
  (∀ i, 0 ≤ i → i < n → 0 ≤ ord i ∧ ord i < c ∧ o (ord i) = 1 ∧ Dep src dist c ord i (2 * ord i) ∧ Dep src dist c ord i (2 * ord i + 1)) ∧
  (∀ a, 0 ≤ a → a < c → o a = 1 → ∃ i, 0 ≤ i ∧ i < n ∧ ord i = a) ∧ (∀ i j, 0 ≤ i → i < j → j < n → ord i ≠ ord j)
def Stuck (src dist : Int → Int) (c : Int) (o : Int → Int) : Prop := ∀ a, 0 ≤ a → a < c → o a = 0 → ¬ CF2 src dist c o a
theorem AR.init {src dist : Int → Int} {c : Int} {ord o : Int → Int} (hc : 0 ≤ c) (h : ∀ a, 0 ≤ a → a < c → o a = 0) : AR src dist c ord o 0 := by
  refine ⟨⟨by omega, hc, ?_⟩, fun a h0 h1 => Or.inl (h a h0 h1), fun i h0 h1 => by omega, fun a h0 h1 q => ?_, fun i j h0 h1 h2 => by omega⟩
  · rw [sm_zero c.toNat (fun k h0 h1 => h k h0 (by omega))]
  · rw [h a h0 h1] at q
    omega
theorem AR.lt {src dist : Int → Int} {c : Int} {ord o : Int → Int} {n a : Int} (h : AR src dist c ord o n) (h0 : 0 ≤ a) (h1 : a < c) (ha : o a = 0) : n < c := by
  obtain ⟨⟨h2, h3, h4⟩, h5, -⟩ := h
  have := sm_lt c.toNat (fun k k0 k1 => h5 k k0 (by omega)) a h0 (by omega) ha
  omega
theorem AR.add {src dist : Int → Int} {c : Int} {ord o ord1 o1 : Int → Int} {n a : Int} (h : AR src dist c ord o n) (h0 : 0 ≤ a) (h1 : a < c) (ha : o a = 0) (hf : CF2 src dist c o a)
    (ho : ∀ b, o1 b = if b = a then 1 else o b) (hr : ∀ b, ord1 b = if b = n then a else ord b) : AR src dist c ord1 o1 (n + 1) := by
  have hlt := h.lt h0 h1 ha
  obtain ⟨⟨h2, h3, h4⟩, h5, h6, h7, h8⟩ := h
  have dep : ∀ s, CF src dist c o s → Dep src dist c ord1 n s := by
    intro s hs
    rcases hs with hs | ⟨g1, g2, g3⟩
    · exact Or.inl hs
    · refine Or.inr ⟨g1, g2, ?_⟩
      rcases g3 with g3 | g3
      · exact Or.inl g3
      · obtain ⟨j, j1, j2, j3⟩ := h7 _ g1 g2 g3
        exact Or.inr ⟨j, j1, j2, by rw [hr, if_neg (by omega)]; exact j3⟩
  refine ⟨⟨by omega, by omega, ?_⟩, fun b b0 b1 => ?_, fun i i0 i1 => ?_, fun b b0 b1 hb => ?_, fun i j i0 ij j1 => ?_⟩
  · rw [sm_up ho ha c.toNat h0, if_pos (by omega)]
    omega
  · rw [ho]
    split
    · exact Or.inr rfl
    · exact h5 b b0 b1
  · by_cases e : i = n
    · subst e
      have e1 : ord1 i = a := by rw [hr, if_pos rfl]
      rw [e1]
      exact ⟨h0, h1, by rw [ho, if_pos rfl], dep _ hf.1, dep _ hf.2⟩
    · have e1 : ord1 i = ord i := by rw [hr, if_neg e]
      rw [e1]
      obtain ⟨g1, g2, g3, g4, g5⟩ := h6 i i0 (by omega)
      have he : ∀ j, 0 ≤ j → j < i → ord1 j = ord j := fun j j0 j1 => by rw [hr, if_neg (by omega)]
      refine ⟨g1, g2, ?_, g4.up he, g5.up he⟩
      rw [ho]
      split
      · rfl
      · exact g3
  · by_cases e : b = a
    · exact ⟨n, h2, by omega, by rw [hr, if_pos rfl, e]⟩
    · rw [ho, if_neg e] at hb
      obtain ⟨i, i0, i1, i2⟩ := h7 b b0 b1 hb
      exact ⟨i, i0, by omega, by rw [hr, if_neg (by omega)]; exact i2⟩
  · rw [hr i, hr j, if_neg (by omega)]
    by_cases e : j = n
    · rw [if_pos e]
      intro q
      have g := (h6 i i0 (by omega)).2.2.1
      rw [q, ha] at g
      omega
    · rw [if_neg e]
      exact h8 i j i0 ij (by omega)
/-- within a pass that began with flags o0 and n0 acts -/
def PS (src dist : Int → Int) (c : Int) (o0 : Int → Int) (n0 act : Int) (ord o : Int → Int) (n : Int) : Prop :=
  AR src dist c ord o n ∧ n0 ≤ n ∧ (∀ a, 0 ≤ a → a < c → o0 a = 1 → o a = 1) ∧ (n = n0 → ∀ a, 0 ≤ a → a < c → o a = o0 a) ∧
  (∀ a, 0 ≤ a → a < act → a < c → o a = 0 → ¬ CF2 src dist c o0 a) ∧ (n = n0 ∨ ¬ Stuck src dist c o0)
theorem PS.init {src dist : Int → Int} {c : Int} {ord o : Int → Int} {n : Int} (h : AR src dist c ord o n) : PS src dist c o n 0 ord o n :=
  ⟨h, Int.le_refl _, fun _ _ _ q => q, fun _ _ _ _ => rfl, fun a h0 h1 => by omega, Or.inl rfl⟩
theorem PS.skip {src dist : Int → Int} {c : Int} {o0 : Int → Int} {n0 act : Int} {ord o : Int → Int} {n : Int} (h : PS src dist c o0 n0 act ord o n) (hs : o act ≠ 0 ∨ ¬ CF2 src dist c o act) : PS src dist c o0 n0 (act + 1) ord o n := by
  obtain ⟨h1, h2, h3, h4, h5, h6⟩ := h
  refine ⟨h1, h2, h3, h4, fun a a0 a1 a2 ha hf => ?_, h6⟩
  by_cases e : a = act
  · subst e
    rcases hs with hs | hs
    · exact hs ha
    · exact hs (hf.mono h3)
  · exact h5 a a0 (by omega) a2 ha hf
theorem PS.take {src dist : Int → Int} {c : Int} {o0 : Int → Int} {n0 act : Int} {ord o ord1 o1 : Int → Int} {n : Int} (h : PS src dist c o0 n0 act ord o n) (h0 : 0 ≤ act) (hc : act < c) (ha : o act = 0) (hf : CF2 src dist c o act)
    (ho : ∀ b, o1 b = if b = act then 1 else o b) (hr : ∀ b, ord1 b = if b = n then act else ord b) : PS src dist c o0 n0 (act + 1) ord1 o1 (n + 1) := by
  obtain ⟨h1, h2, h3, h4, h5, h6⟩ := h
  refine ⟨h1.add h0 hc ha hf ho hr, by omega, fun a a0 a1 q => ?_, fun e => by omega, fun a a0 a1 a2 q hf2 => ?_, Or.inr fun hS => ?_⟩
  · rw [ho]
    split
    · rfl
    · exact h3 a a0 a1 q
  · by_cases e : a = act
    · rw [ho, if_pos e] at q
      omega
    · rw [ho, if_neg e] at q
      exact h5 a a0 (by omega) a2 q hf2
  · rcases h6 with h6 | h6
    · have e := h4 h6
      exact hS act h0 hc (by rw [← e act h0 hc]; exact ha) (hf.mono fun a a0 a1 q => by rw [← e a a0 a1]; exact q)
    · exact h6 hS
theorem PS.fin {src dist : Int → Int} {c p : Int} {o0 : Int → Int} {n0 act : Int} {ord o : Int → Int} {n : Int} (h : PS src dist c o0 n0 act ord o n) (hc : c ≤ act) (hp : p ≤ n0 ∨ Stuck src dist c o0) : AR src dist c ord o n ∧ (p + 1 ≤ n ∨ Stuck src dist c o) := by
  obtain ⟨h1, h2, h3, h4, h5, h6⟩ := h
  refine ⟨h1, ?_⟩
  have same : n = n0 → Stuck src dist c o := fun e a a0 a1 ha hf => by
    have e1 := h4 e
    exact h5 a a0 (by omega) a1 ha (hf.mono fun b b0 b1 q => by rw [← e1 b b0 b1]; exact q)
  by_cases e : n = n0
  · exact Or.inr (same e)
  · rcases hp with hp | hp
    · exact Or.inl (by omega)
    · rcases h6 with h6 | h6
      · exact absurd h6 e
      · exact absurd hp h6
theorem AR.stuck {src dist : Int → Int} {c : Int} {ord o : Int → Int} {n : Int} (h : AR src dist c ord o n) (hp : c ≤ n ∨ Stuck src dist c o) : Stuck src dist c o := by
  rcases hp with hp | hp
  · intro a a0 a1 ha
    have := h.lt a0 a1 ha
    omega
  · exact hp
theorem cf_no {z : Int} {A : Prop} (h : (z = 1 ∧ A) ∨ (z = 0 ∧ ¬ A)) (hz : z = 0) : ¬ A := by
  rcases h with h | h
  · omega
  · exact h.2
theorem cf_yes {z : Int} {A : Prop} (h : (z = 1 ∧ A) ∨ (z = 0 ∧ ¬ A)) (hz : z ≠ 0) : A := by
  rcases h with h | h
  · exact h.2
  · exact absurd h.1 hz
end
section
/-! PURE: values pushed up by constraints, slot by slot: t (u k) + g k ≤ t (k / 2) for each slot k that counts; rounds of pushes come to rest within as many as there are acts, if there is a solution at all -/
def Sol (K : Int) (en : Int → Prop) (u g M : Int → Int) : Prop := ∀ k : Int, 0 ≤ k → k < K → en k → M (u k) + g k ≤ M (k / 2)
/-- the slots speak of acts 0 to N - 1 -/
def Wf (N K : Int) (en : Int → Prop) (u : Int → Int) : Prop := 0 ≤ N ∧ K = 2 * N ∧ ∀ k : Int, 0 ≤ k → k < K → en k → 0 ≤ u k ∧ u k < N
def PassI (N K : Int) (en : Int → Prop) (u g ts : Int → Int) (k : Int) (t : Int → Int) (grew : Int) : Prop :=
  (∀ a, 0 ≤ a → a < N → ts a ≤ t a) ∧ (grew = 0 → (∀ a, 0 ≤ a → a < N → t a = ts a) ∧ ∀ j, 0 ≤ j → j < k → j < K → en j → ts (u j) + g j ≤ ts (j / 2)) ∧
  (grew ≠ 0 → ∃ a, 0 ≤ a ∧ a < N ∧ ts a < t a) ∧
  (∀ L : Int → Int, Sol K en u g L → (∀ a, 0 ≤ a → a < N → ts a ≤ L a) → (∀ a, 0 ≤ a → a < N → t a ≤ L a) ∧ ∀ j, 0 ≤ j → j < k → j < K → en j → ts (u j) = L (u j) → L (u j) + g j = L (j / 2) → t (j / 2) = L (j / 2))
theorem PassI.init {N K : Int} {en : Int → Prop} {u g ts : Int → Int} : PassI N K en u g ts 0 ts 0 :=
  ⟨fun _ _ _ => Int.le_refl _, fun _ => ⟨fun _ _ _ => rfl, fun j h0 h1 => by omega⟩, fun h => absurd rfl h, fun L _ h => ⟨h, fun j h0 h1 => by omega⟩⟩
theorem PassI.skip {N K : Int} {en : Int → Prop} {u g ts : Int → Int} {k : Int} {t : Int → Int} {grew : Int} (hw : Wf N K en u) (h : PassI N K en u g ts k t grew) (hk : 0 ≤ k ∧ k < K) (hs : ¬ en k ∨ t (u k) + g k ≤ t (k / 2)) : PassI N K en u g ts (k + 1) t grew := by
  obtain ⟨h1, h2, h3, h4⟩ := h
  refine ⟨h1, fun e => ⟨(h2 e).1, fun j j0 j1 j2 hj => ?_⟩, h3, fun L hL hl => ⟨(h4 L hL hl).1, fun j j0 j1 j2 hj q1 q2 => ?_⟩⟩
  · by_cases e1 : j = k
    · subst e1
      rcases hs with hs | hs
      · exact absurd hj hs
      · have w := hw.2.2 j j0 j2 hj
        have e2 := (h2 e).1 (u j) w.1 w.2
        have e3 := (h2 e).1 (j / 2) (by omega) (by have := hw.2.1; omega)
        omega
    · exact (h2 e).2 j j0 (by omega) j2 hj
  · by_cases e1 : j = k
    · subst e1
      rcases hs with hs | hs
      · exact absurd hj hs
      · have w := hw.2.2 j j0 j2 hj
        have l1 := (h4 L hL hl).1 (j / 2) (by omega) (by have := hw.2.1; omega)
        have l2 := h1 (u j) w.1 w.2
        omega
    · exact (h4 L hL hl).2 j j0 (by omega) j2 hj q1 q2
theorem PassI.push {N K : Int} {en : Int → Prop} {u g ts : Int → Int} {k : Int} {t t1 : Int → Int} {grew : Int} (hw : Wf N K en u) (h : PassI N K en u g ts k t grew) (hk : 0 ≤ k ∧ k < K) (hen : en k) (hlt : t (k / 2) < t (u k) + g k)
    (ht : ∀ b, t1 b = if b = k / 2 then t (u k) + g k else t b) : PassI N K en u g ts (k + 1) t1 1 := by
  obtain ⟨h1, h2, h3, h4⟩ := h
  have w := hw.2.2 k hk.1 hk.2 hen
  have hv0 : 0 ≤ k / 2 := by omega
  have hv1 : k / 2 < N := by have := hw.2.1; omega
  have up : ∀ a, t a ≤ t1 a := fun a => by
    rw [ht]
    split
    · rename_i e
      rw [e]
      omega
    · exact Int.le_refl _
  refine ⟨fun a a0 a1 => Int.le_trans (h1 a a0 a1) (up a), fun e => by omega, fun _ => ⟨k / 2, hv0, hv1, ?_⟩, fun L hL hl => ?_⟩
  · rw [ht, if_pos rfl]
    have := h1 (k / 2) hv0 hv1
    omega
  · obtain ⟨g1, g2⟩ := h4 L hL hl
    have le1 : ∀ a, 0 ≤ a → a < N → t1 a ≤ L a := fun a a0 a1 => by
      rw [ht]
      split
      · rename_i e
        rw [e]
        have q1 := hL k hk.1 hk.2 hen
        have q2 := g1 (u k) w.1 w.2
        omega
      · exact g1 a a0 a1
    refine ⟨le1, fun j j0 j1 j2 hj q1 q2 => ?_⟩
    have w2 := hw.2.2 j j0 j2 hj
    have hj0 : 0 ≤ j / 2 := by omega
    have hj1 : j / 2 < N := by have := hw.2.1; omega
    have l1 := le1 (j / 2) hj0 hj1
    by_cases e1 : j = k
    · subst e1
      rw [ht, if_pos rfl] at l1 ⊢
      have := h1 (u j) w2.1 w2.2
      omega
    · have l2 := g2 j j0 (by omega) j2 hj q1 q2
      have := up (j / 2)
      omega
theorem PassI.sol {N K : Int} {en : Int → Prop} {u g ts : Int → Int} {k : Int} {t : Int → Int} (hw : Wf N K en u) (h : PassI N K en u g ts k t 0) (hk : K ≤ k) : Sol K en u g t := by
  intro j j0 j1 hj
  have w := hw.2.2 j j0 j1 hj
  obtain ⟨h1, h2⟩ := h.2.1 rfl
  rw [h1 _ w.1 w.2, h1 (j / 2) (by omega) (by have := hw.2.1; omega)]
  exact h2 j j0 (by omega) j1 hj
/-- how many acts stand where L has them -/
def eqn (t L : Int → Int) (N : Nat) : Int := sm (fun a => if t a = L a then 1 else 0) N
theorem sm_le {f g : Int → Int} : ∀ (n : Nat), (∀ k : Int, 0 ≤ k → k < n → f k ≤ g k) → sm f n ≤ sm g n
  | 0, _ => by simp [sm]
  | n + 1, h => by
    have h1 := sm_le n (fun k h0 h1 => h k h0 (by omega))
    have h2 := h n (by omega) (by omega)
    rw [sm, sm]
    omega
theorem sm_lt2 {f g : Int → Int} : ∀ (n : Nat), (∀ k : Int, 0 ≤ k → k < n → f k ≤ g k) → ∀ a : Int, 0 ≤ a → a < n → f a < g a → sm f n < sm g n
  | 0, _, a, h0, h1, _ => by omega
  | n + 1, h, a, h0, h1, ha => by
    have h2 := sm_le n (fun k h0 h1 => h k h0 (by omega))
    have h3 := h n (by omega) (by omega)
    rw [sm, sm]
    by_cases e : a = n
    · subst e
      omega
    · have := sm_lt2 n (fun k h0 h1 => h k h0 (by omega)) a h0 (by omega) ha
      omega
/-- the solution above t0 whose numbers together are least -/
def MinS (N K : Int) (en : Int → Prop) (u g t0 L : Int → Int) : Prop := Sol K en u g L ∧ (∀ a, 0 ≤ a → a < N → t0 a ≤ L a) ∧ ∀ M, Sol K en u g M → (∀ a, 0 ≤ a → a < N → t0 a ≤ M a) → sm L N.toNat ≤ sm M N.toNat
theorem MinS.ex {N K : Int} {en : Int → Prop} {u g t0 M : Int → Int} (hS : Sol K en u g M) (hM : ∀ a, 0 ≤ a → a < N → t0 a ≤ M a) : ∃ L, MinS N K en u g t0 L := by
  obtain ⟨k, ⟨L, h1, h2, h3⟩, h4⟩ := pk_least (fun k : Nat => ∃ L, Sol K en u g L ∧ (∀ a, 0 ≤ a → a < N → t0 a ≤ L a) ∧ sm L N.toNat - sm t0 N.toNat = (k : Int))
    ⟨(sm M N.toNat - sm t0 N.toNat).toNat, M, hS, hM, by
      have := sm_le N.toNat (f := t0) (g := M) (fun a a0 a1 => hM a a0 (by omega))
      omega⟩
  refine ⟨L, h1, h2, fun M2 hS2 hM2 => ?_⟩
  have h5 := sm_le N.toNat (f := t0) (g := M2) (fun a a0 a1 => hM2 a a0 (by omega))
  by_cases q : sm L N.toNat ≤ sm M2 N.toNat
  · exact q
  · exact absurd ⟨M2, hS2, hM2, by omega⟩ (h4 (sm M2 N.toNat - sm t0 N.toNat).toNat (by omega))
/-- while not all stand where L has them, one that doesn't is held there by one that does -/
theorem MinS.tight {N K : Int} {en : Int → Prop} {u g t0 L t : Int → Int} (hw : Wf N K en u) (h : MinS N K en u g t0 L) (h0 : ∀ a, 0 ≤ a → a < N → t0 a ≤ t a) (h1 : ∀ a, 0 ≤ a → a < N → t a ≤ L a) {b : Int} (hb0 : 0 ≤ b) (hb1 : b < N) (hb : t b ≠ L b) :
    ∃ j, 0 ≤ j ∧ j < K ∧ en j ∧ t (u j) = L (u j) ∧ L (u j) + g j = L (j / 2) ∧ t (j / 2) ≠ L (j / 2) := by
  by_cases q : ∃ j, 0 ≤ j ∧ j < K ∧ en j ∧ t (u j) = L (u j) ∧ L (u j) + g j = L (j / 2) ∧ t (j / 2) ≠ L (j / 2)
  · exact q
  · exfalso
    obtain ⟨hS, hl, hmin⟩ := h
    have key := hmin (fun a => if t a = L a then L a else L a - 1) (fun j j0 j1 hj => ?_) (fun a a0 a1 => ?_)
    · have := sm_lt2 N.toNat (f := fun a => if t a = L a then L a else L a - 1) (g := L) (fun a _ _ => by
        show (if t a = L a then L a else L a - 1) ≤ L a
        split <;> omega) b hb0 (by omega) (by
        show (if t b = L b then L b else L b - 1) < L b
        rw [if_neg hb]
        omega)
      omega
    · have w := hw.2.2 j j0 j1 hj
      have h2 := hS j j0 j1 hj
      show (if t (u j) = L (u j) then L (u j) else L (u j) - 1) + g j ≤ if t (j / 2) = L (j / 2) then L (j / 2) else L (j / 2) - 1
      by_cases c1 : t (u j) = L (u j)
      · rw [if_pos c1]
        by_cases c2 : t (j / 2) = L (j / 2)
        · rw [if_pos c2]
          exact h2
        · rw [if_neg c2]
          have : L (u j) + g j ≠ L (j / 2) := fun e => q ⟨j, j0, j1, hj, c1, e, c2⟩
          omega
      · rw [if_neg c1]
        split <;> omega
    · show t0 a ≤ if t a = L a then L a else L a - 1
      have e0 := h0 a a0 a1
      have e1 := h1 a a0 a1
      split <;> omega
/-- behind p rounds with pushes -/
def Outer (N K : Int) (en : Int → Prop) (u g t0 : Int → Int) (p : Int) (t : Int → Int) : Prop :=
  (∀ a, 0 ≤ a → a < N → t0 a ≤ t a) ∧ (∀ M, Sol K en u g M → (∀ a, 0 ≤ a → a < N → t0 a ≤ M a) → ∀ a, 0 ≤ a → a < N → t a ≤ M a) ∧ ∀ L, MinS N K en u g t0 L → p ≤ eqn t L N.toNat
theorem eqn_bd {t L : Int → Int} {N : Nat} : 0 ≤ eqn t L N ∧ eqn t L N ≤ N := sm_bd N (fun k _ _ => by
  show (if t k = L k then (1 : Int) else 0) = 0 ∨ (if t k = L k then (1 : Int) else 0) = 1
  split
  · exact Or.inr rfl
  · exact Or.inl rfl)
theorem Outer.init {N K : Int} {en : Int → Prop} {u g t0 : Int → Int} : Outer N K en u g t0 0 t0 :=
  ⟨fun _ _ _ => Int.le_refl _, fun _ _ h => h, fun _ _ => eqn_bd.1⟩
theorem Outer.next {N K : Int} {en : Int → Prop} {u g t0 : Int → Int} {p : Int} {ts t : Int → Int} {grew k : Int} (hw : Wf N K en u) (h : Outer N K en u g t0 p ts) (hp : PassI N K en u g ts k t grew) (hk : K ≤ k) (hg : grew ≠ 0) : Outer N K en u g t0 (p + 1) t := by
  obtain ⟨h1, h2, h3⟩ := h
  obtain ⟨p1, p2, p3, p4⟩ := hp
  refine ⟨fun a a0 a1 => Int.le_trans (h1 a a0 a1) (p1 a a0 a1), fun M hS hM => (p4 M hS (h2 M hS hM)).1, fun L hL => ?_⟩
  have tsL := h2 L hL.1 hL.2.1
  obtain ⟨q1, q2⟩ := p4 L hL.1 tsL
  obtain ⟨b, b0, b1, b2⟩ := p3 hg
  have hbL : ts b ≠ L b := fun e => by
    have := q1 b b0 b1
    omega
  obtain ⟨j, j0, j1, hj, j2, j3, j4⟩ := hL.tight hw h1 tsL b0 b1 hbL
  have w := hw.2.1
  have e1 := q2 j j0 (by omega) j1 hj j2 j3
  have := h3 L hL
  have lt : eqn ts L N.toNat < eqn t L N.toNat := sm_lt2 N.toNat (fun a a0 a1 => by
    show (if ts a = L a then (1 : Int) else 0) ≤ if t a = L a then 1 else 0
    have x1 := p1 a a0 (by omega)
    have x2 := q1 a a0 (by omega)
    split <;> split <;> omega) (j / 2) (by omega) (by omega) (by
    show (if ts (j / 2) = L (j / 2) then (1 : Int) else 0) < if t (j / 2) = L (j / 2) then 1 else 0
    rw [if_neg j4, if_pos e1]
    omega)
  omega
theorem Outer.none {N K : Int} {en : Int → Prop} {u g t0 : Int → Int} {p : Int} {t : Int → Int} (hw : Wf N K en u) (h : Outer N K en u g t0 p t) (hp : N < p) : ¬ ∃ M, Sol K en u g M ∧ ∀ a, 0 ≤ a → a < N → t0 a ≤ M a := by
  rintro ⟨M, hS, hM⟩
  obtain ⟨L, hL⟩ := MinS.ex hS hM
  have h1 := h.2.2 L hL
  have h2 := (eqn_bd (t := t) (L := L) (N := N.toNat)).2
  have := hw.1
  omega
-- the loop's own words
def LoopOK (σ : MM) : Prop := AR (σ 5) (σ 6) (σ 53 0) (σ 7) (σ 8) (σ 54 0) ∧ Stuck (σ 5) (σ 6) (σ 53 0) (σ 8)
def Added (σ σ1 : MM) (k p q s1 d1 s2 d2 : Int) : Prop :=
  σ1 53 0 = σ 53 0 + 1 ∧ (∀ b, σ1 2 b = if b = σ 53 0 then k else σ 2 b) ∧ (∀ b, σ1 3 b = if b = σ 53 0 then p else σ 3 b) ∧ (∀ b, σ1 4 b = if b = σ 53 0 then q else σ 4 b) ∧
  (∀ b, σ1 5 b = if b = 2 * σ 53 0 then s1 else if b = 2 * σ 53 0 + 1 then s2 else σ 5 b) ∧ (∀ b, σ1 6 b = if b = 2 * σ 53 0 then d1 else if b = 2 * σ 53 0 + 1 then d2 else σ 6 b)
theorem added_of {σ a b c4 d e f t : MM} {c x k p q s1 d1 s2 d2 : Int} (hx : x = c ∧ c = σ 53 0) (ma : Mod [2] σ a) (mb : Mod [3] a b) (mc : Mod [4] b c4) (md : Mod [5, 6] c4 d) (me : Mod [5, 6] d e) (mf : Mod [53] e f) (mt : Mod [7, 8, 54] f t)
    (sa : ∀ z, a 2 z = if z = x then k else σ 2 z) (sb : ∀ z, b 3 z = if z = x then p else σ 3 z) (sc : ∀ z, c4 4 z = if z = x then q else σ 4 z)
    (h1 : ∀ z, d 5 z = if z = 2 * x then s1 else σ 5 z) (h2 : ∀ z, d 6 z = if z = 2 * x then d1 else σ 6 z)
    (h3 : ∀ z, e 5 z = if z = 2 * x + 1 then s2 else d 5 z) (h4 : ∀ z, e 6 z = if z = 2 * x + 1 then d2 else d 6 z) (hf : f 53 0 = σ 53 0 + 1) : Added σ t k p q s1 d1 s2 d2 := by
  obtain ⟨rfl, rfl⟩ := hx
  refine ⟨by rw [mt.at 53 rfl, hf], fun z => ?_, fun z => ?_, fun z => ?_, fun z => ?_, fun z => ?_⟩
  · rw [mt.at 2 rfl, mf.at 2 rfl, me.at 2 rfl, md.at 2 rfl, mc.at 2 rfl, mb.at 2 rfl, sa]
  · rw [mt.at 3 rfl, mf.at 3 rfl, me.at 3 rfl, md.at 3 rfl, mc.at 3 rfl, sb]
  · rw [mt.at 4 rfl, mf.at 4 rfl, me.at 4 rfl, md.at 4 rfl, sc]
  · rw [mt.at 5 rfl, mf.at 5 rfl, h3, h1]
    split <;> split <;> first | rfl | omega
  · rw [mt.at 6 rfl, mf.at 6 rfl, h4, h2]
    split <;> split <;> first | rfl | omega
theorem loopOK_of {a f t : MM} (mf : Mod [53] a f) (mt : Mod [7, 8, 54] f t) (h1 : AR (a 5) (a 6) (f 53 0) (t 7) (t 8) (t 54 0)) (h2 : Stuck (a 5) (a 6) (f 53 0) (t 8)) : LoopOK t := by
  unfold LoopOK
  rw [mt.at 5 rfl, mt.at 6 rfl, mt.at 53 rfl, mf.at 5 rfl, mf.at 6 rfl]
  exact ⟨h1, h2⟩
def lenF (kd : Int → Int) (a : Int) : Int := if kd a = 3 then 2 else 1
theorem lenF_of {kd : Int → Int} {z a c : Int} (h : (z = 2 ∧ 0 ≤ a ∧ a < c ∧ kd a = 3) ∨ (z = 1 ∧ (a < 0 ∨ c ≤ a ∨ kd a ≠ 3))) (h0 : 0 ≤ a) (h1 : a < c) : z = lenF kd a := by
  unfold lenF
  split <;> omega
def enX (src : Int → Int) (c : Int) : Int → Prop := fun s => 0 ≤ src s ∧ src s < c
def gR (kd src dist : Int → Int) (n : Int) : Int → Int := fun s => lenF kd (src s) - n * dist s
theorem wf_X {src : Int → Int} {c : Int} (h : 0 ≤ c := by omega) : Wf c (2 * c) (enX src c) src := ⟨h, rfl, fun _ _ _ q => q⟩
def RH (kd src dist : Int → Int) (c n : Int) : Prop := ∃ M : Int → Int, Sol (2 * c) (enX src c) src (gR kd src dist n) M ∧ ∀ a, 0 ≤ a → a < c → 0 ≤ M a
theorem cf_z {N K : Int} {en : Int → Prop} {u g ts t : Int → Int} {k z : Int} (h : PassI N K en u g ts k t z) (hz : z = 0) : PassI N K en u g ts k t 0 := hz ▸ h
/-- the rows that begin with 0 on the acts that there are -/
theorem Outer.row {N K : Int} {en : Int → Prop} {u g t : Int → Int} (h : ∀ a, 0 ≤ a → a < N → t a = 0) : Outer N K en u g (fun _ => 0) 0 t :=
  ⟨fun a a0 a1 => by rw [h a a0 a1]; exact Int.le_refl _, fun M _ hM a a0 a1 => by rw [h a a0 a1]; exact hM a a0 a1, fun _ _ => eqn_bd.1⟩
end
section
/-! PURE: ways over a board of at most 9 cells -/
def Nbr (c a b : Int) : Prop := (a / c = b / c ∧ (a % c - b % c = 1 ∨ b % c - a % c = 1)) ∨ (a % c = b % c ∧ (a / c - b / c = 1 ∨ b / c - a / c = 1))
def Op (br : Int → Int) (n a : Int) : Prop := 0 ≤ a ∧ a < n ∧ br a = 0
def Stq (br : Int → Int) (n c a b : Int) : Prop := Op br n a ∧ Op br n b ∧ Nbr c a b
def Wk (br : Int → Int) (n c : Int) : Nat → Int → Int → Prop
  | 0, a, b => a = b
  | k + 1, a, b => ∃ m, Wk br n c k a m ∧ Stq br n c m b
theorem Wk.app {br : Int → Int} {n c : Int} {k : Nat} {a m : Int} (h : Wk br n c k a m) : ∀ (j : Nat) {b : Int}, Wk br n c j m b → Wk br n c (k + j) a b
  | 0, b, h1 => by
    have e : m = b := h1
    rw [← e]
    exact h
  | j + 1, b, ⟨x, h1, h2⟩ => ⟨x, Wk.app h j h1, h2⟩
def SSt (br : Int → Int) (n c a b z : Int) : Prop := (a = b ∧ z = 0) ∨ (a ≠ b ∧ Stq br n c a b ∧ z = 1) ∨ (a ≠ b ∧ ¬ Stq br n c a b ∧ z = 1000)
def FWI (br : Int → Int) (n c k : Int) (W : Int → Int) : Prop :=
  (∀ a b : Int, 0 ≤ a → a < 9 → 0 ≤ b → b < 9 → 0 ≤ W (a * 9 + b) ∧ W (a * 9 + b) ≤ 1000) ∧ (∀ a : Int, 0 ≤ a → a < 9 → W (a * 9 + a) = 0) ∧
  (∀ a b : Int, 0 ≤ a → a < 9 → 0 ≤ b → b < 9 → W (a * 9 + b) < 1000 → Wk br n c (W (a * 9 + b)).toNat a b) ∧
  (∀ a b : Int, 0 ≤ a → a < 9 → 0 ≤ b → b < 9 → Stq br n c a b → W (a * 9 + b) ≤ 1) ∧
  (∀ m : Int, 0 ≤ m → m < k → m < 9 → ∀ a b : Int, 0 ≤ a → a < 9 → 0 ≤ b → b < 9 → W (a * 9 + b) ≤ W (a * 9 + m) + W (m * 9 + b))
def Fw (W W1 : Int → Int) (m : Int) : Prop := ∀ a b : Int, 0 ≤ a → a < 9 → 0 ≤ b → b < 9 → W1 (a * 9 + b) = if W (a * 9 + m) + W (m * 9 + b) < W (a * 9 + b) then W (a * 9 + m) + W (m * 9 + b) else W (a * 9 + b)
theorem FWI.init {br : Int → Int} {n c : Int} {W : Int → Int} (h : ∀ a b : Int, 0 ≤ a → a < 9 → 0 ≤ b → b < 9 → SSt br n c a b (W (a * 9 + b))) : FWI br n c 0 W := by
  refine ⟨fun a b a0 a1 b0 b1 => ?_, fun a a0 a1 => ?_, fun a b a0 a1 b0 b1 hw => ?_, fun a b a0 a1 b0 b1 hs => ?_, fun m m0 m1 => by omega⟩
  · rcases h a b a0 a1 b0 b1 with q | q | q <;> omega
  · rcases h a a a0 a1 a0 a1 with q | q | q
    · exact q.2
    · exact absurd rfl q.1
    · exact absurd rfl q.1
  · rcases h a b a0 a1 b0 b1 with q | q | q
    · rw [q.2]
      exact q.1
    · rw [q.2.2]
      exact ⟨a, rfl, q.2.1⟩
    · omega
  · rcases h a b a0 a1 b0 b1 with q | q | q
    · omega
    · omega
    · exact absurd hs q.2.1
theorem FWI.next {br : Int → Int} {n c k : Int} {W W1 : Int → Int} (h : FWI br n c k W) (k0 : 0 ≤ k) (k1 : k < 9) (hf : Fw W W1 k) : FWI br n c (k + 1) W1 := by
  obtain ⟨h1, h2, h3, h4, h5⟩ := h
  have le : ∀ a b : Int, 0 ≤ a → a < 9 → 0 ≤ b → b < 9 → W1 (a * 9 + b) ≤ W (a * 9 + b) ∧ W1 (a * 9 + b) ≤ W (a * 9 + k) + W (k * 9 + b) := fun a b a0 a1 b0 b1 => by
    rw [hf a b a0 a1 b0 b1]
    split <;> omega
  have two : ∀ a b : Int, 0 ≤ a → a < 9 → 0 ≤ b → b < 9 → W1 (a * 9 + b) = W (a * 9 + b) ∨ W1 (a * 9 + b) = W (a * 9 + k) + W (k * 9 + b) := fun a b a0 a1 b0 b1 => by
    rw [hf a b a0 a1 b0 b1]
    split
    · exact Or.inr rfl
    · exact Or.inl rfl
  have pos := h1
  refine ⟨fun a b a0 a1 b0 b1 => ?_, fun a a0 a1 => ?_, fun a b a0 a1 b0 b1 hw => ?_, fun a b a0 a1 b0 b1 hs => ?_, fun m m0 m1 m2 a b a0 a1 b0 b1 => ?_⟩
  · have q1 := h1 a b a0 a1 b0 b1
    have q2 := h1 a k a0 a1 k0 k1
    have q3 := h1 k b k0 k1 b0 b1
    have q4 := le a b a0 a1 b0 b1
    rcases two a b a0 a1 b0 b1 with e | e <;> omega
  · have q1 := h2 a a0 a1
    have q2 := h1 a k a0 a1 k0 k1
    have q3 := h1 k a k0 k1 a0 a1
    have q4 := le a a a0 a1 a0 a1
    rcases two a a a0 a1 a0 a1 with e | e <;> omega
  · rcases two a b a0 a1 b0 b1 with e | e
    · rw [e] at hw ⊢
      exact h3 a b a0 a1 b0 b1 hw
    · rw [e] at hw ⊢
      have q2 := h1 a k a0 a1 k0 k1
      have q3 := h1 k b k0 k1 b0 b1
      rw [Int.toNat_add q2.1 q3.1]
      exact (h3 a k a0 a1 k0 k1 (by omega)).app _ (h3 k b k0 k1 b0 b1 (by omega))
  · have q1 := h4 a b a0 a1 b0 b1 hs
    have q4 := le a b a0 a1 b0 b1
    omega
  · have lab := le a b a0 a1 b0 b1
    by_cases e : m = k
    · subst e
      have e1 := two a m a0 a1 k0 k1
      have e2 := two m b k0 k1 b0 b1
      have z := h2 m k0 k1
      omega
    · have t := h5 m m0 (by omega) m2
      have e1 := two a m a0 a1 m0 m2
      have e2 := two m b m0 m2 b0 b1
      have t1 := t a b a0 a1 b0 b1
      have t2 := t k b k0 k1 b0 b1
      have t3 := t a k a0 a1 k0 k1
      have p1 := h1 k m k0 k1 m0 m2
      have p2 := h1 m k m0 m2 k0 k1
      omega
def WayOK (br : Int → Int) (n c : Int) (W : Int → Int) : Prop :=
  (∀ a b : Int, 0 ≤ a → a < 9 → 0 ≤ b → b < 9 → 0 ≤ W (a * 9 + b) ∧ W (a * 9 + b) ≤ 1000) ∧
  (∀ a b : Int, 0 ≤ a → a < 9 → 0 ≤ b → b < 9 → W (a * 9 + b) < 1000 → Wk br n c (W (a * 9 + b)).toNat a b) ∧
  (∀ a b : Int, 0 ≤ a → a < 9 → 0 ≤ b → b < 9 → ∀ L : Nat, Wk br n c L a b → W (a * 9 + b) ≤ L)
theorem FWI.fin {br : Int → Int} {n c k : Int} {W : Int → Int} (h : FWI br n c k W) (hn : n ≤ k ∨ 9 ≤ k) (hn9 : n ≤ 9) : WayOK br n c W := by
  obtain ⟨h1, h2, h3, h4, h5⟩ := h
  refine ⟨h1, h3, fun a b a0 a1 b0 b1 L => ?_⟩
  induction L generalizing b with
  | zero =>
    intro e
    have e1 : a = b := e
    subst e1
    rw [h2 a a0 a1]
    exact Int.le_refl _
  | succ L ih =>
    rintro ⟨m, q1, q2⟩
    have hm := q2.1
    have m0 := hm.1
    have m1 := hm.2.1
    have := ih m m0 (by omega) q1
    have := h4 m b m0 (by omega) b0 b1 q2
    have := h5 m m0 (by omega) (by omega) a b a0 a1 b0 b1
    omega
theorem mul_bd {r c : Int} (hr : 1 ≤ r ∧ r ≤ 3) (hc : 1 ≤ c ∧ c ≤ 3) : 1 ≤ r * c ∧ r * c ≤ 9 := by
  rcases (by omega : r = 1 ∨ r = 2 ∨ r = 3) with e | e | e <;> subst e <;> omega
def cn0 (br : Int → Int) (n : Int) : Int := sm (fun c => if br c = 0 then 1 else 0) n.toNat
def cn2 (br mu : Int → Int) (n : Int) : Int := sm (fun c => if br c = 0 ∧ mu c = 1 then 1 else 0) n.toNat
theorem sm_succ {f : Int → Int} {n : Int} (h : 0 ≤ n) : sm f (n + 1).toNat = sm f n.toNat + f n := by
  rw [show (n + 1).toNat = n.toNat + 1 by omega, sm, show ((n.toNat : Nat) : Int) = n by omega]
theorem fw_step {W0 cur cur1 : Int → Int} {f t t1 m x : Int} (hm : 0 ≤ m ∧ m < 9) (hf : 0 ≤ f ∧ f < 9) (ht : 0 ≤ t ∧ t < 9)
    (hW : ∀ a b : Int, 0 ≤ a → a < 9 → 0 ≤ b → b < 9 → cur (a * 9 + b) = if a < f ∨ (a = f ∧ b < t) then (if W0 (a * 9 + m) + W0 (m * 9 + b) < W0 (a * 9 + b) then W0 (a * 9 + m) + W0 (m * 9 + b) else W0 (a * 9 + b)) else W0 (a * 9 + b))
    (hz : ∀ a : Int, 0 ≤ a → a < 9 → W0 (a * 9 + a) = 0) (hx : x = cur (f * 9 + m) + cur (m * 9 + t))
    (hst : ((∀ b, cur1 b = if b = f * 9 + t then x else cur b) ∧ x < cur (f * 9 + t)) ∨ (cur1 = cur ∧ cur (f * 9 + t) ≤ x)) (e : t1 = t + 1) :
    ∀ a b : Int, 0 ≤ a → a < 9 → 0 ≤ b → b < 9 → cur1 (a * 9 + b) = if a < f ∨ (a = f ∧ b < t1) then (if W0 (a * 9 + m) + W0 (m * 9 + b) < W0 (a * 9 + b) then W0 (a * 9 + m) + W0 (m * 9 + b) else W0 (a * 9 + b)) else W0 (a * 9 + b) := by
  have hzm := hz m hm.1 hm.2
  have c1 : cur (f * 9 + m) = W0 (f * 9 + m) := by
    rw [hW f m hf.1 hf.2 hm.1 hm.2]
    split
    · rw [if_neg (by omega)]
    · rfl
  have c2 : cur (m * 9 + t) = W0 (m * 9 + t) := by
    rw [hW m t hm.1 hm.2 ht.1 ht.2]
    split
    · rw [if_neg (by omega)]
    · rfl
  have c3 : cur (f * 9 + t) = W0 (f * 9 + t) := by
    rw [hW f t hf.1 hf.2 ht.1 ht.2, if_neg (by omega)]
  rw [c1, c2] at hx
  rw [c3] at hst
  intro a b a0 a1 b0 b1
  by_cases q : a = f ∧ b = t
  · have hc : a < f ∨ (a = f ∧ b < t1) := by omega
    obtain ⟨qa, qb⟩ := q
    rw [if_pos hc, qa, qb]
    rcases hst with ⟨g1, g2⟩ | ⟨g1, g2⟩
    · rw [g1, if_pos rfl, if_pos (by omega), hx]
    · rw [g1, c3, if_neg (by omega)]
  · have e1 : cur1 (a * 9 + b) = cur (a * 9 + b) := by
      rcases hst with ⟨g1, g2⟩ | ⟨g1, g2⟩
      · rw [g1, if_neg (by omega)]
      · rw [g1]
    rw [e1, hW a b a0 a1 b0 b1]
    by_cases q2 : a < f ∨ (a = f ∧ b < t)
    · have q3 : a < f ∨ (a = f ∧ b < t1) := by omega
      rw [if_pos q2, if_pos q3]
    · have q3 : ¬ (a < f ∨ (a = f ∧ b < t1)) := by omega
      rw [if_neg q2, if_neg q3]
theorem if_iff {α : Type} {A B : Prop} {x y : α} (da : Decidable A) (db : Decidable B) (h : A ↔ B) : (@ite α A da x y) = @ite α B db x y := by
  by_cases q : A
  · rw [if_pos q, if_pos (h.mp q)]
  · rw [if_neg q, if_neg (fun z => q (h.mpr z))]
theorem pair_step {P : Int → Int → Int → Prop} {W W1 : Int → Int} {f t t1 z : Int} (h : ∀ a b : Int, 0 ≤ a → a < 9 → 0 ≤ b → b < 9 → (a < f ∨ (a = f ∧ b < t)) → P a b (W (a * 9 + b))) (hs : ∀ b, W1 b = if b = f * 9 + t then z else W b) (hz : P f t z) (e : t1 = t + 1) (hf : 0 ≤ f ∧ f < 9) (ht : 0 ≤ t ∧ t < 9) :
    ∀ a b : Int, 0 ≤ a → a < 9 → 0 ≤ b → b < 9 → (a < f ∨ (a = f ∧ b < t1)) → P a b (W1 (a * 9 + b)) := by
  intro a b a0 a1 b0 b1 q
  rw [hs]
  by_cases q2 : a * 9 + b = f * 9 + t
  · have ea : a = f := by omega
    have eb : b = t := by omega
    rw [if_pos q2, ea, eb]
    exact hz
  · rw [if_neg q2]
    exact h a b a0 a1 b0 b1 (by omega)
theorem two_step {A A1 B B1 : Int → Int} {i x y : Int} (h : ∀ b : Int, 0 ≤ b → b < i → A b = x ∧ B b = y) (hA : ∀ b, A1 b = if b = i then x else A b) (hB : ∀ b, B1 b = if b = i then y else B b) : ∀ b : Int, 0 ≤ b → b < i + 1 → A1 b = x ∧ B1 b = y := by
  intro b b0 b1
  rw [hA, hB]
  by_cases q : b = i
  · rw [if_pos q, if_pos q]
    exact ⟨rfl, rfl⟩
  · rw [if_neg q, if_neg q]
    exact h b b0 (by omega)
end
section
/-! PURE: plans -/
theorem pm {a A b B : Int} (ha : 0 ≤ a ∧ a ≤ A) (hb : 0 ≤ b ∧ b ≤ B) : 0 ≤ a * b ∧ a * b ≤ A * B := ⟨Int.mul_nonneg ha.1 hb.1, Int.mul_le_mul ha.2 hb.2 hb.1 (by omega)⟩
/-- the first of which P holds; none -/
def Fst (P : Int → Prop) (n a : Int) : Prop := 0 ≤ a ∧ a < n ∧ P a ∧ ∀ b, 0 ≤ b → b < a → ¬ P b
def Non (P : Int → Prop) (n : Int) : Prop := ∀ b, 0 ≤ b → b < n → ¬ P b
theorem Non.next {P : Int → Prop} {n n1 : Int} (h : Non P n) (hp : ¬ P n) (e : n1 = n + 1) : Non P n1 := fun b b0 b1 q => by
  by_cases e1 : b = n
  · rw [e1] at q
    exact hp q
  · exact h b b0 (by omega) q
theorem Non.fst {P : Int → Prop} {n m : Int} (h : Non P n) (h0 : 0 ≤ n) (h1 : n < m) (hp : P n) : Fst P m n := ⟨h0, h1, hp, h⟩
theorem Fst.uniq {P Q : Int → Prop} {n a b : Int} (h : Fst P n a) (g : Fst Q n b) (e : ∀ x, 0 ≤ x → x < n → (P x ↔ Q x)) : a = b := by
  obtain ⟨h0, h1, h2, h3⟩ := h
  obtain ⟨g0, g1, g2, g3⟩ := g
  rcases Int.lt_trichotomy a b with q | q | q
  · exact absurd ((e a h0 h1).mp h2) (g3 a h0 q)
  · exact q
  · exact absurd ((e b g0 g1).mpr g2) (h3 b g0 q)
theorem Fst.not {P Q : Int → Prop} {n a : Int} (h : Fst P n a) (g : Non Q n) (e : ∀ x, 0 ≤ x → x < n → (P x ↔ Q x)) : False := g a h.1 h.2.1 ((e a h.1 h.2.1).mp h.2.2.1)
def Meet (lc ls : Int → Int) (bt a : Int) : Prop := ∃ o, 0 ≤ o ∧ o < a ∧ lc o = lc a ∧ ls a % bt = ls o % bt
def Late (src dist lc ls kd W : Int → Int) (bt s : Int) : Prop :=
  src s ≠ -6 ∧ (1000 ≤ W (lc (src s) * 9 + lc (s / 2)) ∨ ls (s / 2) + bt * dist s < ls (src s) + lenF kd (src s) + W (lc (src s) * 9 + lc (s / 2)))
/-- what a plan lacks first -/
def FL (P1 P2 P3 P4 : Int → Prop) (c z : Int) : Prop :=
  (∃ a, Fst P1 c a ∧ z = 10 + a) ∨ (Non P1 c ∧ ∃ a, Fst P2 c a ∧ z = 20 + a) ∨ (Non P1 c ∧ Non P2 c ∧ ∃ a, Fst P3 c a ∧ z = 30 + a) ∨
  (Non P1 c ∧ Non P2 c ∧ Non P3 c ∧ ∃ s, Fst P4 (2 * c) s ∧ z = 40 + s) ∨ (Non P1 c ∧ Non P2 c ∧ Non P3 c ∧ Non P4 (2 * c) ∧ z = 0)
theorem FL.uniq {P1 P2 P3 P4 Q1 Q2 Q3 Q4 : Int → Prop} {c y z : Int} (h : FL P1 P2 P3 P4 c y) (g : FL Q1 Q2 Q3 Q4 c z) (e1 : ∀ x, 0 ≤ x → x < c → (P1 x ↔ Q1 x)) (e2 : ∀ x, 0 ≤ x → x < c → (P2 x ↔ Q2 x)) (e3 : ∀ x, 0 ≤ x → x < c → (P3 x ↔ Q3 x)) (e4 : ∀ x, 0 ≤ x → x < 2 * c → (P4 x ↔ Q4 x)) : y = z := by
  have s1 := fun x a b => (e1 x a b).symm
  have s2 := fun x a b => (e2 x a b).symm
  have s3 := fun x a b => (e3 x a b).symm
  have s4 := fun x a b => (e4 x a b).symm
  rcases h with ⟨a, h1, rfl⟩ | ⟨n1, a, h1, rfl⟩ | ⟨n1, n2, a, h1, rfl⟩ | ⟨n1, n2, n3, a, h1, rfl⟩ | ⟨n1, n2, n3, n4, rfl⟩ <;>
    rcases g with ⟨b, g1, rfl⟩ | ⟨k1, b, g1, rfl⟩ | ⟨k1, k2, b, g1, rfl⟩ | ⟨k1, k2, k3, b, g1, rfl⟩ | ⟨k1, k2, k3, k4, rfl⟩ <;>
    first
      | rfl
      | rw [h1.uniq g1 e1]
      | rw [h1.uniq g1 e2]
      | rw [h1.uniq g1 e3]
      | rw [h1.uniq g1 e4]
      | exact (h1.not k1 e1).elim
      | exact (g1.not n1 s1).elim
      | exact (h1.not k2 e2).elim
      | exact (g1.not n2 s2).elim
      | exact (h1.not k3 e3).elim
      | exact (g1.not n3 s3).elim
      | exact (h1.not k4 e4).elim
      | exact (g1.not n4 s4).elim
theorem FL.rng {P1 P2 P3 P4 : Int → Prop} {c z : Int} (h : FL P1 P2 P3 P4 c z) (hc : c ≤ 8) : 0 ≤ z ∧ z ≤ 60 ∧ (z = 0 ↔ Non P1 c ∧ Non P2 c ∧ Non P3 c ∧ Non P4 (2 * c)) := by
  rcases h with ⟨a, h1, rfl⟩ | ⟨n1, a, h1, rfl⟩ | ⟨n1, n2, a, h1, rfl⟩ | ⟨n1, n2, n3, a, h1, rfl⟩ | ⟨n1, n2, n3, n4, rfl⟩
  · have := h1.1
    have := h1.2.1
    exact ⟨by omega, by omega, ⟨fun q => by omega, fun q => absurd h1.2.2.1 (q.1 a h1.1 h1.2.1)⟩⟩
  · have := h1.1
    have := h1.2.1
    exact ⟨by omega, by omega, ⟨fun q => by omega, fun q => absurd h1.2.2.1 (q.2.1 a h1.1 h1.2.1)⟩⟩
  · have := h1.1
    have := h1.2.1
    exact ⟨by omega, by omega, ⟨fun q => by omega, fun q => absurd h1.2.2.1 (q.2.2.1 a h1.1 h1.2.1)⟩⟩
  · have := h1.1
    have := h1.2.1
    exact ⟨by omega, by omega, ⟨fun q => by omega, fun q => absurd h1.2.2.1 (q.2.2.2 a h1.1 h1.2.1)⟩⟩
  · exact ⟨by omega, by omega, ⟨fun _ => ⟨n1, n2, n3, n4⟩, fun _ => rfl⟩⟩
/-- all operands are acts that there are -/
def SrcOK (src : Int → Int) (c : Int) : Prop := ∀ s, 0 ≤ s → s < 2 * c → src s = -6 ∨ (0 ≤ src s ∧ src s < c)
theorem srcOK_of {σ : MM} (h : LoopOK σ) (e : σ 54 0 = σ 53 0) : SrcOK (σ 5) (σ 53 0) := by
  obtain ⟨⟨⟨h1, h2, h3⟩, h4, h5, h6, h7⟩, -⟩ := h
  intro s s0 s1
  have ha : σ 8 (s / 2) = 1 := sm_all (σ 53 0).toNat (fun k k0 k1 => h4 k k0 (by omega)) (by omega) (s / 2) (by omega) (by omega)
  obtain ⟨i, i0, i1, i2⟩ := h6 (s / 2) (by omega) (by omega) ha
  obtain ⟨-, -, -, d1, d2⟩ := h5 i i0 i1
  rw [i2] at d1 d2
  rcases (by omega : s = 2 * (s / 2) ∨ s = 2 * (s / 2) + 1) with q | q
  · rw [← q] at d1
    rcases d1 with d | d
    · exact Or.inl d
    · exact Or.inr ⟨d.1, d.2.1⟩
  · rw [← q] at d2
    rcases d2 with d | d
    · exact Or.inl d
    · exact Or.inr ⟨d.1, d.2.1⟩
/-- the cells of a plan are cells that there are -/
def LayOK (σ : MM) : Prop := 0 < σ 58 0 → ∀ a, 0 ≤ a → a < σ 53 0 → σ 15 a < σ 56 0 * σ 57 0
/-- the greatest of m0 and of f at those of which P holds -/
def IsMax (P : Int → Prop) (f : Int → Int) (n m0 m : Int) : Prop := m0 ≤ m ∧ (∀ s, 0 ≤ s → s < n → P s → f s ≤ m) ∧ (m = m0 ∨ ∃ s, 0 ≤ s ∧ s < n ∧ P s ∧ m = f s)
theorem IsMax.init {P : Int → Prop} {f : Int → Int} {n m0 : Int} (hn : n = 0) : IsMax P f n m0 m0 := ⟨Int.le_refl _, fun s s0 s1 => by omega, Or.inl rfl⟩
theorem IsMax.skip {P : Int → Prop} {f : Int → Int} {n n1 m0 m : Int} (h : IsMax P f n m0 m) (hp : ¬ P n) (e : n1 = n + 1) : IsMax P f n1 m0 m := by
  obtain ⟨h1, h2, h3⟩ := h
  refine ⟨h1, fun s s0 s1 q => ?_, ?_⟩
  · by_cases e1 : s = n
    · rw [e1] at q
      exact absurd q hp
    · exact h2 s s0 (by omega) q
  · rcases h3 with h3 | ⟨s, s0, s1, s2⟩
    · exact Or.inl h3
    · exact Or.inr ⟨s, s0, by omega, s2⟩
theorem IsMax.take {P : Int → Prop} {f : Int → Int} {n n1 m0 m m1 : Int} (h : IsMax P f n m0 m) (h0 : 0 ≤ n) (hp : P n) (hm : (m < f n ∧ m1 = f n) ∨ (f n ≤ m ∧ m1 = m)) (e : n1 = n + 1) : IsMax P f n1 m0 m1 := by
  obtain ⟨h1, h2, h3⟩ := h
  refine ⟨by omega, fun s s0 s1 q => ?_, ?_⟩
  · by_cases e1 : s = n
    · rw [e1]
      omega
    · have := h2 s s0 (by omega) q
      omega
  · rcases hm with ⟨g1, g2⟩ | ⟨g1, g2⟩
    · exact Or.inr ⟨n, h0, by omega, hp, g2⟩
    · rw [g2]
      rcases h3 with h3 | ⟨s, s0, s1, s2⟩
      · exact Or.inl h3
      · exact Or.inr ⟨s, s0, by omega, s2⟩
theorem IsMax.uniq {P Q : Int → Prop} {f g : Int → Int} {n m0 m k : Int} (h : IsMax P f n m0 m) (w : IsMax Q g n m0 k) (e : ∀ x, 0 ≤ x → x < n → (P x ↔ Q x)) (ef : ∀ x, 0 ≤ x → x < n → P x → f x = g x) : m = k := by
  obtain ⟨h1, h2, h3⟩ := h
  obtain ⟨w1, w2, w3⟩ := w
  have a1 : m ≤ k := by
    rcases h3 with h3 | ⟨s, s0, s1, s2, s3⟩
    · omega
    · rw [s3, ef s s0 s1 s2]
      exact w2 s s0 s1 ((e s s0 s1).mp s2)
  have a2 : k ≤ m := by
    rcases w3 with w3 | ⟨s, s0, s1, s2, s3⟩
    · omega
    · have q := (e s s0 s1).mpr s2
      rw [s3, ← ef s s0 s1 q]
      exact h2 s s0 s1 q
  omega
theorem tmod_same {x y b : Int} (hb : 0 < b) : (x - y).tmod b = 0 ↔ x % b = y % b := by
  rw [← Int.dvd_iff_tmod_eq_zero]
  constructor
  · exact Int.emod_eq_emod_iff_emod_sub_eq_zero.mpr ∘ Int.emod_eq_zero_of_dvd
  · exact fun h => Int.dvd_of_emod_eq_zero (Int.emod_eq_emod_iff_emod_sub_eq_zero.mp h)
def P1x (σ : MM) : Int → Prop := fun x => σ 11 (σ 15 x) = 1
def P2x (σ : MM) : Int → Prop := fun x => σ 2 x = 3 ∧ σ 12 (σ 15 x) = 0
def P3x (σ : MM) : Int → Prop := Meet (σ 15) (σ 16) (σ 58 0)
def P4x (σ : MM) : Int → Prop := Late (σ 5) (σ 6) (σ 15) (σ 16) (σ 2) (σ 13) (σ 58 0)
def FLx (σ : MM) (z : Int) : Prop := FL (P1x σ) (P2x σ) (P3x σ) (P4x σ) (σ 53 0) z
def useX (σ : MM) (s : Int) : Int := σ 16 (s / 2) + σ 58 0 * σ 6 s
def madeX (σ : MM) (a : Int) : Int := σ 16 a + lenF (σ 2) a
/-- the round in which an act with that start begins at a beat -/
def RS (st bt at1 z : Int) : Prop := (st ≤ at1 ∧ (at1 - st) % bt = 0 ∧ z = (at1 - st) / bt) ∨ ((at1 < st ∨ (at1 - st) % bt ≠ 0) ∧ z = -6)
theorem lenF_bd {kd : Int → Int} {a : Int} : 1 ≤ lenF kd a ∧ lenF kd a ≤ 2 := by
  unfold lenF
  split <;> omega
theorem late_iff {σ : MM} {s : Int} : P4x σ s ↔ (σ 5 s ≠ -6 ∧ (1000 ≤ σ 13 (σ 15 (σ 5 s) * 9 + σ 15 (s / 2)) ∨ useX σ s < madeX σ (σ 5 s) + σ 13 (σ 15 (σ 5 s) * 9 + σ 15 (s / 2)))) := Iff.rfl
end
section
/-! PURE: values of acts by rounds; a row V holds act a's value of round t at a * 61 + t -/
def opV (src dist V : Int → Int) (f s t : Int) : Int := if t - dist s < 0 then f else V (src s * 61 + (t - dist s))
def VAL (kd p q src dist V : Int → Int) (f a t : Int) : Int32 :=
  if kd a = 0 then iI (p a * t + q a) else
  if kd a = 1 then iI (opV src dist V f (2 * a) t + opV src dist V f (2 * a + 1) t) else
  if kd a = 2 then iI (opV src dist V f (2 * a) t - opV src dist V f (2 * a + 1) t) else
  if kd a = 3 then iI (opV src dist V f (2 * a) t * opV src dist V f (2 * a + 1) t) else
  if kd a = 4 then (if iI (opV src dist V f (2 * a + 1) t) < iI (opV src dist V f (2 * a) t) then iI (opV src dist V f (2 * a + 1) t) else iI (opV src dist V f (2 * a) t)) else
  (if iI (opV src dist V f (2 * a) t) < iI (opV src dist V f (2 * a + 1) t) then iI (opV src dist V f (2 * a + 1) t) else iI (opV src dist V f (2 * a) t))
theorem VAL_congr {kd p q src dist V V1 : Int → Int} {f a t : Int} (h : kd a = 0 ∨ ∀ s, (s = 2 * a ∨ s = 2 * a + 1) → 0 ≤ t - dist s → V1 (src s * 61 + (t - dist s)) = V (src s * 61 + (t - dist s))) : VAL kd p q src dist V1 f a t = VAL kd p q src dist V f a t := by
  unfold VAL
  rcases h with h | h
  · rw [if_pos h, if_pos h]
  · have e : ∀ s, (s = 2 * a ∨ s = 2 * a + 1) → opV src dist V1 f s t = opV src dist V f s t := fun s hs => by
      unfold opV
      split
      · rfl
      · exact h s hs (by omega)
    rw [e (2 * a) (Or.inl rfl), e (2 * a + 1) (Or.inr rfl)]
/-- inputs have no operands, all others two -/
def DatOK (σ : MM) : Prop := ∀ a, 0 ≤ a → a < σ 53 0 → (σ 2 a = 0 ∧ σ 5 (2 * a) = -6 ∧ σ 5 (2 * a + 1) = -6) ∨ (1 ≤ σ 2 a ∧ 0 ≤ σ 5 (2 * a) ∧ 0 ≤ σ 5 (2 * a + 1))
def VALx (σ : MM) (V : Int → Int) (a t : Int) : Int32 := VAL (σ 2) (σ 3) (σ 4) (σ 5) (σ 6) V (σ 55 0) a t
/-- the values of rounds 0 to T - 1 stand in V -/
def EQs (σ : MM) (V : Int → Int) (T : Int) : Prop := ∀ t a, 0 ≤ t → t < T → 0 ≤ a → a < σ 53 0 → iI (V (a * 61 + t)) = VALx σ V a t
/-- a round's values are being made, place by place -/
def MR (σ : MM) (V : Int → Int) (t p : Int) (V1 : Int → Int) : Prop :=
  (∀ a t1, 0 ≤ a → a < 8 → 0 ≤ t1 → t1 ≤ 60 → t1 ≠ t → V1 (a * 61 + t1) = V (a * 61 + t1)) ∧ ∀ i, 0 ≤ i → i < p → iI (V1 (σ 7 i * 61 + t)) = VALx σ V1 (σ 7 i) t
theorem MR.init {σ : MM} {V : Int → Int} {t : Int} : MR σ V t 0 V := ⟨fun _ _ _ _ _ _ _ => rfl, fun i i0 i1 => by omega⟩
theorem ar_ord {σ : MM} (h : LoopOK σ) (e : σ 54 0 = σ 53 0) (hc : σ 53 0 ≤ 8) {i : Int} (i0 : 0 ≤ i) (i1 : i < σ 53 0) : 0 ≤ σ 7 i ∧ σ 7 i < σ 53 0 ∧ Dep (σ 5) (σ 6) (σ 53 0) (σ 7) i (2 * σ 7 i) ∧ Dep (σ 5) (σ 6) (σ 53 0) (σ 7) i (2 * σ 7 i + 1) := by
  obtain ⟨⟨-, -, h5, -, -⟩, -⟩ := h
  obtain ⟨g1, g2, -, g3, g4⟩ := h5 i i0 (by omega)
  exact ⟨g1, g2, g3, g4⟩
theorem MR.next {σ : MM} {V V1 V2 : Int → Int} {t p v : Int} (h : LoopOK σ) (e : σ 54 0 = σ 53 0) (hD : DatOK σ) (hc : σ 53 0 ≤ 8) (hdist : ∀ s, 0 ≤ σ 6 s ∧ σ 6 s ≤ 3) (ht : 0 ≤ t ∧ t ≤ 60) (hM : MR σ V t p V1) (hp : 0 ≤ p ∧ p < σ 53 0)
    (hv : iI v = VALx σ V1 (σ 7 p) t) (h2 : ∀ b, V2 b = if b = σ 7 p * 61 + t then v else V1 b) : MR σ V t (p + 1) V2 := by
  obtain ⟨m1, m2⟩ := hM
  obtain ⟨o1, o2, o3, o4⟩ := ar_ord h e hc hp.1 hp.2
  have dist := h.1.2.2.2.2
  have key : ∀ i, 0 ≤ i → i ≤ p → VALx σ V2 (σ 7 i) t = VALx σ V1 (σ 7 i) t := by
    intro i i0 i1
    obtain ⟨q1, q2, q3, q4⟩ := ar_ord h e hc i0 (show i < σ 53 0 by omega)
    refine VAL_congr ?_
    rcases hD (σ 7 i) q1 q2 with k | k
    · exact Or.inl k.1
    · refine Or.inr fun s hs hts => ?_
      have hd : Dep (σ 5) (σ 6) (σ 53 0) (σ 7) i s := by
        rcases hs with rfl | rfl
        · exact q3
        · exact q4
      rw [h2, if_neg]
      have hds := hdist s
      rcases hd with d | ⟨d1, d2, d3⟩
      · rcases hs with rfl | rfl <;> omega
      · rcases d3 with d3 | ⟨j, j0, j1, j2⟩
        · omega
        · have := dist j p j0 (by omega) (by omega)
          omega
  refine ⟨fun a t1 a0 a1 t0 t2 tn => ?_, fun i i0 i1 => ?_⟩
  · rw [h2, if_neg (by omega)]
    exact m1 a t1 a0 a1 t0 t2 tn
  · by_cases q : i = p
    · rw [key i i0 (by omega), h2, q, if_pos rfl]
      exact hv
    · rw [key i i0 (by omega), h2, if_neg]
      · exact m2 i i0 (by omega)
      · have := dist i p i0 (by omega) (by omega)
        omega
theorem MR.fin {σ : MM} {V V1 : Int → Int} {t p : Int} (h : LoopOK σ) (e : σ 54 0 = σ 53 0) (hD : DatOK σ) (hc : σ 53 0 ≤ 8) (hdist : ∀ s, 0 ≤ σ 6 s ∧ σ 6 s ≤ 3) (ht : 0 ≤ t ∧ t ≤ 60) (hE : EQs σ V t) (hM : MR σ V t p V1) (hp : σ 53 0 ≤ p) : EQs σ V1 (t + 1) := by
  obtain ⟨m1, m2⟩ := hM
  have hS := srcOK_of h e
  intro t1 a t0 t2 a0 a1
  by_cases q : t1 = t
  · obtain ⟨⟨⟨h1, h3, h4⟩, h5, h6, h7, -⟩, -⟩ := h
    obtain ⟨i, i0, i1, i2⟩ := h7 a a0 a1 (sm_all (σ 53 0).toNat (fun k k0 k1 => h5 k k0 (by omega)) (by omega) a a0 (by omega))
    rw [q, ← i2]
    exact m2 i i0 (by omega)
  · rw [m1 a t1 a0 (by omega) t0 (by omega) q, hE t1 a t0 (by omega) a0 a1]
    refine (VAL_congr ?_).symm
    rcases hD a a0 a1 with k | k
    · exact Or.inl k.1
    · refine Or.inr fun s hs hts => ?_
      have hds := hdist s
      have hsr := hS s (by omega) (by omega)
      have hs2 : 0 ≤ σ 5 s := by rcases hs with rfl | rfl <;> omega
      exact m1 (σ 5 s) (t1 - σ 6 s) hs2 (by omega) hts (by omega) (by omega)
theorem VALx_of {σ σ1 : MM} {L : List Nat} (h : Mod L σ σ1) (hL : ([2, 3, 4, 5, 6, 55] : List Nat).all (fun r => !(L.contains r)) = true) (V : Int → Int) (a t : Int) : VALx σ1 V a t = VALx σ V a t := by
  have e : ∀ r ∈ ([2, 3, 4, 5, 6, 55] : List Nat), σ1 r = σ r := fun r hr => h.at r (by have := List.all_eq_true.mp hL r hr; simpa using this)
  unfold VALx
  rw [e 2 (by decide), e 3 (by decide), e 4 (by decide), e 5 (by decide), e 6 (by decide), e 55 (by decide)]
end
section
/-! PURE: the search of a beat -/
def cdiv (x n : Int) : Int := -((-x) / n)
theorem xor_sign {a b : Int} (ha : inr a) (hb : 0 ≤ b ∧ b ≤ 2147483647) : 0 ≤ (iI a ^^^ iI b).toInt ↔ 0 ≤ a := by
  have e1 : (iI a ^^^ iI b).toInt < 0 ↔ a < 0 := by
    have h1 : ∀ x : Int32, x.toInt < 0 ↔ x.toBitVec.msb = true := fun x => by
      rw [BitVec.msb_eq_toInt, decide_eq_true_iff]
      exact Iff.rfl
    rw [h1, Int32.toBitVec_xor, BitVec.msb_xor]
    have h2 := h1 (iI a)
    have h3 := h1 (iI b)
    rw [iI_toInt ha] at h2
    rw [iI_toInt ⟨by omega, by omega⟩] at h3
    have h4 : (iI b).toBitVec.msb = false := by
      cases q : (iI b).toBitVec.msb with
      | false => rfl
      | true =>
        have := h3.mpr q
        omega
    rw [h4, Bool.xor_false]
    exact h2.symm
  omega
theorem tdiv_neg {x y : Int} (hx : x < 0) (hy : 0 < y) : x.tdiv y = -((-x) / y) := by
  have h := Int.neg_tdiv (a := -x) (b := y)
  rw [Int.neg_neg] at h
  rw [h, Int.tdiv_eq_ediv_of_nonneg (by omega)]
theorem fd_of {x y : Int} (hx : x < 0) (hy : 0 < y) : (x.tdiv y * y = x → x / y = x.tdiv y) ∧ (x.tdiv y * y ≠ x → x / y = x.tdiv y - 1) ∧ x ≤ x.tdiv y * y ∧ x.tdiv y * y ≤ 0 ∧ x ≤ x.tdiv y ∧ x.tdiv y ≤ 0 := by
  have e := tdiv_neg hx hy
  have h1 := Int.mul_ediv_add_emod (-x) y
  have h2 := Int.emod_nonneg (-x) (show y ≠ 0 by omega)
  have h3 := Int.emod_lt_of_pos (-x) hy
  have h4 := Int.ediv_nonneg (show 0 ≤ -x by omega) (show 0 ≤ y by omega)
  have h5 := Int.ediv_le_self (b := y) (show 0 ≤ -x by omega)
  have f1 := Int.mul_ediv_add_emod x y
  have f2 := Int.emod_nonneg x (show y ≠ 0 by omega)
  have f3 := Int.emod_lt_of_pos x hy
  rw [e]
  have m1 : -((-x) / y) * y = -(y * ((-x) / y)) := by rw [Int.neg_mul, Int.mul_comm]
  rw [m1]
  have p1 : 0 ≤ y * ((-x) / y) := Int.mul_nonneg (by omega) h4
  refine ⟨fun q => ?_, fun q => ?_, by omega, by omega, by omega, by omega⟩
  · have : y * (x / y) + x % y = y * (-((-x) / y)) := by rw [f1, Int.mul_neg]; exact q.symm
    have k : y * (x / y + ((-x) / y)) = -(x % y) := by
      rw [Int.mul_add]
      rw [Int.mul_neg] at this
      omega
    have k2 : x / y + ((-x) / y) = 0 := by
      rcases Int.lt_trichotomy (x / y + ((-x) / y)) 0 with w | w | w
      · have := Int.mul_le_mul_of_nonneg_left (show x / y + ((-x) / y) ≤ -1 by omega) (show 0 ≤ y by omega)
        omega
      · exact w
      · have := Int.mul_le_mul_of_nonneg_left (show 1 ≤ x / y + ((-x) / y) by omega) (show 0 ≤ y by omega)
        omega
    omega
  · have hr : (-x) % y ≠ 0 := fun z => q (by omega)
    have k : y * (x / y + ((-x) / y) + 1) = y - (-x) % y - x % y := by
      rw [Int.mul_add, Int.mul_add, Int.mul_one]
      omega
    have k2 : x / y + ((-x) / y) + 1 = 0 := by
      rcases Int.lt_trichotomy (x / y + ((-x) / y) + 1) 0 with w | w | w
      · have := Int.mul_le_mul_of_nonneg_left (show x / y + ((-x) / y) + 1 ≤ -1 by omega) (show 0 ≤ y by omega)
        omega
      · exact w
      · have := Int.mul_le_mul_of_nonneg_left (show 1 ≤ x / y + ((-x) / y) + 1 by omega) (show 0 ≤ y by omega)
        omega
    omega
theorem cdiv_bd {x n B : Int} (hn : 0 < n) (hx : -B ≤ x ∧ x ≤ B) (hB : 0 ≤ B) : -B ≤ cdiv x n ∧ cdiv x n ≤ B := by
  unfold cdiv
  have h1 := Int.ediv_le_ediv hn (show -x ≤ B by omega)
  have h2 := Int.ediv_le_ediv hn (show -B ≤ -x by omega)
  have h3 := Int.ediv_le_self (b := n) hB
  have h4 : -B ≤ -B / n := by
    have := Int.mul_ediv_add_emod (-B) n
    have := Int.emod_nonneg (-B) (show n ≠ 0 by omega)
    have := Int.emod_lt_of_pos (-B) hn
    rcases Int.le_total (-B / n) (-B) with q | q
    · by_cases e : -B / n = -B
      · omega
      · have w := Int.mul_le_mul_of_nonneg_left (show -B / n ≤ -B - 1 by omega) (show 0 ≤ n by omega)
        have w2 := Int.mul_le_mul_of_nonneg_right (show 1 ≤ n by omega) (show 0 ≤ B by omega)
        rw [Int.one_mul] at w2
        rw [show n * (-B - 1) = -(n * (B + 1)) by rw [← Int.mul_neg]; congr 1; omega, Int.mul_add, Int.mul_one] at w
        omega
    · exact q
  omega
section XOR
variable {S : ST} {l : Launch} {w : WT} {cc : ByteArray} {nL : Nat} {ret : Option FieldType} {own : String} {R : Room} {P : Option Value → MM → Prop} {G : GT} {pc : Nat} {lv : List (Option Value)} {st : List Value} {σ : MM}
theorem r_ixor (hX : Cx S l w cc nL ret own R P G) {a b : Int} (hd : decode cc pc = .ok (.ixor, 1)) (ha : inr a) (hb0 : 0 ≤ b) (hb1 : b ≤ 2147483647) (k : ∀ z : Int, inr z → (0 ≤ z ↔ 0 ≤ a) → G (pc + 1) lv (.int (iI z) :: st) σ) : G pc lv (.int (iI b) :: .int (iI a) :: st) σ := by
  obtain ⟨p, e, s, m, args, below, meth, c, A, cells, slots, Q, ⟨hx, hb, -⟩, rfl, -⟩ := hX
  intro hB H locs ls hP hS h
  refine lv_ixor hx hb hd ?_
  have h1 := Int32.le_toInt (iI a ^^^ iI b)
  have h2 := Int32.toInt_lt (iI a ^^^ iI b)
  have := k (iI a ^^^ iI b).toInt ⟨by omega, by omega⟩ (xor_sign ha ⟨hb0, hb1⟩) hB H locs ls hP hS h
  rw [iI_self] at this
  exact this
end XOR
end
section
/-! PURE: what goes where in the search, and the search as a machine -/
def gapS (kd src dist W C O : Int → Int) (n s : Int) : Int := cdiv (lenF kd (src s) + W (C (src s) * 9 + C (s / 2)) - (O (s / 2) + n * dist s - O (src s))) n
def enS (src : Int → Int) (a s : Int) : Prop := 0 ≤ src s ∧ src s ≤ a
def FreeS (br mu kd C O : Int → Int) (a : Int) : Prop := br (C a) = 0 ∧ (kd a = 3 → mu (C a) = 1) ∧ ∀ o, 0 ≤ o → o < a → ¬ (C o = C a ∧ O o = O a)
def WaysS (src W C : Int → Int) (a : Int) : Prop := ∀ s, 0 ≤ s → s < 2 * (a + 1) → enS src a s → W (C (src s) * 9 + C (s / 2)) < 1000
def FeasS (src g : Int → Int) (a : Int) : Prop := ∃ M, Sol (2 * (a + 1)) (enS src a) src g M ∧ ∀ l, 0 ≤ l → l ≤ a → 0 ≤ M l
def GoesS (br mu kd src dist W : Int → Int) (n : Int) (C O : Int → Int) (a : Int) : Prop := FreeS br mu kd C O a ∧ WaysS src W C a ∧ FeasS src (gapS kd src dist W C O n) a
theorem wf_S {src : Int → Int} {a : Int} (h : 0 ≤ a + 1 := by omega) : Wf (a + 1) (2 * (a + 1)) (enS src a) src := ⟨h, rfl, fun _ _ _ q => ⟨q.1, by have := q.2; omega⟩⟩
/-- the least solution of those not below 0 -/
def LeastS (src g : Int → Int) (a : Int) (t : Int → Int) : Prop :=
  Sol (2 * (a + 1)) (enS src a) src g t ∧ (∀ l, 0 ≤ l → l ≤ a → 0 ≤ t l) ∧ ∀ M, Sol (2 * (a + 1)) (enS src a) src g M → (∀ l, 0 ≤ l → l ≤ a → 0 ≤ M l) → ∀ l, 0 ≤ l → l ≤ a → t l ≤ M l
theorem LeastS.congr {src g g1 : Int → Int} {a : Int} {t t1 : Int → Int} (h : LeastS src g a t) (hg : ∀ s, 0 ≤ s → s < 2 * (a + 1) → enS src a s → g1 s = g s) (ht : ∀ l, 0 ≤ l → l ≤ a → t1 l = t l) : LeastS src g1 a t1 := by
  obtain ⟨h1, h2, h3⟩ := h
  refine ⟨fun s s0 s1 hs => ?_, fun l l0 l1 => by rw [ht l l0 l1]; exact h2 l l0 l1, fun M hM hM0 l l0 l1 => ?_⟩
  · rw [hg s s0 s1 hs, ht (src s) hs.1 hs.2, ht (s / 2) (by omega) (by omega)]
    exact h1 s s0 s1 hs
  · rw [ht l l0 l1]
    exact h3 M (fun s s0 s1 hs => by rw [← hg s s0 s1 hs]; exact hM s s0 s1 hs) hM0 l l0 l1
theorem LeastS.uniq {src g g1 : Int → Int} {a : Int} {t t1 : Int → Int} (h : LeastS src g a t) (k : LeastS src g1 a t1) (hg : ∀ s, 0 ≤ s → s < 2 * (a + 1) → enS src a s → g1 s = g s) (l : Int) (l0 : 0 ≤ l) (l1 : l ≤ a) : t l = t1 l := by
  have k2 := k.congr (g1 := g) (t1 := t1) (fun s s0 s1 hs => (hg s s0 s1 hs).symm) (fun _ _ _ => rfl)
  have := h.2.2 t1 k2.1 k2.2.1 l l0 l1
  have := k2.2.2 t h.1 h.2.1 l l0 l1
  omega
/-- a new act a set beside a least solution of those ahead -/
def Row0 (src g : Int → Int) (a : Int) (t0 : Int → Int) : Prop :=
  (0 < a → LeastS src g (a - 1) t0) ∧ 0 ≤ t0 a ∧ (∀ s, (s = 2 * a ∨ s = 2 * a + 1) → 0 ≤ src s → src s < a → t0 (src s) + g s ≤ t0 a) ∧
  (t0 a = 0 ∨ ∃ s, (s = 2 * a ∨ s = 2 * a + 1) ∧ 0 ≤ src s ∧ src s < a ∧ t0 a = t0 (src s) + g s)
theorem Row0.pos {src g : Int → Int} {a : Int} {t0 : Int → Int} (ha : 0 ≤ a) (h : Row0 src g a t0) (l : Int) (l0 : 0 ≤ l) (l1 : l ≤ a) : 0 ≤ t0 l := by
  by_cases e : l = a
  · rw [e]
    exact h.2.1
  · exact (h.1 (by omega)).2.1 l l0 (by omega)
theorem Row0.below {src g : Int → Int} {a : Int} {t0 M : Int → Int} (ha : 0 ≤ a) (h : Row0 src g a t0) (hM : Sol (2 * (a + 1)) (enS src a) src g M) (hM0 : ∀ l, 0 ≤ l → l ≤ a → 0 ≤ M l) : ∀ l, 0 ≤ l → l < a + 1 → t0 l ≤ M l := by
  have pre : ∀ l, 0 ≤ l → l < a → t0 l ≤ M l := fun l l0 l1 => (h.1 (by omega)).2.2 M (fun s s0 s1 hs => hM s s0 (by omega) ⟨hs.1, by have := hs.2; omega⟩) (fun l l0 l1 => hM0 l l0 (by omega)) l l0 (by omega)
  intro l l0 l1
  by_cases e : l = a
  · rw [e]
    rcases h.2.2.2 with q | ⟨s, hs, s0, s1, s2⟩
    · rw [q]
      exact hM0 a ha (Int.le_refl a)
    · have q1 := pre (src s) s0 s1
      have q2 := hM s (by omega) (by omega) ⟨s0, by omega⟩
      have e2 : s / 2 = a := by omega
      rw [e2] at q2
      omega
  · exact pre l l0 (by omega)
theorem Row0.stable {src g : Int → Int} {a : Int} {t0 : Int → Int} (ha : 0 ≤ a) (h : Row0 src g a t0) {s : Int} (s0 : 0 ≤ s) (s1 : s < 2 * (a + 1)) (u0 : 0 ≤ src s) (u1 : src s < a) : t0 (src s) + g s ≤ t0 (s / 2) := by
  by_cases e : s < 2 * a
  · exact (h.1 (by omega)).1 s s0 (by omega) ⟨u0, by omega⟩
  · rw [show s / 2 = a by omega]
    exact h.2.2.1 s (by omega) u0 u1
/-- a solution nearest above leaves the new act where it began -/
theorem Row0.fix {src g : Int → Int} {a : Int} {t0 L : Int → Int} (ha : 0 ≤ a) (h : Row0 src g a t0) (hL : MinS (a + 1) (2 * (a + 1)) (enS src a) src g t0 L) : L a = t0 a := by
  obtain ⟨h1, h2, h3⟩ := hL
  by_cases q : L a = t0 a
  · exact q
  · exfalso
    have hgt : t0 a < L a := by
      have := h2 a ha (by omega)
      omega
    have key := h3 (fun l => if t0 l < L l then L l - 1 else L l) (fun s s0 s1 hs => ?_) (fun l l0 l1 => ?_)
    · have := sm_lt2 (a + 1).toNat (f := fun l => if t0 l < L l then L l - 1 else L l) (g := L) (fun l _ _ => by
        show (if t0 l < L l then L l - 1 else L l) ≤ L l
        split <;> omega) a ha (by omega) (by
        show (if t0 a < L a then L a - 1 else L a) < L a
        rw [if_pos hgt]
        omega)
      omega
    · have e1 := h1 s s0 s1 hs
      show (if t0 (src s) < L (src s) then L (src s) - 1 else L (src s)) + g s ≤ if t0 (s / 2) < L (s / 2) then L (s / 2) - 1 else L (s / 2)
      by_cases c1 : t0 (src s) < L (src s)
      · rw [if_pos c1]
        split <;> omega
      · rw [if_neg c1]
        by_cases c2 : t0 (s / 2) < L (s / 2)
        · rw [if_pos c2]
          have hne : src s ≠ a := fun e => by
            rw [e] at c1
            exact c1 hgt
          have := h.stable ha s0 s1 hs.1 (by have := hs.2; omega)
          have := h2 (src s) hs.1 (by have := hs.2; omega)
          omega
        · rw [if_neg c2]
          exact e1
    · show t0 l ≤ if t0 l < L l then L l - 1 else L l
      have := h2 l l0 l1
      split <;> omega
/-- if the new act itself is pushed, there is no solution -/
theorem Row0.cyc {src g : Int → Int} {a k p grew s : Int} {t0 ts t : Int → Int} (ha : 0 ≤ a) (h : Row0 src g a t0) (hO : Outer (a + 1) (2 * (a + 1)) (enS src a) src g t0 p ts) (hP : PassI (a + 1) (2 * (a + 1)) (enS src a) src g ts k t grew)
    (hta : t a = t0 a) (hs0 : 0 ≤ s) (hs1 : s < 2 * (a + 1)) (hen : enS src a s) (hsa : s / 2 = a) (hlt : t a < t (src s) + g s) : ¬ FeasS src g a := by
  rintro ⟨M, hM, hM0⟩
  have hb := h.below ha hM hM0
  obtain ⟨L, hL⟩ := MinS.ex (N := a + 1) hM hb
  have e := h.fix ha hL
  have q1 := (hP.2.2.2 L hL.1 (hO.2.1 L hL.1 hL.2.1)).1 (src s) hen.1 (by have := hen.2; omega)
  have q2 := hL.1 s hs0 hs1 hen
  rw [hsa] at q2
  omega
theorem Row0.no {src g : Int → Int} {a p : Int} {t0 t : Int → Int} (ha : 0 ≤ a) (h : Row0 src g a t0) (hO : Outer (a + 1) (2 * (a + 1)) (enS src a) src g t0 p t) (hp : a + 1 < p) : ¬ FeasS src g a := by
  rintro ⟨M, hM, hM0⟩
  exact hO.none wf_S hp ⟨M, hM, h.below ha hM hM0⟩
theorem Row0.yes {src g : Int → Int} {a p k : Int} {t0 ts t : Int → Int} (ha : 0 ≤ a) (h : Row0 src g a t0) (hO : Outer (a + 1) (2 * (a + 1)) (enS src a) src g t0 p ts) (hP : PassI (a + 1) (2 * (a + 1)) (enS src a) src g ts k t 0) (hk : 2 * (a + 1) ≤ k) : LeastS src g a t := by
  have hS := hP.sol wf_S hk
  have e := (hP.2.1 rfl).1
  refine ⟨hS, fun l l0 l1 => ?_, fun M hM hM0 l l0 l1 => ?_⟩
  · have := h.pos ha l l0 l1
    have := hO.1 l l0 (by omega)
    have := hP.1 l l0 (by omega)
    omega
  · rw [e l l0 (by omega)]
    exact hO.2.1 M hM (h.below ha hM hM0) l l0 (by omega)
theorem LeastS.feas {src g : Int → Int} {a : Int} {t : Int → Int} (h : LeastS src g a t) : FeasS src g a := ⟨t, h.1, h.2.1⟩
theorem FeasS.congr {src g g1 : Int → Int} {a : Int} (h : FeasS src g a) (hg : ∀ s, 0 ≤ s → s < 2 * (a + 1) → enS src a s → g1 s = g s) : FeasS src g1 a := by
  obtain ⟨M, h1, h2⟩ := h
  exact ⟨M, fun s s0 s1 hs => by rw [hg s s0 s1 hs]; exact h1 s s0 s1 hs, h2⟩
-- the machine: (how many acts are placed, their choices, the next choice, tries)
abbrev DS : Type := Int × (Int → Int) × Int × Int
noncomputable def stepD (c pl : Int) (Gs : Int → (Int → Int) → Prop) (s : DS) : DS :=
  if s.1 < 0 ∨ c ≤ s.1 then s else
  if pl ≤ s.2.2.1 then (s.1 - 1, (fun l => if l = s.1 - 1 then 0 else s.2.1 l), s.2.1 (s.1 - 1) + 1, s.2.2.2) else
  if 20000 ≤ s.2.2.2 then s else
  @ite DS (Gs s.1 (fun l => if l = s.1 then s.2.2.1 else s.2.1 l)) (Classical.propDecidable _) (s.1 + 1, (fun l => if l = s.1 then s.2.2.1 else s.2.1 l), 0, s.2.2.2 + 1) (s.1, s.2.1, s.2.2.1 + 1, s.2.2.2 + 1)
noncomputable def runD (c pl : Int) (Gs : Int → (Int → Int) → Prop) : Nat → DS
  | 0 => (0, fun _ => 0, 0, 0)
  | k + 1 => stepD c pl Gs (runD c pl Gs k)
def endD (c pl : Int) (s : DS) : Prop := s.1 < 0 ∨ c ≤ s.1 ∨ (s.2.2.1 < pl ∧ 20000 ≤ s.2.2.2)
theorem stepD_end {c pl : Int} {Gs : Int → (Int → Int) → Prop} {s : DS} (h : endD c pl s) : stepD c pl Gs s = s := by
  unfold stepD
  rcases h with h | h | ⟨h1, h2⟩
  · rw [if_pos (Or.inl h)]
  · rw [if_pos (Or.inr h)]
  · split
    · rfl
    · simp only [if_neg (show ¬ pl ≤ s.2.2.1 by omega), if_pos h2]
theorem runD_end {c pl : Int} {Gs : Int → (Int → Int) → Prop} {k : Nat} (h : endD c pl (runD c pl Gs k)) : ∀ j : Nat, runD c pl Gs (k + j) = runD c pl Gs k
  | 0 => rfl
  | j + 1 => by
    show stepD c pl Gs (runD c pl Gs (k + j)) = _
    rw [runD_end h j]
    exact stepD_end h
theorem runD_uniq {c pl : Int} {Gs : Int → (Int → Int) → Prop} {k j : Nat} (h : endD c pl (runD c pl Gs k)) (g : endD c pl (runD c pl Gs j)) : runD c pl Gs k = runD c pl Gs j := by
  rcases Nat.le_total k j with q | q
  · have := runD_end h (j - k)
    rw [show k + (j - k) = j by omega] at this
    exact this.symm
  · have := runD_end g (k - j)
    rw [show j + (k - j) = k by omega] at this
    exact this
theorem stepD_congr {c pl : Int} {Gs Hs : Int → (Int → Int) → Prop} (h : ∀ a cho, 0 ≤ a → a < c → (Gs a cho ↔ Hs a cho)) (s : DS) : stepD c pl Gs s = stepD c pl Hs s := by
  unfold stepD
  split
  · rfl
  · split
    · rfl
    · split
      · rfl
      · exact if_iff _ _ (h _ _ (by omega) (by omega))
theorem runD_congr {c pl : Int} {Gs Hs : Int → (Int → Int) → Prop} (h : ∀ a cho, 0 ≤ a → a < c → (Gs a cho ↔ Hs a cho)) : ∀ k, runD c pl Gs k = runD c pl Hs k
  | 0 => rfl
  | k + 1 => by
    show stepD c pl Gs (runD c pl Gs k) = stepD c pl Hs (runD c pl Hs k)
    rw [runD_congr h k, stepD_congr h]
theorem stepD_back {c pl : Int} {Gs : Int → (Int → Int) → Prop} {a ch u : Int} {cho : Int → Int} (h0 : 0 ≤ a) (h1 : a < c) (h2 : pl ≤ ch) : stepD c pl Gs (a, cho, ch, u) = (a - 1, (fun l => if l = a - 1 then 0 else cho l), cho (a - 1) + 1, u) := by
  unfold stepD
  rw [if_neg (show ¬ (a < 0 ∨ c ≤ a) by omega), if_pos h2]
theorem stepD_yes {c pl : Int} {Gs : Int → (Int → Int) → Prop} {a ch u : Int} {cho : Int → Int} (h0 : 0 ≤ a) (h1 : a < c) (h2 : ch < pl) (h3 : u < 20000) (h4 : Gs a (fun l => if l = a then ch else cho l)) : stepD c pl Gs (a, cho, ch, u) = (a + 1, (fun l => if l = a then ch else cho l), 0, u + 1) := by
  unfold stepD
  rw [if_neg (show ¬ (a < 0 ∨ c ≤ a) by omega), if_neg (show ¬ pl ≤ ch by omega), if_neg (show ¬ 20000 ≤ u by omega), if_pos h4]
theorem stepD_no {c pl : Int} {Gs : Int → (Int → Int) → Prop} {a ch u : Int} {cho : Int → Int} (h0 : 0 ≤ a) (h1 : a < c) (h2 : ch < pl) (h3 : u < 20000) (h4 : ¬ Gs a (fun l => if l = a then ch else cho l)) : stepD c pl Gs (a, cho, ch, u) = (a, cho, ch + 1, u + 1) := by
  unfold stepD
  rw [if_neg (show ¬ (a < 0 ∨ c ≤ a) by omega), if_neg (show ¬ pl ≤ ch by omega), if_neg (show ¬ 20000 ≤ u by omega), if_neg h4]
theorem GoesS.congr {br mu kd src dist W C O C1 O1 : Int → Int} {n a : Int} (h : GoesS br mu kd src dist W n C O a) (ha : 0 ≤ a) (hC : ∀ l, 0 ≤ l → l ≤ a → C1 l = C l) (hO : ∀ l, 0 ≤ l → l ≤ a → O1 l = O l) : GoesS br mu kd src dist W n C1 O1 a := by
  obtain ⟨⟨f1, f2, f3⟩, h2, h3⟩ := h
  have ea := hC a ha (Int.le_refl a)
  have eo := hO a ha (Int.le_refl a)
  refine ⟨⟨by rw [ea]; exact f1, by rw [ea]; exact f2, fun o o0 o1 => by rw [hC o o0 (by omega), hO o o0 (by omega), ea, eo]; exact f3 o o0 o1⟩, fun s s0 s1 hs => ?_, h3.congr fun s s0 s1 hs => ?_⟩
  · rw [hC (src s) hs.1 hs.2, hC (s / 2) (by omega) (by omega)]
    exact h2 s s0 s1 hs
  · unfold gapS
    rw [hC (src s) hs.1 hs.2, hC (s / 2) (by omega) (by omega), hO (src s) hs.1 hs.2, hO (s / 2) (by omega) (by omega)]
/-- of the class's memory: σ as the search began, τ now -/
def GoesX (σ : MM) (bt a : Int) (C O : Int → Int) : Prop := GoesS (σ 11) (σ 12) (σ 2) (σ 5) (σ 6) (σ 13) bt C O a
def GsX (σ : MM) (bt : Int) : Int → (Int → Int) → Prop := fun a cho => GoesX σ bt a (fun l => cho l / bt) (fun l => cho l % bt)
def gapX (σ τ : MM) (bt : Int) : Int → Int := gapS (σ 2) (σ 5) (σ 6) (σ 13) (τ 18) (τ 19) bt
def STab (σ τ : MM) (bt a : Int) : Prop := ∀ j, 0 ≤ j → j < a →
  LeastS (σ 5) (gapX σ τ bt) j (fun l => τ 22 (j * 8 + l)) ∧ WaysS (σ 5) (σ 13) (τ 18) j ∧ (∀ s, 0 ≤ s → s < 2 * (j + 1) → enS (σ 5) j s → τ 21 s = gapX σ τ bt s) ∧ (∀ l, 0 ≤ l → l ≤ j → τ 22 (j * 8 + l) ≤ 160000 * (j + 1))
def SRel (σ τ : MM) (bt a : Int) (cho : Int → Int) : Prop := ∀ l, 0 ≤ l → l < a → τ 18 l = cho l / bt ∧ τ 19 l = cho l % bt ∧ τ 20 l = cho l + 1 ∧ 0 ≤ cho l ∧ cho l < σ 56 0 * σ 57 0 * bt
def DInv (σ τ : MM) (bt act move : Int) : Prop := ∃ (k : Nat) (cho : Int → Int) (ch pu : Int), runD (σ 53 0) (σ 56 0 * σ 57 0 * bt) (GsX σ bt) k = (act, cho, ch, τ 60 0) ∧ (0 ≤ pu ∧ pu ≤ τ 60 0 ∧ move = τ 60 0 + pu - act) ∧
  (0 ≤ act → act < σ 53 0 → τ 20 act = ch ∧ 0 ≤ ch ∧ ch ≤ σ 56 0 * σ 57 0 * bt) ∧ SRel σ τ bt act cho ∧ STab σ τ bt act
def GN (σ τ τ1 : MM) (bt a z : Int) : Prop := τ1 60 0 = τ 60 0 + 1 ∧ (∀ b, τ1 18 b = if b = a then τ 20 a / bt else τ 18 b) ∧ (∀ b, τ1 19 b = if b = a then τ 20 a % bt else τ 19 b) ∧ (∀ b, τ1 20 b = if b = a then τ 20 a + 1 else τ 20 b) ∧
  ((z = 1 ∧ GoesX σ bt a (τ1 18) (τ1 19) ∧ STab σ τ1 bt (a + 1)) ∨ (z = 0 ∧ ¬ GoesX σ bt a (τ1 18) (τ1 19) ∧ STab σ τ1 bt a))
theorem DInv.init {σ τ : MM} {bt : Int} (h60 : τ 60 0 = 0) (h20 : τ 20 0 = 0) (hp : 0 ≤ σ 56 0 * σ 57 0 * bt) : DInv σ τ bt 0 0 :=
  ⟨0, fun _ => 0, 0, 0, by rw [h60]; rfl, ⟨by omega, by omega, by omega⟩, fun _ _ => ⟨h20, by omega, hp⟩, fun l l0 l1 => by omega, fun j j0 j1 => by omega⟩
theorem DInv.back {σ τ : MM} {bt act move a1 m1 : Int} (h : DInv σ τ bt act move) (h0 : 0 ≤ act) (h1 : act < σ 53 0) (hp : σ 56 0 * σ 57 0 * bt ≤ τ 20 act) (ea : a1 = act + -1) (em : m1 = move + 1) : DInv σ τ bt a1 m1 := by
  obtain ⟨k, cho, ch, pu, h2, h3, h4, h5, h6⟩ := h
  have h7 := h4 h0 h1
  have e : a1 = act - 1 := by omega
  refine ⟨k + 1, fun l => if l = act - 1 then 0 else cho l, cho (act - 1) + 1, pu, ?_, ⟨by omega, by omega, by omega⟩, fun q0 q1 => ?_, fun l l0 l1 => ?_, fun j j0 j1 => h6 j j0 (by omega)⟩
  · show stepD _ _ _ (runD _ _ _ k) = _
    rw [h2, stepD_back h0 h1 (by omega), e]
  · have := h5 (act - 1) (by omega) (by omega)
    rw [e]
    exact ⟨this.2.2.1, by omega, by omega⟩
  · simp only [if_neg (show ¬ l = act - 1 by omega)]
    exact h5 l l0 (by omega)
theorem DInv.goes {σ τ τ1 : MM} {bt act move z : Int} (h : DInv σ τ bt act move) (h0 : 0 ≤ act) (h1 : act < σ 53 0) (hp : τ 20 act < σ 56 0 * σ 57 0 * bt) (ht : τ 60 0 < 20000) (hg : GN σ τ τ1 bt act z) :
    (z = 1 → ∀ τ2 : MM, (∀ b, 0 ≤ b → b ≤ act → τ2 20 b = τ1 20 b) → (act + 1 < σ 53 0 → τ2 20 (act + 1) = 0) → τ2 18 = τ1 18 → τ2 19 = τ1 19 → τ2 21 = τ1 21 → τ2 22 = τ1 22 → τ2 60 = τ1 60 → DInv σ τ2 bt (act + 1) (move + 1)) ∧ (z = 0 → DInv σ τ1 bt act (move + 1)) := by
  obtain ⟨k, cho, ch, pu, h2, h3, h4, h5, h6⟩ := h
  have h7 := h4 h0 h1
  obtain ⟨g1, g2, g3, g4, g5⟩ := hg
  have eC : ∀ l, 0 ≤ l → l ≤ act → τ1 18 l = (if l = act then ch else cho l) / bt := fun l l0 l1 => by
    rw [g2]
    split
    · rw [h7.1]
    · exact (h5 l l0 (by omega)).1
  have eO : ∀ l, 0 ≤ l → l ≤ act → τ1 19 l = (if l = act then ch else cho l) % bt := fun l l0 l1 => by
    rw [g3]
    split
    · rw [h7.1]
    · exact (h5 l l0 (by omega)).2.1
  refine ⟨fun hz τ2 t20 t20a t18 t19 t21 t22 t60 => ?_, fun hz => ?_⟩
  · rcases g5 with ⟨-, q1, q2⟩ | ⟨q0, -⟩
    · refine ⟨k + 1, fun l => if l = act then ch else cho l, 0, pu + 1, ?_, ⟨by omega, by rw [t60]; omega, by rw [t60]; omega⟩, fun _ q4 => ⟨t20a q4, by omega, by omega⟩, fun l l0 l1 => ?_, ?_⟩
      · show stepD _ _ _ (runD _ _ _ k) = _
        rw [h2, stepD_yes h0 h1 (by omega) ht, t60, g1]
        exact q1.congr h0 (fun l l0 l1 => (eC l l0 l1).symm) (fun l l0 l1 => (eO l l0 l1).symm)
      · rw [t18, t19, t20 l l0 (by omega), eC l l0 (by omega), eO l l0 (by omega), g4]
        refine ⟨rfl, rfl, ?_⟩
        by_cases e : l = act
        · simp only [if_pos e]
          omega
        · simp only [if_neg e]
          exact (h5 l l0 (by omega)).2.2
      · intro j j0 j1
        unfold gapX
        rw [t18, t19, t21, t22]
        exact q2 j j0 j1
    · omega
  · rcases g5 with ⟨q0, -⟩ | ⟨-, q1, q2⟩
    · omega
    · refine ⟨k + 1, cho, ch + 1, pu, ?_, ⟨by omega, by omega, by omega⟩, fun _ _ => ⟨by rw [g4, if_pos rfl]; omega, by omega, by omega⟩, fun l l0 l1 => ?_, q2⟩
      · show stepD _ _ _ (runD _ _ _ k) = _
        rw [h2, stepD_no h0 h1 (by omega) ht, g1]
        exact fun q3 => q1 (q3.congr h0 eC eO)
      · rw [g2, g3, g4, if_neg (by omega), if_neg (by omega), if_neg (by omega)]
        exact h5 l l0 l1
theorem IsMax.none {P : Int → Prop} {f : Int → Int} {n m0 : Int} (h : ∀ s, 0 ≤ s → s < n → ¬ P s) : IsMax P f n m0 m0 := ⟨Int.le_refl _, fun s s0 s1 q => absurd q (h s s0 s1), Or.inl rfl⟩
/-- a new act's row, slots below p looked at -/
theorem Row0.of {src g : Int → Int} {a p : Int} {t : Int → Int} (ha : 0 ≤ a) (h1 : 0 < a → LeastS src g (a - 1) t) (hM : IsMax (fun s => 2 * a ≤ s ∧ 0 ≤ src s ∧ src s < a) (fun s => t (src s) + g s) p 0 (t a)) (hp : p = 2 * a + 2) : Row0 src g a t := by
  obtain ⟨m1, m2, m3⟩ := hM
  refine ⟨h1, m1, fun s hs u0 u1 => m2 s (by omega) (by omega) ⟨by omega, u0, u1⟩, ?_⟩
  rcases m3 with m3 | ⟨s, s0, s1, s2, s3⟩
  · exact Or.inl m3
  · exact Or.inr ⟨s, by omega, s2.2.1, s2.2.2, s3⟩
theorem IsMax.congrF {P : Int → Prop} {f g : Int → Int} {n m0 m : Int} (h : IsMax P f n m0 m) (e : ∀ s, 0 ≤ s → s < n → P s → g s = f s) : IsMax P g n m0 m := by
  obtain ⟨h1, h2, h3⟩ := h
  refine ⟨h1, fun s s0 s1 q => by rw [e s s0 s1 q]; exact h2 s s0 s1 q, ?_⟩
  rcases h3 with h3 | ⟨s, s0, s1, s2, s3⟩
  · exact Or.inl h3
  · exact Or.inr ⟨s, s0, s1, s2, by rw [e s s0 s1 s2]; exact s3⟩
theorem mg_skip {src W C g F : Int → Int} {a p p1 : Int} (h : ∀ s : Int, 0 ≤ s → s < p → 0 ≤ src s → src s ≤ a → (src s = a ∨ s / 2 = a) → W (C (src s) * 9 + C (s / 2)) < 1000 ∧ g s = F s) (e : p1 = p + 1) (hn : ¬ (0 ≤ src p ∧ src p ≤ a ∧ (src p = a ∨ p / 2 = a))) :
    ∀ s : Int, 0 ≤ s → s < p1 → 0 ≤ src s → src s ≤ a → (src s = a ∨ s / 2 = a) → W (C (src s) * 9 + C (s / 2)) < 1000 ∧ g s = F s := by
  intro s s0 s1 q1 q2 q3
  by_cases e1 : s = p
  · rw [e1] at q1 q2 q3
    exact absurd ⟨q1, q2, q3⟩ hn
  · exact h s s0 (by omega) q1 q2 q3
theorem mg_put {src W C g g1 F : Int → Int} {a p p1 z : Int} (h : ∀ s : Int, 0 ≤ s → s < p → 0 ≤ src s → src s ≤ a → (src s = a ∨ s / 2 = a) → W (C (src s) * 9 + C (s / 2)) < 1000 ∧ g s = F s) (e : p1 = p + 1) (hs : ∀ b, g1 b = if b = p then z else g b) (hz : z = F p) (hw : W (C (src p) * 9 + C (p / 2)) < 1000) :
    ∀ s : Int, 0 ≤ s → s < p1 → 0 ≤ src s → src s ≤ a → (src s = a ∨ s / 2 = a) → W (C (src s) * 9 + C (s / 2)) < 1000 ∧ g1 s = F s := by
  intro s s0 s1 q1 q2 q3
  rw [hs]
  by_cases e1 : s = p
  · rw [if_pos e1, e1]
    exact ⟨hw, hz⟩
  · rw [if_neg e1]
    exact h s s0 (by omega) q1 q2 q3
theorem row0_fin {src g r0 r1 T : Int → Int} {a p : Int} (ha : 0 ≤ a) (hL : 0 < a → LeastS src g (a - 1) (fun l => r0 ((a - 1) * 8 + l))) (hrow : ∀ l, 0 ≤ l → l < a → r1 (a * 8 + l) = r0 ((a - 1) * 8 + l)) (hk : ∀ b, b ≠ a * 8 + a → T b = r1 b)
    (hM : IsMax (fun s => 2 * a ≤ s ∧ 0 ≤ src s ∧ src s < a) (fun s => r1 (a * 8 + src s) + g s) p 0 (T (a * 8 + a))) (hp : p = 2 * a + 2) : Row0 src g a (fun l => T (a * 8 + l)) := by
  refine Row0.of ha (fun h0 => (hL h0).congr (fun _ _ _ _ => rfl) (fun l l0 l1 => ?_)) (hM.congrF fun s s0 s1 q => ?_) hp
  · show T (a * 8 + l) = r0 ((a - 1) * 8 + l)
    rw [hk _ (by omega), hrow l l0 (by omega)]
  · show T (a * 8 + src s) + g s = r1 (a * 8 + src s) + g s
    rw [hk _ (by have := q.2.2; omega)]
theorem pass_push {N K k a z : Int} {en : Int → Prop} {u g ts T T1 : Int → Int} {grew : Int} (hw : Wf N K en u) (h : PassI N K en u g ts k (fun l => T (a * 8 + l)) grew) (hk : 0 ≤ k ∧ k < K) (hen : en k) (hlt : T (a * 8 + k / 2) < T (a * 8 + u k) + g k) (hz : z = T (a * 8 + u k) + g k)
    (ht : ∀ b, T1 b = if b = a * 8 + k / 2 then z else T b) {k1 : Int} (e : k1 = k + 1) : PassI N K en u g ts k1 (fun l => T1 (a * 8 + l)) 1 := by
  rw [e]
  refine h.push hw hk hen hlt fun b => ?_
  show T1 (a * 8 + b) = _
  rw [ht, hz]
  exact if_iff _ _ (by omega)
theorem pass_skip {N K k k1 : Int} {en : Int → Prop} {u g ts t : Int → Int} {grew : Int} (hw : Wf N K en u) (h : PassI N K en u g ts k t grew) (hk : 0 ≤ k ∧ k < K) (hs : ¬ en k ∨ t (u k) + g k ≤ t (k / 2)) (e : k1 = k + 1) : PassI N K en u g ts k1 t grew := by
  rw [e]
  exact h.skip hw hk hs
end
section
/-! PURE: one try of the search -/
def inv2 (src : Int → Int) (a s : Int) : Prop := 0 ≤ s ∧ s < 2 * (a + 1) ∧ 0 ≤ src s ∧ src s ≤ a ∧ (src s = a ∨ s / 2 = a)
theorem STab.keep {σ τ υ : MM} {bt a : Int} (h : STab σ τ bt a) (hC : ∀ l, l ≠ a → υ 18 l = τ 18 l) (hO : ∀ l, l ≠ a → υ 19 l = τ 19 l) (hg : ∀ s, ¬ inv2 (σ 5) a s → υ 21 s = τ 21 s) (ht : ∀ b, b < a * 8 → υ 22 b = τ 22 b) (a8 : a ≤ 8 := by omega) : STab σ υ bt a := by
  intro j j0 j1
  obtain ⟨h1, h2, h3, h4⟩ := h j j0 j1
  have eg : ∀ s, 0 ≤ s → s < 2 * (j + 1) → enS (σ 5) j s → gapX σ υ bt s = gapX σ τ bt s := fun s s0 s1 hs => by
    unfold gapX gapS
    have := hs.2
    rw [hC (σ 5 s) (by omega), hC (s / 2) (by omega), hO (σ 5 s) (by omega), hO (s / 2) (by omega)]
  refine ⟨h1.congr eg fun l l0 l1 => ht _ (by omega), fun s s0 s1 hs => ?_, fun s s0 s1 hs => ?_, fun l l0 l1 => by rw [ht _ (by omega)]; exact h4 l l0 l1⟩
  · have := hs.2
    rw [hC (σ 5 s) (by omega), hC (s / 2) (by omega)]
    exact h2 s s0 s1 hs
  · rw [eg s s0 s1 hs, hg s (fun q => by have := hs.2; have := q.2.2.2.2; omega)]
    exact h3 s s0 s1 hs
theorem STab.gaps {σ τ υ : MM} {bt a : Int} (h : STab σ τ bt a) (hC : ∀ l, l ≠ a → υ 18 l = τ 18 l) (hO : ∀ l, l ≠ a → υ 19 l = τ 19 l) (hg : ∀ s, ¬ inv2 (σ 5) a s → υ 21 s = τ 21 s)
    (hG : ∀ s, inv2 (σ 5) a s → σ 13 (υ 18 (σ 5 s) * 9 + υ 18 (s / 2)) < 1000 ∧ υ 21 s = gapX σ υ bt s) (s : Int) (s0 : 0 ≤ s) (s1 : s < 2 * (a + 1)) (hs : enS (σ 5) a s) : σ 13 (υ 18 (σ 5 s) * 9 + υ 18 (s / 2)) < 1000 ∧ υ 21 s = gapX σ υ bt s := by
  by_cases q : inv2 (σ 5) a s
  · exact hG s q
  · have hs1 := hs.1
    have hs2 := hs.2
    have hj : σ 5 s < a ∧ s / 2 < a := by
      unfold inv2 at q
      omega
    obtain ⟨-, h2, h3, -⟩ := h (a - 1) (by omega) (by omega)
    have e2 := h2 s s0 (by omega) ⟨hs1, by omega⟩
    have e3 := h3 s s0 (by omega) ⟨hs1, by omega⟩
    refine ⟨by rw [hC (σ 5 s) (by omega), hC (s / 2) (by omega)]; exact e2, ?_⟩
    rw [hg s q, e3]
    unfold gapX gapS
    rw [hC (σ 5 s) (by omega), hC (s / 2) (by omega), hO (σ 5 s) (by omega), hO (s / 2) (by omega)]
theorem STab.row {σ τ υ : MM} {bt a : Int} (h : STab σ τ bt a) (hg : ∀ s, ¬ inv2 (σ 5) a s → υ 21 s = τ 21 s) (ha : 0 < a) : LeastS (σ 5) (υ 21) (a - 1) (fun l => τ 22 ((a - 1) * 8 + l)) := by
  obtain ⟨h1, -, h3, -⟩ := h (a - 1) (by omega) (by omega)
  refine h1.congr (fun s s0 s1 hs => ?_) (fun _ _ _ => rfl)
  rw [hg s (fun q => by have := hs.2; have := q.2.2.2.2; omega)]
  exact h3 s s0 s1 hs
theorem STab.rowB {σ τ : MM} {bt a : Int} (h : STab σ τ bt a) (l : Int) (l0 : 0 ≤ l) (l1 : l < a) : τ 22 ((a - 1) * 8 + l) ≤ 160000 * a := by
  have := (h (a - 1) (by omega) (by omega)).2.2.2 l l0 (by omega)
  omega
/-- the memory as the try begins: tries, cells, left-overs and the next try are written -/
def Try0 (σ υ : MM) (bt a : Int) : Prop := υ 60 0 = σ 60 0 + 1 ∧ (∀ b, υ 18 b = if b = a then σ 20 a / bt else σ 18 b) ∧ (∀ b, υ 19 b = if b = a then σ 20 a % bt else σ 19 b) ∧ (∀ b, υ 20 b = if b = a then σ 20 a + 1 else σ 20 b)
theorem Try0.C {σ υ : MM} {bt a : Int} (h : Try0 σ υ bt a) : ∀ l, l ≠ a → υ 18 l = σ 18 l := fun l hl => by rw [h.2.1, if_neg hl]
theorem Try0.O {σ υ : MM} {bt a : Int} (h : Try0 σ υ bt a) : ∀ l, l ≠ a → υ 19 l = σ 19 l := fun l hl => by rw [h.2.2.1, if_neg hl]
theorem gn_no {σ υ : MM} {bt a : Int} (h : Try0 σ υ bt a) (hS : STab σ σ bt a) (hg : ∀ s, ¬ inv2 (σ 5) a s → υ 21 s = σ 21 s) (ht : ∀ b, b < a * 8 → υ 22 b = σ 22 b) (hn : ¬ GoesX σ bt a (υ 18) (υ 19)) (a8 : a ≤ 8 := by omega) : GN σ σ υ bt a 0 :=
  ⟨h.1, h.2.1, h.2.2.1, h.2.2.2, Or.inr ⟨rfl, hn, hS.keep h.C h.O hg ht⟩⟩
theorem gn_noF {σ υ : MM} {bt a : Int} (h : Try0 σ υ bt a) (hS : STab σ σ bt a) (hg : ∀ s, ¬ inv2 (σ 5) a s → υ 21 s = σ 21 s) (ht : ∀ b, b < a * 8 → υ 22 b = σ 22 b)
    (hG : ∀ s, inv2 (σ 5) a s → σ 13 (υ 18 (σ 5 s) * 9 + υ 18 (s / 2)) < 1000 ∧ υ 21 s = gapX σ υ bt s) (hF : ¬ FeasS (σ 5) (υ 21) a) (a8 : a ≤ 8 := by omega) : GN σ σ υ bt a 0 :=
  gn_no h hS hg ht fun q => hF (q.2.2.congr fun s s0 s1 hs => (hS.gaps h.C h.O hg hG s s0 s1 hs).2)
theorem gn_yes {σ υ : MM} {bt a : Int} (h : Try0 σ υ bt a) (hS : STab σ σ bt a) (hg : ∀ s, ¬ inv2 (σ 5) a s → υ 21 s = σ 21 s) (ht : ∀ b, b < a * 8 → υ 22 b = σ 22 b)
    (hG : ∀ s, inv2 (σ 5) a s → σ 13 (υ 18 (σ 5 s) * 9 + υ 18 (s / 2)) < 1000 ∧ υ 21 s = gapX σ υ bt s) (hf : FreeS (σ 11) (σ 12) (σ 2) (υ 18) (υ 19) a) (hL : LeastS (σ 5) (υ 21) a (fun l => υ 22 (a * 8 + l))) (hB : ∀ l, 0 ≤ l → l ≤ a → υ 22 (a * 8 + l) ≤ 160000 * (a + 1)) (a8 : a ≤ 8 := by omega) : GN σ σ υ bt a 1 := by
  have hall := hS.gaps h.C h.O hg hG
  have hL2 : LeastS (σ 5) (gapX σ υ bt) a (fun l => υ 22 (a * 8 + l)) := hL.congr (fun s s0 s1 hs => (hall s s0 s1 hs).2.symm) (fun _ _ _ => rfl)
  have hW : WaysS (σ 5) (σ 13) (υ 18) a := fun s s0 s1 hs => (hall s s0 s1 hs).1
  refine ⟨h.1, h.2.1, h.2.2.1, h.2.2.2, Or.inl ⟨rfl, ⟨hf, hW, hL2.feas⟩, fun j j0 j1 => ?_⟩⟩
  by_cases e : j = a
  · rw [e]
    exact ⟨hL2, hW, fun s s0 s1 hs => (hall s s0 s1 hs).2, hB⟩
  · exact (hS.keep h.C h.O hg ht a8) j j0 (by omega)
theorem GN.base {σ τ τ1 : MM} {bt a z : Int} {L : List Nat} (m : Mod L σ τ) (hL : ([2, 5, 6, 11, 12, 13] : List Nat).all (fun r => !(L.contains r)) = true) (h : GN τ τ τ1 bt a z) : GN σ τ τ1 bt a z := by
  have e : ∀ r ∈ ([2, 5, 6, 11, 12, 13] : List Nat), τ r = σ r := fun r hr => m.at r (by have := List.all_eq_true.mp hL r hr; simpa using this)
  unfold GN GoesX STab gapX at h ⊢
  rw [e 2 (by decide), e 5 (by decide), e 6 (by decide), e 11 (by decide), e 12 (by decide), e 13 (by decide)] at h
  exact h
theorem STab.base {σ τ : MM} {bt a : Int} {L : List Nat} (m : Mod L σ τ) (hL : ([2, 5, 6, 11, 12, 13] : List Nat).all (fun r => !(L.contains r)) = true) (h : STab σ τ bt a) : STab τ τ bt a := by
  have e : ∀ r ∈ ([2, 5, 6, 11, 12, 13] : List Nat), τ r = σ r := fun r hr => m.at r (by have := List.all_eq_true.mp hL r hr; simpa using this)
  unfold STab gapX at h ⊢
  rw [e 2 (by decide), e 5 (by decide), e 6 (by decide), e 13 (by decide)]
  exact h
theorem DInv.mv {σ τ : MM} {bt act move : Int} (h : DInv σ τ bt act move) (h0 : -1 ≤ act) (h1 : τ 60 0 ≤ 20000) : move ≤ 40001 := by
  obtain ⟨k, cho, ch, pu, -, h3, -⟩ := h
  omega
theorem DInv.stab {σ τ : MM} {bt act move : Int} (h : DInv σ τ bt act move) : STab σ τ bt act := by
  obtain ⟨k, cho, ch, pu, -, -, -, -, h6⟩ := h
  exact h6
theorem DInv.next {σ τ : MM} {bt act move : Int} (h : DInv σ τ bt act move) (h0 : 0 ≤ act) (h1 : act < σ 53 0) : 0 ≤ τ 20 act := by
  obtain ⟨k, cho, ch, pu, -, -, h4, -⟩ := h
  have := h4 h0 h1
  omega
theorem DInv.cells {σ τ : MM} {bt act move : Int} (h : DInv σ τ bt act move) (hb : 0 < bt) (l : Int) (l0 : 0 ≤ l) (l1 : l < act) : τ 18 l < σ 56 0 * σ 57 0 := by
  obtain ⟨k, cho, ch, pu, -, -, -, h5, -⟩ := h
  obtain ⟨q1, -, -, q2, q3⟩ := h5 l l0 l1
  rw [q1]
  exact Int.ediv_lt_of_lt_mul hb q3
/-- how a search ended -/
def DFin (σ υ : MM) (bt z : Int) : Prop := ∃ k : Nat, endD (σ 53 0) (σ 56 0 * σ 57 0 * bt) (runD (σ 53 0) (σ 56 0 * σ 57 0 * bt) (GsX σ bt) k) ∧ υ 60 0 = (runD (σ 53 0) (σ 56 0 * σ 57 0 * bt) (GsX σ bt) k).2.2.2 ∧
  (((runD (σ 53 0) (σ 56 0 * σ 57 0 * bt) (GsX σ bt) k).1 = σ 53 0 ∧ z = bt ∧
      (∀ l, 0 ≤ l → l < σ 53 0 → υ 18 l = (runD (σ 53 0) (σ 56 0 * σ 57 0 * bt) (GsX σ bt) k).2.1 l / bt ∧ υ 19 l = (runD (σ 53 0) (σ 56 0 * σ 57 0 * bt) (GsX σ bt) k).2.1 l % bt ∧ 0 ≤ υ 18 l ∧ υ 18 l < σ 56 0 * σ 57 0) ∧
      LeastS (σ 5) (gapX σ υ bt) (σ 53 0 - 1) (fun l => υ 22 ((σ 53 0 - 1) * 8 + l))) ∨
    ((runD (σ 53 0) (σ 56 0 * σ 57 0 * bt) (GsX σ bt) k).1 < 0 ∧ z = -6) ∨
    (0 ≤ (runD (σ 53 0) (σ 56 0 * σ 57 0 * bt) (GsX σ bt) k).1 ∧ (runD (σ 53 0) (σ 56 0 * σ 57 0 * bt) (GsX σ bt) k).1 < σ 53 0 ∧ z = -7))
theorem DInv.fin {σ τ : MM} {bt act move z : Int} (h : DInv σ τ bt act move) (hb : 0 < bt) (hc : 1 ≤ σ 53 0) (hz : (act = σ 53 0 ∧ z = bt) ∨ (act < 0 ∧ z = -6) ∨ (0 ≤ act ∧ act < σ 53 0 ∧ τ 20 act < σ 56 0 * σ 57 0 * bt ∧ 20000 ≤ τ 60 0 ∧ z = -7)) : DFin σ τ bt z := by
  have hcl := h.cells hb
  obtain ⟨k, cho, ch, pu, h2, h3, h4, h5, h6⟩ := h
  refine ⟨k, ?_, ?_, ?_⟩
  · rw [h2]
    unfold endD
    rcases hz with q | q | q
    · exact Or.inr (Or.inl (by show σ 53 0 ≤ act; omega))
    · exact Or.inl q.1
    · have := h4 q.1 q.2.1
      exact Or.inr (Or.inr ⟨by show ch < _; omega, q.2.2.2.1⟩)
  · rw [h2]
  · rw [h2]
    rcases hz with ⟨rfl, q2⟩ | q | q
    · refine Or.inl ⟨rfl, q2, fun l l0 l1 => ?_, ?_⟩
      · obtain ⟨g1, g2, -, g4, g5⟩ := h5 l l0 l1
        exact ⟨g1, g2, by rw [g1]; exact Int.ediv_nonneg g4 (by omega), hcl l l0 l1⟩
      · exact (h6 (σ 53 0 - 1) (by omega) (by omega)).1
    · exact Or.inr (Or.inl q)
    · exact Or.inr (Or.inr ⟨q.1, q.2.1, q.2.2.2.2⟩)
end
section
theorem dX2_count_0 : decode cX2_count 0 = .ok (.aload_n 0, 1) := by decide +kernel
theorem dX2_count_1 : decode cX2_count 1 = .ok (.getfield 37, 3) := by decide +kernel
theorem dX2_count_4 : decode cX2_count 4 = .ok (.ireturn, 1) := by decide +kernel
set_option maxRecDepth 20000 in
set_option maxHeartbeats 4000000 in
theorem k_Lp_count (l : Launch) (w : WT) (σ : MM) : CT SX l w yX2_count cX2_count 1 (some .int) 0 0 [.ref (w.2.2 1)] σ (PI fun z σ1 => σ = σ1 ∧ (z = σ 53 0) ∧ (0 ≤ z ∧ z ≤ 8)) := by
  refine CT.of 0 [some (.ref (w.2.2 1))] (by decide +kernel) (by simp [lg_sl, Value.category]) rfl sh_X (fun G hX => ?_)
  refine r_aload_n hX dX2_count_0 rfl ?_
  refine fg_X1_37 hX dX2_count_1 (fun b1l b1u => ?_)
  exact r_iret hX dX2_count_4 rfl ⟨_, rfl, ⟨rfl, (by omega), (by omega)⟩⟩
theorem dX2_firstNumber_0 : decode cX2_firstNumber 0 = .ok (.aload_n 0, 1) := by decide +kernel
theorem dX2_firstNumber_1 : decode cX2_firstNumber 1 = .ok (.getfield 41, 3) := by decide +kernel
theorem dX2_firstNumber_4 : decode cX2_firstNumber 4 = .ok (.ireturn, 1) := by decide +kernel
set_option maxRecDepth 20000 in
set_option maxHeartbeats 4000000 in
theorem k_Lp_first (l : Launch) (w : WT) (σ : MM) : CT SX l w yX2_firstNumber cX2_firstNumber 1 (some .int) 0 0 [.ref (w.2.2 1)] σ (PI fun z σ1 => σ = σ1 ∧ (z = σ 55 0)) := by
  refine CT.of 0 [some (.ref (w.2.2 1))] (by decide +kernel) (by simp [lg_sl, Value.category]) rfl sh_X (fun G hX => ?_)
  refine r_aload_n hX dX2_firstNumber_0 rfl ?_
  refine fg_X1_41 hX dX2_firstNumber_1 ?_
  exact r_iret hX dX2_firstNumber_4 rfl ⟨_, rfl, ⟨rfl, (by omega)⟩⟩
theorem dX2_setFirstNumber_0 : decode cX2_setFirstNumber 0 = .ok (.aload_n 0, 1) := by decide +kernel
theorem dX2_setFirstNumber_1 : decode cX2_setFirstNumber 1 = .ok (.iload_n 1, 1) := by decide +kernel
theorem dX2_setFirstNumber_2 : decode cX2_setFirstNumber 2 = .ok (.putfield 41, 3) := by decide +kernel
theorem dX2_setFirstNumber_5 : decode cX2_setFirstNumber 5 = .ok (.return_, 1) := by decide +kernel
set_option maxRecDepth 20000 in
set_option maxHeartbeats 4000000 in
theorem k_Lp_setFirst (l : Launch) (w : WT) (σ : MM) (n : Int) (i_n : inr n) : CT SX l w yX2_setFirstNumber cX2_setFirstNumber 2 none 0 0 [.ref (w.2.2 1), .int (iI n)] σ (PV fun σ1 => Mod [55] σ σ1 ∧ (σ1 55 0 = n)) := by
  refine CT.of 0 [some (.ref (w.2.2 1)), some (.int (iI n))] (by decide +kernel) (by simp [lg_sl, Value.category]) rfl sh_X (fun G hX => ?_)
  refine r_aload_n hX dX2_setFirstNumber_0 rfl ?_
  refine r_iload_n hX dX2_setFirstNumber_1 rfl ?_
  refine fp_X1_41 hX dX2_setFirstNumber_2 (fun σ2 m2 s2 => ?_)
  exact r_ret hX dX2_setFirstNumber_5 rfl ⟨rfl, ⟨(m2.w rfl), (by omega)⟩⟩
theorem dX2_isThere_0 : decode cX2_isThere 0 = .ok (.iload_n 1, 1) := by decide +kernel
theorem dX2_isThere_1 : decode cX2_isThere 1 = .ok (.ifCond .lt 21, 3) := by decide +kernel
theorem dX2_isThere_4 : decode cX2_isThere 4 = .ok (.iload_n 1, 1) := by decide +kernel
theorem dX2_isThere_5 : decode cX2_isThere 5 = .ok (.aload_n 0, 1) := by decide +kernel
theorem dX2_isThere_6 : decode cX2_isThere 6 = .ok (.getfield 37, 3) := by decide +kernel
theorem dX2_isThere_9 : decode cX2_isThere 9 = .ok (.if_icmp .ge 13, 3) := by decide +kernel
theorem dX2_isThere_12 : decode cX2_isThere 12 = .ok (.iload_n 1, 1) := by decide +kernel
theorem dX2_isThere_13 : decode cX2_isThere 13 = .ok (.bipush 8, 2) := by decide +kernel
theorem dX2_isThere_15 : decode cX2_isThere 15 = .ok (.if_icmp .ge 7, 3) := by decide +kernel
theorem dX2_isThere_18 : decode cX2_isThere 18 = .ok (.iconst 1, 1) := by decide +kernel
theorem dX2_isThere_19 : decode cX2_isThere 19 = .ok (.goto 4, 3) := by decide +kernel
theorem dX2_isThere_22 : decode cX2_isThere 22 = .ok (.iconst 0, 1) := by decide +kernel
theorem dX2_isThere_23 : decode cX2_isThere 23 = .ok (.ireturn, 1) := by decide +kernel
set_option maxRecDepth 20000 in
set_option maxHeartbeats 4000000 in
theorem k_Lp_isThere (l : Launch) (w : WT) (σ : MM) (a : Int) (i_a : inr a) : CT SX l w yX2_isThere cX2_isThere 2 (some .boolean) 0 0 [.ref (w.2.2 1), .int (iI a)] σ (PI fun z σ1 => σ = σ1 ∧ ((z = 1 ∧ 0 ≤ a ∧ a < σ 53 0 ∧ a < 8) ∨ (z = 0 ∧ (a < 0 ∨ σ 53 0 ≤ a)))) := by
  refine CT.of 0 [some (.ref (w.2.2 1)), some (.int (iI a))] (by decide +kernel) (by simp [lg_sl, Value.category]) rfl sh_X (fun G hX => ?_)
  refine r_iload_n hX dX2_isThere_0 rfl ?_
  refine r_if_lt hX (tgt := 22) dX2_isThere_1 (by decide) (by omega) (fun c1 => ?_) (fun c1 => ?_)
  · skip
    refine r_iconst hX dX2_isThere_22 ?_
    exact r_zret hX dX2_isThere_23 rfl (by omega) ⟨_, rfl, ⟨rfl, (by omega)⟩⟩
  · skip
    refine r_iload_n hX dX2_isThere_4 rfl ?_
    refine r_aload_n hX dX2_isThere_5 rfl ?_
    refine fg_X1_37 hX dX2_isThere_6 (fun b6l b6u => ?_)
    refine r_icmp_ge hX (tgt := 22) dX2_isThere_9 (by decide) (by omega) (by omega) (fun c9 => ?_) (fun c9 => ?_)
    · skip
      refine r_iconst hX dX2_isThere_22 ?_
      exact r_zret hX dX2_isThere_23 rfl (by omega) ⟨_, rfl, ⟨rfl, (by omega)⟩⟩
    · skip
      refine r_iload_n hX dX2_isThere_12 rfl ?_
      refine r_bipush hX dX2_isThere_13 (by decide) ?_
      refine r_icmp_ge hX (tgt := 22) dX2_isThere_15 (by decide) (by omega) (by omega) (fun c15 => ?_) (fun c15 => ?_)
      · skip
        refine r_iconst hX dX2_isThere_22 ?_
        exact r_zret hX dX2_isThere_23 rfl (by omega) ⟨_, rfl, ⟨rfl, (by omega)⟩⟩
      · skip
        refine r_iconst hX dX2_isThere_18 ?_
        refine r_goto hX dX2_isThere_19 (tgt := 23) (by decide) ?_
        exact r_zret hX dX2_isThere_23 rfl (by omega) ⟨_, rfl, ⟨rfl, (by omega)⟩⟩
theorem dX2_isSlot_0 : decode cX2_isSlot 0 = .ok (.iload_n 1, 1) := by decide +kernel
theorem dX2_isSlot_1 : decode cX2_isSlot 1 = .ok (.ifCond .lt 23, 3) := by decide +kernel
theorem dX2_isSlot_4 : decode cX2_isSlot 4 = .ok (.iload_n 1, 1) := by decide +kernel
theorem dX2_isSlot_5 : decode cX2_isSlot 5 = .ok (.iconst 2, 1) := by decide +kernel
theorem dX2_isSlot_6 : decode cX2_isSlot 6 = .ok (.aload_n 0, 1) := by decide +kernel
theorem dX2_isSlot_7 : decode cX2_isSlot 7 = .ok (.getfield 37, 3) := by decide +kernel
theorem dX2_isSlot_10 : decode cX2_isSlot 10 = .ok (.imul, 1) := by decide +kernel
theorem dX2_isSlot_11 : decode cX2_isSlot 11 = .ok (.if_icmp .ge 13, 3) := by decide +kernel
theorem dX2_isSlot_14 : decode cX2_isSlot 14 = .ok (.iload_n 1, 1) := by decide +kernel
theorem dX2_isSlot_15 : decode cX2_isSlot 15 = .ok (.bipush 16, 2) := by decide +kernel
theorem dX2_isSlot_17 : decode cX2_isSlot 17 = .ok (.if_icmp .ge 7, 3) := by decide +kernel
theorem dX2_isSlot_20 : decode cX2_isSlot 20 = .ok (.iconst 1, 1) := by decide +kernel
theorem dX2_isSlot_21 : decode cX2_isSlot 21 = .ok (.goto 4, 3) := by decide +kernel
theorem dX2_isSlot_24 : decode cX2_isSlot 24 = .ok (.iconst 0, 1) := by decide +kernel
theorem dX2_isSlot_25 : decode cX2_isSlot 25 = .ok (.ireturn, 1) := by decide +kernel
set_option maxRecDepth 20000 in
set_option maxHeartbeats 4000000 in
theorem k_Lp_isSlot (l : Launch) (w : WT) (σ : MM) (a : Int) (i_a : inr a) : CT SX l w yX2_isSlot cX2_isSlot 2 (some .boolean) 0 0 [.ref (w.2.2 1), .int (iI a)] σ (PI fun z σ1 => σ = σ1 ∧ ((z = 1 ∧ 0 ≤ a ∧ a < 2 * σ 53 0 ∧ a < 16) ∨ (z = 0 ∧ (a < 0 ∨ 2 * σ 53 0 ≤ a)))) := by
  refine CT.of 0 [some (.ref (w.2.2 1)), some (.int (iI a))] (by decide +kernel) (by simp [lg_sl, Value.category]) rfl sh_X (fun G hX => ?_)
  refine r_iload_n hX dX2_isSlot_0 rfl ?_
  refine r_if_lt hX (tgt := 24) dX2_isSlot_1 (by decide) (by omega) (fun c1 => ?_) (fun c1 => ?_)
  · skip
    refine r_iconst hX dX2_isSlot_24 ?_
    exact r_zret hX dX2_isSlot_25 rfl (by omega) ⟨_, rfl, ⟨rfl, (by omega)⟩⟩
  · skip
    refine r_iload_n hX dX2_isSlot_4 rfl ?_
    refine r_iconst hX dX2_isSlot_5 ?_
    refine r_aload_n hX dX2_isSlot_6 rfl ?_
    refine fg_X1_37 hX dX2_isSlot_7 (fun b7l b7u => ?_)
    refine r_imul hX dX2_isSlot_10 ?_
    refine r_icmp_ge hX (tgt := 24) dX2_isSlot_11 (by decide) (by omega) (by omega) (fun c11 => ?_) (fun c11 => ?_)
    · skip
      refine r_iconst hX dX2_isSlot_24 ?_
      exact r_zret hX dX2_isSlot_25 rfl (by omega) ⟨_, rfl, ⟨rfl, (by omega)⟩⟩
    · skip
      refine r_iload_n hX dX2_isSlot_14 rfl ?_
      refine r_bipush hX dX2_isSlot_15 (by decide) ?_
      refine r_icmp_ge hX (tgt := 24) dX2_isSlot_17 (by decide) (by omega) (by omega) (fun c17 => ?_) (fun c17 => ?_)
      · skip
        refine r_iconst hX dX2_isSlot_24 ?_
        exact r_zret hX dX2_isSlot_25 rfl (by omega) ⟨_, rfl, ⟨rfl, (by omega)⟩⟩
      · skip
        refine r_iconst hX dX2_isSlot_20 ?_
        refine r_goto hX dX2_isSlot_21 (tgt := 25) (by decide) ?_
        exact r_zret hX dX2_isSlot_25 rfl (by omega) ⟨_, rfl, ⟨rfl, (by omega)⟩⟩
theorem dX2_isSound_0 : decode cX2_isSound 0 = .ok (.aload_n 0, 1) := by decide +kernel
theorem dX2_isSound_1 : decode cX2_isSound 1 = .ok (.getfield 44, 3) := by decide +kernel
theorem dX2_isSound_4 : decode cX2_isSound 4 = .ok (.aload_n 0, 1) := by decide +kernel
theorem dX2_isSound_5 : decode cX2_isSound 5 = .ok (.getfield 37, 3) := by decide +kernel
theorem dX2_isSound_8 : decode cX2_isSound 8 = .ok (.if_icmp .ne 7, 3) := by decide +kernel
theorem dX2_isSound_11 : decode cX2_isSound 11 = .ok (.iconst 1, 1) := by decide +kernel
theorem dX2_isSound_12 : decode cX2_isSound 12 = .ok (.goto 4, 3) := by decide +kernel
theorem dX2_isSound_15 : decode cX2_isSound 15 = .ok (.iconst 0, 1) := by decide +kernel
theorem dX2_isSound_16 : decode cX2_isSound 16 = .ok (.ireturn, 1) := by decide +kernel
set_option maxRecDepth 20000 in
set_option maxHeartbeats 4000000 in
theorem k_Lp_isSound (l : Launch) (w : WT) (σ : MM) : CT SX l w yX2_isSound cX2_isSound 1 (some .boolean) 0 0 [.ref (w.2.2 1)] σ (PI fun z σ1 => σ = σ1 ∧ ((z = 1 ∧ σ 54 0 = σ 53 0) ∨ (z = 0 ∧ σ 54 0 ≠ σ 53 0))) := by
  refine CT.of 0 [some (.ref (w.2.2 1))] (by decide +kernel) (by simp [lg_sl, Value.category]) rfl sh_X (fun G hX => ?_)
  refine r_aload_n hX dX2_isSound_0 rfl ?_
  refine fg_X1_44 hX dX2_isSound_1 (fun b1l b1u => ?_)
  refine r_aload_n hX dX2_isSound_4 rfl ?_
  refine fg_X1_37 hX dX2_isSound_5 (fun b5l b5u => ?_)
  refine r_icmp_ne hX (tgt := 15) dX2_isSound_8 (by decide) (by omega) (by omega) (fun c8 => ?_) (fun c8 => ?_)
  · skip
    refine r_iconst hX dX2_isSound_15 ?_
    exact r_zret hX dX2_isSound_16 rfl (by omega) ⟨_, rfl, ⟨rfl, (by omega)⟩⟩
  · skip
    refine r_iconst hX dX2_isSound_11 ?_
    refine r_goto hX dX2_isSound_12 (tgt := 16) (by decide) ?_
    exact r_zret hX dX2_isSound_16 rfl (by omega) ⟨_, rfl, ⟨rfl, (by omega)⟩⟩
theorem dX2_kindOf_0 : decode cX2_kindOf 0 = .ok (.aload_n 0, 1) := by decide +kernel
theorem dX2_kindOf_1 : decode cX2_kindOf 1 = .ok (.iload_n 1, 1) := by decide +kernel
theorem dX2_kindOf_2 : decode cX2_kindOf 2 = .ok (.invokevirtual 47, 3) := by decide +kernel
theorem dX2_kindOf_5 : decode cX2_kindOf 5 = .ok (.ifCond .eq 12, 3) := by decide +kernel
theorem dX2_kindOf_8 : decode cX2_kindOf 8 = .ok (.aload_n 0, 1) := by decide +kernel
theorem dX2_kindOf_9 : decode cX2_kindOf 9 = .ok (.getfield 9, 3) := by decide +kernel
theorem dX2_kindOf_12 : decode cX2_kindOf 12 = .ok (.iload_n 1, 1) := by decide +kernel
theorem dX2_kindOf_13 : decode cX2_kindOf 13 = .ok (.iaload, 1) := by decide +kernel
theorem dX2_kindOf_14 : decode cX2_kindOf 14 = .ok (.goto 5, 3) := by decide +kernel
theorem dX2_kindOf_17 : decode cX2_kindOf 17 = .ok (.bipush (-6), 2) := by decide +kernel
theorem dX2_kindOf_19 : decode cX2_kindOf 19 = .ok (.ireturn, 1) := by decide +kernel
set_option maxRecDepth 20000 in
set_option maxHeartbeats 4000000 in
theorem k_Lp_kindOf (l : Launch) (w : WT) (σ : MM) (a : Int) (i_a : inr a) : CT SX l w yX2_kindOf cX2_kindOf 2 (some .int) 1 21 [.ref (w.2.2 1), .int (iI a)] σ (PI fun z σ1 => σ = σ1 ∧ ((0 ≤ a ∧ a < σ 53 0 ∧ z = σ 2 a) ∨ ((a < 0 ∨ σ 53 0 ≤ a) ∧ z = -6)) ∧ (-6 ≤ z ∧ z ≤ 5)) := by
  refine CT.of 0 [some (.ref (w.2.2 1)), some (.int (iI a))] (by decide +kernel) (by simp [lg_sl, Value.category]) rfl sh_X (fun G hX => ?_)
  refine r_aload_n hX dX2_kindOf_0 rfl ?_
  refine r_iload_n hX dX2_kindOf_1 rfl ?_
  refine r_callV hX dX2_kindOf_2 (k_Lp_isThere l w σ _ (by omega)) mf_X2_isThere mv_X2_isThere lk_RX2_47 rfl rfl rfl rfl rfl ⟨Nat.le_of_ble_eq_true rfl, Nat.le_of_ble_eq_true rfl⟩ (Nat.le_of_ble_eq_true rfl) (kI fun z2 σ2 hh => ?_)
  obtain ⟨rfl, h2_0⟩ := hh
  refine r_if_eq hX (tgt := 17) dX2_kindOf_5 (by decide) (by omega) (fun c5 => ?_) (fun c5 => ?_)
  · skip
    refine r_bipush hX dX2_kindOf_17 (by decide) ?_
    exact r_iret hX dX2_kindOf_19 rfl ⟨_, rfl, ⟨rfl, (by omega), (by omega)⟩⟩
  · skip
    refine r_aload_n hX dX2_kindOf_8 rfl ?_
    refine fg_X1_9 hX dX2_kindOf_9 ?_
    refine r_iload_n hX dX2_kindOf_12 rfl ?_
    refine ld_X2 hX dX2_kindOf_13 (by omega) (by omega) (fun b13l b13u => ?_)
    refine r_goto hX dX2_kindOf_14 (tgt := 19) (by decide) ?_
    exact r_iret hX dX2_kindOf_19 rfl ⟨_, rfl, ⟨rfl, (by omega), (by omega)⟩⟩
theorem dX2_lengthOf_0 : decode cX2_lengthOf 0 = .ok (.aload_n 0, 1) := by decide +kernel
theorem dX2_lengthOf_1 : decode cX2_lengthOf 1 = .ok (.iload_n 1, 1) := by decide +kernel
theorem dX2_lengthOf_2 : decode cX2_lengthOf 2 = .ok (.invokevirtual 47, 3) := by decide +kernel
theorem dX2_lengthOf_5 : decode cX2_lengthOf 5 = .ok (.ifCond .eq 17, 3) := by decide +kernel
theorem dX2_lengthOf_8 : decode cX2_lengthOf 8 = .ok (.aload_n 0, 1) := by decide +kernel
theorem dX2_lengthOf_9 : decode cX2_lengthOf 9 = .ok (.getfield 9, 3) := by decide +kernel
theorem dX2_lengthOf_12 : decode cX2_lengthOf 12 = .ok (.iload_n 1, 1) := by decide +kernel
theorem dX2_lengthOf_13 : decode cX2_lengthOf 13 = .ok (.iaload, 1) := by decide +kernel
theorem dX2_lengthOf_14 : decode cX2_lengthOf 14 = .ok (.iconst 3, 1) := by decide +kernel
theorem dX2_lengthOf_15 : decode cX2_lengthOf 15 = .ok (.if_icmp .ne 7, 3) := by decide +kernel
theorem dX2_lengthOf_18 : decode cX2_lengthOf 18 = .ok (.iconst 2, 1) := by decide +kernel
theorem dX2_lengthOf_19 : decode cX2_lengthOf 19 = .ok (.goto 4, 3) := by decide +kernel
theorem dX2_lengthOf_22 : decode cX2_lengthOf 22 = .ok (.iconst 1, 1) := by decide +kernel
theorem dX2_lengthOf_23 : decode cX2_lengthOf 23 = .ok (.ireturn, 1) := by decide +kernel
set_option maxRecDepth 20000 in
set_option maxHeartbeats 4000000 in
theorem k_Lp_lengthOf (l : Launch) (w : WT) (σ : MM) (a : Int) (i_a : inr a) : CT SX l w yX2_lengthOf cX2_lengthOf 2 (some .int) 1 21 [.ref (w.2.2 1), .int (iI a)] σ (PI fun z σ1 => σ = σ1 ∧ ((z = 2 ∧ 0 ≤ a ∧ a < σ 53 0 ∧ σ 2 a = 3) ∨ (z = 1 ∧ (a < 0 ∨ σ 53 0 ≤ a ∨ σ 2 a ≠ 3)))) := by
  refine CT.of 0 [some (.ref (w.2.2 1)), some (.int (iI a))] (by decide +kernel) (by simp [lg_sl, Value.category]) rfl sh_X (fun G hX => ?_)
  refine r_aload_n hX dX2_lengthOf_0 rfl ?_
  refine r_iload_n hX dX2_lengthOf_1 rfl ?_
  refine r_callV hX dX2_lengthOf_2 (k_Lp_isThere l w σ _ (by omega)) mf_X2_isThere mv_X2_isThere lk_RX2_47 rfl rfl rfl rfl rfl ⟨Nat.le_of_ble_eq_true rfl, Nat.le_of_ble_eq_true rfl⟩ (Nat.le_of_ble_eq_true rfl) (kI fun z2 σ2 hh => ?_)
  obtain ⟨rfl, h2_0⟩ := hh
  refine r_if_eq hX (tgt := 22) dX2_lengthOf_5 (by decide) (by omega) (fun c5 => ?_) (fun c5 => ?_)
  · skip
    refine r_iconst hX dX2_lengthOf_22 ?_
    exact r_iret hX dX2_lengthOf_23 rfl ⟨_, rfl, ⟨rfl, (by omega)⟩⟩
  · skip
    refine r_aload_n hX dX2_lengthOf_8 rfl ?_
    refine fg_X1_9 hX dX2_lengthOf_9 ?_
    refine r_iload_n hX dX2_lengthOf_12 rfl ?_
    refine ld_X2 hX dX2_lengthOf_13 (by omega) (by omega) (fun b13l b13u => ?_)
    refine r_iconst hX dX2_lengthOf_14 ?_
    refine r_icmp_ne hX (tgt := 22) dX2_lengthOf_15 (by decide) (by omega) (by omega) (fun c15 => ?_) (fun c15 => ?_)
    · skip
      refine r_iconst hX dX2_lengthOf_22 ?_
      exact r_iret hX dX2_lengthOf_23 rfl ⟨_, rfl, ⟨rfl, (by omega)⟩⟩
    · skip
      refine r_iconst hX dX2_lengthOf_18 ?_
      refine r_goto hX dX2_lengthOf_19 (tgt := 23) (by decide) ?_
      exact r_iret hX dX2_lengthOf_23 rfl ⟨_, rfl, ⟨rfl, (by omega)⟩⟩
theorem dX2_factorOf_0 : decode cX2_factorOf 0 = .ok (.aload_n 0, 1) := by decide +kernel
theorem dX2_factorOf_1 : decode cX2_factorOf 1 = .ok (.iload_n 1, 1) := by decide +kernel
theorem dX2_factorOf_2 : decode cX2_factorOf 2 = .ok (.invokevirtual 47, 3) := by decide +kernel
theorem dX2_factorOf_5 : decode cX2_factorOf 5 = .ok (.ifCond .eq 12, 3) := by decide +kernel
theorem dX2_factorOf_8 : decode cX2_factorOf 8 = .ok (.aload_n 0, 1) := by decide +kernel
theorem dX2_factorOf_9 : decode cX2_factorOf 9 = .ok (.getfield 15, 3) := by decide +kernel
theorem dX2_factorOf_12 : decode cX2_factorOf 12 = .ok (.iload_n 1, 1) := by decide +kernel
theorem dX2_factorOf_13 : decode cX2_factorOf 13 = .ok (.iaload, 1) := by decide +kernel
theorem dX2_factorOf_14 : decode cX2_factorOf 14 = .ok (.goto 4, 3) := by decide +kernel
theorem dX2_factorOf_17 : decode cX2_factorOf 17 = .ok (.iconst 0, 1) := by decide +kernel
theorem dX2_factorOf_18 : decode cX2_factorOf 18 = .ok (.ireturn, 1) := by decide +kernel
set_option maxRecDepth 20000 in
set_option maxHeartbeats 4000000 in
theorem k_Lp_factorOf (l : Launch) (w : WT) (σ : MM) (a : Int) (i_a : inr a) : CT SX l w yX2_factorOf cX2_factorOf 2 (some .int) 1 21 [.ref (w.2.2 1), .int (iI a)] σ (PI fun z σ1 => σ = σ1 ∧ ((0 ≤ a ∧ a < σ 53 0 ∧ z = σ 3 a) ∨ ((a < 0 ∨ σ 53 0 ≤ a) ∧ z = 0))) := by
  refine CT.of 0 [some (.ref (w.2.2 1)), some (.int (iI a))] (by decide +kernel) (by simp [lg_sl, Value.category]) rfl sh_X (fun G hX => ?_)
  refine r_aload_n hX dX2_factorOf_0 rfl ?_
  refine r_iload_n hX dX2_factorOf_1 rfl ?_
  refine r_callV hX dX2_factorOf_2 (k_Lp_isThere l w σ _ (by omega)) mf_X2_isThere mv_X2_isThere lk_RX2_47 rfl rfl rfl rfl rfl ⟨Nat.le_of_ble_eq_true rfl, Nat.le_of_ble_eq_true rfl⟩ (Nat.le_of_ble_eq_true rfl) (kI fun z2 σ2 hh => ?_)
  obtain ⟨rfl, h2_0⟩ := hh
  refine r_if_eq hX (tgt := 17) dX2_factorOf_5 (by decide) (by omega) (fun c5 => ?_) (fun c5 => ?_)
  · skip
    refine r_iconst hX dX2_factorOf_17 ?_
    exact r_iret hX dX2_factorOf_18 rfl ⟨_, rfl, ⟨rfl, (by omega)⟩⟩
  · skip
    refine r_aload_n hX dX2_factorOf_8 rfl ?_
    refine fg_X1_15 hX dX2_factorOf_9 ?_
    refine r_iload_n hX dX2_factorOf_12 rfl ?_
    refine ld_X3 hX dX2_factorOf_13 (by omega) (by omega) ?_
    refine r_goto hX dX2_factorOf_14 (tgt := 18) (by decide) ?_
    exact r_iret hX dX2_factorOf_18 rfl ⟨_, rfl, ⟨rfl, (by omega)⟩⟩
theorem dX2_addendOf_0 : decode cX2_addendOf 0 = .ok (.aload_n 0, 1) := by decide +kernel
theorem dX2_addendOf_1 : decode cX2_addendOf 1 = .ok (.iload_n 1, 1) := by decide +kernel
theorem dX2_addendOf_2 : decode cX2_addendOf 2 = .ok (.invokevirtual 47, 3) := by decide +kernel
theorem dX2_addendOf_5 : decode cX2_addendOf 5 = .ok (.ifCond .eq 12, 3) := by decide +kernel
theorem dX2_addendOf_8 : decode cX2_addendOf 8 = .ok (.aload_n 0, 1) := by decide +kernel
theorem dX2_addendOf_9 : decode cX2_addendOf 9 = .ok (.getfield 18, 3) := by decide +kernel
theorem dX2_addendOf_12 : decode cX2_addendOf 12 = .ok (.iload_n 1, 1) := by decide +kernel
theorem dX2_addendOf_13 : decode cX2_addendOf 13 = .ok (.iaload, 1) := by decide +kernel
theorem dX2_addendOf_14 : decode cX2_addendOf 14 = .ok (.goto 4, 3) := by decide +kernel
theorem dX2_addendOf_17 : decode cX2_addendOf 17 = .ok (.iconst 0, 1) := by decide +kernel
theorem dX2_addendOf_18 : decode cX2_addendOf 18 = .ok (.ireturn, 1) := by decide +kernel
set_option maxRecDepth 20000 in
set_option maxHeartbeats 4000000 in
theorem k_Lp_addendOf (l : Launch) (w : WT) (σ : MM) (a : Int) (i_a : inr a) : CT SX l w yX2_addendOf cX2_addendOf 2 (some .int) 1 21 [.ref (w.2.2 1), .int (iI a)] σ (PI fun z σ1 => σ = σ1 ∧ ((0 ≤ a ∧ a < σ 53 0 ∧ z = σ 4 a) ∨ ((a < 0 ∨ σ 53 0 ≤ a) ∧ z = 0))) := by
  refine CT.of 0 [some (.ref (w.2.2 1)), some (.int (iI a))] (by decide +kernel) (by simp [lg_sl, Value.category]) rfl sh_X (fun G hX => ?_)
  refine r_aload_n hX dX2_addendOf_0 rfl ?_
  refine r_iload_n hX dX2_addendOf_1 rfl ?_
  refine r_callV hX dX2_addendOf_2 (k_Lp_isThere l w σ _ (by omega)) mf_X2_isThere mv_X2_isThere lk_RX2_47 rfl rfl rfl rfl rfl ⟨Nat.le_of_ble_eq_true rfl, Nat.le_of_ble_eq_true rfl⟩ (Nat.le_of_ble_eq_true rfl) (kI fun z2 σ2 hh => ?_)
  obtain ⟨rfl, h2_0⟩ := hh
  refine r_if_eq hX (tgt := 17) dX2_addendOf_5 (by decide) (by omega) (fun c5 => ?_) (fun c5 => ?_)
  · skip
    refine r_iconst hX dX2_addendOf_17 ?_
    exact r_iret hX dX2_addendOf_18 rfl ⟨_, rfl, ⟨rfl, (by omega)⟩⟩
  · skip
    refine r_aload_n hX dX2_addendOf_8 rfl ?_
    refine fg_X1_18 hX dX2_addendOf_9 ?_
    refine r_iload_n hX dX2_addendOf_12 rfl ?_
    refine ld_X4 hX dX2_addendOf_13 (by omega) (by omega) ?_
    refine r_goto hX dX2_addendOf_14 (tgt := 18) (by decide) ?_
    exact r_iret hX dX2_addendOf_18 rfl ⟨_, rfl, ⟨rfl, (by omega)⟩⟩
theorem dX2_sourceOf_0 : decode cX2_sourceOf 0 = .ok (.aload_n 0, 1) := by decide +kernel
theorem dX2_sourceOf_1 : decode cX2_sourceOf 1 = .ok (.iload_n 1, 1) := by decide +kernel
theorem dX2_sourceOf_2 : decode cX2_sourceOf 2 = .ok (.invokevirtual 51, 3) := by decide +kernel
theorem dX2_sourceOf_5 : decode cX2_sourceOf 5 = .ok (.ifCond .eq 12, 3) := by decide +kernel
theorem dX2_sourceOf_8 : decode cX2_sourceOf 8 = .ok (.aload_n 0, 1) := by decide +kernel
theorem dX2_sourceOf_9 : decode cX2_sourceOf 9 = .ok (.getfield 21, 3) := by decide +kernel
theorem dX2_sourceOf_12 : decode cX2_sourceOf 12 = .ok (.iload_n 1, 1) := by decide +kernel
theorem dX2_sourceOf_13 : decode cX2_sourceOf 13 = .ok (.iaload, 1) := by decide +kernel
theorem dX2_sourceOf_14 : decode cX2_sourceOf 14 = .ok (.goto 5, 3) := by decide +kernel
theorem dX2_sourceOf_17 : decode cX2_sourceOf 17 = .ok (.bipush (-6), 2) := by decide +kernel
theorem dX2_sourceOf_19 : decode cX2_sourceOf 19 = .ok (.ireturn, 1) := by decide +kernel
set_option maxRecDepth 20000 in
set_option maxHeartbeats 4000000 in
theorem k_Lp_sourceOf (l : Launch) (w : WT) (σ : MM) (a : Int) (i_a : inr a) : CT SX l w yX2_sourceOf cX2_sourceOf 2 (some .int) 1 21 [.ref (w.2.2 1), .int (iI a)] σ (PI fun z σ1 => σ = σ1 ∧ ((0 ≤ a ∧ a < 2 * σ 53 0 ∧ z = σ 5 a) ∨ ((a < 0 ∨ 2 * σ 53 0 ≤ a) ∧ z = -6)) ∧ (-6 ≤ z ∧ z ≤ 7)) := by
  refine CT.of 0 [some (.ref (w.2.2 1)), some (.int (iI a))] (by decide +kernel) (by simp [lg_sl, Value.category]) rfl sh_X (fun G hX => ?_)
  refine r_aload_n hX dX2_sourceOf_0 rfl ?_
  refine r_iload_n hX dX2_sourceOf_1 rfl ?_
  refine r_callV hX dX2_sourceOf_2 (k_Lp_isSlot l w σ _ (by omega)) mf_X2_isSlot mv_X2_isSlot lk_RX2_51 rfl rfl rfl rfl rfl ⟨Nat.le_of_ble_eq_true rfl, Nat.le_of_ble_eq_true rfl⟩ (Nat.le_of_ble_eq_true rfl) (kI fun z2 σ2 hh => ?_)
  obtain ⟨rfl, h2_0⟩ := hh
  refine r_if_eq hX (tgt := 17) dX2_sourceOf_5 (by decide) (by omega) (fun c5 => ?_) (fun c5 => ?_)
  · skip
    refine r_bipush hX dX2_sourceOf_17 (by decide) ?_
    exact r_iret hX dX2_sourceOf_19 rfl ⟨_, rfl, ⟨rfl, (by omega), (by omega)⟩⟩
  · skip
    refine r_aload_n hX dX2_sourceOf_8 rfl ?_
    refine fg_X1_21 hX dX2_sourceOf_9 ?_
    refine r_iload_n hX dX2_sourceOf_12 rfl ?_
    refine ld_X5 hX dX2_sourceOf_13 (by omega) (by omega) (fun b13l b13u => ?_)
    refine r_goto hX dX2_sourceOf_14 (tgt := 19) (by decide) ?_
    exact r_iret hX dX2_sourceOf_19 rfl ⟨_, rfl, ⟨rfl, (by omega), (by omega)⟩⟩
theorem dX2_distanceOf_0 : decode cX2_distanceOf 0 = .ok (.aload_n 0, 1) := by decide +kernel
theorem dX2_distanceOf_1 : decode cX2_distanceOf 1 = .ok (.iload_n 1, 1) := by decide +kernel
theorem dX2_distanceOf_2 : decode cX2_distanceOf 2 = .ok (.invokevirtual 51, 3) := by decide +kernel
theorem dX2_distanceOf_5 : decode cX2_distanceOf 5 = .ok (.ifCond .eq 12, 3) := by decide +kernel
theorem dX2_distanceOf_8 : decode cX2_distanceOf 8 = .ok (.aload_n 0, 1) := by decide +kernel
theorem dX2_distanceOf_9 : decode cX2_distanceOf 9 = .ok (.getfield 24, 3) := by decide +kernel
theorem dX2_distanceOf_12 : decode cX2_distanceOf 12 = .ok (.iload_n 1, 1) := by decide +kernel
theorem dX2_distanceOf_13 : decode cX2_distanceOf 13 = .ok (.iaload, 1) := by decide +kernel
theorem dX2_distanceOf_14 : decode cX2_distanceOf 14 = .ok (.goto 4, 3) := by decide +kernel
theorem dX2_distanceOf_17 : decode cX2_distanceOf 17 = .ok (.iconst 0, 1) := by decide +kernel
theorem dX2_distanceOf_18 : decode cX2_distanceOf 18 = .ok (.ireturn, 1) := by decide +kernel
set_option maxRecDepth 20000 in
set_option maxHeartbeats 4000000 in
theorem k_Lp_distanceOf (l : Launch) (w : WT) (σ : MM) (a : Int) (i_a : inr a) : CT SX l w yX2_distanceOf cX2_distanceOf 2 (some .int) 1 21 [.ref (w.2.2 1), .int (iI a)] σ (PI fun z σ1 => σ = σ1 ∧ ((0 ≤ a ∧ a < 2 * σ 53 0 ∧ z = σ 6 a) ∨ ((a < 0 ∨ 2 * σ 53 0 ≤ a) ∧ z = 0)) ∧ (0 ≤ z ∧ z ≤ 3)) := by
  refine CT.of 0 [some (.ref (w.2.2 1)), some (.int (iI a))] (by decide +kernel) (by simp [lg_sl, Value.category]) rfl sh_X (fun G hX => ?_)
  refine r_aload_n hX dX2_distanceOf_0 rfl ?_
  refine r_iload_n hX dX2_distanceOf_1 rfl ?_
  refine r_callV hX dX2_distanceOf_2 (k_Lp_isSlot l w σ _ (by omega)) mf_X2_isSlot mv_X2_isSlot lk_RX2_51 rfl rfl rfl rfl rfl ⟨Nat.le_of_ble_eq_true rfl, Nat.le_of_ble_eq_true rfl⟩ (Nat.le_of_ble_eq_true rfl) (kI fun z2 σ2 hh => ?_)
  obtain ⟨rfl, h2_0⟩ := hh
  refine r_if_eq hX (tgt := 17) dX2_distanceOf_5 (by decide) (by omega) (fun c5 => ?_) (fun c5 => ?_)
  · skip
    refine r_iconst hX dX2_distanceOf_17 ?_
    exact r_iret hX dX2_distanceOf_18 rfl ⟨_, rfl, ⟨rfl, (by omega), (by omega)⟩⟩
  · skip
    refine r_aload_n hX dX2_distanceOf_8 rfl ?_
    refine fg_X1_24 hX dX2_distanceOf_9 ?_
    refine r_iload_n hX dX2_distanceOf_12 rfl ?_
    refine ld_X6 hX dX2_distanceOf_13 (by omega) (by omega) (fun b13l b13u => ?_)
    refine r_goto hX dX2_distanceOf_14 (tgt := 18) (by decide) ?_
    exact r_iret hX dX2_distanceOf_18 rfl ⟨_, rfl, ⟨rfl, (by omega), (by omega)⟩⟩
theorem dX2_actInOrder_0 : decode cX2_actInOrder 0 = .ok (.aload_n 0, 1) := by decide +kernel
theorem dX2_actInOrder_1 : decode cX2_actInOrder 1 = .ok (.iload_n 1, 1) := by decide +kernel
theorem dX2_actInOrder_2 : decode cX2_actInOrder 2 = .ok (.invokevirtual 47, 3) := by decide +kernel
theorem dX2_actInOrder_5 : decode cX2_actInOrder 5 = .ok (.ifCond .eq 20, 3) := by decide +kernel
theorem dX2_actInOrder_8 : decode cX2_actInOrder 8 = .ok (.iload_n 1, 1) := by decide +kernel
theorem dX2_actInOrder_9 : decode cX2_actInOrder 9 = .ok (.aload_n 0, 1) := by decide +kernel
theorem dX2_actInOrder_10 : decode cX2_actInOrder 10 = .ok (.getfield 44, 3) := by decide +kernel
theorem dX2_actInOrder_13 : decode cX2_actInOrder 13 = .ok (.if_icmp .ge 12, 3) := by decide +kernel
theorem dX2_actInOrder_16 : decode cX2_actInOrder 16 = .ok (.aload_n 0, 1) := by decide +kernel
theorem dX2_actInOrder_17 : decode cX2_actInOrder 17 = .ok (.getfield 27, 3) := by decide +kernel
theorem dX2_actInOrder_20 : decode cX2_actInOrder 20 = .ok (.iload_n 1, 1) := by decide +kernel
theorem dX2_actInOrder_21 : decode cX2_actInOrder 21 = .ok (.iaload, 1) := by decide +kernel
theorem dX2_actInOrder_22 : decode cX2_actInOrder 22 = .ok (.goto 5, 3) := by decide +kernel
theorem dX2_actInOrder_25 : decode cX2_actInOrder 25 = .ok (.bipush (-6), 2) := by decide +kernel
theorem dX2_actInOrder_27 : decode cX2_actInOrder 27 = .ok (.ireturn, 1) := by decide +kernel
set_option maxRecDepth 20000 in
set_option maxHeartbeats 4000000 in
theorem k_Lp_actInOrder (l : Launch) (w : WT) (σ : MM) (a : Int) (i_a : inr a) : CT SX l w yX2_actInOrder cX2_actInOrder 2 (some .int) 1 21 [.ref (w.2.2 1), .int (iI a)] σ (PI fun z σ1 => σ = σ1 ∧ ((0 ≤ a ∧ a < σ 53 0 ∧ a < σ 54 0 ∧ z = σ 7 a) ∨ ((a < 0 ∨ σ 53 0 ≤ a ∨ σ 54 0 ≤ a) ∧ z = -6)) ∧ (-6 ≤ z ∧ z ≤ 7)) := by
  refine CT.of 0 [some (.ref (w.2.2 1)), some (.int (iI a))] (by decide +kernel) (by simp [lg_sl, Value.category]) rfl sh_X (fun G hX => ?_)
  refine r_aload_n hX dX2_actInOrder_0 rfl ?_
  refine r_iload_n hX dX2_actInOrder_1 rfl ?_
  refine r_callV hX dX2_actInOrder_2 (k_Lp_isThere l w σ _ (by omega)) mf_X2_isThere mv_X2_isThere lk_RX2_47 rfl rfl rfl rfl rfl ⟨Nat.le_of_ble_eq_true rfl, Nat.le_of_ble_eq_true rfl⟩ (Nat.le_of_ble_eq_true rfl) (kI fun z2 σ2 hh => ?_)
  obtain ⟨rfl, h2_0⟩ := hh
  refine r_if_eq hX (tgt := 25) dX2_actInOrder_5 (by decide) (by omega) (fun c5 => ?_) (fun c5 => ?_)
  · skip
    refine r_bipush hX dX2_actInOrder_25 (by decide) ?_
    exact r_iret hX dX2_actInOrder_27 rfl ⟨_, rfl, ⟨rfl, (by omega), (by omega)⟩⟩
  · skip
    refine r_iload_n hX dX2_actInOrder_8 rfl ?_
    refine r_aload_n hX dX2_actInOrder_9 rfl ?_
    refine fg_X1_44 hX dX2_actInOrder_10 (fun b10l b10u => ?_)
    refine r_icmp_ge hX (tgt := 25) dX2_actInOrder_13 (by decide) (by omega) (by omega) (fun c13 => ?_) (fun c13 => ?_)
    · skip
      refine r_bipush hX dX2_actInOrder_25 (by decide) ?_
      exact r_iret hX dX2_actInOrder_27 rfl ⟨_, rfl, ⟨rfl, (by omega), (by omega)⟩⟩
    · skip
      refine r_aload_n hX dX2_actInOrder_16 rfl ?_
      refine fg_X1_27 hX dX2_actInOrder_17 ?_
      refine r_iload_n hX dX2_actInOrder_20 rfl ?_
      refine ld_X7 hX dX2_actInOrder_21 (by omega) (by omega) (fun b21l b21u => ?_)
      refine r_goto hX dX2_actInOrder_22 (tgt := 27) (by decide) ?_
      exact r_iret hX dX2_actInOrder_27 rfl ⟨_, rfl, ⟨rfl, (by omega), (by omega)⟩⟩
theorem dX2_setOperand_0 : decode cX2_setOperand 0 = .ok (.iload_n 1, 1) := by decide +kernel
theorem dX2_setOperand_1 : decode cX2_setOperand 1 = .ok (.ifCond .lt 23, 3) := by decide +kernel
theorem dX2_setOperand_4 : decode cX2_setOperand 4 = .ok (.iload_n 1, 1) := by decide +kernel
theorem dX2_setOperand_5 : decode cX2_setOperand 5 = .ok (.bipush 16, 2) := by decide +kernel
theorem dX2_setOperand_7 : decode cX2_setOperand 7 = .ok (.if_icmp .ge 17, 3) := by decide +kernel
theorem dX2_setOperand_10 : decode cX2_setOperand 10 = .ok (.aload_n 0, 1) := by decide +kernel
theorem dX2_setOperand_11 : decode cX2_setOperand 11 = .ok (.getfield 21, 3) := by decide +kernel
theorem dX2_setOperand_14 : decode cX2_setOperand 14 = .ok (.iload_n 1, 1) := by decide +kernel
theorem dX2_setOperand_15 : decode cX2_setOperand 15 = .ok (.iload_n 2, 1) := by decide +kernel
theorem dX2_setOperand_16 : decode cX2_setOperand 16 = .ok (.iastore, 1) := by decide +kernel
theorem dX2_setOperand_17 : decode cX2_setOperand 17 = .ok (.aload_n 0, 1) := by decide +kernel
theorem dX2_setOperand_18 : decode cX2_setOperand 18 = .ok (.getfield 24, 3) := by decide +kernel
theorem dX2_setOperand_21 : decode cX2_setOperand 21 = .ok (.iload_n 1, 1) := by decide +kernel
theorem dX2_setOperand_22 : decode cX2_setOperand 22 = .ok (.iload_n 3, 1) := by decide +kernel
theorem dX2_setOperand_23 : decode cX2_setOperand 23 = .ok (.iastore, 1) := by decide +kernel
theorem dX2_setOperand_24 : decode cX2_setOperand 24 = .ok (.return_, 1) := by decide +kernel
set_option maxRecDepth 20000 in
set_option maxHeartbeats 4000000 in
theorem k_Lp_setOperand (l : Launch) (w : WT) (σ : MM) (a : Int) (u : Int) (d : Int) (i_a : inr a) (i_u : inr u) (i_d : inr d) (ha : 0 ≤ a ∧ a < 16) (hu : -6 ≤ u ∧ u ≤ 7) (hd : 0 ≤ d ∧ d ≤ 3) : CT SX l w yX2_setOperand cX2_setOperand 4 none 0 0 [.ref (w.2.2 1), .int (iI a), .int (iI u), .int (iI d)] σ (PV fun σ1 => Mod [5, 6] σ σ1 ∧ (∀ b : Int, σ1 5 b = if b = a then u else σ 5 b) ∧ (∀ b : Int, σ1 6 b = if b = a then d else σ 6 b)) := by
  refine CT.of 0 [some (.ref (w.2.2 1)), some (.int (iI a)), some (.int (iI u)), some (.int (iI d))] (by decide +kernel) (by simp [lg_sl, Value.category]) rfl sh_X (fun G hX => ?_)
  refine r_iload_n hX dX2_setOperand_0 rfl ?_
  refine r_if_lt hX (tgt := 24) dX2_setOperand_1 (by decide) (by omega) (fun c1 => ?_) (fun c1 => ?_)
  · exfalso; omega
  · skip
    refine r_iload_n hX dX2_setOperand_4 rfl ?_
    refine r_bipush hX dX2_setOperand_5 (by decide) ?_
    refine r_icmp_ge hX (tgt := 24) dX2_setOperand_7 (by decide) (by omega) (by omega) (fun c7 => ?_) (fun c7 => ?_)
    · exfalso; omega
    · skip
      refine r_aload_n hX dX2_setOperand_10 rfl ?_
      refine fg_X1_21 hX dX2_setOperand_11 ?_
      refine r_iload_n hX dX2_setOperand_14 rfl ?_
      refine r_iload_n hX dX2_setOperand_15 rfl ?_
      refine st_X5 hX dX2_setOperand_16 (by omega) (by omega) (by omega) (fun σ16 m16 s16 => ?_)
      refine r_aload_n hX dX2_setOperand_17 rfl ?_
      refine fg_X1_24 hX dX2_setOperand_18 ?_
      refine r_iload_n hX dX2_setOperand_21 rfl ?_
      refine r_iload_n hX dX2_setOperand_22 rfl ?_
      refine st_X6 hX dX2_setOperand_23 (by omega) (by omega) (by omega) (fun σ23 m23 s23 => ?_)
      simp only [show σ16 6 = σ 6 from (m16.at 6 rfl)] at s23
      have qr1 : σ23 5 = σ16 5 := (m23.at 5 rfl)
      exact r_ret hX dX2_setOperand_24 rfl ⟨rfl, ⟨(Mod.tr (L := [5, 6]) m16 m23 rfl rfl), (by intro b; simp only [qr1]; simp_all), (by intro b; skip; simp_all)⟩⟩
theorem dX2_canFollow_0 : decode cX2_canFollow 0 = .ok (.aload_n 0, 1) := by decide +kernel
theorem dX2_canFollow_1 : decode cX2_canFollow 1 = .ok (.iload_n 1, 1) := by decide +kernel
theorem dX2_canFollow_2 : decode cX2_canFollow 2 = .ok (.invokevirtual 64, 3) := by decide +kernel
theorem dX2_canFollow_5 : decode cX2_canFollow 5 = .ok (.istore_n 2, 1) := by decide +kernel
theorem dX2_canFollow_6 : decode cX2_canFollow 6 = .ok (.iload_n 2, 1) := by decide +kernel
theorem dX2_canFollow_7 : decode cX2_canFollow 7 = .ok (.bipush (-6), 2) := by decide +kernel
theorem dX2_canFollow_9 : decode cX2_canFollow 9 = .ok (.if_icmp .ne 5, 3) := by decide +kernel
theorem dX2_canFollow_12 : decode cX2_canFollow 12 = .ok (.iconst 1, 1) := by decide +kernel
theorem dX2_canFollow_13 : decode cX2_canFollow 13 = .ok (.ireturn, 1) := by decide +kernel
theorem dX2_canFollow_14 : decode cX2_canFollow 14 = .ok (.aload_n 0, 1) := by decide +kernel
theorem dX2_canFollow_15 : decode cX2_canFollow 15 = .ok (.iload_n 2, 1) := by decide +kernel
theorem dX2_canFollow_16 : decode cX2_canFollow 16 = .ok (.invokevirtual 47, 3) := by decide +kernel
theorem dX2_canFollow_19 : decode cX2_canFollow 19 = .ok (.ifCond .eq 24, 3) := by decide +kernel
theorem dX2_canFollow_22 : decode cX2_canFollow 22 = .ok (.aload_n 0, 1) := by decide +kernel
theorem dX2_canFollow_23 : decode cX2_canFollow 23 = .ok (.iload_n 1, 1) := by decide +kernel
theorem dX2_canFollow_24 : decode cX2_canFollow 24 = .ok (.invokevirtual 68, 3) := by decide +kernel
theorem dX2_canFollow_27 : decode cX2_canFollow 27 = .ok (.ifCond .gt 12, 3) := by decide +kernel
theorem dX2_canFollow_30 : decode cX2_canFollow 30 = .ok (.aload_n 0, 1) := by decide +kernel
theorem dX2_canFollow_31 : decode cX2_canFollow 31 = .ok (.getfield 30, 3) := by decide +kernel
theorem dX2_canFollow_34 : decode cX2_canFollow 34 = .ok (.iload_n 2, 1) := by decide +kernel
theorem dX2_canFollow_35 : decode cX2_canFollow 35 = .ok (.baload, 1) := by decide +kernel
theorem dX2_canFollow_36 : decode cX2_canFollow 36 = .ok (.ifCond .eq 7, 3) := by decide +kernel
theorem dX2_canFollow_39 : decode cX2_canFollow 39 = .ok (.iconst 1, 1) := by decide +kernel
theorem dX2_canFollow_40 : decode cX2_canFollow 40 = .ok (.goto 4, 3) := by decide +kernel
theorem dX2_canFollow_43 : decode cX2_canFollow 43 = .ok (.iconst 0, 1) := by decide +kernel
theorem dX2_canFollow_44 : decode cX2_canFollow 44 = .ok (.ireturn, 1) := by decide +kernel
set_option maxRecDepth 20000 in
set_option maxHeartbeats 4000000 in
theorem k_Lp_canFollow (l : Launch) (w : WT) (σ : MM) (a : Int) (i_a : inr a) (ha : 0 ≤ a ∧ a < 2 * σ 53 0) : CT SX l w yX2_canFollow cX2_canFollow 3 (some .boolean) 2 42 [.ref (w.2.2 1), .int (iI a)] σ (PI fun z σ1 => σ = σ1 ∧ ((z = 1 ∧ CF (σ 5) (σ 6) (σ 53 0) (σ 8) a) ∨ (z = 0 ∧ ¬ CF (σ 5) (σ 6) (σ 53 0) (σ 8) a))) := by
  refine CT.of 1 [some (.ref (w.2.2 1)), some (.int (iI a)), none] (by decide +kernel) (by simp [lg_sl, Value.category]) rfl sh_X (fun G hX => ?_)
  refine r_aload_n hX dX2_canFollow_0 rfl ?_
  refine r_iload_n hX dX2_canFollow_1 rfl ?_
  refine r_callV hX dX2_canFollow_2 (k_Lp_sourceOf l w σ _ (by omega)) mf_X2_sourceOf mv_X2_sourceOf lk_RX2_64 rfl rfl rfl rfl rfl ⟨Nat.le_of_ble_eq_true rfl, Nat.le_of_ble_eq_true rfl⟩ (Nat.le_of_ble_eq_true rfl) (kI fun z2 σ2 hh => ?_)
  obtain ⟨rfl, h2_0, h2_1⟩ := hh
  refine r_istore_n hX (fun x5 => [some (.ref (w.2.2 1)), some (.int (iI a)), some (.int (iI x5))]) dX2_canFollow_5 (Nat.le_of_ble_eq_true rfl) rfl rfl (fun _ => rfl) (fun x5 e5 => ?_)
  have e9 : x5 = σ 5 a := by omega
  have e8 : σ 8 x5 = σ 8 (σ 5 a) := congrArg (σ 8) e9
  refine r_iload_n hX dX2_canFollow_6 rfl ?_
  refine r_bipush hX dX2_canFollow_7 (by decide) ?_
  refine r_icmp_ne hX (tgt := 14) dX2_canFollow_9 (by decide) (by omega) (by omega) (fun c9 => ?_) (fun c9 => ?_)
  · skip
    refine r_aload_n hX dX2_canFollow_14 rfl ?_
    refine r_iload_n hX dX2_canFollow_15 rfl ?_
    refine r_callV hX dX2_canFollow_16 (k_Lp_isThere l w σ _ (by omega)) mf_X2_isThere mv_X2_isThere lk_RX2_47 rfl rfl rfl rfl rfl ⟨Nat.le_of_ble_eq_true rfl, Nat.le_of_ble_eq_true rfl⟩ (Nat.le_of_ble_eq_true rfl) (kI fun z16 σ16 hh => ?_)
    obtain ⟨rfl, h16_0⟩ := hh
    refine r_if_eq hX (tgt := 43) dX2_canFollow_19 (by decide) (by omega) (fun c19 => ?_) (fun c19 => ?_)
    · skip
      refine r_iconst hX dX2_canFollow_43 ?_
      exact r_zret hX dX2_canFollow_44 rfl (by omega) ⟨_, rfl, ⟨rfl, (by first | exact Or.inl ⟨rfl, by unfold CF; omega⟩ | exact Or.inr ⟨rfl, by unfold CF; omega⟩)⟩⟩
    · skip
      refine r_aload_n hX dX2_canFollow_22 rfl ?_
      refine r_iload_n hX dX2_canFollow_23 rfl ?_
      refine r_callV hX dX2_canFollow_24 (k_Lp_distanceOf l w σ _ (by omega)) mf_X2_distanceOf mv_X2_distanceOf lk_RX2_68 rfl rfl rfl rfl rfl ⟨Nat.le_of_ble_eq_true rfl, Nat.le_of_ble_eq_true rfl⟩ (Nat.le_of_ble_eq_true rfl) (kI fun z24 σ24 hh => ?_)
      obtain ⟨rfl, h24_0, h24_1⟩ := hh
      refine r_if_gt hX (tgt := 39) dX2_canFollow_27 (by decide) (by omega) (fun c27 => ?_) (fun c27 => ?_)
      · skip
        refine r_iconst hX dX2_canFollow_39 ?_
        refine r_goto hX dX2_canFollow_40 (tgt := 44) (by decide) ?_
        exact r_zret hX dX2_canFollow_44 rfl (by omega) ⟨_, rfl, ⟨rfl, (by first | exact Or.inl ⟨rfl, by unfold CF; omega⟩ | exact Or.inr ⟨rfl, by unfold CF; omega⟩)⟩⟩
      · skip
        refine r_aload_n hX dX2_canFollow_30 rfl ?_
        refine fg_X1_30 hX dX2_canFollow_31 ?_
        refine r_iload_n hX dX2_canFollow_34 rfl ?_
        refine ld_X8 hX dX2_canFollow_35 (by omega) (by omega) (fun b35l b35u => ?_)
        refine r_if_eq hX (tgt := 43) dX2_canFollow_36 (by decide) (by omega) (fun c36 => ?_) (fun c36 => ?_)
        · skip
          refine r_iconst hX dX2_canFollow_43 ?_
          exact r_zret hX dX2_canFollow_44 rfl (by omega) ⟨_, rfl, ⟨rfl, (by first | exact Or.inl ⟨rfl, by unfold CF; omega⟩ | exact Or.inr ⟨rfl, by unfold CF; omega⟩)⟩⟩
        · skip
          refine r_iconst hX dX2_canFollow_39 ?_
          refine r_goto hX dX2_canFollow_40 (tgt := 44) (by decide) ?_
          exact r_zret hX dX2_canFollow_44 rfl (by omega) ⟨_, rfl, ⟨rfl, (by first | exact Or.inl ⟨rfl, by unfold CF; omega⟩ | exact Or.inr ⟨rfl, by unfold CF; omega⟩)⟩⟩
  · skip
    refine r_iconst hX dX2_canFollow_12 ?_
    exact r_zret hX dX2_canFollow_13 rfl (by omega) ⟨_, rfl, ⟨rfl, (by first | exact Or.inl ⟨rfl, by unfold CF; omega⟩ | exact Or.inr ⟨rfl, by unfold CF; omega⟩)⟩⟩
theorem dX2_products_0 : decode cX2_products 0 = .ok (.iconst 0, 1) := by decide +kernel
theorem dX2_products_1 : decode cX2_products 1 = .ok (.istore_n 1, 1) := by decide +kernel
theorem dX2_products_2 : decode cX2_products 2 = .ok (.iconst 0, 1) := by decide +kernel
theorem dX2_products_3 : decode cX2_products 3 = .ok (.istore_n 2, 1) := by decide +kernel
theorem dX2_products_4 : decode cX2_products 4 = .ok (.iload_n 2, 1) := by decide +kernel
theorem dX2_products_5 : decode cX2_products 5 = .ok (.aload_n 0, 1) := by decide +kernel
theorem dX2_products_6 : decode cX2_products 6 = .ok (.getfield 37, 3) := by decide +kernel
theorem dX2_products_9 : decode cX2_products 9 = .ok (.if_icmp .ge 28, 3) := by decide +kernel
theorem dX2_products_12 : decode cX2_products 12 = .ok (.iload_n 2, 1) := by decide +kernel
theorem dX2_products_13 : decode cX2_products 13 = .ok (.bipush 8, 2) := by decide +kernel
theorem dX2_products_15 : decode cX2_products 15 = .ok (.if_icmp .ge 22, 3) := by decide +kernel
theorem dX2_products_18 : decode cX2_products 18 = .ok (.aload_n 0, 1) := by decide +kernel
theorem dX2_products_19 : decode cX2_products 19 = .ok (.getfield 9, 3) := by decide +kernel
theorem dX2_products_22 : decode cX2_products 22 = .ok (.iload_n 2, 1) := by decide +kernel
theorem dX2_products_23 : decode cX2_products 23 = .ok (.iaload, 1) := by decide +kernel
theorem dX2_products_24 : decode cX2_products 24 = .ok (.iconst 3, 1) := by decide +kernel
theorem dX2_products_25 : decode cX2_products 25 = .ok (.if_icmp .ne 6, 3) := by decide +kernel
theorem dX2_products_28 : decode cX2_products 28 = .ok (.iinc 1 1, 3) := by decide +kernel
theorem dX2_products_31 : decode cX2_products 31 = .ok (.iinc 2 1, 3) := by decide +kernel
theorem dX2_products_34 : decode cX2_products 34 = .ok (.goto (-30), 3) := by decide +kernel
theorem dX2_products_37 : decode cX2_products 37 = .ok (.iload_n 1, 1) := by decide +kernel
theorem dX2_products_38 : decode cX2_products 38 = .ok (.ireturn, 1) := by decide +kernel
set_option maxRecDepth 20000 in
set_option maxHeartbeats 4000000 in
theorem k_Lp_products (l : Launch) (w : WT) (σ : MM) : CT SX l w yX2_products cX2_products 3 (some .int) 0 0 [.ref (w.2.2 1)] σ (PI fun z σ1 => σ = σ1 ∧ (0 ≤ z ∧ z ≤ σ 53 0)) := by
  refine CT.of 2 [some (.ref (w.2.2 1)), none, none] (by decide +kernel) (by simp [lg_sl, Value.category]) rfl sh_X (fun G hX => ?_)
  refine r_bd hX (fun hBd => ?_)
  have b_53 := hBd 53 0 8 rfl 0
  refine r_iconst hX dX2_products_0 ?_
  refine r_istore_n hX (fun x1 => [some (.ref (w.2.2 1)), some (.int (iI x1)), none]) dX2_products_1 (Nat.le_of_ble_eq_true rfl) rfl rfl (fun _ => rfl) (fun x1 e1 => ?_)
  refine r_iconst hX dX2_products_2 ?_
  refine r_istore_n hX (fun x3 => [some (.ref (w.2.2 1)), some (.int (iI x1)), some (.int (iI x3))]) dX2_products_3 (Nat.le_of_ble_eq_true rfl) rfl rfl (fun _ => rfl) (fun x3 e3 => ?_)
  have lp4 : ∀ (n : Nat) (found : Int) (act : Int) (hf : 0 ≤ found ∧ found ≤ act) (ha : 0 ≤ act ∧ act ≤ σ 53 0 ∧ σ 53 0 ≤ 8) (hmu : 9 - act < (n : Int)), G 4 [some (.ref (w.2.2 1)), some (.int (iI found)), some (.int (iI act))] [] σ := by
    intro n
    induction n with
    | zero => intro found act hf ha hmu; omega
    | succ n ih =>
      intro found act hf ha hmu
      have ih4 := ih
      clear ih
      refine r_iload_n hX dX2_products_4 rfl ?_
      refine r_aload_n hX dX2_products_5 rfl ?_
      refine fg_X1_37 hX dX2_products_6 (fun b6l b6u => ?_)
      refine r_icmp_ge hX (tgt := 37) dX2_products_9 (by decide) (by omega) (by omega) (fun c9 => ?_) (fun c9 => ?_)
      · skip
        refine r_iload_n hX dX2_products_37 rfl ?_
        exact r_iret hX dX2_products_38 rfl ⟨_, rfl, ⟨rfl, (by omega)⟩⟩
      · skip
        refine r_iload_n hX dX2_products_12 rfl ?_
        refine r_bipush hX dX2_products_13 (by decide) ?_
        refine r_icmp_ge hX (tgt := 37) dX2_products_15 (by decide) (by omega) (by omega) (fun c15 => ?_) (fun c15 => ?_)
        · skip
          refine r_iload_n hX dX2_products_37 rfl ?_
          exact r_iret hX dX2_products_38 rfl ⟨_, rfl, ⟨rfl, (by omega)⟩⟩
        · skip
          refine r_aload_n hX dX2_products_18 rfl ?_
          refine fg_X1_9 hX dX2_products_19 ?_
          refine r_iload_n hX dX2_products_22 rfl ?_
          refine ld_X2 hX dX2_products_23 (by omega) (by omega) (fun b23l b23u => ?_)
          refine r_iconst hX dX2_products_24 ?_
          refine r_icmp_ne hX (tgt := 31) dX2_products_25 (by decide) (by omega) (by omega) (fun c25 => ?_) (fun c25 => ?_)
          · skip
            refine r_iinc hX (fun x31 => [some (.ref (w.2.2 1)), some (.int (iI found)), some (.int (iI x31))]) dX2_products_31 rfl rfl rfl (fun _ => rfl) (fun x31 e31 => ?_)
            refine r_goto hX dX2_products_34 (tgt := 4) (by decide) ?_
            exact ih4 found x31 (by omega) (by omega) (by omega)
          · skip
            refine r_iinc hX (fun x28 => [some (.ref (w.2.2 1)), some (.int (iI x28)), some (.int (iI act))]) dX2_products_28 rfl rfl rfl (fun _ => rfl) (fun x28 e28 => ?_)
            refine r_iinc hX (fun x31 => [some (.ref (w.2.2 1)), some (.int (iI x28)), some (.int (iI x31))]) dX2_products_31 rfl rfl rfl (fun _ => rfl) (fun x31 e31 => ?_)
            refine r_goto hX dX2_products_34 (tgt := 4) (by decide) ?_
            exact ih4 x28 x31 (by omega) (by omega) (by omega)
  exact lp4 ((9 - (x3)) + 1).toNat x1 x3 (by omega) (by omega) (by omega)
theorem dX2_arrange_0 : decode cX2_arrange 0 = .ok (.iconst 0, 1) := by decide +kernel
theorem dX2_arrange_1 : decode cX2_arrange 1 = .ok (.istore_n 1, 1) := by decide +kernel
theorem dX2_arrange_2 : decode cX2_arrange 2 = .ok (.iload_n 1, 1) := by decide +kernel
theorem dX2_arrange_3 : decode cX2_arrange 3 = .ok (.aload_n 0, 1) := by decide +kernel
theorem dX2_arrange_4 : decode cX2_arrange 4 = .ok (.getfield 37, 3) := by decide +kernel
theorem dX2_arrange_7 : decode cX2_arrange 7 = .ok (.if_icmp .ge 22, 3) := by decide +kernel
theorem dX2_arrange_10 : decode cX2_arrange 10 = .ok (.iload_n 1, 1) := by decide +kernel
theorem dX2_arrange_11 : decode cX2_arrange 11 = .ok (.bipush 8, 2) := by decide +kernel
theorem dX2_arrange_13 : decode cX2_arrange 13 = .ok (.if_icmp .ge 16, 3) := by decide +kernel
theorem dX2_arrange_16 : decode cX2_arrange 16 = .ok (.aload_n 0, 1) := by decide +kernel
theorem dX2_arrange_17 : decode cX2_arrange 17 = .ok (.getfield 30, 3) := by decide +kernel
theorem dX2_arrange_20 : decode cX2_arrange 20 = .ok (.iload_n 1, 1) := by decide +kernel
theorem dX2_arrange_21 : decode cX2_arrange 21 = .ok (.iconst 0, 1) := by decide +kernel
theorem dX2_arrange_22 : decode cX2_arrange 22 = .ok (.bastore, 1) := by decide +kernel
theorem dX2_arrange_23 : decode cX2_arrange 23 = .ok (.iinc 1 1, 3) := by decide +kernel
theorem dX2_arrange_26 : decode cX2_arrange 26 = .ok (.goto (-24), 3) := by decide +kernel
theorem dX2_arrange_29 : decode cX2_arrange 29 = .ok (.aload_n 0, 1) := by decide +kernel
theorem dX2_arrange_30 : decode cX2_arrange 30 = .ok (.iconst 0, 1) := by decide +kernel
theorem dX2_arrange_31 : decode cX2_arrange 31 = .ok (.putfield 44, 3) := by decide +kernel
theorem dX2_arrange_34 : decode cX2_arrange 34 = .ok (.iconst 0, 1) := by decide +kernel
theorem dX2_arrange_35 : decode cX2_arrange 35 = .ok (.istore_n 1, 1) := by decide +kernel
theorem dX2_arrange_36 : decode cX2_arrange 36 = .ok (.iload_n 1, 1) := by decide +kernel
theorem dX2_arrange_37 : decode cX2_arrange 37 = .ok (.aload_n 0, 1) := by decide +kernel
theorem dX2_arrange_38 : decode cX2_arrange 38 = .ok (.getfield 37, 3) := by decide +kernel
theorem dX2_arrange_41 : decode cX2_arrange 41 = .ok (.if_icmp .ge 108, 3) := by decide +kernel
theorem dX2_arrange_44 : decode cX2_arrange 44 = .ok (.iconst 0, 1) := by decide +kernel
theorem dX2_arrange_45 : decode cX2_arrange 45 = .ok (.istore_n 2, 1) := by decide +kernel
theorem dX2_arrange_46 : decode cX2_arrange 46 = .ok (.iload_n 2, 1) := by decide +kernel
theorem dX2_arrange_47 : decode cX2_arrange 47 = .ok (.aload_n 0, 1) := by decide +kernel
theorem dX2_arrange_48 : decode cX2_arrange 48 = .ok (.getfield 37, 3) := by decide +kernel
theorem dX2_arrange_51 : decode cX2_arrange 51 = .ok (.if_icmp .ge 92, 3) := by decide +kernel
theorem dX2_arrange_54 : decode cX2_arrange 54 = .ok (.iload_n 2, 1) := by decide +kernel
theorem dX2_arrange_55 : decode cX2_arrange 55 = .ok (.bipush 8, 2) := by decide +kernel
theorem dX2_arrange_57 : decode cX2_arrange 57 = .ok (.if_icmp .ge 86, 3) := by decide +kernel
theorem dX2_arrange_60 : decode cX2_arrange 60 = .ok (.aload_n 0, 1) := by decide +kernel
theorem dX2_arrange_61 : decode cX2_arrange 61 = .ok (.getfield 30, 3) := by decide +kernel
theorem dX2_arrange_64 : decode cX2_arrange 64 = .ok (.iload_n 2, 1) := by decide +kernel
theorem dX2_arrange_65 : decode cX2_arrange 65 = .ok (.baload, 1) := by decide +kernel
theorem dX2_arrange_66 : decode cX2_arrange 66 = .ok (.ifCond .ne 29, 3) := by decide +kernel
theorem dX2_arrange_69 : decode cX2_arrange 69 = .ok (.aload_n 0, 1) := by decide +kernel
theorem dX2_arrange_70 : decode cX2_arrange 70 = .ok (.iconst 2, 1) := by decide +kernel
theorem dX2_arrange_71 : decode cX2_arrange 71 = .ok (.iload_n 2, 1) := by decide +kernel
theorem dX2_arrange_72 : decode cX2_arrange 72 = .ok (.imul, 1) := by decide +kernel
theorem dX2_arrange_73 : decode cX2_arrange 73 = .ok (.invokevirtual 61, 3) := by decide +kernel
theorem dX2_arrange_76 : decode cX2_arrange 76 = .ok (.ifCond .eq 19, 3) := by decide +kernel
theorem dX2_arrange_79 : decode cX2_arrange 79 = .ok (.aload_n 0, 1) := by decide +kernel
theorem dX2_arrange_80 : decode cX2_arrange 80 = .ok (.iconst 2, 1) := by decide +kernel
theorem dX2_arrange_81 : decode cX2_arrange 81 = .ok (.iload_n 2, 1) := by decide +kernel
theorem dX2_arrange_82 : decode cX2_arrange 82 = .ok (.imul, 1) := by decide +kernel
theorem dX2_arrange_83 : decode cX2_arrange 83 = .ok (.iconst 1, 1) := by decide +kernel
theorem dX2_arrange_84 : decode cX2_arrange 84 = .ok (.iadd, 1) := by decide +kernel
theorem dX2_arrange_85 : decode cX2_arrange 85 = .ok (.invokevirtual 61, 3) := by decide +kernel
theorem dX2_arrange_88 : decode cX2_arrange 88 = .ok (.ifCond .eq 7, 3) := by decide +kernel
theorem dX2_arrange_91 : decode cX2_arrange 91 = .ok (.iconst 1, 1) := by decide +kernel
theorem dX2_arrange_92 : decode cX2_arrange 92 = .ok (.goto 4, 3) := by decide +kernel
theorem dX2_arrange_95 : decode cX2_arrange 95 = .ok (.iconst 0, 1) := by decide +kernel
theorem dX2_arrange_96 : decode cX2_arrange 96 = .ok (.istore_n 3, 1) := by decide +kernel
theorem dX2_arrange_97 : decode cX2_arrange 97 = .ok (.iload_n 3, 1) := by decide +kernel
theorem dX2_arrange_98 : decode cX2_arrange 98 = .ok (.ifCond .eq 39, 3) := by decide +kernel
theorem dX2_arrange_101 : decode cX2_arrange 101 = .ok (.aload_n 0, 1) := by decide +kernel
theorem dX2_arrange_102 : decode cX2_arrange 102 = .ok (.getfield 44, 3) := by decide +kernel
theorem dX2_arrange_105 : decode cX2_arrange 105 = .ok (.bipush 8, 2) := by decide +kernel
theorem dX2_arrange_107 : decode cX2_arrange 107 = .ok (.if_icmp .ge 30, 3) := by decide +kernel
theorem dX2_arrange_110 : decode cX2_arrange 110 = .ok (.aload_n 0, 1) := by decide +kernel
theorem dX2_arrange_111 : decode cX2_arrange 111 = .ok (.getfield 30, 3) := by decide +kernel
theorem dX2_arrange_114 : decode cX2_arrange 114 = .ok (.iload_n 2, 1) := by decide +kernel
theorem dX2_arrange_115 : decode cX2_arrange 115 = .ok (.iconst 1, 1) := by decide +kernel
theorem dX2_arrange_116 : decode cX2_arrange 116 = .ok (.bastore, 1) := by decide +kernel
theorem dX2_arrange_117 : decode cX2_arrange 117 = .ok (.aload_n 0, 1) := by decide +kernel
theorem dX2_arrange_118 : decode cX2_arrange 118 = .ok (.getfield 27, 3) := by decide +kernel
theorem dX2_arrange_121 : decode cX2_arrange 121 = .ok (.aload_n 0, 1) := by decide +kernel
theorem dX2_arrange_122 : decode cX2_arrange 122 = .ok (.getfield 44, 3) := by decide +kernel
theorem dX2_arrange_125 : decode cX2_arrange 125 = .ok (.iload_n 2, 1) := by decide +kernel
theorem dX2_arrange_126 : decode cX2_arrange 126 = .ok (.iastore, 1) := by decide +kernel
theorem dX2_arrange_127 : decode cX2_arrange 127 = .ok (.aload_n 0, 1) := by decide +kernel
theorem dX2_arrange_128 : decode cX2_arrange 128 = .ok (.dup, 1) := by decide +kernel
theorem dX2_arrange_129 : decode cX2_arrange 129 = .ok (.getfield 44, 3) := by decide +kernel
theorem dX2_arrange_132 : decode cX2_arrange 132 = .ok (.iconst 1, 1) := by decide +kernel
theorem dX2_arrange_133 : decode cX2_arrange 133 = .ok (.iadd, 1) := by decide +kernel
theorem dX2_arrange_134 : decode cX2_arrange 134 = .ok (.putfield 44, 3) := by decide +kernel
theorem dX2_arrange_137 : decode cX2_arrange 137 = .ok (.iinc 2 1, 3) := by decide +kernel
theorem dX2_arrange_140 : decode cX2_arrange 140 = .ok (.goto (-94), 3) := by decide +kernel
theorem dX2_arrange_143 : decode cX2_arrange 143 = .ok (.iinc 1 1, 3) := by decide +kernel
theorem dX2_arrange_146 : decode cX2_arrange 146 = .ok (.goto (-110), 3) := by decide +kernel
theorem dX2_arrange_149 : decode cX2_arrange 149 = .ok (.return_, 1) := by decide +kernel
set_option maxRecDepth 20000 in
set_option maxHeartbeats 4000000 in
theorem k_Lp_arrange (l : Launch) (w : WT) (σ : MM) : CT SX l w yX2_arrange cX2_arrange 4 none 3 64 [.ref (w.2.2 1)] σ (PV fun σ1 => Mod [7, 8, 54] σ σ1 ∧ (AR (σ 5) (σ 6) (σ 53 0) (σ1 7) (σ1 8) (σ1 54 0)) ∧ (Stuck (σ 5) (σ 6) (σ 53 0) (σ1 8))) := by
  refine CT.of 3 [some (.ref (w.2.2 1)), none, none, none] (by decide +kernel) (by simp [lg_sl, Value.category]) rfl sh_X (fun G hX => ?_)
  refine r_bd hX (fun hBd => ?_)
  have b_53 := hBd 53 0 8 rfl 0
  refine r_iconst hX dX2_arrange_0 ?_
  refine r_istore_n hX (fun x1 => [some (.ref (w.2.2 1)), some (.int (iI x1)), none, none]) dX2_arrange_1 (Nat.le_of_ble_eq_true rfl) rfl rfl (fun _ => rfl) (fun x1 e1 => ?_)
  have lp2 : ∀ (n : Nat) (act : Int) (σ2 : MM) (m2 : Mod [8] σ σ2) (ha : 0 ≤ act ∧ act ≤ σ 53 0) (hz : ∀ a, 0 ≤ a → a < act → σ2 8 a = 0) (hmu : 9 - act < (n : Int)), G 2 [some (.ref (w.2.2 1)), some (.int (iI act)), none, none] [] σ2 := by
    intro n
    induction n with
    | zero => intro act σ2 m2 ha hz hmu; omega
    | succ n ih =>
      intro act σ2 m2 ha hz hmu
      have ih2 := ih
      clear ih
      refine r_iload_n hX dX2_arrange_2 rfl ?_
      refine r_aload_n hX dX2_arrange_3 rfl ?_
      refine fg_X1_37 hX dX2_arrange_4 (fun b4l b4u => ?_)
      have q4 : σ2 53 = σ 53 := (m2.at 53 rfl)
      rw [q4]
      rw [q4] at b4l b4u
      refine r_icmp_ge hX (tgt := 29) dX2_arrange_7 (by decide) (by omega) (by omega) (fun c7 => ?_) (fun c7 => ?_)
      · skip
        refine r_aload_n hX dX2_arrange_29 rfl ?_
        refine r_iconst hX dX2_arrange_30 ?_
        refine fp_X1_44 hX dX2_arrange_31 (by omega) (fun σ31 m31 s31 => ?_)
        refine r_iconst hX dX2_arrange_34 ?_
        refine r_istore_n hX (fun x35 => [some (.ref (w.2.2 1)), some (.int (iI x35)), none, none]) dX2_arrange_35 (Nat.le_of_ble_eq_true rfl) rfl rfl (fun _ => rfl) (fun x35 e35 => ?_)
        have lp36 : ∀ (n : Nat) (pass : Int) (σ36 : MM) (m36 : Mod [7, 8, 54] σ31 σ36) (hp : 0 ≤ pass ∧ pass ≤ σ 53 0) (hA : AR (σ 5) (σ 6) (σ 53 0) (σ36 7) (σ36 8) (σ36 54 0)) (hS : pass ≤ σ36 54 0 ∨ Stuck (σ 5) (σ 6) (σ 53 0) (σ36 8)) (hmu : 9 - pass < (n : Int)), G 36 [some (.ref (w.2.2 1)), some (.int (iI pass)), none, none] [] σ36 := by
          intro n
          induction n with
          | zero => intro pass σ36 m36 hp hA hS hmu; omega
          | succ n ih =>
            intro pass σ36 m36 hp hA hS hmu
            have ih36 := ih
            clear ih
            refine r_iload_n hX dX2_arrange_36 rfl ?_
            refine r_aload_n hX dX2_arrange_37 rfl ?_
            refine fg_X1_37 hX dX2_arrange_38 (fun b38l b38u => ?_)
            have q38 : σ36 53 = σ 53 := ((m36.at 53 rfl).trans ((m31.at 53 rfl).trans (m2.at 53 rfl)))
            rw [q38]
            rw [q38] at b38l b38u
            refine r_icmp_ge hX (tgt := 149) dX2_arrange_41 (by decide) (by omega) (by omega) (fun c41 => ?_) (fun c41 => ?_)
            · skip
              exact r_ret hX dX2_arrange_149 rfl ⟨rfl, ⟨(Mod.tr (L := [7, 8, 54]) (Mod.tr (L := [7, 8, 54]) m2 m31 rfl rfl) m36 rfl rfl), (by exact hA), (by exact hA.stuck (hS.imp (fun q => by omega) id))⟩⟩
            · skip
              refine r_iconst hX dX2_arrange_44 ?_
              refine r_istore_n hX (fun x45 => [some (.ref (w.2.2 1)), some (.int (iI pass)), some (.int (iI x45)), none]) dX2_arrange_45 (Nat.le_of_ble_eq_true rfl) rfl rfl (fun _ => rfl) (fun x45 e45 => ?_)
              have lp46 : ∀ (n : Nat) (act : Int) (σ46 : MM) (m46 : Mod [7, 8, 54] σ36 σ46) (ha : 0 ≤ act ∧ act ≤ σ 53 0) (hPS : PS (σ 5) (σ 6) (σ 53 0) (σ36 8) (σ36 54 0) act (σ46 7) (σ46 8) (σ46 54 0)) (hmu : 9 - act < (n : Int)), G 46 [some (.ref (w.2.2 1)), some (.int (iI pass)), some (.int (iI act)), none] [] σ46 := by
                intro n
                induction n with
                | zero => intro act σ46 m46 ha hPS hmu; omega
                | succ n ih =>
                  intro act σ46 m46 ha hPS hmu
                  have ih46 := ih
                  clear ih
                  refine r_iload_n hX dX2_arrange_46 rfl ?_
                  refine r_aload_n hX dX2_arrange_47 rfl ?_
                  refine fg_X1_37 hX dX2_arrange_48 (fun b48l b48u => ?_)
                  have q48 : σ46 53 = σ 53 := ((m46.at 53 rfl).trans ((m36.at 53 rfl).trans ((m31.at 53 rfl).trans (m2.at 53 rfl))))
                  rw [q48]
                  rw [q48] at b48l b48u
                  refine r_icmp_ge hX (tgt := 143) dX2_arrange_51 (by decide) (by omega) (by omega) (fun c51 => ?_) (fun c51 => ?_)
                  · skip
                    refine r_iinc hX (fun x143 => [some (.ref (w.2.2 1)), some (.int (iI x143)), some (.int (iI act)), none]) dX2_arrange_143 rfl rfl rfl (fun _ => rfl) (fun x143 e143 => ?_)
                    refine r_goto hX dX2_arrange_146 (tgt := 36) (by decide) ?_
                    refine r_wk hX (lv1 := [some (.ref (w.2.2 1)), some (.int (iI x143)), none, none]) ⟨rfl, ⟨rfl, trivial⟩⟩ ?_
                    exact ih36 x143 σ46 (Mod.tr (L := [7, 8, 54]) m36 m46 rfl rfl) (by omega) ((hPS.fin (p := pass) (by omega) hS).1) (by rw [e143]; exact (hPS.fin (p := pass) (by omega) hS).2) (by omega)
                  · skip
                    refine r_iload_n hX dX2_arrange_54 rfl ?_
                    refine r_bipush hX dX2_arrange_55 (by decide) ?_
                    refine r_icmp_ge hX (tgt := 143) dX2_arrange_57 (by decide) (by omega) (by omega) (fun c57 => ?_) (fun c57 => ?_)
                    · exfalso; omega
                    · skip
                      refine r_aload_n hX dX2_arrange_60 rfl ?_
                      refine fg_X1_30 hX dX2_arrange_61 ?_
                      refine r_iload_n hX dX2_arrange_64 rfl ?_
                      refine ld_X8 hX dX2_arrange_65 (by omega) (by omega) (fun b65l b65u => ?_)
                      refine r_if_ne hX (tgt := 95) dX2_arrange_66 (by decide) (by omega) (fun c66 => ?_) (fun c66 => ?_)
                      · skip
                        refine r_iconst hX dX2_arrange_95 ?_
                        refine r_istore_n hX (fun x96 => [some (.ref (w.2.2 1)), some (.int (iI pass)), some (.int (iI act)), some (.int (iI x96))]) dX2_arrange_96 (Nat.le_of_ble_eq_true rfl) rfl rfl (fun _ => rfl) (fun x96 e96 => ?_)
                        refine r_iload_n hX dX2_arrange_97 rfl ?_
                        refine r_if_eq hX (tgt := 137) dX2_arrange_98 (by decide) (by omega) (fun c98 => ?_) (fun c98 => by exfalso; omega)
                        refine r_iinc hX (fun x137 => [some (.ref (w.2.2 1)), some (.int (iI pass)), some (.int (iI x137)), some (.int (iI x96))]) dX2_arrange_137 rfl rfl rfl (fun _ => rfl) (fun x137 e137 => ?_)
                        refine r_goto hX dX2_arrange_140 (tgt := 46) (by decide) ?_
                        refine r_wk hX (lv1 := [some (.ref (w.2.2 1)), some (.int (iI pass)), some (.int (iI x137)), none]) ⟨rfl, ⟨rfl, ⟨rfl, trivial⟩⟩⟩ ?_
                        exact ih46 x137 σ46 (m46.w rfl) (by omega) (by rw [e137]; first | exact hPS.skip (Or.inl (by omega)) | exact hPS.skip (Or.inr fun q => cf_no h73_0 (by omega) q.1) | exact hPS.skip (Or.inr fun q => cf_no h85_0 (by omega) q.2) | (rw [m134.at 7 rfl, m134.at 8 rfl, m126.at 8 rfl, s134]; exact hPS.take (by omega) (by omega) (by omega) ⟨cf_yes h73_0 (by omega), cf_yes h85_0 (by omega)⟩ s116 s126)) (by omega)
                      · skip
                        refine r_aload_n hX dX2_arrange_69 rfl ?_
                        refine r_iconst hX dX2_arrange_70 ?_
                        refine r_iload_n hX dX2_arrange_71 rfl ?_
                        refine r_imul hX dX2_arrange_72 ?_
                        have qp73_53 : σ46 53 = σ 53 := ((m46.at 53 rfl).trans ((m36.at 53 rfl).trans ((m31.at 53 rfl).trans (m2.at 53 rfl))))
                        refine r_callV hX dX2_arrange_73 (k_Lp_canFollow l w σ46 _ (by omega) (by simp only [qp73_53]; omega)) mf_X2_canFollow mv_X2_canFollow lk_RX2_61 rfl rfl rfl rfl rfl ⟨Nat.le_of_ble_eq_true rfl, Nat.le_of_ble_eq_true rfl⟩ (Nat.le_of_ble_eq_true rfl) (kI fun z73 σ73 hh => ?_)
                        obtain ⟨rfl, h73_0⟩ := hh
                        have q73_1 : σ46 5 = σ 5 := ((m46.at 5 rfl).trans ((m36.at 5 rfl).trans ((m31.at 5 rfl).trans (m2.at 5 rfl))))
                        have q73_2 : σ46 6 = σ 6 := ((m46.at 6 rfl).trans ((m36.at 6 rfl).trans ((m31.at 6 rfl).trans (m2.at 6 rfl))))
                        have q73_3 : σ46 53 = σ 53 := ((m46.at 53 rfl).trans ((m36.at 53 rfl).trans ((m31.at 53 rfl).trans (m2.at 53 rfl))))
                        try simp only [q73_1, q73_2, q73_3] at h73_0
                        refine r_if_eq hX (tgt := 95) dX2_arrange_76 (by decide) (by omega) (fun c76 => ?_) (fun c76 => ?_)
                        · skip
                          refine r_iconst hX dX2_arrange_95 ?_
                          refine r_istore_n hX (fun x96 => [some (.ref (w.2.2 1)), some (.int (iI pass)), some (.int (iI act)), some (.int (iI x96))]) dX2_arrange_96 (Nat.le_of_ble_eq_true rfl) rfl rfl (fun _ => rfl) (fun x96 e96 => ?_)
                          refine r_iload_n hX dX2_arrange_97 rfl ?_
                          refine r_if_eq hX (tgt := 137) dX2_arrange_98 (by decide) (by omega) (fun c98 => ?_) (fun c98 => by exfalso; omega)
                          refine r_iinc hX (fun x137 => [some (.ref (w.2.2 1)), some (.int (iI pass)), some (.int (iI x137)), some (.int (iI x96))]) dX2_arrange_137 rfl rfl rfl (fun _ => rfl) (fun x137 e137 => ?_)
                          refine r_goto hX dX2_arrange_140 (tgt := 46) (by decide) ?_
                          refine r_wk hX (lv1 := [some (.ref (w.2.2 1)), some (.int (iI pass)), some (.int (iI x137)), none]) ⟨rfl, ⟨rfl, ⟨rfl, trivial⟩⟩⟩ ?_
                          exact ih46 x137 σ46 (m46.w rfl) (by omega) (by rw [e137]; first | exact hPS.skip (Or.inl (by omega)) | exact hPS.skip (Or.inr fun q => cf_no h73_0 (by omega) q.1) | exact hPS.skip (Or.inr fun q => cf_no h85_0 (by omega) q.2) | (rw [m134.at 7 rfl, m134.at 8 rfl, m126.at 8 rfl, s134]; exact hPS.take (by omega) (by omega) (by omega) ⟨cf_yes h73_0 (by omega), cf_yes h85_0 (by omega)⟩ s116 s126)) (by omega)
                        · skip
                          refine r_aload_n hX dX2_arrange_79 rfl ?_
                          refine r_iconst hX dX2_arrange_80 ?_
                          refine r_iload_n hX dX2_arrange_81 rfl ?_
                          refine r_imul hX dX2_arrange_82 ?_
                          refine r_iconst hX dX2_arrange_83 ?_
                          refine r_iadd hX dX2_arrange_84 ?_
                          have qp85_53 : σ46 53 = σ 53 := ((m46.at 53 rfl).trans ((m36.at 53 rfl).trans ((m31.at 53 rfl).trans (m2.at 53 rfl))))
                          refine r_callV hX dX2_arrange_85 (k_Lp_canFollow l w σ46 _ (by omega) (by simp only [qp85_53]; omega)) mf_X2_canFollow mv_X2_canFollow lk_RX2_61 rfl rfl rfl rfl rfl ⟨Nat.le_of_ble_eq_true rfl, Nat.le_of_ble_eq_true rfl⟩ (Nat.le_of_ble_eq_true rfl) (kI fun z85 σ85 hh => ?_)
                          obtain ⟨rfl, h85_0⟩ := hh
                          have q85_4 : σ46 5 = σ 5 := ((m46.at 5 rfl).trans ((m36.at 5 rfl).trans ((m31.at 5 rfl).trans (m2.at 5 rfl))))
                          have q85_5 : σ46 6 = σ 6 := ((m46.at 6 rfl).trans ((m36.at 6 rfl).trans ((m31.at 6 rfl).trans (m2.at 6 rfl))))
                          have q85_6 : σ46 53 = σ 53 := ((m46.at 53 rfl).trans ((m36.at 53 rfl).trans ((m31.at 53 rfl).trans (m2.at 53 rfl))))
                          try simp only [q85_4, q85_5, q85_6] at h85_0
                          refine r_if_eq hX (tgt := 95) dX2_arrange_88 (by decide) (by omega) (fun c88 => ?_) (fun c88 => ?_)
                          · skip
                            refine r_iconst hX dX2_arrange_95 ?_
                            refine r_istore_n hX (fun x96 => [some (.ref (w.2.2 1)), some (.int (iI pass)), some (.int (iI act)), some (.int (iI x96))]) dX2_arrange_96 (Nat.le_of_ble_eq_true rfl) rfl rfl (fun _ => rfl) (fun x96 e96 => ?_)
                            refine r_iload_n hX dX2_arrange_97 rfl ?_
                            refine r_if_eq hX (tgt := 137) dX2_arrange_98 (by decide) (by omega) (fun c98 => ?_) (fun c98 => by exfalso; omega)
                            refine r_iinc hX (fun x137 => [some (.ref (w.2.2 1)), some (.int (iI pass)), some (.int (iI x137)), some (.int (iI x96))]) dX2_arrange_137 rfl rfl rfl (fun _ => rfl) (fun x137 e137 => ?_)
                            refine r_goto hX dX2_arrange_140 (tgt := 46) (by decide) ?_
                            refine r_wk hX (lv1 := [some (.ref (w.2.2 1)), some (.int (iI pass)), some (.int (iI x137)), none]) ⟨rfl, ⟨rfl, ⟨rfl, trivial⟩⟩⟩ ?_
                            exact ih46 x137 σ46 (m46.w rfl) (by omega) (by rw [e137]; first | exact hPS.skip (Or.inl (by omega)) | exact hPS.skip (Or.inr fun q => cf_no h73_0 (by omega) q.1) | exact hPS.skip (Or.inr fun q => cf_no h85_0 (by omega) q.2) | (rw [m134.at 7 rfl, m134.at 8 rfl, m126.at 8 rfl, s134]; exact hPS.take (by omega) (by omega) (by omega) ⟨cf_yes h73_0 (by omega), cf_yes h85_0 (by omega)⟩ s116 s126)) (by omega)
                          · skip
                            refine r_iconst hX dX2_arrange_91 ?_
                            refine r_goto hX dX2_arrange_92 (tgt := 96) (by decide) ?_
                            refine r_istore_n hX (fun x96 => [some (.ref (w.2.2 1)), some (.int (iI pass)), some (.int (iI act)), some (.int (iI x96))]) dX2_arrange_96 (Nat.le_of_ble_eq_true rfl) rfl rfl (fun _ => rfl) (fun x96 e96 => ?_)
                            refine r_iload_n hX dX2_arrange_97 rfl ?_
                            refine r_if_eq hX (tgt := 137) dX2_arrange_98 (by decide) (by omega) (fun c98 => by exfalso; omega) (fun c98 => ?_)
                            have hlt := hPS.1.lt ha.1 (by omega) (by omega)
                            refine r_aload_n hX dX2_arrange_101 rfl ?_
                            refine fg_X1_44 hX dX2_arrange_102 (fun b102l b102u => ?_)
                            refine r_bipush hX dX2_arrange_105 (by decide) ?_
                            refine r_icmp_ge hX (tgt := 137) dX2_arrange_107 (by decide) (by omega) (by omega) (fun c107 => ?_) (fun c107 => ?_)
                            · exfalso; omega
                            · skip
                              refine r_aload_n hX dX2_arrange_110 rfl ?_
                              refine fg_X1_30 hX dX2_arrange_111 ?_
                              refine r_iload_n hX dX2_arrange_114 rfl ?_
                              refine r_iconst hX dX2_arrange_115 ?_
                              refine st_X8 hX dX2_arrange_116 (by omega) (by omega) (by omega) (fun σ116 m116 s116 => ?_)
                              refine r_aload_n hX dX2_arrange_117 rfl ?_
                              refine fg_X1_27 hX dX2_arrange_118 ?_
                              refine r_aload_n hX dX2_arrange_121 rfl ?_
                              refine fg_X1_44 hX dX2_arrange_122 (fun b122l b122u => ?_)
                              have q122 : σ116 54 = σ46 54 := (m116.at 54 rfl)
                              rw [q122]
                              rw [q122] at b122l b122u
                              refine r_iload_n hX dX2_arrange_125 rfl ?_
                              refine st_X7 hX dX2_arrange_126 (by omega) (by omega) (by omega) (fun σ126 m126 s126 => ?_)
                              simp only [show σ116 7 = σ46 7 from (m116.at 7 rfl)] at s126
                              refine r_aload_n hX dX2_arrange_127 rfl ?_
                              refine r_dup hX dX2_arrange_128 rfl ?_
                              refine fg_X1_44 hX dX2_arrange_129 (fun b129l b129u => ?_)
                              have q129 : σ126 54 = σ46 54 := ((m126.at 54 rfl).trans (m116.at 54 rfl))
                              rw [q129]
                              rw [q129] at b129l b129u
                              refine r_iconst hX dX2_arrange_132 ?_
                              refine r_iadd hX dX2_arrange_133 ?_
                              refine fp_X1_44 hX dX2_arrange_134 (by omega) (fun σ134 m134 s134 => ?_)
                              refine r_iinc hX (fun x137 => [some (.ref (w.2.2 1)), some (.int (iI pass)), some (.int (iI x137)), some (.int (iI x96))]) dX2_arrange_137 rfl rfl rfl (fun _ => rfl) (fun x137 e137 => ?_)
                              refine r_goto hX dX2_arrange_140 (tgt := 46) (by decide) ?_
                              refine r_wk hX (lv1 := [some (.ref (w.2.2 1)), some (.int (iI pass)), some (.int (iI x137)), none]) ⟨rfl, ⟨rfl, ⟨rfl, trivial⟩⟩⟩ ?_
                              exact ih46 x137 σ134 (Mod.tr (L := [7, 8, 54]) (Mod.tr (L := [7, 8, 54]) (Mod.tr (L := [7, 8, 54]) m46 m116 rfl rfl) m126 rfl rfl) m134 rfl rfl) (by omega) (by rw [e137]; first | exact hPS.skip (Or.inl (by omega)) | exact hPS.skip (Or.inr fun q => cf_no h73_0 (by omega) q.1) | exact hPS.skip (Or.inr fun q => cf_no h85_0 (by omega) q.2) | (rw [m134.at 7 rfl, m134.at 8 rfl, m126.at 8 rfl, s134]; exact hPS.take (by omega) (by omega) (by omega) ⟨cf_yes h73_0 (by omega), cf_yes h85_0 (by omega)⟩ s116 s126)) (by omega)
              exact lp46 ((9 - (x45)) + 1).toNat x45 σ36 Mod.rf (by omega) (by rw [e45]; exact PS.init hA) (by omega)
        exact lp36 ((9 - (x35)) + 1).toNat x35 σ31 Mod.rf (by omega) (by rw [s31]; exact AR.init (by omega) (fun a a0 a1 => by rw [m31.at 8 rfl]; exact hz a a0 (by omega))) (Or.inl (by omega)) (by omega)
      · skip
        refine r_iload_n hX dX2_arrange_10 rfl ?_
        refine r_bipush hX dX2_arrange_11 (by decide) ?_
        refine r_icmp_ge hX (tgt := 29) dX2_arrange_13 (by decide) (by omega) (by omega) (fun c13 => ?_) (fun c13 => ?_)
        · exfalso; omega
        · skip
          refine r_aload_n hX dX2_arrange_16 rfl ?_
          refine fg_X1_30 hX dX2_arrange_17 ?_
          refine r_iload_n hX dX2_arrange_20 rfl ?_
          refine r_iconst hX dX2_arrange_21 ?_
          refine st_X8 hX dX2_arrange_22 (by omega) (by omega) (by omega) (fun σ22 m22 s22 => ?_)
          refine r_iinc hX (fun x23 => [some (.ref (w.2.2 1)), some (.int (iI x23)), none, none]) dX2_arrange_23 rfl rfl rfl (fun _ => rfl) (fun x23 e23 => ?_)
          refine r_goto hX dX2_arrange_26 (tgt := 2) (by decide) ?_
          exact ih2 x23 σ22 (Mod.tr (L := [8]) m2 m22 rfl rfl) (by omega) (fun b b0 b1 => by rw [s22]; split; rfl; exact hz b b0 (by omega)) (by omega)
  exact lp2 ((9 - (x1)) + 1).toNat x1 σ Mod.rf (by omega) (fun b b0 b1 => by omega) (by omega)
theorem dX2_addInput_0 : decode cX2_addInput 0 = .ok (.aload_n 0, 1) := by decide +kernel
theorem dX2_addInput_1 : decode cX2_addInput 1 = .ok (.getfield 37, 3) := by decide +kernel
theorem dX2_addInput_4 : decode cX2_addInput 4 = .ok (.bipush 8, 2) := by decide +kernel
theorem dX2_addInput_6 : decode cX2_addInput 6 = .ok (.if_icmp .lt 6, 3) := by decide +kernel
theorem dX2_addInput_9 : decode cX2_addInput 9 = .ok (.bipush (-4), 2) := by decide +kernel
theorem dX2_addInput_11 : decode cX2_addInput 11 = .ok (.ireturn, 1) := by decide +kernel
theorem dX2_addInput_12 : decode cX2_addInput 12 = .ok (.aload_n 0, 1) := by decide +kernel
theorem dX2_addInput_13 : decode cX2_addInput 13 = .ok (.getfield 37, 3) := by decide +kernel
theorem dX2_addInput_16 : decode cX2_addInput 16 = .ok (.istore_n 3, 1) := by decide +kernel
theorem dX2_addInput_17 : decode cX2_addInput 17 = .ok (.aload_n 0, 1) := by decide +kernel
theorem dX2_addInput_18 : decode cX2_addInput 18 = .ok (.getfield 9, 3) := by decide +kernel
theorem dX2_addInput_21 : decode cX2_addInput 21 = .ok (.iload_n 3, 1) := by decide +kernel
theorem dX2_addInput_22 : decode cX2_addInput 22 = .ok (.iconst 0, 1) := by decide +kernel
theorem dX2_addInput_23 : decode cX2_addInput 23 = .ok (.iastore, 1) := by decide +kernel
theorem dX2_addInput_24 : decode cX2_addInput 24 = .ok (.aload_n 0, 1) := by decide +kernel
theorem dX2_addInput_25 : decode cX2_addInput 25 = .ok (.getfield 15, 3) := by decide +kernel
theorem dX2_addInput_28 : decode cX2_addInput 28 = .ok (.iload_n 3, 1) := by decide +kernel
theorem dX2_addInput_29 : decode cX2_addInput 29 = .ok (.iload_n 1, 1) := by decide +kernel
theorem dX2_addInput_30 : decode cX2_addInput 30 = .ok (.iastore, 1) := by decide +kernel
theorem dX2_addInput_31 : decode cX2_addInput 31 = .ok (.aload_n 0, 1) := by decide +kernel
theorem dX2_addInput_32 : decode cX2_addInput 32 = .ok (.getfield 18, 3) := by decide +kernel
theorem dX2_addInput_35 : decode cX2_addInput 35 = .ok (.iload_n 3, 1) := by decide +kernel
theorem dX2_addInput_36 : decode cX2_addInput 36 = .ok (.iload_n 2, 1) := by decide +kernel
theorem dX2_addInput_37 : decode cX2_addInput 37 = .ok (.iastore, 1) := by decide +kernel
theorem dX2_addInput_38 : decode cX2_addInput 38 = .ok (.aload_n 0, 1) := by decide +kernel
theorem dX2_addInput_39 : decode cX2_addInput 39 = .ok (.iconst 2, 1) := by decide +kernel
theorem dX2_addInput_40 : decode cX2_addInput 40 = .ok (.iload_n 3, 1) := by decide +kernel
theorem dX2_addInput_41 : decode cX2_addInput 41 = .ok (.imul, 1) := by decide +kernel
theorem dX2_addInput_42 : decode cX2_addInput 42 = .ok (.bipush (-6), 2) := by decide +kernel
theorem dX2_addInput_44 : decode cX2_addInput 44 = .ok (.iconst 0, 1) := by decide +kernel
theorem dX2_addInput_45 : decode cX2_addInput 45 = .ok (.invokevirtual 54, 3) := by decide +kernel
theorem dX2_addInput_48 : decode cX2_addInput 48 = .ok (.aload_n 0, 1) := by decide +kernel
theorem dX2_addInput_49 : decode cX2_addInput 49 = .ok (.iconst 2, 1) := by decide +kernel
theorem dX2_addInput_50 : decode cX2_addInput 50 = .ok (.iload_n 3, 1) := by decide +kernel
theorem dX2_addInput_51 : decode cX2_addInput 51 = .ok (.imul, 1) := by decide +kernel
theorem dX2_addInput_52 : decode cX2_addInput 52 = .ok (.iconst 1, 1) := by decide +kernel
theorem dX2_addInput_53 : decode cX2_addInput 53 = .ok (.iadd, 1) := by decide +kernel
theorem dX2_addInput_54 : decode cX2_addInput 54 = .ok (.bipush (-6), 2) := by decide +kernel
theorem dX2_addInput_56 : decode cX2_addInput 56 = .ok (.iconst 0, 1) := by decide +kernel
theorem dX2_addInput_57 : decode cX2_addInput 57 = .ok (.invokevirtual 54, 3) := by decide +kernel
theorem dX2_addInput_60 : decode cX2_addInput 60 = .ok (.aload_n 0, 1) := by decide +kernel
theorem dX2_addInput_61 : decode cX2_addInput 61 = .ok (.dup, 1) := by decide +kernel
theorem dX2_addInput_62 : decode cX2_addInput 62 = .ok (.getfield 37, 3) := by decide +kernel
theorem dX2_addInput_65 : decode cX2_addInput 65 = .ok (.iconst 1, 1) := by decide +kernel
theorem dX2_addInput_66 : decode cX2_addInput 66 = .ok (.iadd, 1) := by decide +kernel
theorem dX2_addInput_67 : decode cX2_addInput 67 = .ok (.putfield 37, 3) := by decide +kernel
theorem dX2_addInput_70 : decode cX2_addInput 70 = .ok (.aload_n 0, 1) := by decide +kernel
theorem dX2_addInput_71 : decode cX2_addInput 71 = .ok (.invokevirtual 58, 3) := by decide +kernel
theorem dX2_addInput_74 : decode cX2_addInput 74 = .ok (.iload_n 3, 1) := by decide +kernel
theorem dX2_addInput_75 : decode cX2_addInput 75 = .ok (.ireturn, 1) := by decide +kernel
set_option maxRecDepth 20000 in
set_option maxHeartbeats 4000000 in
theorem k_Lp_addInput (l : Launch) (w : WT) (σ : MM) (p : Int) (q : Int) (i_p : inr p) (i_q : inr q) : CT SX l w yX2_addInput cX2_addInput 4 (some .int) 4 87 [.ref (w.2.2 1), .int (iI p), .int (iI q)] σ (PI fun z σ1 => Mod [2, 3, 4, 5, 6, 7, 8, 53, 54] σ σ1 ∧ ((σ 53 0 = 8 ∧ z = -4 ∧ σ1 = σ) ∨ (σ 53 0 < 8 ∧ z = σ 53 0 ∧ Added σ σ1 0 p q (-6) 0 (-6) 0 ∧ LoopOK σ1))) := by
  refine CT.of 1 [some (.ref (w.2.2 1)), some (.int (iI p)), some (.int (iI q)), none] (by decide +kernel) (by simp [lg_sl, Value.category]) rfl sh_X (fun G hX => ?_)
  refine r_aload_n hX dX2_addInput_0 rfl ?_
  refine fg_X1_37 hX dX2_addInput_1 (fun b1l b1u => ?_)
  refine r_bipush hX dX2_addInput_4 (by decide) ?_
  refine r_icmp_lt hX (tgt := 12) dX2_addInput_6 (by decide) (by omega) (by omega) (fun c6 => ?_) (fun c6 => ?_)
  · skip
    refine r_aload_n hX dX2_addInput_12 rfl ?_
    refine fg_X1_37 hX dX2_addInput_13 (fun b13l b13u => ?_)
    refine r_istore_n hX (fun x16 => [some (.ref (w.2.2 1)), some (.int (iI p)), some (.int (iI q)), some (.int (iI x16))]) dX2_addInput_16 (Nat.le_of_ble_eq_true rfl) rfl rfl (fun _ => rfl) (fun x16 e16 => ?_)
    refine r_aload_n hX dX2_addInput_17 rfl ?_
    refine fg_X1_9 hX dX2_addInput_18 ?_
    refine r_iload_n hX dX2_addInput_21 rfl ?_
    refine r_iconst hX dX2_addInput_22 ?_
    refine st_X2 hX dX2_addInput_23 (by omega) (by omega) (by omega) (fun σ23 m23 s23 => ?_)
    refine r_aload_n hX dX2_addInput_24 rfl ?_
    refine fg_X1_15 hX dX2_addInput_25 ?_
    refine r_iload_n hX dX2_addInput_28 rfl ?_
    refine r_iload_n hX dX2_addInput_29 rfl ?_
    refine st_X3 hX dX2_addInput_30 (by omega) (by omega) (fun σ30 m30 s30 => ?_)
    simp only [show σ23 3 = σ 3 from (m23.at 3 rfl)] at s30
    refine r_aload_n hX dX2_addInput_31 rfl ?_
    refine fg_X1_18 hX dX2_addInput_32 ?_
    refine r_iload_n hX dX2_addInput_35 rfl ?_
    refine r_iload_n hX dX2_addInput_36 rfl ?_
    refine st_X4 hX dX2_addInput_37 (by omega) (by omega) (fun σ37 m37 s37 => ?_)
    simp only [show σ30 4 = σ 4 from ((m30.at 4 rfl).trans (m23.at 4 rfl))] at s37
    refine r_aload_n hX dX2_addInput_38 rfl ?_
    refine r_iconst hX dX2_addInput_39 ?_
    refine r_iload_n hX dX2_addInput_40 rfl ?_
    refine r_imul hX dX2_addInput_41 ?_
    refine r_bipush hX dX2_addInput_42 (by decide) ?_
    refine r_iconst hX dX2_addInput_44 ?_
    refine r_callV hX dX2_addInput_45 (k_Lp_setOperand l w σ37 _ _ _ (by omega) (by omega) (by omega) (by omega) (by omega) (by omega)) mf_X2_setOperand mv_X2_setOperand lk_RX2_54 rfl rfl rfl rfl rfl ⟨Nat.le_of_ble_eq_true rfl, Nat.le_of_ble_eq_true rfl⟩ (Nat.le_of_ble_eq_true rfl) (kV fun σ45 hh => ?_)
    obtain ⟨m45, h45_0, h45_1⟩ := hh
    have q45_1 : σ37 5 = σ 5 := ((m37.at 5 rfl).trans ((m30.at 5 rfl).trans (m23.at 5 rfl)))
    try simp only [q45_1] at h45_0
    have q45_2 : σ37 6 = σ 6 := ((m37.at 6 rfl).trans ((m30.at 6 rfl).trans (m23.at 6 rfl)))
    try simp only [q45_2] at h45_1
    refine r_aload_n hX dX2_addInput_48 rfl ?_
    refine r_iconst hX dX2_addInput_49 ?_
    refine r_iload_n hX dX2_addInput_50 rfl ?_
    refine r_imul hX dX2_addInput_51 ?_
    refine r_iconst hX dX2_addInput_52 ?_
    refine r_iadd hX dX2_addInput_53 ?_
    refine r_bipush hX dX2_addInput_54 (by decide) ?_
    refine r_iconst hX dX2_addInput_56 ?_
    refine r_callV hX dX2_addInput_57 (k_Lp_setOperand l w σ45 _ _ _ (by omega) (by omega) (by omega) (by omega) (by omega) (by omega)) mf_X2_setOperand mv_X2_setOperand lk_RX2_54 rfl rfl rfl rfl rfl ⟨Nat.le_of_ble_eq_true rfl, Nat.le_of_ble_eq_true rfl⟩ (Nat.le_of_ble_eq_true rfl) (kV fun σ57 hh => ?_)
    obtain ⟨m57, h57_0, h57_1⟩ := hh
    refine r_aload_n hX dX2_addInput_60 rfl ?_
    refine r_dup hX dX2_addInput_61 rfl ?_
    refine fg_X1_37 hX dX2_addInput_62 (fun b62l b62u => ?_)
    have q62 : σ57 53 = σ 53 := ((m57.at 53 rfl).trans ((m45.at 53 rfl).trans ((m37.at 53 rfl).trans ((m30.at 53 rfl).trans (m23.at 53 rfl)))))
    rw [q62]
    rw [q62] at b62l b62u
    refine r_iconst hX dX2_addInput_65 ?_
    refine r_iadd hX dX2_addInput_66 ?_
    refine fp_X1_37 hX dX2_addInput_67 (by omega) (fun σ67 m67 s67 => ?_)
    refine r_aload_n hX dX2_addInput_70 rfl ?_
    refine r_callV hX dX2_addInput_71 (k_Lp_arrange l w σ67) mf_X2_arrange mv_X2_arrange lk_RX2_58 rfl rfl rfl rfl rfl ⟨Nat.le_of_ble_eq_true rfl, Nat.le_of_ble_eq_true rfl⟩ (Nat.le_of_ble_eq_true rfl) (kV fun σ71 hh => ?_)
    obtain ⟨m71, h71_0, h71_1⟩ := hh
    have q71_3 : σ67 5 = σ57 5 := (m67.at 5 rfl)
    have q71_4 : σ67 6 = σ57 6 := (m67.at 6 rfl)
    try simp only [q71_3, q71_4] at h71_0
    have q71_5 : σ67 5 = σ57 5 := (m67.at 5 rfl)
    have q71_6 : σ67 6 = σ57 6 := (m67.at 6 rfl)
    try simp only [q71_5, q71_6] at h71_1
    refine r_iload_n hX dX2_addInput_74 rfl ?_
    exact r_iret hX dX2_addInput_75 rfl ⟨_, rfl, ⟨(Mod.tr (L := [2, 3, 4, 5, 6, 7, 8, 53, 54]) (Mod.tr (L := [2, 3, 4, 5, 6, 7, 8, 53, 54]) (Mod.tr (L := [2, 3, 4, 5, 6, 7, 8, 53, 54]) (Mod.tr (L := [2, 3, 4, 5, 6, 7, 8, 53, 54]) (Mod.tr (L := [2, 3, 4, 5, 6, 7, 8, 53, 54]) (Mod.tr (L := [2, 3, 4, 5, 6, 7, 8, 53, 54]) m23 m30 rfl rfl) m37 rfl rfl) m45 rfl rfl) m57 rfl rfl) m67 rfl rfl) m71 rfl rfl), (by exact Or.inr ⟨by omega, by omega, added_of (c := σ 53 0) (x := x16) (by omega) m23 m30 m37 m45 m57 m67 m71 s23 s30 s37 h45_0 h45_1 h57_0 h57_1 s67, loopOK_of m67 m71 h71_0 h71_1⟩)⟩⟩
  · skip
    refine r_bipush hX dX2_addInput_9 (by decide) ?_
    exact r_iret hX dX2_addInput_11 rfl ⟨_, rfl, ⟨Mod.rf, (by exact Or.inl ⟨by omega, rfl, rfl⟩)⟩⟩
theorem dX2_addWork_0 : decode cX2_addWork 0 = .ok (.aload_n 0, 1) := by decide +kernel
theorem dX2_addWork_1 : decode cX2_addWork 1 = .ok (.getfield 37, 3) := by decide +kernel
theorem dX2_addWork_4 : decode cX2_addWork 4 = .ok (.bipush 8, 2) := by decide +kernel
theorem dX2_addWork_6 : decode cX2_addWork 6 = .ok (.if_icmp .lt 6, 3) := by decide +kernel
theorem dX2_addWork_9 : decode cX2_addWork 9 = .ok (.bipush (-4), 2) := by decide +kernel
theorem dX2_addWork_11 : decode cX2_addWork 11 = .ok (.ireturn, 1) := by decide +kernel
theorem dX2_addWork_12 : decode cX2_addWork 12 = .ok (.aload_n 0, 1) := by decide +kernel
theorem dX2_addWork_13 : decode cX2_addWork 13 = .ok (.getfield 37, 3) := by decide +kernel
theorem dX2_addWork_16 : decode cX2_addWork 16 = .ok (.istore 6, 2) := by decide +kernel
theorem dX2_addWork_18 : decode cX2_addWork 18 = .ok (.aload_n 0, 1) := by decide +kernel
theorem dX2_addWork_19 : decode cX2_addWork 19 = .ok (.getfield 9, 3) := by decide +kernel
theorem dX2_addWork_22 : decode cX2_addWork 22 = .ok (.iload 6, 2) := by decide +kernel
theorem dX2_addWork_24 : decode cX2_addWork 24 = .ok (.iload_n 1, 1) := by decide +kernel
theorem dX2_addWork_25 : decode cX2_addWork 25 = .ok (.iastore, 1) := by decide +kernel
theorem dX2_addWork_26 : decode cX2_addWork 26 = .ok (.aload_n 0, 1) := by decide +kernel
theorem dX2_addWork_27 : decode cX2_addWork 27 = .ok (.getfield 15, 3) := by decide +kernel
theorem dX2_addWork_30 : decode cX2_addWork 30 = .ok (.iload 6, 2) := by decide +kernel
theorem dX2_addWork_32 : decode cX2_addWork 32 = .ok (.iconst 0, 1) := by decide +kernel
theorem dX2_addWork_33 : decode cX2_addWork 33 = .ok (.iastore, 1) := by decide +kernel
theorem dX2_addWork_34 : decode cX2_addWork 34 = .ok (.aload_n 0, 1) := by decide +kernel
theorem dX2_addWork_35 : decode cX2_addWork 35 = .ok (.getfield 18, 3) := by decide +kernel
theorem dX2_addWork_38 : decode cX2_addWork 38 = .ok (.iload 6, 2) := by decide +kernel
theorem dX2_addWork_40 : decode cX2_addWork 40 = .ok (.iconst 0, 1) := by decide +kernel
theorem dX2_addWork_41 : decode cX2_addWork 41 = .ok (.iastore, 1) := by decide +kernel
theorem dX2_addWork_42 : decode cX2_addWork 42 = .ok (.aload_n 0, 1) := by decide +kernel
theorem dX2_addWork_43 : decode cX2_addWork 43 = .ok (.iconst 2, 1) := by decide +kernel
theorem dX2_addWork_44 : decode cX2_addWork 44 = .ok (.iload 6, 2) := by decide +kernel
theorem dX2_addWork_46 : decode cX2_addWork 46 = .ok (.imul, 1) := by decide +kernel
theorem dX2_addWork_47 : decode cX2_addWork 47 = .ok (.iload_n 2, 1) := by decide +kernel
theorem dX2_addWork_48 : decode cX2_addWork 48 = .ok (.iload_n 3, 1) := by decide +kernel
theorem dX2_addWork_49 : decode cX2_addWork 49 = .ok (.invokevirtual 54, 3) := by decide +kernel
theorem dX2_addWork_52 : decode cX2_addWork 52 = .ok (.aload_n 0, 1) := by decide +kernel
theorem dX2_addWork_53 : decode cX2_addWork 53 = .ok (.iconst 2, 1) := by decide +kernel
theorem dX2_addWork_54 : decode cX2_addWork 54 = .ok (.iload 6, 2) := by decide +kernel
theorem dX2_addWork_56 : decode cX2_addWork 56 = .ok (.imul, 1) := by decide +kernel
theorem dX2_addWork_57 : decode cX2_addWork 57 = .ok (.iconst 1, 1) := by decide +kernel
theorem dX2_addWork_58 : decode cX2_addWork 58 = .ok (.iadd, 1) := by decide +kernel
theorem dX2_addWork_59 : decode cX2_addWork 59 = .ok (.iload 4, 2) := by decide +kernel
theorem dX2_addWork_61 : decode cX2_addWork 61 = .ok (.iload 5, 2) := by decide +kernel
theorem dX2_addWork_63 : decode cX2_addWork 63 = .ok (.invokevirtual 54, 3) := by decide +kernel
theorem dX2_addWork_66 : decode cX2_addWork 66 = .ok (.aload_n 0, 1) := by decide +kernel
theorem dX2_addWork_67 : decode cX2_addWork 67 = .ok (.dup, 1) := by decide +kernel
theorem dX2_addWork_68 : decode cX2_addWork 68 = .ok (.getfield 37, 3) := by decide +kernel
theorem dX2_addWork_71 : decode cX2_addWork 71 = .ok (.iconst 1, 1) := by decide +kernel
theorem dX2_addWork_72 : decode cX2_addWork 72 = .ok (.iadd, 1) := by decide +kernel
theorem dX2_addWork_73 : decode cX2_addWork 73 = .ok (.putfield 37, 3) := by decide +kernel
theorem dX2_addWork_76 : decode cX2_addWork 76 = .ok (.aload_n 0, 1) := by decide +kernel
theorem dX2_addWork_77 : decode cX2_addWork 77 = .ok (.invokevirtual 58, 3) := by decide +kernel
theorem dX2_addWork_80 : decode cX2_addWork 80 = .ok (.iload 6, 2) := by decide +kernel
theorem dX2_addWork_82 : decode cX2_addWork 82 = .ok (.ireturn, 1) := by decide +kernel
set_option maxRecDepth 20000 in
set_option maxHeartbeats 4000000 in
theorem k_Lp_addWork (l : Launch) (w : WT) (σ : MM) (kd : Int) (a : Int) (da : Int) (b : Int) (db : Int) (i_kd : inr kd) (i_a : inr a) (i_da : inr da) (i_b : inr b) (i_db : inr db) (hk : 0 ≤ kd ∧ kd ≤ 5) (ha : -6 ≤ a ∧ a ≤ 7) (hda : 0 ≤ da ∧ da ≤ 3) (hb : -6 ≤ b ∧ b ≤ 7) (hdb : 0 ≤ db ∧ db ≤ 3) : CT SX l w yX2_addWork cX2_addWork 7 (some .int) 4 87 [.ref (w.2.2 1), .int (iI kd), .int (iI a), .int (iI da), .int (iI b), .int (iI db)] σ (PI fun z σ1 => Mod [2, 3, 4, 5, 6, 7, 8, 53, 54] σ σ1 ∧ ((σ 53 0 = 8 ∧ z = -4 ∧ σ1 = σ) ∨ (σ 53 0 < 8 ∧ z = σ 53 0 ∧ Added σ σ1 kd 0 0 a da b db ∧ LoopOK σ1))) := by
  refine CT.of 1 [some (.ref (w.2.2 1)), some (.int (iI kd)), some (.int (iI a)), some (.int (iI da)), some (.int (iI b)), some (.int (iI db)), none] (by decide +kernel) (by simp [lg_sl, Value.category]) rfl sh_X (fun G hX => ?_)
  refine r_aload_n hX dX2_addWork_0 rfl ?_
  refine fg_X1_37 hX dX2_addWork_1 (fun b1l b1u => ?_)
  refine r_bipush hX dX2_addWork_4 (by decide) ?_
  refine r_icmp_lt hX (tgt := 12) dX2_addWork_6 (by decide) (by omega) (by omega) (fun c6 => ?_) (fun c6 => ?_)
  · skip
    refine r_aload_n hX dX2_addWork_12 rfl ?_
    refine fg_X1_37 hX dX2_addWork_13 (fun b13l b13u => ?_)
    refine r_istore hX (fun x16 => [some (.ref (w.2.2 1)), some (.int (iI kd)), some (.int (iI a)), some (.int (iI da)), some (.int (iI b)), some (.int (iI db)), some (.int (iI x16))]) dX2_addWork_16 (Nat.le_of_ble_eq_true rfl) rfl rfl (fun _ => rfl) (fun x16 e16 => ?_)
    refine r_aload_n hX dX2_addWork_18 rfl ?_
    refine fg_X1_9 hX dX2_addWork_19 ?_
    refine r_iload hX dX2_addWork_22 rfl ?_
    refine r_iload_n hX dX2_addWork_24 rfl ?_
    refine st_X2 hX dX2_addWork_25 (by omega) (by omega) (by omega) (fun σ25 m25 s25 => ?_)
    refine r_aload_n hX dX2_addWork_26 rfl ?_
    refine fg_X1_15 hX dX2_addWork_27 ?_
    refine r_iload hX dX2_addWork_30 rfl ?_
    refine r_iconst hX dX2_addWork_32 ?_
    refine st_X3 hX dX2_addWork_33 (by omega) (by omega) (fun σ33 m33 s33 => ?_)
    simp only [show σ25 3 = σ 3 from (m25.at 3 rfl)] at s33
    refine r_aload_n hX dX2_addWork_34 rfl ?_
    refine fg_X1_18 hX dX2_addWork_35 ?_
    refine r_iload hX dX2_addWork_38 rfl ?_
    refine r_iconst hX dX2_addWork_40 ?_
    refine st_X4 hX dX2_addWork_41 (by omega) (by omega) (fun σ41 m41 s41 => ?_)
    simp only [show σ33 4 = σ 4 from ((m33.at 4 rfl).trans (m25.at 4 rfl))] at s41
    refine r_aload_n hX dX2_addWork_42 rfl ?_
    refine r_iconst hX dX2_addWork_43 ?_
    refine r_iload hX dX2_addWork_44 rfl ?_
    refine r_imul hX dX2_addWork_46 ?_
    refine r_iload_n hX dX2_addWork_47 rfl ?_
    refine r_iload_n hX dX2_addWork_48 rfl ?_
    refine r_callV hX dX2_addWork_49 (k_Lp_setOperand l w σ41 _ _ _ (by omega) (by omega) (by omega) (by omega) (by omega) (by omega)) mf_X2_setOperand mv_X2_setOperand lk_RX2_54 rfl rfl rfl rfl rfl ⟨Nat.le_of_ble_eq_true rfl, Nat.le_of_ble_eq_true rfl⟩ (Nat.le_of_ble_eq_true rfl) (kV fun σ49 hh => ?_)
    obtain ⟨m49, h49_0, h49_1⟩ := hh
    have q49_1 : σ41 5 = σ 5 := ((m41.at 5 rfl).trans ((m33.at 5 rfl).trans (m25.at 5 rfl)))
    try simp only [q49_1] at h49_0
    have q49_2 : σ41 6 = σ 6 := ((m41.at 6 rfl).trans ((m33.at 6 rfl).trans (m25.at 6 rfl)))
    try simp only [q49_2] at h49_1
    refine r_aload_n hX dX2_addWork_52 rfl ?_
    refine r_iconst hX dX2_addWork_53 ?_
    refine r_iload hX dX2_addWork_54 rfl ?_
    refine r_imul hX dX2_addWork_56 ?_
    refine r_iconst hX dX2_addWork_57 ?_
    refine r_iadd hX dX2_addWork_58 ?_
    refine r_iload hX dX2_addWork_59 rfl ?_
    refine r_iload hX dX2_addWork_61 rfl ?_
    refine r_callV hX dX2_addWork_63 (k_Lp_setOperand l w σ49 _ _ _ (by omega) (by omega) (by omega) (by omega) (by omega) (by omega)) mf_X2_setOperand mv_X2_setOperand lk_RX2_54 rfl rfl rfl rfl rfl ⟨Nat.le_of_ble_eq_true rfl, Nat.le_of_ble_eq_true rfl⟩ (Nat.le_of_ble_eq_true rfl) (kV fun σ63 hh => ?_)
    obtain ⟨m63, h63_0, h63_1⟩ := hh
    refine r_aload_n hX dX2_addWork_66 rfl ?_
    refine r_dup hX dX2_addWork_67 rfl ?_
    refine fg_X1_37 hX dX2_addWork_68 (fun b68l b68u => ?_)
    have q68 : σ63 53 = σ 53 := ((m63.at 53 rfl).trans ((m49.at 53 rfl).trans ((m41.at 53 rfl).trans ((m33.at 53 rfl).trans (m25.at 53 rfl)))))
    rw [q68]
    rw [q68] at b68l b68u
    refine r_iconst hX dX2_addWork_71 ?_
    refine r_iadd hX dX2_addWork_72 ?_
    refine fp_X1_37 hX dX2_addWork_73 (by omega) (fun σ73 m73 s73 => ?_)
    refine r_aload_n hX dX2_addWork_76 rfl ?_
    refine r_callV hX dX2_addWork_77 (k_Lp_arrange l w σ73) mf_X2_arrange mv_X2_arrange lk_RX2_58 rfl rfl rfl rfl rfl ⟨Nat.le_of_ble_eq_true rfl, Nat.le_of_ble_eq_true rfl⟩ (Nat.le_of_ble_eq_true rfl) (kV fun σ77 hh => ?_)
    obtain ⟨m77, h77_0, h77_1⟩ := hh
    have q77_3 : σ73 5 = σ63 5 := (m73.at 5 rfl)
    have q77_4 : σ73 6 = σ63 6 := (m73.at 6 rfl)
    try simp only [q77_3, q77_4] at h77_0
    have q77_5 : σ73 5 = σ63 5 := (m73.at 5 rfl)
    have q77_6 : σ73 6 = σ63 6 := (m73.at 6 rfl)
    try simp only [q77_5, q77_6] at h77_1
    refine r_iload hX dX2_addWork_80 rfl ?_
    exact r_iret hX dX2_addWork_82 rfl ⟨_, rfl, ⟨(Mod.tr (L := [2, 3, 4, 5, 6, 7, 8, 53, 54]) (Mod.tr (L := [2, 3, 4, 5, 6, 7, 8, 53, 54]) (Mod.tr (L := [2, 3, 4, 5, 6, 7, 8, 53, 54]) (Mod.tr (L := [2, 3, 4, 5, 6, 7, 8, 53, 54]) (Mod.tr (L := [2, 3, 4, 5, 6, 7, 8, 53, 54]) (Mod.tr (L := [2, 3, 4, 5, 6, 7, 8, 53, 54]) m25 m33 rfl rfl) m41 rfl rfl) m49 rfl rfl) m63 rfl rfl) m73 rfl rfl) m77 rfl rfl), (by exact Or.inr ⟨by omega, by omega, added_of (c := σ 53 0) (x := x16) (by omega) m25 m33 m41 m49 m63 m73 m77 s25 s33 s41 h49_0 h49_1 h63_0 h63_1 s73, loopOK_of m73 m77 h77_0 h77_1⟩)⟩⟩
  · skip
    refine r_bipush hX dX2_addWork_9 (by decide) ?_
    exact r_iret hX dX2_addWork_11 rfl ⟨_, rfl, ⟨Mod.rf, (by exact Or.inl ⟨by omega, rfl, rfl⟩)⟩⟩
theorem dX2_empty_0 : decode cX2_empty 0 = .ok (.aload_n 0, 1) := by decide +kernel
theorem dX2_empty_1 : decode cX2_empty 1 = .ok (.iconst 0, 1) := by decide +kernel
theorem dX2_empty_2 : decode cX2_empty 2 = .ok (.putfield 37, 3) := by decide +kernel
theorem dX2_empty_5 : decode cX2_empty 5 = .ok (.aload_n 0, 1) := by decide +kernel
theorem dX2_empty_6 : decode cX2_empty 6 = .ok (.invokevirtual 58, 3) := by decide +kernel
theorem dX2_empty_9 : decode cX2_empty 9 = .ok (.return_, 1) := by decide +kernel
set_option maxRecDepth 20000 in
set_option maxHeartbeats 4000000 in
theorem k_Lp_empty (l : Launch) (w : WT) (σ : MM) : CT SX l w yX2_empty cX2_empty 1 none 4 87 [.ref (w.2.2 1)] σ (PV fun σ1 => Mod [7, 8, 53, 54] σ σ1 ∧ (σ1 53 0 = 0) ∧ (LoopOK σ1)) := by
  refine CT.of 0 [some (.ref (w.2.2 1))] (by decide +kernel) (by simp [lg_sl, Value.category]) rfl sh_X (fun G hX => ?_)
  refine r_aload_n hX dX2_empty_0 rfl ?_
  refine r_iconst hX dX2_empty_1 ?_
  refine fp_X1_37 hX dX2_empty_2 (by omega) (fun σ2 m2 s2 => ?_)
  refine r_aload_n hX dX2_empty_5 rfl ?_
  refine r_callV hX dX2_empty_6 (k_Lp_arrange l w σ2) mf_X2_arrange mv_X2_arrange lk_RX2_58 rfl rfl rfl rfl rfl ⟨Nat.le_of_ble_eq_true rfl, Nat.le_of_ble_eq_true rfl⟩ (Nat.le_of_ble_eq_true rfl) (kV fun σ6 hh => ?_)
  obtain ⟨m6, h6_0, h6_1⟩ := hh
  have q6_1 : σ2 5 = σ 5 := (m2.at 5 rfl)
  have q6_2 : σ2 6 = σ 6 := (m2.at 6 rfl)
  try simp only [q6_1, q6_2] at h6_0
  have q6_3 : σ2 5 = σ 5 := (m2.at 5 rfl)
  have q6_4 : σ2 6 = σ 6 := (m2.at 6 rfl)
  try simp only [q6_3, q6_4] at h6_1
  exact r_ret hX dX2_empty_9 rfl ⟨rfl, ⟨(Mod.tr (L := [7, 8, 53, 54]) m2 m6 rfl rfl), (by rw [m6.at 53 rfl]; exact s2), (by exact loopOK_of m2 m6 h6_0 h6_1)⟩⟩
theorem dJ7_fill_53178_0 : decode cJ7_fill_53178 0 = .ok (.iconst 0, 1) := by decide +kernel
theorem dJ7_fill_53178_1 : decode cJ7_fill_53178 1 = .ok (.istore_n 2, 1) := by decide +kernel
theorem dJ7_fill_53178_2 : decode cJ7_fill_53178 2 = .ok (.aload_n 0, 1) := by decide +kernel
theorem dJ7_fill_53178_3 : decode cJ7_fill_53178 3 = .ok (.arraylength, 1) := by decide +kernel
theorem dJ7_fill_53178_4 : decode cJ7_fill_53178 4 = .ok (.istore_n 3, 1) := by decide +kernel
theorem dJ7_fill_53178_5 : decode cJ7_fill_53178 5 = .ok (.iload_n 2, 1) := by decide +kernel
theorem dJ7_fill_53178_6 : decode cJ7_fill_53178 6 = .ok (.iload_n 3, 1) := by decide +kernel
theorem dJ7_fill_53178_7 : decode cJ7_fill_53178 7 = .ok (.if_icmp .ge 13, 3) := by decide +kernel
theorem dJ7_fill_53178_10 : decode cJ7_fill_53178 10 = .ok (.aload_n 0, 1) := by decide +kernel
theorem dJ7_fill_53178_11 : decode cJ7_fill_53178 11 = .ok (.iload_n 2, 1) := by decide +kernel
theorem dJ7_fill_53178_12 : decode cJ7_fill_53178 12 = .ok (.iload_n 1, 1) := by decide +kernel
theorem dJ7_fill_53178_13 : decode cJ7_fill_53178 13 = .ok (.iastore, 1) := by decide +kernel
theorem dJ7_fill_53178_14 : decode cJ7_fill_53178 14 = .ok (.iinc 2 1, 3) := by decide +kernel
theorem dJ7_fill_53178_17 : decode cJ7_fill_53178 17 = .ok (.goto (-12), 3) := by decide +kernel
theorem dJ7_fill_53178_20 : decode cJ7_fill_53178 20 = .ok (.return_, 1) := by decide +kernel
set_option maxRecDepth 20000 in
set_option maxHeartbeats 4000000 in
theorem k_fill9 (l : Launch) (w : WT) (σ : MM) (v : Int) (i_v : inr v) : CT SX l w yJ7_fill_53178 cJ7_fill_53178 4 none 0 0 [.ref (w.2.2 9), .int (iI v)] σ (PV fun σ1 => Mod [9] σ σ1 ∧ (∀ b : Int, 0 ≤ b → b < 8 → σ1 9 b = v)) := by
  refine CT.of 2 [some (.ref (w.2.2 9)), some (.int (iI v)), none, none] (by decide +kernel) (by simp [lg_sl, Value.category]) rfl sh_X (fun G hX => ?_)
  refine r_iconst hX dJ7_fill_53178_0 ?_
  refine r_istore_n hX (fun x1 => [some (.ref (w.2.2 9)), some (.int (iI v)), some (.int (iI x1)), none]) dJ7_fill_53178_1 (Nat.le_of_ble_eq_true rfl) rfl rfl (fun _ => rfl) (fun x1 e1 => ?_)
  refine r_aload_n hX dJ7_fill_53178_2 rfl ?_
  refine r_alen hX (i := 9) dJ7_fill_53178_3 rfl ?_
  refine r_istore_n hX (fun x4 => [some (.ref (w.2.2 9)), some (.int (iI v)), some (.int (iI x1)), some (.int (iI x4))]) dJ7_fill_53178_4 (Nat.le_of_ble_eq_true rfl) rfl rfl (fun _ => rfl) (fun x4 e4 => ?_)
  have lp5 : ∀ (n : Nat) (i : Int) (σ5 : MM) (m5 : Mod [9] σ σ5) (hi : 0 ≤ i ∧ i ≤ 8) (hz : ∀ b : Int, 0 ≤ b → b < i → σ5 9 b = v) (hmu : 8 - i < (n : Int)), G 5 [some (.ref (w.2.2 9)), some (.int (iI v)), some (.int (iI i)), some (.int (iI x4))] [] σ5 := by
    intro n
    induction n with
    | zero => intro i σ5 m5 hi hz hmu; omega
    | succ n ih =>
      intro i σ5 m5 hi hz hmu
      have ih5 := ih
      clear ih
      refine r_iload_n hX dJ7_fill_53178_5 rfl ?_
      refine r_iload_n hX dJ7_fill_53178_6 rfl ?_
      refine r_icmp_ge hX (tgt := 20) dJ7_fill_53178_7 (by decide) (by omega) (by omega) (fun c7 => ?_) (fun c7 => ?_)
      · skip
        exact r_ret hX dJ7_fill_53178_20 rfl ⟨rfl, ⟨(m5.w rfl), (fun b b0 b1 => hz b b0 (by omega))⟩⟩
      · skip
        refine r_aload_n hX dJ7_fill_53178_10 rfl ?_
        refine r_iload_n hX dJ7_fill_53178_11 rfl ?_
        refine r_iload_n hX dJ7_fill_53178_12 rfl ?_
        refine st_X9 hX dJ7_fill_53178_13 (by omega) (by omega) (fun σ13 m13 s13 => ?_)
        refine r_iinc hX (fun x14 => [some (.ref (w.2.2 9)), some (.int (iI v)), some (.int (iI x14)), some (.int (iI x4))]) dJ7_fill_53178_14 rfl rfl rfl (fun _ => rfl) (fun x14 e14 => ?_)
        refine r_goto hX dJ7_fill_53178_17 (tgt := 5) (by decide) ?_
        exact ih5 x14 σ13 (Mod.tr (L := [9]) m5 m13 rfl rfl) (by omega) (fun b b0 b1 => by rw [s13]; split; rfl; exact hz b b0 (by omega)) (by omega)
  exact lp5 ((8 - (x1)) + 1).toNat x1 σ Mod.rf (by omega) (fun b b0 b1 => by omega) (by omega)
set_option maxRecDepth 20000 in
set_option maxHeartbeats 4000000 in
theorem k_fill15 (l : Launch) (w : WT) (σ : MM) (v : Int) (i_v : inr v) (hv : 0 ≤ v ∧ v ≤ 8) : CT SX l w yJ7_fill_53178 cJ7_fill_53178 4 none 0 0 [.ref (w.2.2 15), .int (iI v)] σ (PV fun σ1 => Mod [15] σ σ1 ∧ (∀ b : Int, 0 ≤ b → b < 8 → σ1 15 b = v)) := by
  refine CT.of 2 [some (.ref (w.2.2 15)), some (.int (iI v)), none, none] (by decide +kernel) (by simp [lg_sl, Value.category]) rfl sh_X (fun G hX => ?_)
  refine r_iconst hX dJ7_fill_53178_0 ?_
  refine r_istore_n hX (fun x1 => [some (.ref (w.2.2 15)), some (.int (iI v)), some (.int (iI x1)), none]) dJ7_fill_53178_1 (Nat.le_of_ble_eq_true rfl) rfl rfl (fun _ => rfl) (fun x1 e1 => ?_)
  refine r_aload_n hX dJ7_fill_53178_2 rfl ?_
  refine r_alen hX (i := 15) dJ7_fill_53178_3 rfl ?_
  refine r_istore_n hX (fun x4 => [some (.ref (w.2.2 15)), some (.int (iI v)), some (.int (iI x1)), some (.int (iI x4))]) dJ7_fill_53178_4 (Nat.le_of_ble_eq_true rfl) rfl rfl (fun _ => rfl) (fun x4 e4 => ?_)
  have lp5 : ∀ (n : Nat) (i : Int) (σ5 : MM) (m5 : Mod [15] σ σ5) (hi : 0 ≤ i ∧ i ≤ 8) (hz : ∀ b : Int, 0 ≤ b → b < i → σ5 15 b = v) (hmu : 8 - i < (n : Int)), G 5 [some (.ref (w.2.2 15)), some (.int (iI v)), some (.int (iI i)), some (.int (iI x4))] [] σ5 := by
    intro n
    induction n with
    | zero => intro i σ5 m5 hi hz hmu; omega
    | succ n ih =>
      intro i σ5 m5 hi hz hmu
      have ih5 := ih
      clear ih
      refine r_iload_n hX dJ7_fill_53178_5 rfl ?_
      refine r_iload_n hX dJ7_fill_53178_6 rfl ?_
      refine r_icmp_ge hX (tgt := 20) dJ7_fill_53178_7 (by decide) (by omega) (by omega) (fun c7 => ?_) (fun c7 => ?_)
      · skip
        exact r_ret hX dJ7_fill_53178_20 rfl ⟨rfl, ⟨(m5.w rfl), (fun b b0 b1 => hz b b0 (by omega))⟩⟩
      · skip
        refine r_aload_n hX dJ7_fill_53178_10 rfl ?_
        refine r_iload_n hX dJ7_fill_53178_11 rfl ?_
        refine r_iload_n hX dJ7_fill_53178_12 rfl ?_
        refine st_X15 hX dJ7_fill_53178_13 (by omega) (by omega) (by omega) (fun σ13 m13 s13 => ?_)
        refine r_iinc hX (fun x14 => [some (.ref (w.2.2 15)), some (.int (iI v)), some (.int (iI x14)), some (.int (iI x4))]) dJ7_fill_53178_14 rfl rfl rfl (fun _ => rfl) (fun x14 e14 => ?_)
        refine r_goto hX dJ7_fill_53178_17 (tgt := 5) (by decide) ?_
        exact ih5 x14 σ13 (Mod.tr (L := [15]) m5 m13 rfl rfl) (by omega) (fun b b0 b1 => by rw [s13]; split; rfl; exact hz b b0 (by omega)) (by omega)
  exact lp5 ((8 - (x1)) + 1).toNat x1 σ Mod.rf (by omega) (fun b b0 b1 => by omega) (by omega)
set_option maxRecDepth 20000 in
set_option maxHeartbeats 4000000 in
theorem k_fill16 (l : Launch) (w : WT) (σ : MM) (v : Int) (i_v : inr v) (hv : 0 ≤ v ∧ v ≤ 20000000) : CT SX l w yJ7_fill_53178 cJ7_fill_53178 4 none 0 0 [.ref (w.2.2 16), .int (iI v)] σ (PV fun σ1 => Mod [16] σ σ1 ∧ (∀ b : Int, 0 ≤ b → b < 8 → σ1 16 b = v)) := by
  refine CT.of 2 [some (.ref (w.2.2 16)), some (.int (iI v)), none, none] (by decide +kernel) (by simp [lg_sl, Value.category]) rfl sh_X (fun G hX => ?_)
  refine r_iconst hX dJ7_fill_53178_0 ?_
  refine r_istore_n hX (fun x1 => [some (.ref (w.2.2 16)), some (.int (iI v)), some (.int (iI x1)), none]) dJ7_fill_53178_1 (Nat.le_of_ble_eq_true rfl) rfl rfl (fun _ => rfl) (fun x1 e1 => ?_)
  refine r_aload_n hX dJ7_fill_53178_2 rfl ?_
  refine r_alen hX (i := 16) dJ7_fill_53178_3 rfl ?_
  refine r_istore_n hX (fun x4 => [some (.ref (w.2.2 16)), some (.int (iI v)), some (.int (iI x1)), some (.int (iI x4))]) dJ7_fill_53178_4 (Nat.le_of_ble_eq_true rfl) rfl rfl (fun _ => rfl) (fun x4 e4 => ?_)
  have lp5 : ∀ (n : Nat) (i : Int) (σ5 : MM) (m5 : Mod [16] σ σ5) (hi : 0 ≤ i ∧ i ≤ 8) (hz : ∀ b : Int, 0 ≤ b → b < i → σ5 16 b = v) (hmu : 8 - i < (n : Int)), G 5 [some (.ref (w.2.2 16)), some (.int (iI v)), some (.int (iI i)), some (.int (iI x4))] [] σ5 := by
    intro n
    induction n with
    | zero => intro i σ5 m5 hi hz hmu; omega
    | succ n ih =>
      intro i σ5 m5 hi hz hmu
      have ih5 := ih
      clear ih
      refine r_iload_n hX dJ7_fill_53178_5 rfl ?_
      refine r_iload_n hX dJ7_fill_53178_6 rfl ?_
      refine r_icmp_ge hX (tgt := 20) dJ7_fill_53178_7 (by decide) (by omega) (by omega) (fun c7 => ?_) (fun c7 => ?_)
      · skip
        exact r_ret hX dJ7_fill_53178_20 rfl ⟨rfl, ⟨(m5.w rfl), (fun b b0 b1 => hz b b0 (by omega))⟩⟩
      · skip
        refine r_aload_n hX dJ7_fill_53178_10 rfl ?_
        refine r_iload_n hX dJ7_fill_53178_11 rfl ?_
        refine r_iload_n hX dJ7_fill_53178_12 rfl ?_
        refine st_X16 hX dJ7_fill_53178_13 (by omega) (by omega) (by omega) (fun σ13 m13 s13 => ?_)
        refine r_iinc hX (fun x14 => [some (.ref (w.2.2 16)), some (.int (iI v)), some (.int (iI x14)), some (.int (iI x4))]) dJ7_fill_53178_14 rfl rfl rfl (fun _ => rfl) (fun x14 e14 => ?_)
        refine r_goto hX dJ7_fill_53178_17 (tgt := 5) (by decide) ?_
        exact ih5 x14 σ13 (Mod.tr (L := [16]) m5 m13 rfl rfl) (by omega) (fun b b0 b1 => by rw [s13]; split; rfl; exact hz b b0 (by omega)) (by omega)
  exact lp5 ((8 - (x1)) + 1).toNat x1 σ Mod.rf (by omega) (fun b b0 b1 => by omega) (by omega)
theorem dX2_delaysGrow_0 : decode cX2_delaysGrow 0 = .ok (.iconst 0, 1) := by decide +kernel
theorem dX2_delaysGrow_1 : decode cX2_delaysGrow 1 = .ok (.istore_n 2, 1) := by decide +kernel
theorem dX2_delaysGrow_2 : decode cX2_delaysGrow 2 = .ok (.iconst 0, 1) := by decide +kernel
theorem dX2_delaysGrow_3 : decode cX2_delaysGrow 3 = .ok (.istore_n 3, 1) := by decide +kernel
theorem dX2_delaysGrow_4 : decode cX2_delaysGrow 4 = .ok (.iload_n 3, 1) := by decide +kernel
theorem dX2_delaysGrow_5 : decode cX2_delaysGrow 5 = .ok (.iconst 2, 1) := by decide +kernel
theorem dX2_delaysGrow_6 : decode cX2_delaysGrow 6 = .ok (.aload_n 0, 1) := by decide +kernel
theorem dX2_delaysGrow_7 : decode cX2_delaysGrow 7 = .ok (.getfield 37, 3) := by decide +kernel
theorem dX2_delaysGrow_10 : decode cX2_delaysGrow 10 = .ok (.imul, 1) := by decide +kernel
theorem dX2_delaysGrow_11 : decode cX2_delaysGrow 11 = .ok (.if_icmp .ge 83, 3) := by decide +kernel
theorem dX2_delaysGrow_14 : decode cX2_delaysGrow 14 = .ok (.iload_n 3, 1) := by decide +kernel
theorem dX2_delaysGrow_15 : decode cX2_delaysGrow 15 = .ok (.bipush 16, 2) := by decide +kernel
theorem dX2_delaysGrow_17 : decode cX2_delaysGrow 17 = .ok (.if_icmp .ge 77, 3) := by decide +kernel
theorem dX2_delaysGrow_20 : decode cX2_delaysGrow 20 = .ok (.iload_n 3, 1) := by decide +kernel
theorem dX2_delaysGrow_21 : decode cX2_delaysGrow 21 = .ok (.iconst 2, 1) := by decide +kernel
theorem dX2_delaysGrow_22 : decode cX2_delaysGrow 22 = .ok (.idiv, 1) := by decide +kernel
theorem dX2_delaysGrow_23 : decode cX2_delaysGrow 23 = .ok (.istore 4, 2) := by decide +kernel
theorem dX2_delaysGrow_25 : decode cX2_delaysGrow 25 = .ok (.aload_n 0, 1) := by decide +kernel
theorem dX2_delaysGrow_26 : decode cX2_delaysGrow 26 = .ok (.iload_n 3, 1) := by decide +kernel
theorem dX2_delaysGrow_27 : decode cX2_delaysGrow 27 = .ok (.invokevirtual 64, 3) := by decide +kernel
theorem dX2_delaysGrow_30 : decode cX2_delaysGrow 30 = .ok (.istore 5, 2) := by decide +kernel
theorem dX2_delaysGrow_32 : decode cX2_delaysGrow 32 = .ok (.aload_n 0, 1) := by decide +kernel
theorem dX2_delaysGrow_33 : decode cX2_delaysGrow 33 = .ok (.iload 5, 2) := by decide +kernel
theorem dX2_delaysGrow_35 : decode cX2_delaysGrow 35 = .ok (.invokevirtual 47, 3) := by decide +kernel
theorem dX2_delaysGrow_38 : decode cX2_delaysGrow 38 = .ok (.ifCond .eq 50, 3) := by decide +kernel
theorem dX2_delaysGrow_41 : decode cX2_delaysGrow 41 = .ok (.aload_n 0, 1) := by decide +kernel
theorem dX2_delaysGrow_42 : decode cX2_delaysGrow 42 = .ok (.getfield 34, 3) := by decide +kernel
theorem dX2_delaysGrow_45 : decode cX2_delaysGrow 45 = .ok (.iload 5, 2) := by decide +kernel
theorem dX2_delaysGrow_47 : decode cX2_delaysGrow 47 = .ok (.iaload, 1) := by decide +kernel
theorem dX2_delaysGrow_48 : decode cX2_delaysGrow 48 = .ok (.aload_n 0, 1) := by decide +kernel
theorem dX2_delaysGrow_49 : decode cX2_delaysGrow 49 = .ok (.iload 5, 2) := by decide +kernel
theorem dX2_delaysGrow_51 : decode cX2_delaysGrow 51 = .ok (.invokevirtual 83, 3) := by decide +kernel
theorem dX2_delaysGrow_54 : decode cX2_delaysGrow 54 = .ok (.iadd, 1) := by decide +kernel
theorem dX2_delaysGrow_55 : decode cX2_delaysGrow 55 = .ok (.iload_n 1, 1) := by decide +kernel
theorem dX2_delaysGrow_56 : decode cX2_delaysGrow 56 = .ok (.aload_n 0, 1) := by decide +kernel
theorem dX2_delaysGrow_57 : decode cX2_delaysGrow 57 = .ok (.iload_n 3, 1) := by decide +kernel
theorem dX2_delaysGrow_58 : decode cX2_delaysGrow 58 = .ok (.invokevirtual 68, 3) := by decide +kernel
theorem dX2_delaysGrow_61 : decode cX2_delaysGrow 61 = .ok (.imul, 1) := by decide +kernel
theorem dX2_delaysGrow_62 : decode cX2_delaysGrow 62 = .ok (.isub, 1) := by decide +kernel
theorem dX2_delaysGrow_63 : decode cX2_delaysGrow 63 = .ok (.istore 6, 2) := by decide +kernel
theorem dX2_delaysGrow_65 : decode cX2_delaysGrow 65 = .ok (.iload 6, 2) := by decide +kernel
theorem dX2_delaysGrow_67 : decode cX2_delaysGrow 67 = .ok (.aload_n 0, 1) := by decide +kernel
theorem dX2_delaysGrow_68 : decode cX2_delaysGrow 68 = .ok (.getfield 34, 3) := by decide +kernel
theorem dX2_delaysGrow_71 : decode cX2_delaysGrow 71 = .ok (.iload 4, 2) := by decide +kernel
theorem dX2_delaysGrow_73 : decode cX2_delaysGrow 73 = .ok (.iaload, 1) := by decide +kernel
theorem dX2_delaysGrow_74 : decode cX2_delaysGrow 74 = .ok (.if_icmp .le 14, 3) := by decide +kernel
theorem dX2_delaysGrow_77 : decode cX2_delaysGrow 77 = .ok (.aload_n 0, 1) := by decide +kernel
theorem dX2_delaysGrow_78 : decode cX2_delaysGrow 78 = .ok (.getfield 34, 3) := by decide +kernel
theorem dX2_delaysGrow_81 : decode cX2_delaysGrow 81 = .ok (.iload 4, 2) := by decide +kernel
theorem dX2_delaysGrow_83 : decode cX2_delaysGrow 83 = .ok (.iload 6, 2) := by decide +kernel
theorem dX2_delaysGrow_85 : decode cX2_delaysGrow 85 = .ok (.iastore, 1) := by decide +kernel
theorem dX2_delaysGrow_86 : decode cX2_delaysGrow 86 = .ok (.iconst 1, 1) := by decide +kernel
theorem dX2_delaysGrow_87 : decode cX2_delaysGrow 87 = .ok (.istore_n 2, 1) := by decide +kernel
theorem dX2_delaysGrow_88 : decode cX2_delaysGrow 88 = .ok (.iinc 3 1, 3) := by decide +kernel
theorem dX2_delaysGrow_91 : decode cX2_delaysGrow 91 = .ok (.goto (-87), 3) := by decide +kernel
theorem dX2_delaysGrow_94 : decode cX2_delaysGrow 94 = .ok (.iload_n 2, 1) := by decide +kernel
theorem dX2_delaysGrow_95 : decode cX2_delaysGrow 95 = .ok (.ireturn, 1) := by decide +kernel
set_option maxRecDepth 20000 in
set_option maxHeartbeats 4000000 in
theorem k_Lp_delaysGrow (l : Launch) (w : WT) (σ : MM) (beat : Int) (i_beat : inr beat) (B : Int) (hb : 1 ≤ beat ∧ beat ≤ 16) (hB0 : 0 ≤ B ∧ B ≤ 1000) (hB : ∀ a : Int, 0 ≤ a → a < 8 → 0 ≤ σ 9 a ∧ σ 9 a ≤ B) : CT SX l w yX2_delaysGrow cX2_delaysGrow 7 (some .boolean) 2 42 [.ref (w.2.2 1), .int (iI beat)] σ (PI fun z σ1 => Mod [9] σ σ1 ∧ (z = 0 ∨ z = 1) ∧ (PassI (σ 53 0) (2 * σ 53 0) (enX (σ 5) (σ 53 0)) (σ 5) (gR (σ 2) (σ 5) (σ 6) beat) (σ 9) (2 * σ 53 0) (σ1 9) z) ∧ (∀ a : Int, 0 ≤ a → a < 8 → 0 ≤ σ1 9 a ∧ σ1 9 a ≤ B + 32)) := by
  refine CT.of 5 [some (.ref (w.2.2 1)), some (.int (iI beat)), none, none, none, none, none] (by decide +kernel) (by simp [lg_sl, Value.category]) rfl sh_X (fun G hX => ?_)
  refine r_bd hX (fun hBd => ?_)
  have b_53 := hBd 53 0 8 rfl 0
  refine r_iconst hX dX2_delaysGrow_0 ?_
  refine r_istore_n hX (fun x1 => [some (.ref (w.2.2 1)), some (.int (iI beat)), some (.int (iI x1)), none, none, none, none]) dX2_delaysGrow_1 (Nat.le_of_ble_eq_true rfl) rfl rfl (fun _ => rfl) (fun x1 e1 => ?_)
  refine r_iconst hX dX2_delaysGrow_2 ?_
  refine r_istore_n hX (fun x3 => [some (.ref (w.2.2 1)), some (.int (iI beat)), some (.int (iI x1)), some (.int (iI x3)), none, none, none]) dX2_delaysGrow_3 (Nat.le_of_ble_eq_true rfl) rfl rfl (fun _ => rfl) (fun x3 e3 => ?_)
  have lp4 : ∀ (n : Nat) (grew : Int) (slot : Int) (σ4 : MM) (m4 : Mod [9] σ σ4) (hs : 0 ≤ slot ∧ slot ≤ 2 * σ 53 0) (hgr : grew = 0 ∨ grew = 1) (hP : PassI (σ 53 0) (2 * σ 53 0) (enX (σ 5) (σ 53 0)) (σ 5) (gR (σ 2) (σ 5) (σ 6) beat) (σ 9) slot (σ4 9) grew) (hB2 : ∀ a : Int, 0 ≤ a → a < 8 → 0 ≤ σ4 9 a ∧ σ4 9 a ≤ B + 2 * slot) (hmu : 17 - slot < (n : Int)), G 4 [some (.ref (w.2.2 1)), some (.int (iI beat)), some (.int (iI grew)), some (.int (iI slot)), none, none, none] [] σ4 := by
    intro n
    induction n with
    | zero => intro grew slot σ4 m4 hs hgr hP hB2 hmu; omega
    | succ n ih =>
      intro grew slot σ4 m4 hs hgr hP hB2 hmu
      have ih4 := ih
      clear ih
      refine r_iload_n hX dX2_delaysGrow_4 rfl ?_
      refine r_iconst hX dX2_delaysGrow_5 ?_
      refine r_aload_n hX dX2_delaysGrow_6 rfl ?_
      refine fg_X1_37 hX dX2_delaysGrow_7 (fun b7l b7u => ?_)
      have q7 : σ4 53 = σ 53 := (m4.at 53 rfl)
      rw [q7]
      rw [q7] at b7l b7u
      refine r_imul hX dX2_delaysGrow_10 ?_
      refine r_icmp_ge hX (tgt := 94) dX2_delaysGrow_11 (by decide) (by omega) (by omega) (fun c11 => ?_) (fun c11 => ?_)
      · skip
        refine r_iload_n hX dX2_delaysGrow_94 rfl ?_
        exact r_zret hX dX2_delaysGrow_95 rfl (by omega) ⟨_, rfl, ⟨(m4.w rfl), (by omega), (by have e : slot = 2 * σ 53 0 := (by omega); rw [e] at hP; exact hP), (fun a a0 a1 => by have := hB2 a a0 a1; omega)⟩⟩
      · skip
        refine r_iload_n hX dX2_delaysGrow_14 rfl ?_
        refine r_bipush hX dX2_delaysGrow_15 (by decide) ?_
        refine r_icmp_ge hX (tgt := 94) dX2_delaysGrow_17 (by decide) (by omega) (by omega) (fun c17 => ?_) (fun c17 => ?_)
        · exfalso; omega
        · skip
          refine r_iload_n hX dX2_delaysGrow_20 rfl ?_
          refine r_iconst hX dX2_delaysGrow_21 ?_
          refine r_idiv hX dX2_delaysGrow_22 (by omega) (by omega) (by omega) (by omega) ?_
          refine r_istore hX (fun x23 => [some (.ref (w.2.2 1)), some (.int (iI beat)), some (.int (iI grew)), some (.int (iI slot)), some (.int (iI x23)), none, none]) dX2_delaysGrow_23 (Nat.le_of_ble_eq_true rfl) rfl rfl (fun _ => rfl) (fun x23 e23 => ?_)
          have hm : 0 ≤ x23 ∧ x23 < σ 53 0 := by omega
          refine r_aload_n hX dX2_delaysGrow_25 rfl ?_
          refine r_iload_n hX dX2_delaysGrow_26 rfl ?_
          refine r_callV hX dX2_delaysGrow_27 (k_Lp_sourceOf l w σ4 _ (by omega)) mf_X2_sourceOf mv_X2_sourceOf lk_RX2_64 rfl rfl rfl rfl rfl ⟨Nat.le_of_ble_eq_true rfl, Nat.le_of_ble_eq_true rfl⟩ (Nat.le_of_ble_eq_true rfl) (kI fun z27 σ27 hh => ?_)
          obtain ⟨rfl, h27_0, h27_1⟩ := hh
          have q27_1 : σ4 5 = σ 5 := (m4.at 5 rfl)
          have q27_2 : σ4 53 = σ 53 := (m4.at 53 rfl)
          try simp only [q27_1, q27_2] at h27_0
          refine r_istore hX (fun x30 => [some (.ref (w.2.2 1)), some (.int (iI beat)), some (.int (iI grew)), some (.int (iI slot)), some (.int (iI x23)), some (.int (iI x30)), none]) dX2_delaysGrow_30 (Nat.le_of_ble_eq_true rfl) rfl rfl (fun _ => rfl) (fun x30 e30 => ?_)
          refine r_aload_n hX dX2_delaysGrow_32 rfl ?_
          refine r_iload hX dX2_delaysGrow_33 rfl ?_
          refine r_callV hX dX2_delaysGrow_35 (k_Lp_isThere l w σ4 _ (by omega)) mf_X2_isThere mv_X2_isThere lk_RX2_47 rfl rfl rfl rfl rfl ⟨Nat.le_of_ble_eq_true rfl, Nat.le_of_ble_eq_true rfl⟩ (Nat.le_of_ble_eq_true rfl) (kI fun z35 σ35 hh => ?_)
          obtain ⟨rfl, h35_0⟩ := hh
          have q35_3 : σ4 53 = σ 53 := (m4.at 53 rfl)
          try simp only [q35_3] at h35_0
          refine r_if_eq hX (tgt := 88) dX2_delaysGrow_38 (by decide) (by omega) (fun c38 => ?_) (fun c38 => ?_)
          · skip
            refine r_iinc hX (fun x88 => [some (.ref (w.2.2 1)), some (.int (iI beat)), some (.int (iI grew)), some (.int (iI x88)), some (.int (iI x23)), some (.int (iI x30)), none]) dX2_delaysGrow_88 rfl rfl rfl (fun _ => rfl) (fun x88 e88 => ?_)
            refine r_goto hX dX2_delaysGrow_91 (tgt := 4) (by decide) ?_
            refine r_wk hX (lv1 := [some (.ref (w.2.2 1)), some (.int (iI beat)), some (.int (iI grew)), some (.int (iI x88)), none, none, none]) ⟨rfl, ⟨rfl, ⟨rfl, ⟨rfl, trivial⟩⟩⟩⟩ ?_
            exact ih4 grew x88 σ4 (m4.w rfl) (by omega) (by omega) (by rw [e88]; first | exact hP.skip wf_X (by omega) (Or.inl fun q => by simp only [enX] at q; omega) | exact hP.skip wf_X (by omega) (Or.inr (by rw [← e23]; omega)) | (rw [e87]; exact hP.push wf_X (by omega) (by simp only [enX]; omega) (by rw [← e23]; omega) (fun b => by rw [s85, e23, hg]))) (fun a a0 a1 => by have h9 := hB2 a a0 a1; first | omega | (rw [s85]; split <;> omega)) (by omega)
          · skip
            have hu : x30 = σ 5 slot := by omega
            have hd1 := hB2 x30 (by omega) (by omega)
            refine r_aload_n hX dX2_delaysGrow_41 rfl ?_
            refine fg_X1_34 hX dX2_delaysGrow_42 ?_
            refine r_iload hX dX2_delaysGrow_45 rfl ?_
            refine ld_X9 hX dX2_delaysGrow_47 (by omega) (by omega) ?_
            refine r_aload_n hX dX2_delaysGrow_48 rfl ?_
            refine r_iload hX dX2_delaysGrow_49 rfl ?_
            refine r_callV hX dX2_delaysGrow_51 (k_Lp_lengthOf l w σ4 _ (by omega)) mf_X2_lengthOf mv_X2_lengthOf lk_RX2_83 rfl rfl rfl rfl rfl ⟨Nat.le_of_ble_eq_true rfl, Nat.le_of_ble_eq_true rfl⟩ (Nat.le_of_ble_eq_true rfl) (kI fun z51 σ51 hh => ?_)
            obtain ⟨rfl, h51_0⟩ := hh
            have q51_4 : σ4 2 = σ 2 := (m4.at 2 rfl)
            have q51_5 : σ4 53 = σ 53 := (m4.at 53 rfl)
            try simp only [q51_4, q51_5] at h51_0
            refine r_iadd hX dX2_delaysGrow_54 ?_
            refine r_iload_n hX dX2_delaysGrow_55 rfl ?_
            refine r_aload_n hX dX2_delaysGrow_56 rfl ?_
            refine r_iload_n hX dX2_delaysGrow_57 rfl ?_
            refine r_callV hX dX2_delaysGrow_58 (k_Lp_distanceOf l w σ4 _ (by omega)) mf_X2_distanceOf mv_X2_distanceOf lk_RX2_68 rfl rfl rfl rfl rfl ⟨Nat.le_of_ble_eq_true rfl, Nat.le_of_ble_eq_true rfl⟩ (Nat.le_of_ble_eq_true rfl) (kI fun z58 σ58 hh => ?_)
            obtain ⟨rfl, h58_0, h58_1⟩ := hh
            have q58_6 : σ4 6 = σ 6 := (m4.at 6 rfl)
            have q58_7 : σ4 53 = σ 53 := (m4.at 53 rfl)
            try simp only [q58_6, q58_7] at h58_0
            refine r_imul hX dX2_delaysGrow_61 ?_
            have hmul : 0 ≤ beat * z58 ∧ beat * z58 ≤ 48 := by
              rcases (by omega : z58 = 0 ∨ z58 = 1 ∨ z58 = 2 ∨ z58 = 3) with e | e | e | e <;> rw [e] <;> omega
            refine r_isub hX dX2_delaysGrow_62 ?_
            refine r_istore hX (fun x63 => [some (.ref (w.2.2 1)), some (.int (iI beat)), some (.int (iI grew)), some (.int (iI slot)), some (.int (iI x23)), some (.int (iI x30)), some (.int (iI x63))]) dX2_delaysGrow_63 (Nat.le_of_ble_eq_true rfl) rfl rfl (fun _ => rfl) (fun x63 e63 => ?_)
            have hd2 := hB2 x23 (by omega) (by omega)
            have hg : x63 = σ4 9 (σ 5 slot) + gR (σ 2) (σ 5) (σ 6) beat slot := by
              rw [← hu]
              have e1 := lenF_of h51_0 (by omega) (by omega)
              have e2 : z58 = σ 6 slot := by omega
              simp only [gR]
              rw [← hu, ← e1, ← e2]
              omega
            refine r_iload hX dX2_delaysGrow_65 rfl ?_
            refine r_aload_n hX dX2_delaysGrow_67 rfl ?_
            refine fg_X1_34 hX dX2_delaysGrow_68 ?_
            refine r_iload hX dX2_delaysGrow_71 rfl ?_
            refine ld_X9 hX dX2_delaysGrow_73 (by omega) (by omega) ?_
            refine r_icmp_le hX (tgt := 88) dX2_delaysGrow_74 (by decide) (by omega) (by omega) (fun c74 => ?_) (fun c74 => ?_)
            · skip
              refine r_iinc hX (fun x88 => [some (.ref (w.2.2 1)), some (.int (iI beat)), some (.int (iI grew)), some (.int (iI x88)), some (.int (iI x23)), some (.int (iI x30)), some (.int (iI x63))]) dX2_delaysGrow_88 rfl rfl rfl (fun _ => rfl) (fun x88 e88 => ?_)
              refine r_goto hX dX2_delaysGrow_91 (tgt := 4) (by decide) ?_
              refine r_wk hX (lv1 := [some (.ref (w.2.2 1)), some (.int (iI beat)), some (.int (iI grew)), some (.int (iI x88)), none, none, none]) ⟨rfl, ⟨rfl, ⟨rfl, ⟨rfl, trivial⟩⟩⟩⟩ ?_
              exact ih4 grew x88 σ4 (m4.w rfl) (by omega) (by omega) (by rw [e88]; first | exact hP.skip wf_X (by omega) (Or.inl fun q => by simp only [enX] at q; omega) | exact hP.skip wf_X (by omega) (Or.inr (by rw [← e23]; omega)) | (rw [e87]; exact hP.push wf_X (by omega) (by simp only [enX]; omega) (by rw [← e23]; omega) (fun b => by rw [s85, e23, hg]))) (fun a a0 a1 => by have h9 := hB2 a a0 a1; first | omega | (rw [s85]; split <;> omega)) (by omega)
            · skip
              refine r_aload_n hX dX2_delaysGrow_77 rfl ?_
              refine fg_X1_34 hX dX2_delaysGrow_78 ?_
              refine r_iload hX dX2_delaysGrow_81 rfl ?_
              refine r_iload hX dX2_delaysGrow_83 rfl ?_
              refine st_X9 hX dX2_delaysGrow_85 (by omega) (by omega) (fun σ85 m85 s85 => ?_)
              refine r_iconst hX dX2_delaysGrow_86 ?_
              refine r_istore_n hX (fun x87 => [some (.ref (w.2.2 1)), some (.int (iI beat)), some (.int (iI x87)), some (.int (iI slot)), some (.int (iI x23)), some (.int (iI x30)), some (.int (iI x63))]) dX2_delaysGrow_87 (Nat.le_of_ble_eq_true rfl) rfl rfl (fun _ => rfl) (fun x87 e87 => ?_)
              refine r_iinc hX (fun x88 => [some (.ref (w.2.2 1)), some (.int (iI beat)), some (.int (iI x87)), some (.int (iI x88)), some (.int (iI x23)), some (.int (iI x30)), some (.int (iI x63))]) dX2_delaysGrow_88 rfl rfl rfl (fun _ => rfl) (fun x88 e88 => ?_)
              refine r_goto hX dX2_delaysGrow_91 (tgt := 4) (by decide) ?_
              refine r_wk hX (lv1 := [some (.ref (w.2.2 1)), some (.int (iI beat)), some (.int (iI x87)), some (.int (iI x88)), none, none, none]) ⟨rfl, ⟨rfl, ⟨rfl, ⟨rfl, trivial⟩⟩⟩⟩ ?_
              exact ih4 x87 x88 σ85 (Mod.tr (L := [9]) m4 m85 rfl rfl) (by omega) (by omega) (by rw [e88]; first | exact hP.skip wf_X (by omega) (Or.inl fun q => by simp only [enX] at q; omega) | exact hP.skip wf_X (by omega) (Or.inr (by rw [← e23]; omega)) | (rw [e87]; exact hP.push wf_X (by omega) (by simp only [enX]; omega) (by rw [← e23]; omega) (fun b => by rw [s85, e23, hg]))) (fun a a0 a1 => by have h9 := hB2 a a0 a1; first | omega | (rw [s85]; split <;> omega)) (by omega)
  exact lp4 ((17 - (x3)) + 1).toNat x1 x3 σ Mod.rf (by omega) (by omega) (by rw [e1, e3]; exact PassI.init) (fun a a0 a1 => by have := hB a a0 a1; omega) (by omega)
theorem dX2_ringsAllow_0 : decode cX2_ringsAllow 0 = .ok (.aload_n 0, 1) := by decide +kernel
theorem dX2_ringsAllow_1 : decode cX2_ringsAllow 1 = .ok (.getfield 34, 3) := by decide +kernel
theorem dX2_ringsAllow_4 : decode cX2_ringsAllow 4 = .ok (.iconst 0, 1) := by decide +kernel
theorem dX2_ringsAllow_5 : decode cX2_ringsAllow 5 = .ok (.invokestatic 74, 3) := by decide +kernel
theorem dX2_ringsAllow_8 : decode cX2_ringsAllow 8 = .ok (.iconst 0, 1) := by decide +kernel
theorem dX2_ringsAllow_9 : decode cX2_ringsAllow 9 = .ok (.istore_n 2, 1) := by decide +kernel
theorem dX2_ringsAllow_10 : decode cX2_ringsAllow 10 = .ok (.iload_n 2, 1) := by decide +kernel
theorem dX2_ringsAllow_11 : decode cX2_ringsAllow 11 = .ok (.aload_n 0, 1) := by decide +kernel
theorem dX2_ringsAllow_12 : decode cX2_ringsAllow 12 = .ok (.getfield 37, 3) := by decide +kernel
theorem dX2_ringsAllow_15 : decode cX2_ringsAllow 15 = .ok (.if_icmp .gt 19, 3) := by decide +kernel
theorem dX2_ringsAllow_18 : decode cX2_ringsAllow 18 = .ok (.aload_n 0, 1) := by decide +kernel
theorem dX2_ringsAllow_19 : decode cX2_ringsAllow 19 = .ok (.iload_n 1, 1) := by decide +kernel
theorem dX2_ringsAllow_20 : decode cX2_ringsAllow 20 = .ok (.invokevirtual 80, 3) := by decide +kernel
theorem dX2_ringsAllow_23 : decode cX2_ringsAllow 23 = .ok (.ifCond .ne 5, 3) := by decide +kernel
theorem dX2_ringsAllow_26 : decode cX2_ringsAllow 26 = .ok (.iconst 1, 1) := by decide +kernel
theorem dX2_ringsAllow_27 : decode cX2_ringsAllow 27 = .ok (.ireturn, 1) := by decide +kernel
theorem dX2_ringsAllow_28 : decode cX2_ringsAllow 28 = .ok (.iinc 2 1, 3) := by decide +kernel
theorem dX2_ringsAllow_31 : decode cX2_ringsAllow 31 = .ok (.goto (-21), 3) := by decide +kernel
theorem dX2_ringsAllow_34 : decode cX2_ringsAllow 34 = .ok (.iconst 0, 1) := by decide +kernel
theorem dX2_ringsAllow_35 : decode cX2_ringsAllow 35 = .ok (.ireturn, 1) := by decide +kernel
set_option maxRecDepth 20000 in
set_option maxHeartbeats 4000000 in
theorem k_Lp_ringsAllow (l : Launch) (w : WT) (σ : MM) (beat : Int) (i_beat : inr beat) (hb : 1 ≤ beat ∧ beat ≤ 16) : CT SX l w yX2_ringsAllow cX2_ringsAllow 3 (some .boolean) 3 68 [.ref (w.2.2 1), .int (iI beat)] σ (PI fun z σ1 => Mod [9] σ σ1 ∧ ((z = 1 ∧ RH (σ 2) (σ 5) (σ 6) (σ 53 0) beat) ∨ (z = 0 ∧ ¬ RH (σ 2) (σ 5) (σ 6) (σ 53 0) beat))) := by
  refine CT.of 1 [some (.ref (w.2.2 1)), some (.int (iI beat)), none] (by decide +kernel) (by simp [lg_sl, Value.category]) rfl sh_X (fun G hX => ?_)
  refine r_bd hX (fun hBd => ?_)
  have b_53 := hBd 53 0 8 rfl 0
  refine r_aload_n hX dX2_ringsAllow_0 rfl ?_
  refine fg_X1_34 hX dX2_ringsAllow_1 ?_
  refine r_iconst hX dX2_ringsAllow_4 ?_
  refine r_callS hX dX2_ringsAllow_5 (k_fill9 l w σ _ (by omega)) mf_J7_fill_53178 ms_J7_fill_53178 lk_RX2_74 rfl rfl ⟨Nat.le_of_ble_eq_true rfl, Nat.le_of_ble_eq_true rfl⟩ (Nat.le_of_ble_eq_true rfl) (kV fun σ5 hh => ?_)
  obtain ⟨m5, h5_0⟩ := hh
  refine r_iconst hX dX2_ringsAllow_8 ?_
  refine r_istore_n hX (fun x9 => [some (.ref (w.2.2 1)), some (.int (iI beat)), some (.int (iI x9))]) dX2_ringsAllow_9 (Nat.le_of_ble_eq_true rfl) rfl rfl (fun _ => rfl) (fun x9 e9 => ?_)
  have lp10 : ∀ (n : Nat) (pass : Int) (σ10 : MM) (m10 : Mod [9] σ5 σ10) (hp : 0 ≤ pass ∧ pass ≤ σ 53 0 + 1) (hO : Outer (σ 53 0) (2 * σ 53 0) (enX (σ 5) (σ 53 0)) (σ 5) (gR (σ 2) (σ 5) (σ 6) beat) (fun _ => 0) pass (σ10 9)) (hB : ∀ a : Int, 0 ≤ a → a < 8 → 0 ≤ σ10 9 a ∧ σ10 9 a ≤ 32 * pass) (hmu : 10 - pass < (n : Int)), G 10 [some (.ref (w.2.2 1)), some (.int (iI beat)), some (.int (iI pass))] [] σ10 := by
    intro n
    induction n with
    | zero => intro pass σ10 m10 hp hO hB hmu; omega
    | succ n ih =>
      intro pass σ10 m10 hp hO hB hmu
      have ih10 := ih
      clear ih
      refine r_iload_n hX dX2_ringsAllow_10 rfl ?_
      refine r_aload_n hX dX2_ringsAllow_11 rfl ?_
      refine fg_X1_37 hX dX2_ringsAllow_12 (fun b12l b12u => ?_)
      have q12 : σ10 53 = σ 53 := ((m10.at 53 rfl).trans (m5.at 53 rfl))
      rw [q12]
      rw [q12] at b12l b12u
      refine r_icmp_gt hX (tgt := 34) dX2_ringsAllow_15 (by decide) (by omega) (by omega) (fun c15 => ?_) (fun c15 => ?_)
      · skip
        refine r_iconst hX dX2_ringsAllow_34 ?_
        exact r_zret hX dX2_ringsAllow_35 rfl (by omega) ⟨_, rfl, ⟨(Mod.tr (L := [9]) m5 m10 rfl rfl), (by exact Or.inr ⟨rfl, hO.none wf_X (by omega)⟩)⟩⟩
      · skip
        have hB3 : ∀ a : Int, 0 ≤ a → a < 8 → 0 ≤ σ10 9 a ∧ σ10 9 a ≤ 32 * pass := hB
        refine r_aload_n hX dX2_ringsAllow_18 rfl ?_
        refine r_iload_n hX dX2_ringsAllow_19 rfl ?_
        refine r_callV hX dX2_ringsAllow_20 (k_Lp_delaysGrow l w σ10 _ (by omega) (32 * pass) (by omega) (by omega) (by omega)) mf_X2_delaysGrow mv_X2_delaysGrow lk_RX2_80 rfl rfl rfl rfl rfl ⟨Nat.le_of_ble_eq_true rfl, Nat.le_of_ble_eq_true rfl⟩ (Nat.le_of_ble_eq_true rfl) (kI fun z20 σ20 hh => ?_)
        obtain ⟨m20, h20_0, h20_1, h20_2⟩ := hh
        have q20_1 : σ10 2 = σ 2 := ((m10.at 2 rfl).trans (m5.at 2 rfl))
        have q20_2 : σ10 5 = σ 5 := ((m10.at 5 rfl).trans (m5.at 5 rfl))
        have q20_3 : σ10 6 = σ 6 := ((m10.at 6 rfl).trans (m5.at 6 rfl))
        have q20_4 : σ10 53 = σ 53 := ((m10.at 53 rfl).trans (m5.at 53 rfl))
        try simp only [q20_1, q20_2, q20_3, q20_4] at h20_1
        refine r_if_ne hX (tgt := 28) dX2_ringsAllow_23 (by decide) (by omega) (fun c23 => ?_) (fun c23 => ?_)
        · skip
          refine r_iinc hX (fun x28 => [some (.ref (w.2.2 1)), some (.int (iI beat)), some (.int (iI x28))]) dX2_ringsAllow_28 rfl rfl rfl (fun _ => rfl) (fun x28 e28 => ?_)
          refine r_goto hX dX2_ringsAllow_31 (tgt := 10) (by decide) ?_
          exact ih10 x28 σ20 (Mod.tr (L := [9]) m10 m20 rfl rfl) (by omega) (by rw [e28]; exact hO.next wf_X h20_1 (Int.le_refl _) (by omega)) (fun a a0 a1 => by have := h20_2 a a0 a1; omega) (by omega)
        · skip
          refine r_iconst hX dX2_ringsAllow_26 ?_
          exact r_zret hX dX2_ringsAllow_27 rfl (by omega) ⟨_, rfl, ⟨(Mod.tr (L := [9]) (Mod.tr (L := [9]) m5 m10 rfl rfl) m20 rfl rfl), (by exact Or.inl ⟨rfl, _, (PassI.sol wf_X (cf_z h20_1 (by omega)) (Int.le_refl _)), fun a a0 a1 => (h20_2 a a0 (by omega)).1⟩)⟩⟩
  exact lp10 ((10 - (x9)) + 1).toNat x9 σ5 Mod.rf (by omega) (by rw [e9]; exact Outer.row (fun a a0 a1 => h5_0 a a0 (by omega))) (fun a a0 a1 => by have := h5_0 a a0 a1; omega) (by omega)
theorem dX2_ringsBound_0 : decode cX2_ringsBound 0 = .ok (.iconst 1, 1) := by decide +kernel
theorem dX2_ringsBound_1 : decode cX2_ringsBound 1 = .ok (.istore_n 1, 1) := by decide +kernel
theorem dX2_ringsBound_2 : decode cX2_ringsBound 2 = .ok (.iload_n 1, 1) := by decide +kernel
theorem dX2_ringsBound_3 : decode cX2_ringsBound 3 = .ok (.bipush 16, 2) := by decide +kernel
theorem dX2_ringsBound_5 : decode cX2_ringsBound 5 = .ok (.if_icmp .ge 17, 3) := by decide +kernel
theorem dX2_ringsBound_8 : decode cX2_ringsBound 8 = .ok (.aload_n 0, 1) := by decide +kernel
theorem dX2_ringsBound_9 : decode cX2_ringsBound 9 = .ok (.iload_n 1, 1) := by decide +kernel
theorem dX2_ringsBound_10 : decode cX2_ringsBound 10 = .ok (.invokevirtual 71, 3) := by decide +kernel
theorem dX2_ringsBound_13 : decode cX2_ringsBound 13 = .ok (.ifCond .ne 9, 3) := by decide +kernel
theorem dX2_ringsBound_16 : decode cX2_ringsBound 16 = .ok (.iinc 1 1, 3) := by decide +kernel
theorem dX2_ringsBound_19 : decode cX2_ringsBound 19 = .ok (.goto (-17), 3) := by decide +kernel
theorem dX2_ringsBound_22 : decode cX2_ringsBound 22 = .ok (.iload_n 1, 1) := by decide +kernel
theorem dX2_ringsBound_23 : decode cX2_ringsBound 23 = .ok (.ireturn, 1) := by decide +kernel
set_option maxRecDepth 20000 in
set_option maxHeartbeats 4000000 in
theorem k_Lp_ringsBound (l : Launch) (w : WT) (σ : MM) : CT SX l w yX2_ringsBound cX2_ringsBound 2 (some .int) 4 90 [.ref (w.2.2 1)] σ (PI fun z σ1 => Mod [9] σ σ1 ∧ (1 ≤ z ∧ z ≤ 16) ∧ (∀ n : Int, 1 ≤ n → n < z → ¬ RH (σ 2) (σ 5) (σ 6) (σ 53 0) n) ∧ (z < 16 → RH (σ 2) (σ 5) (σ 6) (σ 53 0) z)) := by
  refine CT.of 1 [some (.ref (w.2.2 1)), none] (by decide +kernel) (by simp [lg_sl, Value.category]) rfl sh_X (fun G hX => ?_)
  refine r_iconst hX dX2_ringsBound_0 ?_
  refine r_istore_n hX (fun x1 => [some (.ref (w.2.2 1)), some (.int (iI x1))]) dX2_ringsBound_1 (Nat.le_of_ble_eq_true rfl) rfl rfl (fun _ => rfl) (fun x1 e1 => ?_)
  have lp2 : ∀ (n : Nat) (beat : Int) (σ2 : MM) (m2 : Mod [9] σ σ2) (hb : 1 ≤ beat ∧ beat ≤ 16) (hN : ∀ n : Int, 1 ≤ n → n < beat → ¬ RH (σ 2) (σ 5) (σ 6) (σ 53 0) n) (hmu : 17 - beat < (n : Int)), G 2 [some (.ref (w.2.2 1)), some (.int (iI beat))] [] σ2 := by
    intro n
    induction n with
    | zero => intro beat σ2 m2 hb hN hmu; omega
    | succ n ih =>
      intro beat σ2 m2 hb hN hmu
      have ih2 := ih
      clear ih
      refine r_iload_n hX dX2_ringsBound_2 rfl ?_
      refine r_bipush hX dX2_ringsBound_3 (by decide) ?_
      refine r_icmp_ge hX (tgt := 22) dX2_ringsBound_5 (by decide) (by omega) (by omega) (fun c5 => ?_) (fun c5 => ?_)
      · skip
        refine r_iload_n hX dX2_ringsBound_22 rfl ?_
        exact r_iret hX dX2_ringsBound_23 rfl ⟨_, rfl, ⟨(m2.w rfl), (by omega), (by exact hN), (by first | (intro q; exfalso; omega) | exact fun _ => cf_yes h10_0 (by omega))⟩⟩
      · skip
        refine r_aload_n hX dX2_ringsBound_8 rfl ?_
        refine r_iload_n hX dX2_ringsBound_9 rfl ?_
        refine r_callV hX dX2_ringsBound_10 (k_Lp_ringsAllow l w σ2 _ (by omega) (by omega)) mf_X2_ringsAllow mv_X2_ringsAllow lk_RX2_71 rfl rfl rfl rfl rfl ⟨Nat.le_of_ble_eq_true rfl, Nat.le_of_ble_eq_true rfl⟩ (Nat.le_of_ble_eq_true rfl) (kI fun z10 σ10 hh => ?_)
        obtain ⟨m10, h10_0⟩ := hh
        have q10_1 : σ2 2 = σ 2 := (m2.at 2 rfl)
        have q10_2 : σ2 5 = σ 5 := (m2.at 5 rfl)
        have q10_3 : σ2 6 = σ 6 := (m2.at 6 rfl)
        have q10_4 : σ2 53 = σ 53 := (m2.at 53 rfl)
        try simp only [q10_1, q10_2, q10_3, q10_4] at h10_0
        refine r_if_ne hX (tgt := 22) dX2_ringsBound_13 (by decide) (by omega) (fun c13 => ?_) (fun c13 => ?_)
        · skip
          refine r_iload_n hX dX2_ringsBound_22 rfl ?_
          exact r_iret hX dX2_ringsBound_23 rfl ⟨_, rfl, ⟨(Mod.tr (L := [9]) m2 m10 rfl rfl), (by omega), (by exact hN), (by first | (intro q; exfalso; omega) | exact fun _ => cf_yes h10_0 (by omega))⟩⟩
        · skip
          refine r_iinc hX (fun x16 => [some (.ref (w.2.2 1)), some (.int (iI x16))]) dX2_ringsBound_16 rfl rfl rfl (fun _ => rfl) (fun x16 e16 => ?_)
          refine r_goto hX dX2_ringsBound_19 (tgt := 2) (by decide) ?_
          exact ih2 x16 σ10 (Mod.tr (L := [9]) m2 m10 rfl rfl) (by omega) (fun n n0 n1 => by
  by_cases q : n = beat
  · rw [q]; exact cf_no h10_0 (by omega)
  · exact hN n n0 (by omega)) (by omega)
  exact lp2 ((17 - (x1)) + 1).toNat x1 σ Mod.rf (by omega) (fun n n0 n1 => by omega) (by omega)
end
section
theorem dX0_rows_0 : decode cX0_rows 0 = .ok (.aload_n 0, 1) := by decide +kernel
theorem dX0_rows_1 : decode cX0_rows 1 = .ok (.getfield 26, 3) := by decide +kernel
theorem dX0_rows_4 : decode cX0_rows 4 = .ok (.ireturn, 1) := by decide +kernel
set_option maxRecDepth 20000 in
set_option maxHeartbeats 4000000 in
theorem k_Gd_rows (l : Launch) (w : WT) (σ : MM) : CT SX l w yX0_rows cX0_rows 1 (some .int) 0 0 [.ref (w.2.2 10)] σ (PI fun z σ1 => σ = σ1 ∧ (z = σ 56 0) ∧ (1 ≤ z ∧ z ≤ 3)) := by
  refine CT.of 0 [some (.ref (w.2.2 10))] (by decide +kernel) (by simp [lg_sl, Value.category]) rfl sh_X (fun G hX => ?_)
  refine r_aload_n hX dX0_rows_0 rfl ?_
  refine fg_X10_26 hX dX0_rows_1 (fun b1l b1u => ?_)
  exact r_iret hX dX0_rows_4 rfl ⟨_, rfl, ⟨rfl, (by omega), (by omega)⟩⟩
theorem dX0_columns_0 : decode cX0_columns 0 = .ok (.aload_n 0, 1) := by decide +kernel
theorem dX0_columns_1 : decode cX0_columns 1 = .ok (.getfield 30, 3) := by decide +kernel
theorem dX0_columns_4 : decode cX0_columns 4 = .ok (.ireturn, 1) := by decide +kernel
set_option maxRecDepth 20000 in
set_option maxHeartbeats 4000000 in
theorem k_Gd_columns (l : Launch) (w : WT) (σ : MM) : CT SX l w yX0_columns cX0_columns 1 (some .int) 0 0 [.ref (w.2.2 10)] σ (PI fun z σ1 => σ = σ1 ∧ (z = σ 57 0) ∧ (1 ≤ z ∧ z ≤ 3)) := by
  refine CT.of 0 [some (.ref (w.2.2 10))] (by decide +kernel) (by simp [lg_sl, Value.category]) rfl sh_X (fun G hX => ?_)
  refine r_aload_n hX dX0_columns_0 rfl ?_
  refine fg_X10_30 hX dX0_columns_1 (fun b1l b1u => ?_)
  exact r_iret hX dX0_columns_4 rfl ⟨_, rfl, ⟨rfl, (by omega), (by omega)⟩⟩
theorem dX0_cells_0 : decode cX0_cells 0 = .ok (.aload_n 0, 1) := by decide +kernel
theorem dX0_cells_1 : decode cX0_cells 1 = .ok (.getfield 26, 3) := by decide +kernel
theorem dX0_cells_4 : decode cX0_cells 4 = .ok (.aload_n 0, 1) := by decide +kernel
theorem dX0_cells_5 : decode cX0_cells 5 = .ok (.getfield 30, 3) := by decide +kernel
theorem dX0_cells_8 : decode cX0_cells 8 = .ok (.imul, 1) := by decide +kernel
theorem dX0_cells_9 : decode cX0_cells 9 = .ok (.ireturn, 1) := by decide +kernel
set_option maxRecDepth 20000 in
set_option maxHeartbeats 4000000 in
theorem k_Gd_cells (l : Launch) (w : WT) (σ : MM) : CT SX l w yX0_cells cX0_cells 1 (some .int) 0 0 [.ref (w.2.2 10)] σ (PI fun z σ1 => σ = σ1 ∧ (z = σ 56 0 * σ 57 0) ∧ (1 ≤ z ∧ z ≤ 9)) := by
  refine CT.of 0 [some (.ref (w.2.2 10))] (by decide +kernel) (by simp [lg_sl, Value.category]) rfl sh_X (fun G hX => ?_)
  refine r_bd hX (fun hBd => ?_)
  have b_56 := hBd 56 1 3 rfl 0
  have b_57 := hBd 57 1 3 rfl 0
  have hn := mul_bd b_56 b_57
  refine r_aload_n hX dX0_cells_0 rfl ?_
  refine fg_X10_26 hX dX0_cells_1 (fun b1l b1u => ?_)
  refine r_aload_n hX dX0_cells_4 rfl ?_
  refine fg_X10_30 hX dX0_cells_5 (fun b5l b5u => ?_)
  refine r_imul hX dX0_cells_8 ?_
  exact r_iret hX dX0_cells_9 rfl ⟨_, rfl, ⟨rfl, (by omega), (by omega)⟩⟩
theorem dX0_isThere_0 : decode cX0_isThere 0 = .ok (.iload_n 1, 1) := by decide +kernel
theorem dX0_isThere_1 : decode cX0_isThere 1 = .ok (.ifCond .lt 26, 3) := by decide +kernel
theorem dX0_isThere_4 : decode cX0_isThere 4 = .ok (.iload_n 1, 1) := by decide +kernel
theorem dX0_isThere_5 : decode cX0_isThere 5 = .ok (.aload_n 0, 1) := by decide +kernel
theorem dX0_isThere_6 : decode cX0_isThere 6 = .ok (.getfield 26, 3) := by decide +kernel
theorem dX0_isThere_9 : decode cX0_isThere 9 = .ok (.aload_n 0, 1) := by decide +kernel
theorem dX0_isThere_10 : decode cX0_isThere 10 = .ok (.getfield 30, 3) := by decide +kernel
theorem dX0_isThere_13 : decode cX0_isThere 13 = .ok (.imul, 1) := by decide +kernel
theorem dX0_isThere_14 : decode cX0_isThere 14 = .ok (.if_icmp .ge 13, 3) := by decide +kernel
theorem dX0_isThere_17 : decode cX0_isThere 17 = .ok (.iload_n 1, 1) := by decide +kernel
theorem dX0_isThere_18 : decode cX0_isThere 18 = .ok (.bipush 9, 2) := by decide +kernel
theorem dX0_isThere_20 : decode cX0_isThere 20 = .ok (.if_icmp .ge 7, 3) := by decide +kernel
theorem dX0_isThere_23 : decode cX0_isThere 23 = .ok (.iconst 1, 1) := by decide +kernel
theorem dX0_isThere_24 : decode cX0_isThere 24 = .ok (.goto 4, 3) := by decide +kernel
theorem dX0_isThere_27 : decode cX0_isThere 27 = .ok (.iconst 0, 1) := by decide +kernel
theorem dX0_isThere_28 : decode cX0_isThere 28 = .ok (.ireturn, 1) := by decide +kernel
set_option maxRecDepth 20000 in
set_option maxHeartbeats 4000000 in
theorem k_Gd_isThere (l : Launch) (w : WT) (σ : MM) (a : Int) (i_a : inr a) : CT SX l w yX0_isThere cX0_isThere 2 (some .boolean) 0 0 [.ref (w.2.2 10), .int (iI a)] σ (PI fun z σ1 => σ = σ1 ∧ ((z = 1 ∧ 0 ≤ a ∧ a < σ 56 0 * σ 57 0 ∧ a < 9) ∨ (z = 0 ∧ (a < 0 ∨ σ 56 0 * σ 57 0 ≤ a)))) := by
  refine CT.of 0 [some (.ref (w.2.2 10)), some (.int (iI a))] (by decide +kernel) (by simp [lg_sl, Value.category]) rfl sh_X (fun G hX => ?_)
  refine r_bd hX (fun hBd => ?_)
  have b_56 := hBd 56 1 3 rfl 0
  have b_57 := hBd 57 1 3 rfl 0
  have hn := mul_bd b_56 b_57
  refine r_iload_n hX dX0_isThere_0 rfl ?_
  refine r_if_lt hX (tgt := 27) dX0_isThere_1 (by decide) (by omega) (fun c1 => ?_) (fun c1 => ?_)
  · skip
    refine r_iconst hX dX0_isThere_27 ?_
    exact r_zret hX dX0_isThere_28 rfl (by omega) ⟨_, rfl, ⟨rfl, (by omega)⟩⟩
  · skip
    refine r_iload_n hX dX0_isThere_4 rfl ?_
    refine r_aload_n hX dX0_isThere_5 rfl ?_
    refine fg_X10_26 hX dX0_isThere_6 (fun b6l b6u => ?_)
    refine r_aload_n hX dX0_isThere_9 rfl ?_
    refine fg_X10_30 hX dX0_isThere_10 (fun b10l b10u => ?_)
    refine r_imul hX dX0_isThere_13 ?_
    refine r_icmp_ge hX (tgt := 27) dX0_isThere_14 (by decide) (by omega) (by omega) (fun c14 => ?_) (fun c14 => ?_)
    · skip
      refine r_iconst hX dX0_isThere_27 ?_
      exact r_zret hX dX0_isThere_28 rfl (by omega) ⟨_, rfl, ⟨rfl, (by omega)⟩⟩
    · skip
      refine r_iload_n hX dX0_isThere_17 rfl ?_
      refine r_bipush hX dX0_isThere_18 (by decide) ?_
      refine r_icmp_ge hX (tgt := 27) dX0_isThere_20 (by decide) (by omega) (by omega) (fun c20 => ?_) (fun c20 => ?_)
      · skip
        refine r_iconst hX dX0_isThere_27 ?_
        exact r_zret hX dX0_isThere_28 rfl (by omega) ⟨_, rfl, ⟨rfl, (by omega)⟩⟩
      · skip
        refine r_iconst hX dX0_isThere_23 ?_
        refine r_goto hX dX0_isThere_24 (tgt := 28) (by decide) ?_
        exact r_zret hX dX0_isThere_28 rfl (by omega) ⟨_, rfl, ⟨rfl, (by omega)⟩⟩
theorem dX0_isOpen_0 : decode cX0_isOpen 0 = .ok (.aload_n 0, 1) := by decide +kernel
theorem dX0_isOpen_1 : decode cX0_isOpen 1 = .ok (.iload_n 1, 1) := by decide +kernel
theorem dX0_isOpen_2 : decode cX0_isOpen 2 = .ok (.invokevirtual 36, 3) := by decide +kernel
theorem dX0_isOpen_5 : decode cX0_isOpen 5 = .ok (.ifCond .eq 16, 3) := by decide +kernel
theorem dX0_isOpen_8 : decode cX0_isOpen 8 = .ok (.aload_n 0, 1) := by decide +kernel
theorem dX0_isOpen_9 : decode cX0_isOpen 9 = .ok (.getfield 9, 3) := by decide +kernel
theorem dX0_isOpen_12 : decode cX0_isOpen 12 = .ok (.iload_n 1, 1) := by decide +kernel
theorem dX0_isOpen_13 : decode cX0_isOpen 13 = .ok (.baload, 1) := by decide +kernel
theorem dX0_isOpen_14 : decode cX0_isOpen 14 = .ok (.ifCond .ne 7, 3) := by decide +kernel
theorem dX0_isOpen_17 : decode cX0_isOpen 17 = .ok (.iconst 1, 1) := by decide +kernel
theorem dX0_isOpen_18 : decode cX0_isOpen 18 = .ok (.goto 4, 3) := by decide +kernel
theorem dX0_isOpen_21 : decode cX0_isOpen 21 = .ok (.iconst 0, 1) := by decide +kernel
theorem dX0_isOpen_22 : decode cX0_isOpen 22 = .ok (.ireturn, 1) := by decide +kernel
set_option maxRecDepth 20000 in
set_option maxHeartbeats 4000000 in
theorem k_Gd_isOpen (l : Launch) (w : WT) (σ : MM) (a : Int) (i_a : inr a) : CT SX l w yX0_isOpen cX0_isOpen 2 (some .boolean) 1 21 [.ref (w.2.2 10), .int (iI a)] σ (PI fun z σ1 => σ = σ1 ∧ ((z = 1 ∧ 0 ≤ a ∧ a < σ 56 0 * σ 57 0 ∧ σ 11 a = 0) ∨ (z = 0 ∧ (a < 0 ∨ σ 56 0 * σ 57 0 ≤ a ∨ σ 11 a = 1)))) := by
  refine CT.of 0 [some (.ref (w.2.2 10)), some (.int (iI a))] (by decide +kernel) (by simp [lg_sl, Value.category]) rfl sh_X (fun G hX => ?_)
  refine r_aload_n hX dX0_isOpen_0 rfl ?_
  refine r_iload_n hX dX0_isOpen_1 rfl ?_
  refine r_callV hX dX0_isOpen_2 (k_Gd_isThere l w σ _ (by omega)) mf_X0_isThere mv_X0_isThere lk_RX0_36 rfl rfl rfl rfl rfl ⟨Nat.le_of_ble_eq_true rfl, Nat.le_of_ble_eq_true rfl⟩ (Nat.le_of_ble_eq_true rfl) (kI fun z2 σ2 hh => ?_)
  obtain ⟨rfl, h2_0⟩ := hh
  refine r_if_eq hX (tgt := 21) dX0_isOpen_5 (by decide) (by omega) (fun c5 => ?_) (fun c5 => ?_)
  · skip
    refine r_iconst hX dX0_isOpen_21 ?_
    exact r_zret hX dX0_isOpen_22 rfl (by omega) ⟨_, rfl, ⟨rfl, (by omega)⟩⟩
  · skip
    refine r_aload_n hX dX0_isOpen_8 rfl ?_
    refine fg_X10_9 hX dX0_isOpen_9 ?_
    refine r_iload_n hX dX0_isOpen_12 rfl ?_
    refine ld_X11 hX dX0_isOpen_13 (by omega) (by omega) (fun b13l b13u => ?_)
    refine r_if_ne hX (tgt := 21) dX0_isOpen_14 (by decide) (by omega) (fun c14 => ?_) (fun c14 => ?_)
    · skip
      refine r_iconst hX dX0_isOpen_21 ?_
      exact r_zret hX dX0_isOpen_22 rfl (by omega) ⟨_, rfl, ⟨rfl, (by omega)⟩⟩
    · skip
      refine r_iconst hX dX0_isOpen_17 ?_
      refine r_goto hX dX0_isOpen_18 (tgt := 22) (by decide) ?_
      exact r_zret hX dX0_isOpen_22 rfl (by omega) ⟨_, rfl, ⟨rfl, (by omega)⟩⟩
theorem dX0_isBroken_0 : decode cX0_isBroken 0 = .ok (.aload_n 0, 1) := by decide +kernel
theorem dX0_isBroken_1 : decode cX0_isBroken 1 = .ok (.iload_n 1, 1) := by decide +kernel
theorem dX0_isBroken_2 : decode cX0_isBroken 2 = .ok (.invokevirtual 36, 3) := by decide +kernel
theorem dX0_isBroken_5 : decode cX0_isBroken 5 = .ok (.ifCond .eq 16, 3) := by decide +kernel
theorem dX0_isBroken_8 : decode cX0_isBroken 8 = .ok (.aload_n 0, 1) := by decide +kernel
theorem dX0_isBroken_9 : decode cX0_isBroken 9 = .ok (.getfield 9, 3) := by decide +kernel
theorem dX0_isBroken_12 : decode cX0_isBroken 12 = .ok (.iload_n 1, 1) := by decide +kernel
theorem dX0_isBroken_13 : decode cX0_isBroken 13 = .ok (.baload, 1) := by decide +kernel
theorem dX0_isBroken_14 : decode cX0_isBroken 14 = .ok (.ifCond .eq 7, 3) := by decide +kernel
theorem dX0_isBroken_17 : decode cX0_isBroken 17 = .ok (.iconst 1, 1) := by decide +kernel
theorem dX0_isBroken_18 : decode cX0_isBroken 18 = .ok (.goto 4, 3) := by decide +kernel
theorem dX0_isBroken_21 : decode cX0_isBroken 21 = .ok (.iconst 0, 1) := by decide +kernel
theorem dX0_isBroken_22 : decode cX0_isBroken 22 = .ok (.ireturn, 1) := by decide +kernel
set_option maxRecDepth 20000 in
set_option maxHeartbeats 4000000 in
theorem k_Gd_isBroken (l : Launch) (w : WT) (σ : MM) (a : Int) (i_a : inr a) : CT SX l w yX0_isBroken cX0_isBroken 2 (some .boolean) 1 21 [.ref (w.2.2 10), .int (iI a)] σ (PI fun z σ1 => σ = σ1 ∧ ((z = 1 ∧ 0 ≤ a ∧ a < σ 56 0 * σ 57 0 ∧ σ 11 a = 1) ∨ (z = 0 ∧ (a < 0 ∨ σ 56 0 * σ 57 0 ≤ a ∨ σ 11 a = 0)))) := by
  refine CT.of 0 [some (.ref (w.2.2 10)), some (.int (iI a))] (by decide +kernel) (by simp [lg_sl, Value.category]) rfl sh_X (fun G hX => ?_)
  refine r_aload_n hX dX0_isBroken_0 rfl ?_
  refine r_iload_n hX dX0_isBroken_1 rfl ?_
  refine r_callV hX dX0_isBroken_2 (k_Gd_isThere l w σ _ (by omega)) mf_X0_isThere mv_X0_isThere lk_RX0_36 rfl rfl rfl rfl rfl ⟨Nat.le_of_ble_eq_true rfl, Nat.le_of_ble_eq_true rfl⟩ (Nat.le_of_ble_eq_true rfl) (kI fun z2 σ2 hh => ?_)
  obtain ⟨rfl, h2_0⟩ := hh
  refine r_if_eq hX (tgt := 21) dX0_isBroken_5 (by decide) (by omega) (fun c5 => ?_) (fun c5 => ?_)
  · skip
    refine r_iconst hX dX0_isBroken_21 ?_
    exact r_zret hX dX0_isBroken_22 rfl (by omega) ⟨_, rfl, ⟨rfl, (by omega)⟩⟩
  · skip
    refine r_aload_n hX dX0_isBroken_8 rfl ?_
    refine fg_X10_9 hX dX0_isBroken_9 ?_
    refine r_iload_n hX dX0_isBroken_12 rfl ?_
    refine ld_X11 hX dX0_isBroken_13 (by omega) (by omega) (fun b13l b13u => ?_)
    refine r_if_eq hX (tgt := 21) dX0_isBroken_14 (by decide) (by omega) (fun c14 => ?_) (fun c14 => ?_)
    · skip
      refine r_iconst hX dX0_isBroken_21 ?_
      exact r_zret hX dX0_isBroken_22 rfl (by omega) ⟨_, rfl, ⟨rfl, (by omega)⟩⟩
    · skip
      refine r_iconst hX dX0_isBroken_17 ?_
      refine r_goto hX dX0_isBroken_18 (tgt := 22) (by decide) ?_
      exact r_zret hX dX0_isBroken_22 rfl (by omega) ⟨_, rfl, ⟨rfl, (by omega)⟩⟩
theorem dX0_isMultiplying_0 : decode cX0_isMultiplying 0 = .ok (.aload_n 0, 1) := by decide +kernel
theorem dX0_isMultiplying_1 : decode cX0_isMultiplying 1 = .ok (.iload_n 1, 1) := by decide +kernel
theorem dX0_isMultiplying_2 : decode cX0_isMultiplying 2 = .ok (.invokevirtual 36, 3) := by decide +kernel
theorem dX0_isMultiplying_5 : decode cX0_isMultiplying 5 = .ok (.ifCond .eq 16, 3) := by decide +kernel
theorem dX0_isMultiplying_8 : decode cX0_isMultiplying 8 = .ok (.aload_n 0, 1) := by decide +kernel
theorem dX0_isMultiplying_9 : decode cX0_isMultiplying 9 = .ok (.getfield 15, 3) := by decide +kernel
theorem dX0_isMultiplying_12 : decode cX0_isMultiplying 12 = .ok (.iload_n 1, 1) := by decide +kernel
theorem dX0_isMultiplying_13 : decode cX0_isMultiplying 13 = .ok (.baload, 1) := by decide +kernel
theorem dX0_isMultiplying_14 : decode cX0_isMultiplying 14 = .ok (.ifCond .eq 7, 3) := by decide +kernel
theorem dX0_isMultiplying_17 : decode cX0_isMultiplying 17 = .ok (.iconst 1, 1) := by decide +kernel
theorem dX0_isMultiplying_18 : decode cX0_isMultiplying 18 = .ok (.goto 4, 3) := by decide +kernel
theorem dX0_isMultiplying_21 : decode cX0_isMultiplying 21 = .ok (.iconst 0, 1) := by decide +kernel
theorem dX0_isMultiplying_22 : decode cX0_isMultiplying 22 = .ok (.ireturn, 1) := by decide +kernel
set_option maxRecDepth 20000 in
set_option maxHeartbeats 4000000 in
theorem k_Gd_isMultiplying (l : Launch) (w : WT) (σ : MM) (a : Int) (i_a : inr a) : CT SX l w yX0_isMultiplying cX0_isMultiplying 2 (some .boolean) 1 21 [.ref (w.2.2 10), .int (iI a)] σ (PI fun z σ1 => σ = σ1 ∧ ((z = 1 ∧ 0 ≤ a ∧ a < σ 56 0 * σ 57 0 ∧ σ 12 a = 1) ∨ (z = 0 ∧ (a < 0 ∨ σ 56 0 * σ 57 0 ≤ a ∨ σ 12 a = 0)))) := by
  refine CT.of 0 [some (.ref (w.2.2 10)), some (.int (iI a))] (by decide +kernel) (by simp [lg_sl, Value.category]) rfl sh_X (fun G hX => ?_)
  refine r_aload_n hX dX0_isMultiplying_0 rfl ?_
  refine r_iload_n hX dX0_isMultiplying_1 rfl ?_
  refine r_callV hX dX0_isMultiplying_2 (k_Gd_isThere l w σ _ (by omega)) mf_X0_isThere mv_X0_isThere lk_RX0_36 rfl rfl rfl rfl rfl ⟨Nat.le_of_ble_eq_true rfl, Nat.le_of_ble_eq_true rfl⟩ (Nat.le_of_ble_eq_true rfl) (kI fun z2 σ2 hh => ?_)
  obtain ⟨rfl, h2_0⟩ := hh
  refine r_if_eq hX (tgt := 21) dX0_isMultiplying_5 (by decide) (by omega) (fun c5 => ?_) (fun c5 => ?_)
  · skip
    refine r_iconst hX dX0_isMultiplying_21 ?_
    exact r_zret hX dX0_isMultiplying_22 rfl (by omega) ⟨_, rfl, ⟨rfl, (by omega)⟩⟩
  · skip
    refine r_aload_n hX dX0_isMultiplying_8 rfl ?_
    refine fg_X10_15 hX dX0_isMultiplying_9 ?_
    refine r_iload_n hX dX0_isMultiplying_12 rfl ?_
    refine ld_X12 hX dX0_isMultiplying_13 (by omega) (by omega) (fun b13l b13u => ?_)
    refine r_if_eq hX (tgt := 21) dX0_isMultiplying_14 (by decide) (by omega) (fun c14 => ?_) (fun c14 => ?_)
    · skip
      refine r_iconst hX dX0_isMultiplying_21 ?_
      exact r_zret hX dX0_isMultiplying_22 rfl (by omega) ⟨_, rfl, ⟨rfl, (by omega)⟩⟩
    · skip
      refine r_iconst hX dX0_isMultiplying_17 ?_
      refine r_goto hX dX0_isMultiplying_18 (tgt := 22) (by decide) ?_
      exact r_zret hX dX0_isMultiplying_22 rfl (by omega) ⟨_, rfl, ⟨rfl, (by omega)⟩⟩
theorem dX0_suits_0 : decode cX0_suits 0 = .ok (.aload_n 0, 1) := by decide +kernel
theorem dX0_suits_1 : decode cX0_suits 1 = .ok (.iload_n 2, 1) := by decide +kernel
theorem dX0_suits_2 : decode cX0_suits 2 = .ok (.invokevirtual 36, 3) := by decide +kernel
theorem dX0_suits_5 : decode cX0_suits 5 = .ok (.ifCond .eq 21, 3) := by decide +kernel
theorem dX0_suits_8 : decode cX0_suits 8 = .ok (.iload_n 1, 1) := by decide +kernel
theorem dX0_suits_9 : decode cX0_suits 9 = .ok (.iconst 3, 1) := by decide +kernel
theorem dX0_suits_10 : decode cX0_suits 10 = .ok (.if_icmp .ne 12, 3) := by decide +kernel
theorem dX0_suits_13 : decode cX0_suits 13 = .ok (.aload_n 0, 1) := by decide +kernel
theorem dX0_suits_14 : decode cX0_suits 14 = .ok (.getfield 15, 3) := by decide +kernel
theorem dX0_suits_17 : decode cX0_suits 17 = .ok (.iload_n 2, 1) := by decide +kernel
theorem dX0_suits_18 : decode cX0_suits 18 = .ok (.baload, 1) := by decide +kernel
theorem dX0_suits_19 : decode cX0_suits 19 = .ok (.ifCond .eq 7, 3) := by decide +kernel
theorem dX0_suits_22 : decode cX0_suits 22 = .ok (.iconst 1, 1) := by decide +kernel
theorem dX0_suits_23 : decode cX0_suits 23 = .ok (.goto 4, 3) := by decide +kernel
theorem dX0_suits_26 : decode cX0_suits 26 = .ok (.iconst 0, 1) := by decide +kernel
theorem dX0_suits_27 : decode cX0_suits 27 = .ok (.ireturn, 1) := by decide +kernel
set_option maxRecDepth 20000 in
set_option maxHeartbeats 4000000 in
theorem k_Gd_suits (l : Launch) (w : WT) (σ : MM) (k : Int) (a : Int) (i_k : inr k) (i_a : inr a) : CT SX l w yX0_suits cX0_suits 3 (some .boolean) 1 21 [.ref (w.2.2 10), .int (iI k), .int (iI a)] σ (PI fun z σ1 => σ = σ1 ∧ ((z = 1 ∧ 0 ≤ a ∧ a < σ 56 0 * σ 57 0 ∧ (k ≠ 3 ∨ σ 12 a = 1)) ∨ (z = 0 ∧ (a < 0 ∨ σ 56 0 * σ 57 0 ≤ a ∨ (k = 3 ∧ σ 12 a = 0))))) := by
  refine CT.of 0 [some (.ref (w.2.2 10)), some (.int (iI k)), some (.int (iI a))] (by decide +kernel) (by simp [lg_sl, Value.category]) rfl sh_X (fun G hX => ?_)
  refine r_aload_n hX dX0_suits_0 rfl ?_
  refine r_iload_n hX dX0_suits_1 rfl ?_
  refine r_callV hX dX0_suits_2 (k_Gd_isThere l w σ _ (by omega)) mf_X0_isThere mv_X0_isThere lk_RX0_36 rfl rfl rfl rfl rfl ⟨Nat.le_of_ble_eq_true rfl, Nat.le_of_ble_eq_true rfl⟩ (Nat.le_of_ble_eq_true rfl) (kI fun z2 σ2 hh => ?_)
  obtain ⟨rfl, h2_0⟩ := hh
  refine r_if_eq hX (tgt := 26) dX0_suits_5 (by decide) (by omega) (fun c5 => ?_) (fun c5 => ?_)
  · skip
    refine r_iconst hX dX0_suits_26 ?_
    exact r_zret hX dX0_suits_27 rfl (by omega) ⟨_, rfl, ⟨rfl, (by omega)⟩⟩
  · skip
    refine r_iload_n hX dX0_suits_8 rfl ?_
    refine r_iconst hX dX0_suits_9 ?_
    refine r_icmp_ne hX (tgt := 22) dX0_suits_10 (by decide) (by omega) (by omega) (fun c10 => ?_) (fun c10 => ?_)
    · skip
      refine r_iconst hX dX0_suits_22 ?_
      refine r_goto hX dX0_suits_23 (tgt := 27) (by decide) ?_
      exact r_zret hX dX0_suits_27 rfl (by omega) ⟨_, rfl, ⟨rfl, (by omega)⟩⟩
    · skip
      refine r_aload_n hX dX0_suits_13 rfl ?_
      refine fg_X10_15 hX dX0_suits_14 ?_
      refine r_iload_n hX dX0_suits_17 rfl ?_
      refine ld_X12 hX dX0_suits_18 (by omega) (by omega) (fun b18l b18u => ?_)
      refine r_if_eq hX (tgt := 26) dX0_suits_19 (by decide) (by omega) (fun c19 => ?_) (fun c19 => ?_)
      · skip
        refine r_iconst hX dX0_suits_26 ?_
        exact r_zret hX dX0_suits_27 rfl (by omega) ⟨_, rfl, ⟨rfl, (by omega)⟩⟩
      · skip
        refine r_iconst hX dX0_suits_22 ?_
        refine r_goto hX dX0_suits_23 (tgt := 27) (by decide) ?_
        exact r_zret hX dX0_suits_27 rfl (by omega) ⟨_, rfl, ⟨rfl, (by omega)⟩⟩
theorem dX0_setMultiplying_0 : decode cX0_setMultiplying 0 = .ok (.aload_n 0, 1) := by decide +kernel
theorem dX0_setMultiplying_1 : decode cX0_setMultiplying 1 = .ok (.iload_n 1, 1) := by decide +kernel
theorem dX0_setMultiplying_2 : decode cX0_setMultiplying 2 = .ok (.invokevirtual 36, 3) := by decide +kernel
theorem dX0_setMultiplying_5 : decode cX0_setMultiplying 5 = .ok (.ifCond .eq 10, 3) := by decide +kernel
theorem dX0_setMultiplying_8 : decode cX0_setMultiplying 8 = .ok (.aload_n 0, 1) := by decide +kernel
theorem dX0_setMultiplying_9 : decode cX0_setMultiplying 9 = .ok (.getfield 15, 3) := by decide +kernel
theorem dX0_setMultiplying_12 : decode cX0_setMultiplying 12 = .ok (.iload_n 1, 1) := by decide +kernel
theorem dX0_setMultiplying_13 : decode cX0_setMultiplying 13 = .ok (.iload_n 2, 1) := by decide +kernel
theorem dX0_setMultiplying_14 : decode cX0_setMultiplying 14 = .ok (.bastore, 1) := by decide +kernel
theorem dX0_setMultiplying_15 : decode cX0_setMultiplying 15 = .ok (.return_, 1) := by decide +kernel
set_option maxRecDepth 20000 in
set_option maxHeartbeats 4000000 in
theorem k_Gd_setMultiplying (l : Launch) (w : WT) (σ : MM) (a : Int) (v : Int) (i_a : inr a) (i_v : inr v) (ha : 0 ≤ a ∧ a < σ 56 0 * σ 57 0) (hv : v = 0 ∨ v = 1) : CT SX l w yX0_setMultiplying cX0_setMultiplying 3 none 1 21 [.ref (w.2.2 10), .int (iI a), .int (iI v)] σ (PV fun σ1 => Mod [12] σ σ1 ∧ (∀ b : Int, σ1 12 b = if b = a then v else σ 12 b)) := by
  refine CT.of 0 [some (.ref (w.2.2 10)), some (.int (iI a)), some (.int (iI v))] (by decide +kernel) (by simp [lg_sl, Value.category]) rfl sh_X (fun G hX => ?_)
  refine r_aload_n hX dX0_setMultiplying_0 rfl ?_
  refine r_iload_n hX dX0_setMultiplying_1 rfl ?_
  refine r_callV hX dX0_setMultiplying_2 (k_Gd_isThere l w σ _ (by omega)) mf_X0_isThere mv_X0_isThere lk_RX0_36 rfl rfl rfl rfl rfl ⟨Nat.le_of_ble_eq_true rfl, Nat.le_of_ble_eq_true rfl⟩ (Nat.le_of_ble_eq_true rfl) (kI fun z2 σ2 hh => ?_)
  obtain ⟨rfl, h2_0⟩ := hh
  refine r_if_eq hX (tgt := 15) dX0_setMultiplying_5 (by decide) (by omega) (fun c5 => ?_) (fun c5 => ?_)
  · exfalso; omega
  · skip
    refine r_aload_n hX dX0_setMultiplying_8 rfl ?_
    refine fg_X10_15 hX dX0_setMultiplying_9 ?_
    refine r_iload_n hX dX0_setMultiplying_12 rfl ?_
    refine r_iload_n hX dX0_setMultiplying_13 rfl ?_
    refine st_X12 hX dX0_setMultiplying_14 (by omega) (by omega) (by omega) (fun σ14 m14 s14 => ?_)
    exact r_ret hX dX0_setMultiplying_15 rfl ⟨rfl, ⟨(m14.w rfl), (by exact s14)⟩⟩
theorem dX0_unbroken_0 : decode cX0_unbroken 0 = .ok (.iconst 0, 1) := by decide +kernel
theorem dX0_unbroken_1 : decode cX0_unbroken 1 = .ok (.istore_n 1, 1) := by decide +kernel
theorem dX0_unbroken_2 : decode cX0_unbroken 2 = .ok (.iconst 0, 1) := by decide +kernel
theorem dX0_unbroken_3 : decode cX0_unbroken 3 = .ok (.istore_n 2, 1) := by decide +kernel
theorem dX0_unbroken_4 : decode cX0_unbroken 4 = .ok (.iload_n 2, 1) := by decide +kernel
theorem dX0_unbroken_5 : decode cX0_unbroken 5 = .ok (.aload_n 0, 1) := by decide +kernel
theorem dX0_unbroken_6 : decode cX0_unbroken 6 = .ok (.invokevirtual 40, 3) := by decide +kernel
theorem dX0_unbroken_9 : decode cX0_unbroken 9 = .ok (.if_icmp .ge 20, 3) := by decide +kernel
theorem dX0_unbroken_12 : decode cX0_unbroken 12 = .ok (.aload_n 0, 1) := by decide +kernel
theorem dX0_unbroken_13 : decode cX0_unbroken 13 = .ok (.iload_n 2, 1) := by decide +kernel
theorem dX0_unbroken_14 : decode cX0_unbroken 14 = .ok (.invokevirtual 44, 3) := by decide +kernel
theorem dX0_unbroken_17 : decode cX0_unbroken 17 = .ok (.ifCond .eq 6, 3) := by decide +kernel
theorem dX0_unbroken_20 : decode cX0_unbroken 20 = .ok (.iinc 1 1, 3) := by decide +kernel
theorem dX0_unbroken_23 : decode cX0_unbroken 23 = .ok (.iinc 2 1, 3) := by decide +kernel
theorem dX0_unbroken_26 : decode cX0_unbroken 26 = .ok (.goto (-22), 3) := by decide +kernel
theorem dX0_unbroken_29 : decode cX0_unbroken 29 = .ok (.iload_n 1, 1) := by decide +kernel
theorem dX0_unbroken_30 : decode cX0_unbroken 30 = .ok (.ireturn, 1) := by decide +kernel
set_option maxRecDepth 20000 in
set_option maxHeartbeats 4000000 in
theorem k_Gd_unbroken (l : Launch) (w : WT) (σ : MM) : CT SX l w yX0_unbroken cX0_unbroken 3 (some .int) 2 42 [.ref (w.2.2 10)] σ (PI fun z σ1 => σ = σ1 ∧ (z = cn0 (σ 11) (σ 56 0 * σ 57 0)) ∧ (0 ≤ z ∧ z ≤ 9)) := by
  refine CT.of 2 [some (.ref (w.2.2 10)), none, none] (by decide +kernel) (by simp [lg_sl, Value.category]) rfl sh_X (fun G hX => ?_)
  refine r_bd hX (fun hBd => ?_)
  have b_56 := hBd 56 1 3 rfl 0
  have b_57 := hBd 57 1 3 rfl 0
  have hn := mul_bd b_56 b_57
  refine r_iconst hX dX0_unbroken_0 ?_
  refine r_istore_n hX (fun x1 => [some (.ref (w.2.2 10)), some (.int (iI x1)), none]) dX0_unbroken_1 (Nat.le_of_ble_eq_true rfl) rfl rfl (fun _ => rfl) (fun x1 e1 => ?_)
  refine r_iconst hX dX0_unbroken_2 ?_
  refine r_istore_n hX (fun x3 => [some (.ref (w.2.2 10)), some (.int (iI x1)), some (.int (iI x3))]) dX0_unbroken_3 (Nat.le_of_ble_eq_true rfl) rfl rfl (fun _ => rfl) (fun x3 e3 => ?_)
  have lp4 : ∀ (n : Nat) (found : Int) (cell : Int) (hc : 0 ≤ cell ∧ cell ≤ σ 56 0 * σ 57 0) (hf : found = cn0 (σ 11) cell) (hf2 : 0 ≤ found ∧ found ≤ cell) (hmu : 10 - cell < (n : Int)), G 4 [some (.ref (w.2.2 10)), some (.int (iI found)), some (.int (iI cell))] [] σ := by
    intro n
    induction n with
    | zero => intro found cell hc hf hf2 hmu; omega
    | succ n ih =>
      intro found cell hc hf hf2 hmu
      have ih4 := ih
      clear ih
      refine r_iload_n hX dX0_unbroken_4 rfl ?_
      refine r_aload_n hX dX0_unbroken_5 rfl ?_
      refine r_callV hX dX0_unbroken_6 (k_Gd_cells l w σ) mf_X0_cells mv_X0_cells lk_RX0_40 rfl rfl rfl rfl rfl ⟨Nat.le_of_ble_eq_true rfl, Nat.le_of_ble_eq_true rfl⟩ (Nat.le_of_ble_eq_true rfl) (kI fun z6 σ6 hh => ?_)
      obtain ⟨rfl, h6_0, h6_1⟩ := hh
      refine r_icmp_ge hX (tgt := 29) dX0_unbroken_9 (by decide) (by omega) (by omega) (fun c9 => ?_) (fun c9 => ?_)
      · skip
        refine r_iload_n hX dX0_unbroken_29 rfl ?_
        exact r_iret hX dX0_unbroken_30 rfl ⟨_, rfl, ⟨rfl, (by have e : cell = σ 56 0 * σ 57 0 := (by omega); rw [e] at hf; exact hf), (by omega)⟩⟩
      · skip
        refine r_aload_n hX dX0_unbroken_12 rfl ?_
        refine r_iload_n hX dX0_unbroken_13 rfl ?_
        refine r_callV hX dX0_unbroken_14 (k_Gd_isOpen l w σ _ (by omega)) mf_X0_isOpen mv_X0_isOpen lk_RX0_44 rfl rfl rfl rfl rfl ⟨Nat.le_of_ble_eq_true rfl, Nat.le_of_ble_eq_true rfl⟩ (Nat.le_of_ble_eq_true rfl) (kI fun z14 σ14 hh => ?_)
        obtain ⟨rfl, h14_0⟩ := hh
        refine r_if_eq hX (tgt := 23) dX0_unbroken_17 (by decide) (by omega) (fun c17 => ?_) (fun c17 => ?_)
        · skip
          refine r_iinc hX (fun x23 => [some (.ref (w.2.2 10)), some (.int (iI found)), some (.int (iI x23))]) dX0_unbroken_23 rfl rfl rfl (fun _ => rfl) (fun x23 e23 => ?_)
          refine r_goto hX dX0_unbroken_26 (tgt := 4) (by decide) ?_
          exact ih4 found x23 (by omega) (by rw [e23, cn0, sm_succ hc.1, show sm _ cell.toNat = found from hf.symm]; first | (rw [if_neg (by omega)]; omega) | (rw [if_pos (by omega)]; omega)) (by omega) (by omega)
        · skip
          refine r_iinc hX (fun x20 => [some (.ref (w.2.2 10)), some (.int (iI x20)), some (.int (iI cell))]) dX0_unbroken_20 rfl rfl rfl (fun _ => rfl) (fun x20 e20 => ?_)
          refine r_iinc hX (fun x23 => [some (.ref (w.2.2 10)), some (.int (iI x20)), some (.int (iI x23))]) dX0_unbroken_23 rfl rfl rfl (fun _ => rfl) (fun x23 e23 => ?_)
          refine r_goto hX dX0_unbroken_26 (tgt := 4) (by decide) ?_
          exact ih4 x20 x23 (by omega) (by rw [e23, cn0, sm_succ hc.1, show sm _ cell.toNat = found from hf.symm]; first | (rw [if_neg (by omega)]; omega) | (rw [if_pos (by omega)]; omega)) (by omega) (by omega)
  exact lp4 ((10 - (x3)) + 1).toNat x1 x3 (by omega) (by rw [e1, e3]; rfl) (by omega) (by omega)
theorem dX0_unbrokenMultiplying_0 : decode cX0_unbrokenMultiplying 0 = .ok (.iconst 0, 1) := by decide +kernel
theorem dX0_unbrokenMultiplying_1 : decode cX0_unbrokenMultiplying 1 = .ok (.istore_n 1, 1) := by decide +kernel
theorem dX0_unbrokenMultiplying_2 : decode cX0_unbrokenMultiplying 2 = .ok (.iconst 0, 1) := by decide +kernel
theorem dX0_unbrokenMultiplying_3 : decode cX0_unbrokenMultiplying 3 = .ok (.istore_n 2, 1) := by decide +kernel
theorem dX0_unbrokenMultiplying_4 : decode cX0_unbrokenMultiplying 4 = .ok (.iload_n 2, 1) := by decide +kernel
theorem dX0_unbrokenMultiplying_5 : decode cX0_unbrokenMultiplying 5 = .ok (.aload_n 0, 1) := by decide +kernel
theorem dX0_unbrokenMultiplying_6 : decode cX0_unbrokenMultiplying 6 = .ok (.invokevirtual 40, 3) := by decide +kernel
theorem dX0_unbrokenMultiplying_9 : decode cX0_unbrokenMultiplying 9 = .ok (.if_icmp .ge 28, 3) := by decide +kernel
theorem dX0_unbrokenMultiplying_12 : decode cX0_unbrokenMultiplying 12 = .ok (.aload_n 0, 1) := by decide +kernel
theorem dX0_unbrokenMultiplying_13 : decode cX0_unbrokenMultiplying 13 = .ok (.iload_n 2, 1) := by decide +kernel
theorem dX0_unbrokenMultiplying_14 : decode cX0_unbrokenMultiplying 14 = .ok (.invokevirtual 44, 3) := by decide +kernel
theorem dX0_unbrokenMultiplying_17 : decode cX0_unbrokenMultiplying 17 = .ok (.ifCond .eq 14, 3) := by decide +kernel
theorem dX0_unbrokenMultiplying_20 : decode cX0_unbrokenMultiplying 20 = .ok (.aload_n 0, 1) := by decide +kernel
theorem dX0_unbrokenMultiplying_21 : decode cX0_unbrokenMultiplying 21 = .ok (.iload_n 2, 1) := by decide +kernel
theorem dX0_unbrokenMultiplying_22 : decode cX0_unbrokenMultiplying 22 = .ok (.invokevirtual 47, 3) := by decide +kernel
theorem dX0_unbrokenMultiplying_25 : decode cX0_unbrokenMultiplying 25 = .ok (.ifCond .eq 6, 3) := by decide +kernel
theorem dX0_unbrokenMultiplying_28 : decode cX0_unbrokenMultiplying 28 = .ok (.iinc 1 1, 3) := by decide +kernel
theorem dX0_unbrokenMultiplying_31 : decode cX0_unbrokenMultiplying 31 = .ok (.iinc 2 1, 3) := by decide +kernel
theorem dX0_unbrokenMultiplying_34 : decode cX0_unbrokenMultiplying 34 = .ok (.goto (-30), 3) := by decide +kernel
theorem dX0_unbrokenMultiplying_37 : decode cX0_unbrokenMultiplying 37 = .ok (.iload_n 1, 1) := by decide +kernel
theorem dX0_unbrokenMultiplying_38 : decode cX0_unbrokenMultiplying 38 = .ok (.ireturn, 1) := by decide +kernel
set_option maxRecDepth 20000 in
set_option maxHeartbeats 4000000 in
theorem k_Gd_unbrokenMul (l : Launch) (w : WT) (σ : MM) : CT SX l w yX0_unbrokenMultiplying cX0_unbrokenMultiplying 3 (some .int) 2 42 [.ref (w.2.2 10)] σ (PI fun z σ1 => σ = σ1 ∧ (z = cn2 (σ 11) (σ 12) (σ 56 0 * σ 57 0)) ∧ (0 ≤ z ∧ z ≤ 9)) := by
  refine CT.of 2 [some (.ref (w.2.2 10)), none, none] (by decide +kernel) (by simp [lg_sl, Value.category]) rfl sh_X (fun G hX => ?_)
  refine r_bd hX (fun hBd => ?_)
  have b_56 := hBd 56 1 3 rfl 0
  have b_57 := hBd 57 1 3 rfl 0
  have hn := mul_bd b_56 b_57
  refine r_iconst hX dX0_unbrokenMultiplying_0 ?_
  refine r_istore_n hX (fun x1 => [some (.ref (w.2.2 10)), some (.int (iI x1)), none]) dX0_unbrokenMultiplying_1 (Nat.le_of_ble_eq_true rfl) rfl rfl (fun _ => rfl) (fun x1 e1 => ?_)
  refine r_iconst hX dX0_unbrokenMultiplying_2 ?_
  refine r_istore_n hX (fun x3 => [some (.ref (w.2.2 10)), some (.int (iI x1)), some (.int (iI x3))]) dX0_unbrokenMultiplying_3 (Nat.le_of_ble_eq_true rfl) rfl rfl (fun _ => rfl) (fun x3 e3 => ?_)
  have lp4 : ∀ (n : Nat) (found : Int) (cell : Int) (hc : 0 ≤ cell ∧ cell ≤ σ 56 0 * σ 57 0) (hf : found = cn2 (σ 11) (σ 12) cell) (hf2 : 0 ≤ found ∧ found ≤ cell) (hmu : 10 - cell < (n : Int)), G 4 [some (.ref (w.2.2 10)), some (.int (iI found)), some (.int (iI cell))] [] σ := by
    intro n
    induction n with
    | zero => intro found cell hc hf hf2 hmu; omega
    | succ n ih =>
      intro found cell hc hf hf2 hmu
      have ih4 := ih
      clear ih
      refine r_iload_n hX dX0_unbrokenMultiplying_4 rfl ?_
      refine r_aload_n hX dX0_unbrokenMultiplying_5 rfl ?_
      refine r_callV hX dX0_unbrokenMultiplying_6 (k_Gd_cells l w σ) mf_X0_cells mv_X0_cells lk_RX0_40 rfl rfl rfl rfl rfl ⟨Nat.le_of_ble_eq_true rfl, Nat.le_of_ble_eq_true rfl⟩ (Nat.le_of_ble_eq_true rfl) (kI fun z6 σ6 hh => ?_)
      obtain ⟨rfl, h6_0, h6_1⟩ := hh
      refine r_icmp_ge hX (tgt := 37) dX0_unbrokenMultiplying_9 (by decide) (by omega) (by omega) (fun c9 => ?_) (fun c9 => ?_)
      · skip
        refine r_iload_n hX dX0_unbrokenMultiplying_37 rfl ?_
        exact r_iret hX dX0_unbrokenMultiplying_38 rfl ⟨_, rfl, ⟨rfl, (by have e : cell = σ 56 0 * σ 57 0 := (by omega); rw [e] at hf; exact hf), (by omega)⟩⟩
      · skip
        refine r_aload_n hX dX0_unbrokenMultiplying_12 rfl ?_
        refine r_iload_n hX dX0_unbrokenMultiplying_13 rfl ?_
        refine r_callV hX dX0_unbrokenMultiplying_14 (k_Gd_isOpen l w σ _ (by omega)) mf_X0_isOpen mv_X0_isOpen lk_RX0_44 rfl rfl rfl rfl rfl ⟨Nat.le_of_ble_eq_true rfl, Nat.le_of_ble_eq_true rfl⟩ (Nat.le_of_ble_eq_true rfl) (kI fun z14 σ14 hh => ?_)
        obtain ⟨rfl, h14_0⟩ := hh
        refine r_if_eq hX (tgt := 31) dX0_unbrokenMultiplying_17 (by decide) (by omega) (fun c17 => ?_) (fun c17 => ?_)
        · skip
          refine r_iinc hX (fun x31 => [some (.ref (w.2.2 10)), some (.int (iI found)), some (.int (iI x31))]) dX0_unbrokenMultiplying_31 rfl rfl rfl (fun _ => rfl) (fun x31 e31 => ?_)
          refine r_goto hX dX0_unbrokenMultiplying_34 (tgt := 4) (by decide) ?_
          exact ih4 found x31 (by omega) (by rw [e31, cn2, sm_succ hc.1, show sm _ cell.toNat = found from hf.symm]; first | (rw [if_neg (by omega)]; omega) | (rw [if_pos (by omega)]; omega)) (by omega) (by omega)
        · skip
          refine r_aload_n hX dX0_unbrokenMultiplying_20 rfl ?_
          refine r_iload_n hX dX0_unbrokenMultiplying_21 rfl ?_
          refine r_callV hX dX0_unbrokenMultiplying_22 (k_Gd_isMultiplying l w σ _ (by omega)) mf_X0_isMultiplying mv_X0_isMultiplying lk_RX0_47 rfl rfl rfl rfl rfl ⟨Nat.le_of_ble_eq_true rfl, Nat.le_of_ble_eq_true rfl⟩ (Nat.le_of_ble_eq_true rfl) (kI fun z22 σ22 hh => ?_)
          obtain ⟨rfl, h22_0⟩ := hh
          refine r_if_eq hX (tgt := 31) dX0_unbrokenMultiplying_25 (by decide) (by omega) (fun c25 => ?_) (fun c25 => ?_)
          · skip
            refine r_iinc hX (fun x31 => [some (.ref (w.2.2 10)), some (.int (iI found)), some (.int (iI x31))]) dX0_unbrokenMultiplying_31 rfl rfl rfl (fun _ => rfl) (fun x31 e31 => ?_)
            refine r_goto hX dX0_unbrokenMultiplying_34 (tgt := 4) (by decide) ?_
            exact ih4 found x31 (by omega) (by rw [e31, cn2, sm_succ hc.1, show sm _ cell.toNat = found from hf.symm]; first | (rw [if_neg (by omega)]; omega) | (rw [if_pos (by omega)]; omega)) (by omega) (by omega)
          · skip
            refine r_iinc hX (fun x28 => [some (.ref (w.2.2 10)), some (.int (iI x28)), some (.int (iI cell))]) dX0_unbrokenMultiplying_28 rfl rfl rfl (fun _ => rfl) (fun x28 e28 => ?_)
            refine r_iinc hX (fun x31 => [some (.ref (w.2.2 10)), some (.int (iI x28)), some (.int (iI x31))]) dX0_unbrokenMultiplying_31 rfl rfl rfl (fun _ => rfl) (fun x31 e31 => ?_)
            refine r_goto hX dX0_unbrokenMultiplying_34 (tgt := 4) (by decide) ?_
            exact ih4 x28 x31 (by omega) (by rw [e31, cn2, sm_succ hc.1, show sm _ cell.toNat = found from hf.symm]; first | (rw [if_neg (by omega)]; omega) | (rw [if_pos (by omega)]; omega)) (by omega) (by omega)
  exact lp4 ((10 - (x3)) + 1).toNat x1 x3 (by omega) (by rw [e1, e3]; rfl) (by omega) (by omega)
theorem dX0_wayBetween_0 : decode cX0_wayBetween 0 = .ok (.aload_n 0, 1) := by decide +kernel
theorem dX0_wayBetween_1 : decode cX0_wayBetween 1 = .ok (.iload_n 1, 1) := by decide +kernel
theorem dX0_wayBetween_2 : decode cX0_wayBetween 2 = .ok (.invokevirtual 36, 3) := by decide +kernel
theorem dX0_wayBetween_5 : decode cX0_wayBetween 5 = .ok (.ifCond .eq 11, 3) := by decide +kernel
theorem dX0_wayBetween_8 : decode cX0_wayBetween 8 = .ok (.aload_n 0, 1) := by decide +kernel
theorem dX0_wayBetween_9 : decode cX0_wayBetween 9 = .ok (.iload_n 2, 1) := by decide +kernel
theorem dX0_wayBetween_10 : decode cX0_wayBetween 10 = .ok (.invokevirtual 36, 3) := by decide +kernel
theorem dX0_wayBetween_13 : decode cX0_wayBetween 13 = .ok (.ifCond .ne 6, 3) := by decide +kernel
theorem dX0_wayBetween_16 : decode cX0_wayBetween 16 = .ok (.bipush (-6), 2) := by decide +kernel
theorem dX0_wayBetween_18 : decode cX0_wayBetween 18 = .ok (.ireturn, 1) := by decide +kernel
theorem dX0_wayBetween_19 : decode cX0_wayBetween 19 = .ok (.aload_n 0, 1) := by decide +kernel
theorem dX0_wayBetween_20 : decode cX0_wayBetween 20 = .ok (.getfield 18, 3) := by decide +kernel
theorem dX0_wayBetween_23 : decode cX0_wayBetween 23 = .ok (.iload_n 1, 1) := by decide +kernel
theorem dX0_wayBetween_24 : decode cX0_wayBetween 24 = .ok (.bipush 9, 2) := by decide +kernel
theorem dX0_wayBetween_26 : decode cX0_wayBetween 26 = .ok (.imul, 1) := by decide +kernel
theorem dX0_wayBetween_27 : decode cX0_wayBetween 27 = .ok (.iload_n 2, 1) := by decide +kernel
theorem dX0_wayBetween_28 : decode cX0_wayBetween 28 = .ok (.iadd, 1) := by decide +kernel
theorem dX0_wayBetween_29 : decode cX0_wayBetween 29 = .ok (.iaload, 1) := by decide +kernel
theorem dX0_wayBetween_30 : decode cX0_wayBetween 30 = .ok (.istore_n 3, 1) := by decide +kernel
theorem dX0_wayBetween_31 : decode cX0_wayBetween 31 = .ok (.iload_n 3, 1) := by decide +kernel
theorem dX0_wayBetween_32 : decode cX0_wayBetween 32 = .ok (.sipush 1000, 3) := by decide +kernel
theorem dX0_wayBetween_35 : decode cX0_wayBetween 35 = .ok (.if_icmp .ge 7, 3) := by decide +kernel
theorem dX0_wayBetween_38 : decode cX0_wayBetween 38 = .ok (.iload_n 3, 1) := by decide +kernel
theorem dX0_wayBetween_39 : decode cX0_wayBetween 39 = .ok (.goto 5, 3) := by decide +kernel
theorem dX0_wayBetween_42 : decode cX0_wayBetween 42 = .ok (.bipush (-6), 2) := by decide +kernel
theorem dX0_wayBetween_44 : decode cX0_wayBetween 44 = .ok (.ireturn, 1) := by decide +kernel
set_option maxRecDepth 20000 in
set_option maxHeartbeats 4000000 in
theorem k_Gd_wayBetween (l : Launch) (w : WT) (σ : MM) (a : Int) (b : Int) (i_a : inr a) (i_b : inr b) : CT SX l w yX0_wayBetween cX0_wayBetween 4 (some .int) 1 21 [.ref (w.2.2 10), .int (iI a), .int (iI b)] σ (PI fun z σ1 => σ = σ1 ∧ ((0 ≤ a ∧ a < σ 56 0 * σ 57 0 ∧ a < 9 ∧ 0 ≤ b ∧ b < σ 56 0 * σ 57 0 ∧ b < 9 ∧ ((σ 13 (a * 9 + b) < 1000 ∧ 0 ≤ σ 13 (a * 9 + b) ∧ z = σ 13 (a * 9 + b)) ∨ (1000 ≤ σ 13 (a * 9 + b) ∧ z = -6))) ∨ ((a < 0 ∨ σ 56 0 * σ 57 0 ≤ a ∨ b < 0 ∨ σ 56 0 * σ 57 0 ≤ b) ∧ z = -6))) := by
  refine CT.of 1 [some (.ref (w.2.2 10)), some (.int (iI a)), some (.int (iI b)), none] (by decide +kernel) (by simp [lg_sl, Value.category]) rfl sh_X (fun G hX => ?_)
  refine r_aload_n hX dX0_wayBetween_0 rfl ?_
  refine r_iload_n hX dX0_wayBetween_1 rfl ?_
  refine r_callV hX dX0_wayBetween_2 (k_Gd_isThere l w σ _ (by omega)) mf_X0_isThere mv_X0_isThere lk_RX0_36 rfl rfl rfl rfl rfl ⟨Nat.le_of_ble_eq_true rfl, Nat.le_of_ble_eq_true rfl⟩ (Nat.le_of_ble_eq_true rfl) (kI fun z2 σ2 hh => ?_)
  obtain ⟨rfl, h2_0⟩ := hh
  refine r_if_eq hX (tgt := 16) dX0_wayBetween_5 (by decide) (by omega) (fun c5 => ?_) (fun c5 => ?_)
  · skip
    refine r_bipush hX dX0_wayBetween_16 (by decide) ?_
    exact r_iret hX dX0_wayBetween_18 rfl ⟨_, rfl, ⟨rfl, (by omega)⟩⟩
  · skip
    refine r_aload_n hX dX0_wayBetween_8 rfl ?_
    refine r_iload_n hX dX0_wayBetween_9 rfl ?_
    refine r_callV hX dX0_wayBetween_10 (k_Gd_isThere l w σ _ (by omega)) mf_X0_isThere mv_X0_isThere lk_RX0_36 rfl rfl rfl rfl rfl ⟨Nat.le_of_ble_eq_true rfl, Nat.le_of_ble_eq_true rfl⟩ (Nat.le_of_ble_eq_true rfl) (kI fun z10 σ10 hh => ?_)
    obtain ⟨rfl, h10_0⟩ := hh
    refine r_if_ne hX (tgt := 19) dX0_wayBetween_13 (by decide) (by omega) (fun c13 => ?_) (fun c13 => ?_)
    · skip
      refine r_aload_n hX dX0_wayBetween_19 rfl ?_
      refine fg_X10_18 hX dX0_wayBetween_20 ?_
      refine r_iload_n hX dX0_wayBetween_23 rfl ?_
      refine r_bipush hX dX0_wayBetween_24 (by decide) ?_
      refine r_imul hX dX0_wayBetween_26 ?_
      refine r_iload_n hX dX0_wayBetween_27 rfl ?_
      refine r_iadd hX dX0_wayBetween_28 ?_
      refine ld_X13 hX dX0_wayBetween_29 (by omega) (by omega) (fun b29l b29u => ?_)
      refine r_istore_n hX (fun x30 => [some (.ref (w.2.2 10)), some (.int (iI a)), some (.int (iI b)), some (.int (iI x30))]) dX0_wayBetween_30 (Nat.le_of_ble_eq_true rfl) rfl rfl (fun _ => rfl) (fun x30 e30 => ?_)
      refine r_iload_n hX dX0_wayBetween_31 rfl ?_
      refine r_sipush hX dX0_wayBetween_32 (by decide) ?_
      refine r_icmp_ge hX (tgt := 42) dX0_wayBetween_35 (by decide) (by omega) (by omega) (fun c35 => ?_) (fun c35 => ?_)
      · skip
        refine r_bipush hX dX0_wayBetween_42 (by decide) ?_
        exact r_iret hX dX0_wayBetween_44 rfl ⟨_, rfl, ⟨rfl, (by omega)⟩⟩
      · skip
        refine r_iload_n hX dX0_wayBetween_38 rfl ?_
        refine r_goto hX dX0_wayBetween_39 (tgt := 44) (by decide) ?_
        exact r_iret hX dX0_wayBetween_44 rfl ⟨_, rfl, ⟨rfl, (by omega)⟩⟩
    · skip
      refine r_bipush hX dX0_wayBetween_16 (by decide) ?_
      exact r_iret hX dX0_wayBetween_18 rfl ⟨_, rfl, ⟨rfl, (by omega)⟩⟩
theorem dX0_areNeighbours_0 : decode cX0_areNeighbours 0 = .ok (.aload_n 0, 1) := by decide +kernel
theorem dX0_areNeighbours_1 : decode cX0_areNeighbours 1 = .ok (.getfield 30, 3) := by decide +kernel
theorem dX0_areNeighbours_4 : decode cX0_areNeighbours 4 = .ok (.iconst 1, 1) := by decide +kernel
theorem dX0_areNeighbours_5 : decode cX0_areNeighbours 5 = .ok (.if_icmp .ge 5, 3) := by decide +kernel
theorem dX0_areNeighbours_8 : decode cX0_areNeighbours 8 = .ok (.iconst 0, 1) := by decide +kernel
theorem dX0_areNeighbours_9 : decode cX0_areNeighbours 9 = .ok (.ireturn, 1) := by decide +kernel
theorem dX0_areNeighbours_10 : decode cX0_areNeighbours 10 = .ok (.iload_n 1, 1) := by decide +kernel
theorem dX0_areNeighbours_11 : decode cX0_areNeighbours 11 = .ok (.aload_n 0, 1) := by decide +kernel
theorem dX0_areNeighbours_12 : decode cX0_areNeighbours 12 = .ok (.getfield 30, 3) := by decide +kernel
theorem dX0_areNeighbours_15 : decode cX0_areNeighbours 15 = .ok (.idiv, 1) := by decide +kernel
theorem dX0_areNeighbours_16 : decode cX0_areNeighbours 16 = .ok (.iload_n 2, 1) := by decide +kernel
theorem dX0_areNeighbours_17 : decode cX0_areNeighbours 17 = .ok (.aload_n 0, 1) := by decide +kernel
theorem dX0_areNeighbours_18 : decode cX0_areNeighbours 18 = .ok (.getfield 30, 3) := by decide +kernel
theorem dX0_areNeighbours_21 : decode cX0_areNeighbours 21 = .ok (.idiv, 1) := by decide +kernel
theorem dX0_areNeighbours_22 : decode cX0_areNeighbours 22 = .ok (.isub, 1) := by decide +kernel
theorem dX0_areNeighbours_23 : decode cX0_areNeighbours 23 = .ok (.invokestatic 62, 3) := by decide +kernel
theorem dX0_areNeighbours_26 : decode cX0_areNeighbours 26 = .ok (.istore_n 3, 1) := by decide +kernel
theorem dX0_areNeighbours_27 : decode cX0_areNeighbours 27 = .ok (.iload_n 1, 1) := by decide +kernel
theorem dX0_areNeighbours_28 : decode cX0_areNeighbours 28 = .ok (.aload_n 0, 1) := by decide +kernel
theorem dX0_areNeighbours_29 : decode cX0_areNeighbours 29 = .ok (.getfield 30, 3) := by decide +kernel
theorem dX0_areNeighbours_32 : decode cX0_areNeighbours 32 = .ok (.irem, 1) := by decide +kernel
theorem dX0_areNeighbours_33 : decode cX0_areNeighbours 33 = .ok (.iload_n 2, 1) := by decide +kernel
theorem dX0_areNeighbours_34 : decode cX0_areNeighbours 34 = .ok (.aload_n 0, 1) := by decide +kernel
theorem dX0_areNeighbours_35 : decode cX0_areNeighbours 35 = .ok (.getfield 30, 3) := by decide +kernel
theorem dX0_areNeighbours_38 : decode cX0_areNeighbours 38 = .ok (.irem, 1) := by decide +kernel
theorem dX0_areNeighbours_39 : decode cX0_areNeighbours 39 = .ok (.isub, 1) := by decide +kernel
theorem dX0_areNeighbours_40 : decode cX0_areNeighbours 40 = .ok (.invokestatic 62, 3) := by decide +kernel
theorem dX0_areNeighbours_43 : decode cX0_areNeighbours 43 = .ok (.istore 4, 2) := by decide +kernel
theorem dX0_areNeighbours_45 : decode cX0_areNeighbours 45 = .ok (.iload_n 3, 1) := by decide +kernel
theorem dX0_areNeighbours_46 : decode cX0_areNeighbours 46 = .ok (.iload 4, 2) := by decide +kernel
theorem dX0_areNeighbours_48 : decode cX0_areNeighbours 48 = .ok (.iadd, 1) := by decide +kernel
theorem dX0_areNeighbours_49 : decode cX0_areNeighbours 49 = .ok (.iconst 1, 1) := by decide +kernel
theorem dX0_areNeighbours_50 : decode cX0_areNeighbours 50 = .ok (.if_icmp .ne 7, 3) := by decide +kernel
theorem dX0_areNeighbours_53 : decode cX0_areNeighbours 53 = .ok (.iconst 1, 1) := by decide +kernel
theorem dX0_areNeighbours_54 : decode cX0_areNeighbours 54 = .ok (.goto 4, 3) := by decide +kernel
theorem dX0_areNeighbours_57 : decode cX0_areNeighbours 57 = .ok (.iconst 0, 1) := by decide +kernel
theorem dX0_areNeighbours_58 : decode cX0_areNeighbours 58 = .ok (.ireturn, 1) := by decide +kernel
set_option maxRecDepth 20000 in
set_option maxHeartbeats 4000000 in
theorem k_Gd_areNeighbours (l : Launch) (w : WT) (σ : MM) (a : Int) (b : Int) (i_a : inr a) (i_b : inr b) (hab : 0 ≤ a ∧ a < 9 ∧ 0 ≤ b ∧ b < 9) : CT SX l w yX0_areNeighbours cX0_areNeighbours 5 (some .boolean) 1 21 [.ref (w.2.2 10), .int (iI a), .int (iI b)] σ (PI fun z σ1 => σ = σ1 ∧ ((z = 1 ∧ Nbr (σ 57 0) a b) ∨ (z = 0 ∧ ¬ Nbr (σ 57 0) a b))) := by
  refine CT.of 2 [some (.ref (w.2.2 10)), some (.int (iI a)), some (.int (iI b)), none, none] (by decide +kernel) (by simp [lg_sl, Value.category]) rfl sh_X (fun G hX => ?_)
  refine r_bd hX (fun hBd => ?_)
  have b_57 := hBd 57 1 3 rfl 0
  have d1 := Int.ediv_nonneg hab.1 (show (0 : Int) ≤ σ 57 0 by omega)
  have d2 := Int.ediv_nonneg hab.2.2.1 (show (0 : Int) ≤ σ 57 0 by omega)
  have d3 := Int.ediv_le_self (b := σ 57 0) hab.1
  have d4 := Int.ediv_le_self (b := σ 57 0) hab.2.2.1
  have d5 := Int.emod_nonneg a (show σ 57 0 ≠ 0 by omega)
  have d6 := Int.emod_nonneg b (show σ 57 0 ≠ 0 by omega)
  have d7 := Int.emod_lt_of_pos a (show (0 : Int) < σ 57 0 by omega)
  have d8 := Int.emod_lt_of_pos b (show (0 : Int) < σ 57 0 by omega)
  refine r_aload_n hX dX0_areNeighbours_0 rfl ?_
  refine fg_X10_30 hX dX0_areNeighbours_1 (fun b1l b1u => ?_)
  refine r_iconst hX dX0_areNeighbours_4 ?_
  refine r_icmp_ge hX (tgt := 10) dX0_areNeighbours_5 (by decide) (by omega) (by omega) (fun c5 => ?_) (fun c5 => ?_)
  · skip
    refine r_iload_n hX dX0_areNeighbours_10 rfl ?_
    refine r_aload_n hX dX0_areNeighbours_11 rfl ?_
    refine fg_X10_30 hX dX0_areNeighbours_12 (fun b12l b12u => ?_)
    refine r_idiv hX dX0_areNeighbours_15 (by omega) (by omega) (by omega) (by omega) ?_
    refine r_iload_n hX dX0_areNeighbours_16 rfl ?_
    refine r_aload_n hX dX0_areNeighbours_17 rfl ?_
    refine fg_X10_30 hX dX0_areNeighbours_18 (fun b18l b18u => ?_)
    refine r_idiv hX dX0_areNeighbours_21 (by omega) (by omega) (by omega) (by omega) ?_
    refine r_isub hX dX0_areNeighbours_22 ?_
    refine r_abs hX dX0_areNeighbours_23 lq_RX0_62 ma_abs_s ma_i ma_abs_c (Nat.le_of_ble_eq_true rfl) (Nat.le_of_ble_eq_true rfl) (by omega) (fun z23 h23 => ?_)
    refine r_istore_n hX (fun x26 => [some (.ref (w.2.2 10)), some (.int (iI a)), some (.int (iI b)), some (.int (iI x26)), none]) dX0_areNeighbours_26 (Nat.le_of_ble_eq_true rfl) rfl rfl (fun _ => rfl) (fun x26 e26 => ?_)
    refine r_iload_n hX dX0_areNeighbours_27 rfl ?_
    refine r_aload_n hX dX0_areNeighbours_28 rfl ?_
    refine fg_X10_30 hX dX0_areNeighbours_29 (fun b29l b29u => ?_)
    refine r_irem hX dX0_areNeighbours_32 (by omega) (by omega) (by omega) (by omega) ?_
    refine r_iload_n hX dX0_areNeighbours_33 rfl ?_
    refine r_aload_n hX dX0_areNeighbours_34 rfl ?_
    refine fg_X10_30 hX dX0_areNeighbours_35 (fun b35l b35u => ?_)
    refine r_irem hX dX0_areNeighbours_38 (by omega) (by omega) (by omega) (by omega) ?_
    refine r_isub hX dX0_areNeighbours_39 ?_
    refine r_abs hX dX0_areNeighbours_40 lq_RX0_62 ma_abs_s ma_i ma_abs_c (Nat.le_of_ble_eq_true rfl) (Nat.le_of_ble_eq_true rfl) (by omega) (fun z40 h40 => ?_)
    refine r_istore hX (fun x43 => [some (.ref (w.2.2 10)), some (.int (iI a)), some (.int (iI b)), some (.int (iI x26)), some (.int (iI x43))]) dX0_areNeighbours_43 (Nat.le_of_ble_eq_true rfl) rfl rfl (fun _ => rfl) (fun x43 e43 => ?_)
    refine r_iload_n hX dX0_areNeighbours_45 rfl ?_
    refine r_iload hX dX0_areNeighbours_46 rfl ?_
    refine r_iadd hX dX0_areNeighbours_48 ?_
    refine r_iconst hX dX0_areNeighbours_49 ?_
    refine r_icmp_ne hX (tgt := 57) dX0_areNeighbours_50 (by decide) (by omega) (by omega) (fun c50 => ?_) (fun c50 => ?_)
    · skip
      refine r_iconst hX dX0_areNeighbours_57 ?_
      exact r_zret hX dX0_areNeighbours_58 rfl (by omega) ⟨_, rfl, ⟨rfl, (by first | exact Or.inl ⟨rfl, by unfold Nbr; omega⟩ | exact Or.inr ⟨rfl, by unfold Nbr; omega⟩)⟩⟩
    · skip
      refine r_iconst hX dX0_areNeighbours_53 ?_
      refine r_goto hX dX0_areNeighbours_54 (tgt := 58) (by decide) ?_
      exact r_zret hX dX0_areNeighbours_58 rfl (by omega) ⟨_, rfl, ⟨rfl, (by first | exact Or.inl ⟨rfl, by unfold Nbr; omega⟩ | exact Or.inr ⟨rfl, by unfold Nbr; omega⟩)⟩⟩
  · exfalso; omega
theorem dX0_singleStep_0 : decode cX0_singleStep 0 = .ok (.iload_n 1, 1) := by decide +kernel
theorem dX0_singleStep_1 : decode cX0_singleStep 1 = .ok (.iload_n 2, 1) := by decide +kernel
theorem dX0_singleStep_2 : decode cX0_singleStep 2 = .ok (.if_icmp .ne 5, 3) := by decide +kernel
theorem dX0_singleStep_5 : decode cX0_singleStep 5 = .ok (.iconst 0, 1) := by decide +kernel
theorem dX0_singleStep_6 : decode cX0_singleStep 6 = .ok (.ireturn, 1) := by decide +kernel
theorem dX0_singleStep_7 : decode cX0_singleStep 7 = .ok (.aload_n 0, 1) := by decide +kernel
theorem dX0_singleStep_8 : decode cX0_singleStep 8 = .ok (.iload_n 1, 1) := by decide +kernel
theorem dX0_singleStep_9 : decode cX0_singleStep 9 = .ok (.invokevirtual 44, 3) := by decide +kernel
theorem dX0_singleStep_12 : decode cX0_singleStep 12 = .ok (.ifCond .eq 24, 3) := by decide +kernel
theorem dX0_singleStep_15 : decode cX0_singleStep 15 = .ok (.aload_n 0, 1) := by decide +kernel
theorem dX0_singleStep_16 : decode cX0_singleStep 16 = .ok (.iload_n 2, 1) := by decide +kernel
theorem dX0_singleStep_17 : decode cX0_singleStep 17 = .ok (.invokevirtual 44, 3) := by decide +kernel
theorem dX0_singleStep_20 : decode cX0_singleStep 20 = .ok (.ifCond .eq 16, 3) := by decide +kernel
theorem dX0_singleStep_23 : decode cX0_singleStep 23 = .ok (.aload_n 0, 1) := by decide +kernel
theorem dX0_singleStep_24 : decode cX0_singleStep 24 = .ok (.iload_n 1, 1) := by decide +kernel
theorem dX0_singleStep_25 : decode cX0_singleStep 25 = .ok (.iload_n 2, 1) := by decide +kernel
theorem dX0_singleStep_26 : decode cX0_singleStep 26 = .ok (.invokevirtual 58, 3) := by decide +kernel
theorem dX0_singleStep_29 : decode cX0_singleStep 29 = .ok (.ifCond .eq 7, 3) := by decide +kernel
theorem dX0_singleStep_32 : decode cX0_singleStep 32 = .ok (.iconst 1, 1) := by decide +kernel
theorem dX0_singleStep_33 : decode cX0_singleStep 33 = .ok (.goto 6, 3) := by decide +kernel
theorem dX0_singleStep_36 : decode cX0_singleStep 36 = .ok (.sipush 1000, 3) := by decide +kernel
theorem dX0_singleStep_39 : decode cX0_singleStep 39 = .ok (.ireturn, 1) := by decide +kernel
set_option maxRecDepth 20000 in
set_option maxHeartbeats 4000000 in
theorem k_Gd_singleStep (l : Launch) (w : WT) (σ : MM) (a : Int) (b : Int) (i_a : inr a) (i_b : inr b) (hab : 0 ≤ a ∧ a < 9 ∧ 0 ≤ b ∧ b < 9) : CT SX l w yX0_singleStep cX0_singleStep 3 (some .int) 2 45 [.ref (w.2.2 10), .int (iI a), .int (iI b)] σ (PI fun z σ1 => σ = σ1 ∧ (SSt (σ 11) (σ 56 0 * σ 57 0) (σ 57 0) a b z) ∧ (0 ≤ z ∧ z ≤ 1000)) := by
  refine CT.of 0 [some (.ref (w.2.2 10)), some (.int (iI a)), some (.int (iI b))] (by decide +kernel) (by simp [lg_sl, Value.category]) rfl sh_X (fun G hX => ?_)
  refine r_iload_n hX dX0_singleStep_0 rfl ?_
  refine r_iload_n hX dX0_singleStep_1 rfl ?_
  refine r_icmp_ne hX (tgt := 7) dX0_singleStep_2 (by decide) (by omega) (by omega) (fun c2 => ?_) (fun c2 => ?_)
  · skip
    refine r_aload_n hX dX0_singleStep_7 rfl ?_
    refine r_iload_n hX dX0_singleStep_8 rfl ?_
    refine r_callV hX dX0_singleStep_9 (k_Gd_isOpen l w σ _ (by omega)) mf_X0_isOpen mv_X0_isOpen lk_RX0_44 rfl rfl rfl rfl rfl ⟨Nat.le_of_ble_eq_true rfl, Nat.le_of_ble_eq_true rfl⟩ (Nat.le_of_ble_eq_true rfl) (kI fun z9 σ9 hh => ?_)
    obtain ⟨rfl, h9_0⟩ := hh
    refine r_if_eq hX (tgt := 36) dX0_singleStep_12 (by decide) (by omega) (fun c12 => ?_) (fun c12 => ?_)
    · skip
      refine r_sipush hX dX0_singleStep_36 (by decide) ?_
      exact r_iret hX dX0_singleStep_39 rfl ⟨_, rfl, ⟨rfl, (by first | exact Or.inr (Or.inl ⟨c2, ⟨⟨by omega, by omega, by omega⟩, ⟨by omega, by omega, by omega⟩, cf_yes h26_0 (by omega)⟩, rfl⟩) | exact Or.inr (Or.inr ⟨c2, fun q => (by have q1 := q.1.1; have q2 := q.1.2.1; have q3 := q.1.2.2; have q4 := q.2.1.1; have q5 := q.2.1.2.1; have q6 := q.2.1.2.2; first | omega | exact cf_no h26_0 (by omega) q.2.2), rfl⟩)), (by omega)⟩⟩
    · skip
      refine r_aload_n hX dX0_singleStep_15 rfl ?_
      refine r_iload_n hX dX0_singleStep_16 rfl ?_
      refine r_callV hX dX0_singleStep_17 (k_Gd_isOpen l w σ _ (by omega)) mf_X0_isOpen mv_X0_isOpen lk_RX0_44 rfl rfl rfl rfl rfl ⟨Nat.le_of_ble_eq_true rfl, Nat.le_of_ble_eq_true rfl⟩ (Nat.le_of_ble_eq_true rfl) (kI fun z17 σ17 hh => ?_)
      obtain ⟨rfl, h17_0⟩ := hh
      refine r_if_eq hX (tgt := 36) dX0_singleStep_20 (by decide) (by omega) (fun c20 => ?_) (fun c20 => ?_)
      · skip
        refine r_sipush hX dX0_singleStep_36 (by decide) ?_
        exact r_iret hX dX0_singleStep_39 rfl ⟨_, rfl, ⟨rfl, (by first | exact Or.inr (Or.inl ⟨c2, ⟨⟨by omega, by omega, by omega⟩, ⟨by omega, by omega, by omega⟩, cf_yes h26_0 (by omega)⟩, rfl⟩) | exact Or.inr (Or.inr ⟨c2, fun q => (by have q1 := q.1.1; have q2 := q.1.2.1; have q3 := q.1.2.2; have q4 := q.2.1.1; have q5 := q.2.1.2.1; have q6 := q.2.1.2.2; first | omega | exact cf_no h26_0 (by omega) q.2.2), rfl⟩)), (by omega)⟩⟩
      · skip
        refine r_aload_n hX dX0_singleStep_23 rfl ?_
        refine r_iload_n hX dX0_singleStep_24 rfl ?_
        refine r_iload_n hX dX0_singleStep_25 rfl ?_
        refine r_callV hX dX0_singleStep_26 (k_Gd_areNeighbours l w σ _ _ (by omega) (by omega) (by omega)) mf_X0_areNeighbours mv_X0_areNeighbours lk_RX0_58 rfl rfl rfl rfl rfl ⟨Nat.le_of_ble_eq_true rfl, Nat.le_of_ble_eq_true rfl⟩ (Nat.le_of_ble_eq_true rfl) (kI fun z26 σ26 hh => ?_)
        obtain ⟨rfl, h26_0⟩ := hh
        refine r_if_eq hX (tgt := 36) dX0_singleStep_29 (by decide) (by omega) (fun c29 => ?_) (fun c29 => ?_)
        · skip
          refine r_sipush hX dX0_singleStep_36 (by decide) ?_
          exact r_iret hX dX0_singleStep_39 rfl ⟨_, rfl, ⟨rfl, (by first | exact Or.inr (Or.inl ⟨c2, ⟨⟨by omega, by omega, by omega⟩, ⟨by omega, by omega, by omega⟩, cf_yes h26_0 (by omega)⟩, rfl⟩) | exact Or.inr (Or.inr ⟨c2, fun q => (by have q1 := q.1.1; have q2 := q.1.2.1; have q3 := q.1.2.2; have q4 := q.2.1.1; have q5 := q.2.1.2.1; have q6 := q.2.1.2.2; first | omega | exact cf_no h26_0 (by omega) q.2.2), rfl⟩)), (by omega)⟩⟩
        · skip
          refine r_iconst hX dX0_singleStep_32 ?_
          refine r_goto hX dX0_singleStep_33 (tgt := 39) (by decide) ?_
          exact r_iret hX dX0_singleStep_39 rfl ⟨_, rfl, ⟨rfl, (by first | exact Or.inr (Or.inl ⟨c2, ⟨⟨by omega, by omega, by omega⟩, ⟨by omega, by omega, by omega⟩, cf_yes h26_0 (by omega)⟩, rfl⟩) | exact Or.inr (Or.inr ⟨c2, fun q => (by have q1 := q.1.1; have q2 := q.1.2.1; have q3 := q.1.2.2; have q4 := q.2.1.1; have q5 := q.2.1.2.1; have q6 := q.2.1.2.2; first | omega | exact cf_no h26_0 (by omega) q.2.2), rfl⟩)), (by omega)⟩⟩
  · skip
    refine r_iconst hX dX0_singleStep_5 ?_
    exact r_iret hX dX0_singleStep_6 rfl ⟨_, rfl, ⟨rfl, (by exact Or.inl ⟨c2, rfl⟩), (by omega)⟩⟩
theorem dX0_shortenThrough_0 : decode cX0_shortenThrough 0 = .ok (.iconst 0, 1) := by decide +kernel
theorem dX0_shortenThrough_1 : decode cX0_shortenThrough 1 = .ok (.istore_n 2, 1) := by decide +kernel
theorem dX0_shortenThrough_2 : decode cX0_shortenThrough 2 = .ok (.iload_n 2, 1) := by decide +kernel
theorem dX0_shortenThrough_3 : decode cX0_shortenThrough 3 = .ok (.bipush 9, 2) := by decide +kernel
theorem dX0_shortenThrough_5 : decode cX0_shortenThrough 5 = .ok (.if_icmp .ge 77, 3) := by decide +kernel
theorem dX0_shortenThrough_8 : decode cX0_shortenThrough 8 = .ok (.iconst 0, 1) := by decide +kernel
theorem dX0_shortenThrough_9 : decode cX0_shortenThrough 9 = .ok (.istore_n 3, 1) := by decide +kernel
theorem dX0_shortenThrough_10 : decode cX0_shortenThrough 10 = .ok (.iload_n 3, 1) := by decide +kernel
theorem dX0_shortenThrough_11 : decode cX0_shortenThrough 11 = .ok (.bipush 9, 2) := by decide +kernel
theorem dX0_shortenThrough_13 : decode cX0_shortenThrough 13 = .ok (.if_icmp .ge 63, 3) := by decide +kernel
theorem dX0_shortenThrough_16 : decode cX0_shortenThrough 16 = .ok (.aload_n 0, 1) := by decide +kernel
theorem dX0_shortenThrough_17 : decode cX0_shortenThrough 17 = .ok (.getfield 18, 3) := by decide +kernel
theorem dX0_shortenThrough_20 : decode cX0_shortenThrough 20 = .ok (.iload_n 2, 1) := by decide +kernel
theorem dX0_shortenThrough_21 : decode cX0_shortenThrough 21 = .ok (.bipush 9, 2) := by decide +kernel
theorem dX0_shortenThrough_23 : decode cX0_shortenThrough 23 = .ok (.imul, 1) := by decide +kernel
theorem dX0_shortenThrough_24 : decode cX0_shortenThrough 24 = .ok (.iload_n 1, 1) := by decide +kernel
theorem dX0_shortenThrough_25 : decode cX0_shortenThrough 25 = .ok (.iadd, 1) := by decide +kernel
theorem dX0_shortenThrough_26 : decode cX0_shortenThrough 26 = .ok (.iaload, 1) := by decide +kernel
theorem dX0_shortenThrough_27 : decode cX0_shortenThrough 27 = .ok (.aload_n 0, 1) := by decide +kernel
theorem dX0_shortenThrough_28 : decode cX0_shortenThrough 28 = .ok (.getfield 18, 3) := by decide +kernel
theorem dX0_shortenThrough_31 : decode cX0_shortenThrough 31 = .ok (.iload_n 1, 1) := by decide +kernel
theorem dX0_shortenThrough_32 : decode cX0_shortenThrough 32 = .ok (.bipush 9, 2) := by decide +kernel
theorem dX0_shortenThrough_34 : decode cX0_shortenThrough 34 = .ok (.imul, 1) := by decide +kernel
theorem dX0_shortenThrough_35 : decode cX0_shortenThrough 35 = .ok (.iload_n 3, 1) := by decide +kernel
theorem dX0_shortenThrough_36 : decode cX0_shortenThrough 36 = .ok (.iadd, 1) := by decide +kernel
theorem dX0_shortenThrough_37 : decode cX0_shortenThrough 37 = .ok (.iaload, 1) := by decide +kernel
theorem dX0_shortenThrough_38 : decode cX0_shortenThrough 38 = .ok (.iadd, 1) := by decide +kernel
theorem dX0_shortenThrough_39 : decode cX0_shortenThrough 39 = .ok (.istore 4, 2) := by decide +kernel
theorem dX0_shortenThrough_41 : decode cX0_shortenThrough 41 = .ok (.iload 4, 2) := by decide +kernel
theorem dX0_shortenThrough_43 : decode cX0_shortenThrough 43 = .ok (.aload_n 0, 1) := by decide +kernel
theorem dX0_shortenThrough_44 : decode cX0_shortenThrough 44 = .ok (.getfield 18, 3) := by decide +kernel
theorem dX0_shortenThrough_47 : decode cX0_shortenThrough 47 = .ok (.iload_n 2, 1) := by decide +kernel
theorem dX0_shortenThrough_48 : decode cX0_shortenThrough 48 = .ok (.bipush 9, 2) := by decide +kernel
theorem dX0_shortenThrough_50 : decode cX0_shortenThrough 50 = .ok (.imul, 1) := by decide +kernel
theorem dX0_shortenThrough_51 : decode cX0_shortenThrough 51 = .ok (.iload_n 3, 1) := by decide +kernel
theorem dX0_shortenThrough_52 : decode cX0_shortenThrough 52 = .ok (.iadd, 1) := by decide +kernel
theorem dX0_shortenThrough_53 : decode cX0_shortenThrough 53 = .ok (.iaload, 1) := by decide +kernel
theorem dX0_shortenThrough_54 : decode cX0_shortenThrough 54 = .ok (.if_icmp .ge 16, 3) := by decide +kernel
theorem dX0_shortenThrough_57 : decode cX0_shortenThrough 57 = .ok (.aload_n 0, 1) := by decide +kernel
theorem dX0_shortenThrough_58 : decode cX0_shortenThrough 58 = .ok (.getfield 18, 3) := by decide +kernel
theorem dX0_shortenThrough_61 : decode cX0_shortenThrough 61 = .ok (.iload_n 2, 1) := by decide +kernel
theorem dX0_shortenThrough_62 : decode cX0_shortenThrough 62 = .ok (.bipush 9, 2) := by decide +kernel
theorem dX0_shortenThrough_64 : decode cX0_shortenThrough 64 = .ok (.imul, 1) := by decide +kernel
theorem dX0_shortenThrough_65 : decode cX0_shortenThrough 65 = .ok (.iload_n 3, 1) := by decide +kernel
theorem dX0_shortenThrough_66 : decode cX0_shortenThrough 66 = .ok (.iadd, 1) := by decide +kernel
theorem dX0_shortenThrough_67 : decode cX0_shortenThrough 67 = .ok (.iload 4, 2) := by decide +kernel
theorem dX0_shortenThrough_69 : decode cX0_shortenThrough 69 = .ok (.iastore, 1) := by decide +kernel
theorem dX0_shortenThrough_70 : decode cX0_shortenThrough 70 = .ok (.iinc 3 1, 3) := by decide +kernel
theorem dX0_shortenThrough_73 : decode cX0_shortenThrough 73 = .ok (.goto (-63), 3) := by decide +kernel
theorem dX0_shortenThrough_76 : decode cX0_shortenThrough 76 = .ok (.iinc 2 1, 3) := by decide +kernel
theorem dX0_shortenThrough_79 : decode cX0_shortenThrough 79 = .ok (.goto (-77), 3) := by decide +kernel
theorem dX0_shortenThrough_82 : decode cX0_shortenThrough 82 = .ok (.return_, 1) := by decide +kernel
set_option maxRecDepth 20000 in
set_option maxHeartbeats 4000000 in
theorem k_Gd_shortenThrough (l : Launch) (w : WT) (σ : MM) (m : Int) (i_m : inr m) (hm : 0 ≤ m ∧ m < 9) (hz : ∀ a : Int, 0 ≤ a → a < 9 → σ 13 (a * 9 + a) = 0) : CT SX l w yX0_shortenThrough cX0_shortenThrough 5 none 0 0 [.ref (w.2.2 10), .int (iI m)] σ (PV fun σ1 => Mod [13] σ σ1 ∧ (Fw (σ 13) (σ1 13) m)) := by
  refine CT.of 3 [some (.ref (w.2.2 10)), some (.int (iI m)), none, none, none] (by decide +kernel) (by simp [lg_sl, Value.category]) rfl sh_X (fun G hX => ?_)
  refine r_iconst hX dX0_shortenThrough_0 ?_
  refine r_istore_n hX (fun x1 => [some (.ref (w.2.2 10)), some (.int (iI m)), some (.int (iI x1)), none, none]) dX0_shortenThrough_1 (Nat.le_of_ble_eq_true rfl) rfl rfl (fun _ => rfl) (fun x1 e1 => ?_)
  have lp2 : ∀ (n : Nat) (f : Int) (σ2 : MM) (m2 : Mod [13] σ σ2) (hf : 0 ≤ f ∧ f ≤ 9) (hW : ∀ a b : Int, 0 ≤ a → a < 9 → 0 ≤ b → b < 9 → σ2 13 (a * 9 + b) = if a < f ∨ (a = f ∧ b < 0) then (if σ 13 (a * 9 + m) + σ 13 (m * 9 + b) < σ 13 (a * 9 + b) then σ 13 (a * 9 + m) + σ 13 (m * 9 + b) else σ 13 (a * 9 + b)) else σ 13 (a * 9 + b)) (hmu : 10 - f < (n : Int)), G 2 [some (.ref (w.2.2 10)), some (.int (iI m)), some (.int (iI f)), none, none] [] σ2 := by
    intro n
    induction n with
    | zero => intro f σ2 m2 hf hW hmu; omega
    | succ n ih =>
      intro f σ2 m2 hf hW hmu
      have ih2 := ih
      clear ih
      refine r_iload_n hX dX0_shortenThrough_2 rfl ?_
      refine r_bipush hX dX0_shortenThrough_3 (by decide) ?_
      refine r_icmp_ge hX (tgt := 82) dX0_shortenThrough_5 (by decide) (by omega) (by omega) (fun c5 => ?_) (fun c5 => ?_)
      · skip
        exact r_ret hX dX0_shortenThrough_82 rfl ⟨rfl, ⟨(m2.w rfl), (fun a b a0 a1 b0 b1 => by rw [hW a b a0 a1 b0 b1, if_pos (by omega)])⟩⟩
      · skip
        refine r_iconst hX dX0_shortenThrough_8 ?_
        refine r_istore_n hX (fun x9 => [some (.ref (w.2.2 10)), some (.int (iI m)), some (.int (iI f)), some (.int (iI x9)), none]) dX0_shortenThrough_9 (Nat.le_of_ble_eq_true rfl) rfl rfl (fun _ => rfl) (fun x9 e9 => ?_)
        have lp10 : ∀ (n : Nat) (t : Int) (σ10 : MM) (m10 : Mod [13] σ2 σ10) (ht : 0 ≤ t ∧ t ≤ 9) (hW2 : ∀ a b : Int, 0 ≤ a → a < 9 → 0 ≤ b → b < 9 → σ10 13 (a * 9 + b) = if a < f ∨ (a = f ∧ b < t) then (if σ 13 (a * 9 + m) + σ 13 (m * 9 + b) < σ 13 (a * 9 + b) then σ 13 (a * 9 + m) + σ 13 (m * 9 + b) else σ 13 (a * 9 + b)) else σ 13 (a * 9 + b)) (hmu : 10 - t < (n : Int)), G 10 [some (.ref (w.2.2 10)), some (.int (iI m)), some (.int (iI f)), some (.int (iI t)), none] [] σ10 := by
          intro n
          induction n with
          | zero => intro t σ10 m10 ht hW2 hmu; omega
          | succ n ih =>
            intro t σ10 m10 ht hW2 hmu
            have ih10 := ih
            clear ih
            refine r_iload_n hX dX0_shortenThrough_10 rfl ?_
            refine r_bipush hX dX0_shortenThrough_11 (by decide) ?_
            refine r_icmp_ge hX (tgt := 76) dX0_shortenThrough_13 (by decide) (by omega) (by omega) (fun c13 => ?_) (fun c13 => ?_)
            · skip
              refine r_iinc hX (fun x76 => [some (.ref (w.2.2 10)), some (.int (iI m)), some (.int (iI x76)), some (.int (iI t)), none]) dX0_shortenThrough_76 rfl rfl rfl (fun _ => rfl) (fun x76 e76 => ?_)
              refine r_goto hX dX0_shortenThrough_79 (tgt := 2) (by decide) ?_
              refine r_wk hX (lv1 := [some (.ref (w.2.2 10)), some (.int (iI m)), some (.int (iI x76)), none, none]) ⟨rfl, ⟨rfl, ⟨rfl, trivial⟩⟩⟩ ?_
              exact ih2 x76 σ10 (Mod.tr (L := [13]) m2 m10 rfl rfl) (by omega) (fun a b a0 a1 b0 b1 => by rw [hW2 a b a0 a1 b0 b1]; exact if_iff _ _ (by omega)) (by omega)
            · skip
              refine r_aload_n hX dX0_shortenThrough_16 rfl ?_
              refine fg_X10_18 hX dX0_shortenThrough_17 ?_
              refine r_iload_n hX dX0_shortenThrough_20 rfl ?_
              refine r_bipush hX dX0_shortenThrough_21 (by decide) ?_
              refine r_imul hX dX0_shortenThrough_23 ?_
              refine r_iload_n hX dX0_shortenThrough_24 rfl ?_
              refine r_iadd hX dX0_shortenThrough_25 ?_
              refine ld_X13 hX dX0_shortenThrough_26 (by omega) (by omega) (fun b26l b26u => ?_)
              refine r_aload_n hX dX0_shortenThrough_27 rfl ?_
              refine fg_X10_18 hX dX0_shortenThrough_28 ?_
              refine r_iload_n hX dX0_shortenThrough_31 rfl ?_
              refine r_bipush hX dX0_shortenThrough_32 (by decide) ?_
              refine r_imul hX dX0_shortenThrough_34 ?_
              refine r_iload_n hX dX0_shortenThrough_35 rfl ?_
              refine r_iadd hX dX0_shortenThrough_36 ?_
              refine ld_X13 hX dX0_shortenThrough_37 (by omega) (by omega) (fun b37l b37u => ?_)
              refine r_iadd hX dX0_shortenThrough_38 ?_
              refine r_istore hX (fun x39 => [some (.ref (w.2.2 10)), some (.int (iI m)), some (.int (iI f)), some (.int (iI t)), some (.int (iI x39))]) dX0_shortenThrough_39 (Nat.le_of_ble_eq_true rfl) rfl rfl (fun _ => rfl) (fun x39 e39 => ?_)
              refine r_iload hX dX0_shortenThrough_41 rfl ?_
              refine r_aload_n hX dX0_shortenThrough_43 rfl ?_
              refine fg_X10_18 hX dX0_shortenThrough_44 ?_
              refine r_iload_n hX dX0_shortenThrough_47 rfl ?_
              refine r_bipush hX dX0_shortenThrough_48 (by decide) ?_
              refine r_imul hX dX0_shortenThrough_50 ?_
              refine r_iload_n hX dX0_shortenThrough_51 rfl ?_
              refine r_iadd hX dX0_shortenThrough_52 ?_
              refine ld_X13 hX dX0_shortenThrough_53 (by omega) (by omega) (fun b53l b53u => ?_)
              refine r_icmp_ge hX (tgt := 70) dX0_shortenThrough_54 (by decide) (by omega) (by omega) (fun c54 => ?_) (fun c54 => ?_)
              · skip
                refine r_iinc hX (fun x70 => [some (.ref (w.2.2 10)), some (.int (iI m)), some (.int (iI f)), some (.int (iI x70)), some (.int (iI x39))]) dX0_shortenThrough_70 rfl rfl rfl (fun _ => rfl) (fun x70 e70 => ?_)
                refine r_goto hX dX0_shortenThrough_73 (tgt := 10) (by decide) ?_
                refine r_wk hX (lv1 := [some (.ref (w.2.2 10)), some (.int (iI m)), some (.int (iI f)), some (.int (iI x70)), none]) ⟨rfl, ⟨rfl, ⟨rfl, ⟨rfl, trivial⟩⟩⟩⟩ ?_
                exact ih10 x70 σ10 (m10.w rfl) (by omega) (fun a b a0 a1 b0 b1 => fw_step (f := f) (t := t) (m := m) hm (by omega) (by omega) hW2 hz e39 (by first | exact Or.inl ⟨s69, by omega⟩ | exact Or.inr ⟨rfl, by omega⟩) e70 a b a0 a1 b0 b1) (by omega)
              · skip
                refine r_aload_n hX dX0_shortenThrough_57 rfl ?_
                refine fg_X10_18 hX dX0_shortenThrough_58 ?_
                refine r_iload_n hX dX0_shortenThrough_61 rfl ?_
                refine r_bipush hX dX0_shortenThrough_62 (by decide) ?_
                refine r_imul hX dX0_shortenThrough_64 ?_
                refine r_iload_n hX dX0_shortenThrough_65 rfl ?_
                refine r_iadd hX dX0_shortenThrough_66 ?_
                refine r_iload hX dX0_shortenThrough_67 rfl ?_
                refine st_X13 hX dX0_shortenThrough_69 (by omega) (by omega) (by omega) (fun σ69 m69 s69 => ?_)
                refine r_iinc hX (fun x70 => [some (.ref (w.2.2 10)), some (.int (iI m)), some (.int (iI f)), some (.int (iI x70)), some (.int (iI x39))]) dX0_shortenThrough_70 rfl rfl rfl (fun _ => rfl) (fun x70 e70 => ?_)
                refine r_goto hX dX0_shortenThrough_73 (tgt := 10) (by decide) ?_
                refine r_wk hX (lv1 := [some (.ref (w.2.2 10)), some (.int (iI m)), some (.int (iI f)), some (.int (iI x70)), none]) ⟨rfl, ⟨rfl, ⟨rfl, ⟨rfl, trivial⟩⟩⟩⟩ ?_
                exact ih10 x70 σ69 (Mod.tr (L := [13]) m10 m69 rfl rfl) (by omega) (fun a b a0 a1 b0 b1 => fw_step (f := f) (t := t) (m := m) hm (by omega) (by omega) hW2 hz e39 (by first | exact Or.inl ⟨s69, by omega⟩ | exact Or.inr ⟨rfl, by omega⟩) e70 a b a0 a1 b0 b1) (by omega)
        exact lp10 ((10 - (x9)) + 1).toNat x9 σ2 Mod.rf (by omega) (fun a b a0 a1 b0 b1 => by rw [hW a b a0 a1 b0 b1]; exact if_iff _ _ (by omega)) (by omega)
  exact lp2 ((10 - (x1)) + 1).toNat x1 σ Mod.rf (by omega) (fun a b a0 a1 b0 b1 => by rw [if_neg (by omega)]) (by omega)
theorem dX0_measure_0 : decode cX0_measure 0 = .ok (.iconst 0, 1) := by decide +kernel
theorem dX0_measure_1 : decode cX0_measure 1 = .ok (.istore_n 1, 1) := by decide +kernel
theorem dX0_measure_2 : decode cX0_measure 2 = .ok (.iload_n 1, 1) := by decide +kernel
theorem dX0_measure_3 : decode cX0_measure 3 = .ok (.bipush 9, 2) := by decide +kernel
theorem dX0_measure_5 : decode cX0_measure 5 = .ok (.if_icmp .ge 40, 3) := by decide +kernel
theorem dX0_measure_8 : decode cX0_measure 8 = .ok (.iconst 0, 1) := by decide +kernel
theorem dX0_measure_9 : decode cX0_measure 9 = .ok (.istore_n 2, 1) := by decide +kernel
theorem dX0_measure_10 : decode cX0_measure 10 = .ok (.iload_n 2, 1) := by decide +kernel
theorem dX0_measure_11 : decode cX0_measure 11 = .ok (.bipush 9, 2) := by decide +kernel
theorem dX0_measure_13 : decode cX0_measure 13 = .ok (.if_icmp .ge 26, 3) := by decide +kernel
theorem dX0_measure_16 : decode cX0_measure 16 = .ok (.aload_n 0, 1) := by decide +kernel
theorem dX0_measure_17 : decode cX0_measure 17 = .ok (.getfield 18, 3) := by decide +kernel
theorem dX0_measure_20 : decode cX0_measure 20 = .ok (.iload_n 1, 1) := by decide +kernel
theorem dX0_measure_21 : decode cX0_measure 21 = .ok (.bipush 9, 2) := by decide +kernel
theorem dX0_measure_23 : decode cX0_measure 23 = .ok (.imul, 1) := by decide +kernel
theorem dX0_measure_24 : decode cX0_measure 24 = .ok (.iload_n 2, 1) := by decide +kernel
theorem dX0_measure_25 : decode cX0_measure 25 = .ok (.iadd, 1) := by decide +kernel
theorem dX0_measure_26 : decode cX0_measure 26 = .ok (.aload_n 0, 1) := by decide +kernel
theorem dX0_measure_27 : decode cX0_measure 27 = .ok (.iload_n 1, 1) := by decide +kernel
theorem dX0_measure_28 : decode cX0_measure 28 = .ok (.iload_n 2, 1) := by decide +kernel
theorem dX0_measure_29 : decode cX0_measure 29 = .ok (.invokevirtual 50, 3) := by decide +kernel
theorem dX0_measure_32 : decode cX0_measure 32 = .ok (.iastore, 1) := by decide +kernel
theorem dX0_measure_33 : decode cX0_measure 33 = .ok (.iinc 2 1, 3) := by decide +kernel
theorem dX0_measure_36 : decode cX0_measure 36 = .ok (.goto (-26), 3) := by decide +kernel
theorem dX0_measure_39 : decode cX0_measure 39 = .ok (.iinc 1 1, 3) := by decide +kernel
theorem dX0_measure_42 : decode cX0_measure 42 = .ok (.goto (-40), 3) := by decide +kernel
theorem dX0_measure_45 : decode cX0_measure 45 = .ok (.iconst 0, 1) := by decide +kernel
theorem dX0_measure_46 : decode cX0_measure 46 = .ok (.istore_n 1, 1) := by decide +kernel
theorem dX0_measure_47 : decode cX0_measure 47 = .ok (.iload_n 1, 1) := by decide +kernel
theorem dX0_measure_48 : decode cX0_measure 48 = .ok (.aload_n 0, 1) := by decide +kernel
theorem dX0_measure_49 : decode cX0_measure 49 = .ok (.invokevirtual 40, 3) := by decide +kernel
theorem dX0_measure_52 : decode cX0_measure 52 = .ok (.if_icmp .ge 20, 3) := by decide +kernel
theorem dX0_measure_55 : decode cX0_measure 55 = .ok (.iload_n 1, 1) := by decide +kernel
theorem dX0_measure_56 : decode cX0_measure 56 = .ok (.bipush 9, 2) := by decide +kernel
theorem dX0_measure_58 : decode cX0_measure 58 = .ok (.if_icmp .ge 14, 3) := by decide +kernel
theorem dX0_measure_61 : decode cX0_measure 61 = .ok (.aload_n 0, 1) := by decide +kernel
theorem dX0_measure_62 : decode cX0_measure 62 = .ok (.iload_n 1, 1) := by decide +kernel
theorem dX0_measure_63 : decode cX0_measure 63 = .ok (.invokevirtual 54, 3) := by decide +kernel
theorem dX0_measure_66 : decode cX0_measure 66 = .ok (.iinc 1 1, 3) := by decide +kernel
theorem dX0_measure_69 : decode cX0_measure 69 = .ok (.goto (-22), 3) := by decide +kernel
theorem dX0_measure_72 : decode cX0_measure 72 = .ok (.return_, 1) := by decide +kernel
set_option maxRecDepth 20000 in
set_option maxHeartbeats 4000000 in
theorem k_Gd_measure (l : Launch) (w : WT) (σ : MM) : CT SX l w yX0_measure cX0_measure 3 none 3 67 [.ref (w.2.2 10)] σ (PV fun σ1 => Mod [13] σ σ1 ∧ (WayOK (σ 11) (σ 56 0 * σ 57 0) (σ 57 0) (σ1 13))) := by
  refine CT.of 2 [some (.ref (w.2.2 10)), none, none] (by decide +kernel) (by simp [lg_sl, Value.category]) rfl sh_X (fun G hX => ?_)
  refine r_bd hX (fun hBd => ?_)
  have b_56 := hBd 56 1 3 rfl 0
  have b_57 := hBd 57 1 3 rfl 0
  have hn := mul_bd b_56 b_57
  refine r_iconst hX dX0_measure_0 ?_
  refine r_istore_n hX (fun x1 => [some (.ref (w.2.2 10)), some (.int (iI x1)), none]) dX0_measure_1 (Nat.le_of_ble_eq_true rfl) rfl rfl (fun _ => rfl) (fun x1 e1 => ?_)
  have lp2 : ∀ (n : Nat) (f : Int) (σ2 : MM) (m2 : Mod [13] σ σ2) (hf : 0 ≤ f ∧ f ≤ 9) (hS : ∀ a b : Int, 0 ≤ a → a < f → 0 ≤ b → b < 9 → SSt (σ 11) (σ 56 0 * σ 57 0) (σ 57 0) a b (σ2 13 (a * 9 + b))) (hmu : 10 - f < (n : Int)), G 2 [some (.ref (w.2.2 10)), some (.int (iI f)), none] [] σ2 := by
    intro n
    induction n with
    | zero => intro f σ2 m2 hf hS hmu; omega
    | succ n ih =>
      intro f σ2 m2 hf hS hmu
      have ih2 := ih
      clear ih
      refine r_iload_n hX dX0_measure_2 rfl ?_
      refine r_bipush hX dX0_measure_3 (by decide) ?_
      refine r_icmp_ge hX (tgt := 45) dX0_measure_5 (by decide) (by omega) (by omega) (fun c5 => ?_) (fun c5 => ?_)
      · skip
        refine r_iconst hX dX0_measure_45 ?_
        refine r_istore_n hX (fun x46 => [some (.ref (w.2.2 10)), some (.int (iI x46)), none]) dX0_measure_46 (Nat.le_of_ble_eq_true rfl) rfl rfl (fun _ => rfl) (fun x46 e46 => ?_)
        have lp47 : ∀ (n : Nat) (k : Int) (σ47 : MM) (m47 : Mod [13] σ2 σ47) (hk : 0 ≤ k ∧ k ≤ (σ 56 0 * σ 57 0)) (hF : FWI (σ 11) (σ 56 0 * σ 57 0) (σ 57 0) k (σ47 13)) (hmu : 10 - k < (n : Int)), G 47 [some (.ref (w.2.2 10)), some (.int (iI k)), none] [] σ47 := by
          intro n
          induction n with
          | zero => intro k σ47 m47 hk hF hmu; omega
          | succ n ih =>
            intro k σ47 m47 hk hF hmu
            have ih47 := ih
            clear ih
            refine r_iload_n hX dX0_measure_47 rfl ?_
            refine r_aload_n hX dX0_measure_48 rfl ?_
            refine r_callV hX dX0_measure_49 (k_Gd_cells l w σ47) mf_X0_cells mv_X0_cells lk_RX0_40 rfl rfl rfl rfl rfl ⟨Nat.le_of_ble_eq_true rfl, Nat.le_of_ble_eq_true rfl⟩ (Nat.le_of_ble_eq_true rfl) (kI fun z49 σ49 hh => ?_)
            obtain ⟨rfl, h49_0, h49_1⟩ := hh
            have q49_1 : σ47 56 = σ 56 := ((m47.at 56 rfl).trans (m2.at 56 rfl))
            have q49_2 : σ47 57 = σ 57 := ((m47.at 57 rfl).trans (m2.at 57 rfl))
            try simp only [q49_1, q49_2] at h49_0
            refine r_icmp_ge hX (tgt := 72) dX0_measure_52 (by decide) (by omega) (by omega) (fun c52 => ?_) (fun c52 => ?_)
            · skip
              exact r_ret hX dX0_measure_72 rfl ⟨rfl, ⟨(Mod.tr (L := [13]) m2 m47 rfl rfl), (by exact hF.fin (by omega) (by omega))⟩⟩
            · skip
              refine r_iload_n hX dX0_measure_55 rfl ?_
              refine r_bipush hX dX0_measure_56 (by decide) ?_
              refine r_icmp_ge hX (tgt := 72) dX0_measure_58 (by decide) (by omega) (by omega) (fun c58 => ?_) (fun c58 => ?_)
              · exfalso; omega
              · skip
                refine r_aload_n hX dX0_measure_61 rfl ?_
                refine r_iload_n hX dX0_measure_62 rfl ?_
                refine r_callV hX dX0_measure_63 (k_Gd_shortenThrough l w σ47 _ (by omega) (by omega) (hF.2.1)) mf_X0_shortenThrough mv_X0_shortenThrough lk_RX0_54 rfl rfl rfl rfl rfl ⟨Nat.le_of_ble_eq_true rfl, Nat.le_of_ble_eq_true rfl⟩ (Nat.le_of_ble_eq_true rfl) (kV fun σ63 hh => ?_)
                obtain ⟨m63, h63_0⟩ := hh
                refine r_iinc hX (fun x66 => [some (.ref (w.2.2 10)), some (.int (iI x66)), none]) dX0_measure_66 rfl rfl rfl (fun _ => rfl) (fun x66 e66 => ?_)
                refine r_goto hX dX0_measure_69 (tgt := 47) (by decide) ?_
                exact ih47 x66 σ63 (Mod.tr (L := [13]) m47 m63 rfl rfl) (by omega) (by rw [e66]; exact hF.next (by omega) (by omega) h63_0) (by omega)
        exact lp47 ((10 - (x46)) + 1).toNat x46 σ2 Mod.rf (by omega) (by rw [e46]; exact FWI.init (fun a b a0 a1 b0 b1 => hS a b a0 (by omega) b0 b1)) (by omega)
      · skip
        refine r_iconst hX dX0_measure_8 ?_
        refine r_istore_n hX (fun x9 => [some (.ref (w.2.2 10)), some (.int (iI f)), some (.int (iI x9))]) dX0_measure_9 (Nat.le_of_ble_eq_true rfl) rfl rfl (fun _ => rfl) (fun x9 e9 => ?_)
        have lp10 : ∀ (n : Nat) (t : Int) (σ10 : MM) (m10 : Mod [13] σ2 σ10) (ht : 0 ≤ t ∧ t ≤ 9) (hS2 : ∀ a b : Int, 0 ≤ a → a < 9 → 0 ≤ b → b < 9 → (a < f ∨ (a = f ∧ b < t)) → SSt (σ 11) (σ 56 0 * σ 57 0) (σ 57 0) a b (σ10 13 (a * 9 + b))) (hmu : 10 - t < (n : Int)), G 10 [some (.ref (w.2.2 10)), some (.int (iI f)), some (.int (iI t))] [] σ10 := by
          intro n
          induction n with
          | zero => intro t σ10 m10 ht hS2 hmu; omega
          | succ n ih =>
            intro t σ10 m10 ht hS2 hmu
            have ih10 := ih
            clear ih
            refine r_iload_n hX dX0_measure_10 rfl ?_
            refine r_bipush hX dX0_measure_11 (by decide) ?_
            refine r_icmp_ge hX (tgt := 39) dX0_measure_13 (by decide) (by omega) (by omega) (fun c13 => ?_) (fun c13 => ?_)
            · skip
              refine r_iinc hX (fun x39 => [some (.ref (w.2.2 10)), some (.int (iI x39)), some (.int (iI t))]) dX0_measure_39 rfl rfl rfl (fun _ => rfl) (fun x39 e39 => ?_)
              refine r_goto hX dX0_measure_42 (tgt := 2) (by decide) ?_
              refine r_wk hX (lv1 := [some (.ref (w.2.2 10)), some (.int (iI x39)), none]) ⟨rfl, ⟨rfl, trivial⟩⟩ ?_
              exact ih2 x39 σ10 (Mod.tr (L := [13]) m2 m10 rfl rfl) (by omega) (fun a b a0 a1 b0 b1 => hS2 a b a0 (by omega) b0 b1 (by omega)) (by omega)
            · skip
              refine r_aload_n hX dX0_measure_16 rfl ?_
              refine fg_X10_18 hX dX0_measure_17 ?_
              refine r_iload_n hX dX0_measure_20 rfl ?_
              refine r_bipush hX dX0_measure_21 (by decide) ?_
              refine r_imul hX dX0_measure_23 ?_
              refine r_iload_n hX dX0_measure_24 rfl ?_
              refine r_iadd hX dX0_measure_25 ?_
              refine r_aload_n hX dX0_measure_26 rfl ?_
              refine r_iload_n hX dX0_measure_27 rfl ?_
              refine r_iload_n hX dX0_measure_28 rfl ?_
              refine r_callV hX dX0_measure_29 (k_Gd_singleStep l w σ10 _ _ (by omega) (by omega) (by omega)) mf_X0_singleStep mv_X0_singleStep lk_RX0_50 rfl rfl rfl rfl rfl ⟨Nat.le_of_ble_eq_true rfl, Nat.le_of_ble_eq_true rfl⟩ (Nat.le_of_ble_eq_true rfl) (kI fun z29 σ29 hh => ?_)
              obtain ⟨rfl, h29_0, h29_1⟩ := hh
              have q29_3 : σ10 11 = σ 11 := ((m10.at 11 rfl).trans (m2.at 11 rfl))
              have q29_4 : σ10 56 = σ 56 := ((m10.at 56 rfl).trans (m2.at 56 rfl))
              have q29_5 : σ10 57 = σ 57 := ((m10.at 57 rfl).trans (m2.at 57 rfl))
              try simp only [q29_3, q29_4, q29_5] at h29_0
              refine st_X13 hX dX0_measure_32 (by omega) (by omega) (by omega) (fun σ32 m32 s32 => ?_)
              refine r_iinc hX (fun x33 => [some (.ref (w.2.2 10)), some (.int (iI f)), some (.int (iI x33))]) dX0_measure_33 rfl rfl rfl (fun _ => rfl) (fun x33 e33 => ?_)
              refine r_goto hX dX0_measure_36 (tgt := 10) (by decide) ?_
              exact ih10 x33 σ32 (Mod.tr (L := [13]) m10 m32 rfl rfl) (by omega) (pair_step hS2 s32 h29_0 e33 (by omega) (by omega)) (by omega)
        exact lp10 ((10 - (x9)) + 1).toNat x9 σ2 Mod.rf (by omega) (fun a b a0 a1 b0 b1 q => hS a b a0 (by omega) b0 b1) (by omega)
  exact lp2 ((10 - (x1)) + 1).toNat x1 σ Mod.rf (by omega) (fun a b a0 a1 b0 b1 => by omega) (by omega)
theorem dX0_renew_0 : decode cX0_renew 0 = .ok (.aload_n 0, 1) := by decide +kernel
theorem dX0_renew_1 : decode cX0_renew 1 = .ok (.iload_n 1, 1) := by decide +kernel
theorem dX0_renew_2 : decode cX0_renew 2 = .ok (.putfield 26, 3) := by decide +kernel
theorem dX0_renew_5 : decode cX0_renew 5 = .ok (.aload_n 0, 1) := by decide +kernel
theorem dX0_renew_6 : decode cX0_renew 6 = .ok (.iload_n 2, 1) := by decide +kernel
theorem dX0_renew_7 : decode cX0_renew 7 = .ok (.putfield 30, 3) := by decide +kernel
theorem dX0_renew_10 : decode cX0_renew 10 = .ok (.iconst 0, 1) := by decide +kernel
theorem dX0_renew_11 : decode cX0_renew 11 = .ok (.istore_n 3, 1) := by decide +kernel
theorem dX0_renew_12 : decode cX0_renew 12 = .ok (.iload_n 3, 1) := by decide +kernel
theorem dX0_renew_13 : decode cX0_renew 13 = .ok (.bipush 9, 2) := by decide +kernel
theorem dX0_renew_15 : decode cX0_renew 15 = .ok (.if_icmp .ge 23, 3) := by decide +kernel
theorem dX0_renew_18 : decode cX0_renew 18 = .ok (.aload_n 0, 1) := by decide +kernel
theorem dX0_renew_19 : decode cX0_renew 19 = .ok (.getfield 9, 3) := by decide +kernel
theorem dX0_renew_22 : decode cX0_renew 22 = .ok (.iload_n 3, 1) := by decide +kernel
theorem dX0_renew_23 : decode cX0_renew 23 = .ok (.iconst 0, 1) := by decide +kernel
theorem dX0_renew_24 : decode cX0_renew 24 = .ok (.bastore, 1) := by decide +kernel
theorem dX0_renew_25 : decode cX0_renew 25 = .ok (.aload_n 0, 1) := by decide +kernel
theorem dX0_renew_26 : decode cX0_renew 26 = .ok (.getfield 15, 3) := by decide +kernel
theorem dX0_renew_29 : decode cX0_renew 29 = .ok (.iload_n 3, 1) := by decide +kernel
theorem dX0_renew_30 : decode cX0_renew 30 = .ok (.iconst 1, 1) := by decide +kernel
theorem dX0_renew_31 : decode cX0_renew 31 = .ok (.bastore, 1) := by decide +kernel
theorem dX0_renew_32 : decode cX0_renew 32 = .ok (.iinc 3 1, 3) := by decide +kernel
theorem dX0_renew_35 : decode cX0_renew 35 = .ok (.goto (-23), 3) := by decide +kernel
theorem dX0_renew_38 : decode cX0_renew 38 = .ok (.aload_n 0, 1) := by decide +kernel
theorem dX0_renew_39 : decode cX0_renew 39 = .ok (.invokevirtual 33, 3) := by decide +kernel
theorem dX0_renew_42 : decode cX0_renew 42 = .ok (.return_, 1) := by decide +kernel
set_option maxRecDepth 20000 in
set_option maxHeartbeats 4000000 in
theorem k_Gd_renew (l : Launch) (w : WT) (σ : MM) (r : Int) (c : Int) (i_r : inr r) (i_c : inr c) (hr : 1 ≤ r ∧ r ≤ 3) (hc : 1 ≤ c ∧ c ≤ 3) : CT SX l w yX0_renew cX0_renew 4 none 4 89 [.ref (w.2.2 10), .int (iI r), .int (iI c)] σ (PV fun σ1 => Mod [11, 12, 13, 56, 57] σ σ1 ∧ (σ1 56 0 = r) ∧ (σ1 57 0 = c) ∧ (∀ b : Int, 0 ≤ b → b < 9 → σ1 11 b = 0 ∧ σ1 12 b = 1) ∧ (WayOK (σ1 11) (σ1 56 0 * σ1 57 0) (σ1 57 0) (σ1 13))) := by
  refine CT.of 1 [some (.ref (w.2.2 10)), some (.int (iI r)), some (.int (iI c)), none] (by decide +kernel) (by simp [lg_sl, Value.category]) rfl sh_X (fun G hX => ?_)
  refine r_aload_n hX dX0_renew_0 rfl ?_
  refine r_iload_n hX dX0_renew_1 rfl ?_
  refine fp_X10_26 hX dX0_renew_2 (by omega) (fun σ2 m2 s2 => ?_)
  refine r_aload_n hX dX0_renew_5 rfl ?_
  refine r_iload_n hX dX0_renew_6 rfl ?_
  refine fp_X10_30 hX dX0_renew_7 (by omega) (fun σ7 m7 s7 => ?_)
  refine r_iconst hX dX0_renew_10 ?_
  refine r_istore_n hX (fun x11 => [some (.ref (w.2.2 10)), some (.int (iI r)), some (.int (iI c)), some (.int (iI x11))]) dX0_renew_11 (Nat.le_of_ble_eq_true rfl) rfl rfl (fun _ => rfl) (fun x11 e11 => ?_)
  have lp12 : ∀ (n : Nat) (i : Int) (σ12 : MM) (m12 : Mod [11, 12] σ7 σ12) (hi : 0 ≤ i ∧ i ≤ 9) (hz : ∀ b : Int, 0 ≤ b → b < i → σ12 11 b = 0 ∧ σ12 12 b = 1) (hmu : 10 - i < (n : Int)), G 12 [some (.ref (w.2.2 10)), some (.int (iI r)), some (.int (iI c)), some (.int (iI i))] [] σ12 := by
    intro n
    induction n with
    | zero => intro i σ12 m12 hi hz hmu; omega
    | succ n ih =>
      intro i σ12 m12 hi hz hmu
      have ih12 := ih
      clear ih
      refine r_iload_n hX dX0_renew_12 rfl ?_
      refine r_bipush hX dX0_renew_13 (by decide) ?_
      refine r_icmp_ge hX (tgt := 38) dX0_renew_15 (by decide) (by omega) (by omega) (fun c15 => ?_) (fun c15 => ?_)
      · skip
        refine r_aload_n hX dX0_renew_38 rfl ?_
        refine r_callV hX dX0_renew_39 (k_Gd_measure l w σ12) mf_X0_measure mv_X0_measure lk_RX0_33 rfl rfl rfl rfl rfl ⟨Nat.le_of_ble_eq_true rfl, Nat.le_of_ble_eq_true rfl⟩ (Nat.le_of_ble_eq_true rfl) (kV fun σ39 hh => ?_)
        obtain ⟨m39, h39_0⟩ := hh
        have q39_1 : σ12 56 = σ2 56 := ((m12.at 56 rfl).trans (m7.at 56 rfl))
        have q39_2 : σ12 57 = σ7 57 := (m12.at 57 rfl)
        try simp only [q39_1, q39_2] at h39_0
        exact r_ret hX dX0_renew_42 rfl ⟨rfl, ⟨(Mod.tr (L := [11, 12, 13, 56, 57]) (Mod.tr (L := [11, 12, 13, 56, 57]) (Mod.tr (L := [11, 12, 13, 56, 57]) m2 m7 rfl rfl) m12 rfl rfl) m39 rfl rfl), (by rw [m39.at 56 rfl, m12.at 56 rfl, m7.at 56 rfl]; exact s2), (by rw [m39.at 57 rfl, m12.at 57 rfl]; exact s7), (fun b b0 b1 => by rw [m39.at 11 rfl, m39.at 12 rfl]; exact hz b b0 (by omega)), (by rw [m39.at 11 rfl, m39.at 56 rfl, m39.at 57 rfl, m12.at 56 rfl, m12.at 57 rfl, m7.at 56 rfl]; exact h39_0)⟩⟩
      · skip
        refine r_aload_n hX dX0_renew_18 rfl ?_
        refine fg_X10_9 hX dX0_renew_19 ?_
        refine r_iload_n hX dX0_renew_22 rfl ?_
        refine r_iconst hX dX0_renew_23 ?_
        refine st_X11 hX dX0_renew_24 (by omega) (by omega) (by omega) (fun σ24 m24 s24 => ?_)
        refine r_aload_n hX dX0_renew_25 rfl ?_
        refine fg_X10_15 hX dX0_renew_26 ?_
        refine r_iload_n hX dX0_renew_29 rfl ?_
        refine r_iconst hX dX0_renew_30 ?_
        refine st_X12 hX dX0_renew_31 (by omega) (by omega) (by omega) (fun σ31 m31 s31 => ?_)
        simp only [show σ24 12 = σ12 12 from (m24.at 12 rfl)] at s31
        refine r_iinc hX (fun x32 => [some (.ref (w.2.2 10)), some (.int (iI r)), some (.int (iI c)), some (.int (iI x32))]) dX0_renew_32 rfl rfl rfl (fun _ => rfl) (fun x32 e32 => ?_)
        refine r_goto hX dX0_renew_35 (tgt := 12) (by decide) ?_
        exact ih12 x32 σ31 (Mod.tr (L := [11, 12]) (Mod.tr (L := [11, 12]) m12 m24 rfl rfl) m31 rfl rfl) (by omega) (by rw [e32, m31.at 11 rfl]; exact two_step hz s24 s31) (by omega)
  exact lp12 ((10 - (x11)) + 1).toNat x11 σ7 Mod.rf (by omega) (fun b b0 b1 => by omega) (by omega)
theorem dX0_setBroken_0 : decode cX0_setBroken 0 = .ok (.aload_n 0, 1) := by decide +kernel
theorem dX0_setBroken_1 : decode cX0_setBroken 1 = .ok (.iload_n 1, 1) := by decide +kernel
theorem dX0_setBroken_2 : decode cX0_setBroken 2 = .ok (.invokevirtual 36, 3) := by decide +kernel
theorem dX0_setBroken_5 : decode cX0_setBroken 5 = .ok (.ifCond .eq 14, 3) := by decide +kernel
theorem dX0_setBroken_8 : decode cX0_setBroken 8 = .ok (.aload_n 0, 1) := by decide +kernel
theorem dX0_setBroken_9 : decode cX0_setBroken 9 = .ok (.getfield 9, 3) := by decide +kernel
theorem dX0_setBroken_12 : decode cX0_setBroken 12 = .ok (.iload_n 1, 1) := by decide +kernel
theorem dX0_setBroken_13 : decode cX0_setBroken 13 = .ok (.iload_n 2, 1) := by decide +kernel
theorem dX0_setBroken_14 : decode cX0_setBroken 14 = .ok (.bastore, 1) := by decide +kernel
theorem dX0_setBroken_15 : decode cX0_setBroken 15 = .ok (.aload_n 0, 1) := by decide +kernel
theorem dX0_setBroken_16 : decode cX0_setBroken 16 = .ok (.invokevirtual 33, 3) := by decide +kernel
theorem dX0_setBroken_19 : decode cX0_setBroken 19 = .ok (.return_, 1) := by decide +kernel
set_option maxRecDepth 20000 in
set_option maxHeartbeats 4000000 in
theorem k_Gd_setBroken (l : Launch) (w : WT) (σ : MM) (a : Int) (v : Int) (i_a : inr a) (i_v : inr v) (ha : 0 ≤ a ∧ a < σ 56 0 * σ 57 0) (hv : v = 0 ∨ v = 1) : CT SX l w yX0_setBroken cX0_setBroken 3 none 4 89 [.ref (w.2.2 10), .int (iI a), .int (iI v)] σ (PV fun σ1 => Mod [11, 13] σ σ1 ∧ (∀ b : Int, σ1 11 b = if b = a then v else σ 11 b) ∧ (WayOK (σ1 11) (σ1 56 0 * σ1 57 0) (σ1 57 0) (σ1 13))) := by
  refine CT.of 0 [some (.ref (w.2.2 10)), some (.int (iI a)), some (.int (iI v))] (by decide +kernel) (by simp [lg_sl, Value.category]) rfl sh_X (fun G hX => ?_)
  refine r_aload_n hX dX0_setBroken_0 rfl ?_
  refine r_iload_n hX dX0_setBroken_1 rfl ?_
  refine r_callV hX dX0_setBroken_2 (k_Gd_isThere l w σ _ (by omega)) mf_X0_isThere mv_X0_isThere lk_RX0_36 rfl rfl rfl rfl rfl ⟨Nat.le_of_ble_eq_true rfl, Nat.le_of_ble_eq_true rfl⟩ (Nat.le_of_ble_eq_true rfl) (kI fun z2 σ2 hh => ?_)
  obtain ⟨rfl, h2_0⟩ := hh
  refine r_if_eq hX (tgt := 19) dX0_setBroken_5 (by decide) (by omega) (fun c5 => ?_) (fun c5 => ?_)
  · exfalso; omega
  · skip
    refine r_aload_n hX dX0_setBroken_8 rfl ?_
    refine fg_X10_9 hX dX0_setBroken_9 ?_
    refine r_iload_n hX dX0_setBroken_12 rfl ?_
    refine r_iload_n hX dX0_setBroken_13 rfl ?_
    refine st_X11 hX dX0_setBroken_14 (by omega) (by omega) (by omega) (fun σ14 m14 s14 => ?_)
    refine r_aload_n hX dX0_setBroken_15 rfl ?_
    refine r_callV hX dX0_setBroken_16 (k_Gd_measure l w σ14) mf_X0_measure mv_X0_measure lk_RX0_33 rfl rfl rfl rfl rfl ⟨Nat.le_of_ble_eq_true rfl, Nat.le_of_ble_eq_true rfl⟩ (Nat.le_of_ble_eq_true rfl) (kV fun σ16 hh => ?_)
    obtain ⟨m16, h16_0⟩ := hh
    have q16_1 : σ14 56 = σ 56 := (m14.at 56 rfl)
    have q16_2 : σ14 57 = σ 57 := (m14.at 57 rfl)
    try simp only [q16_1, q16_2] at h16_0
    exact r_ret hX dX0_setBroken_19 rfl ⟨rfl, ⟨(Mod.tr (L := [11, 13]) m14 m16 rfl rfl), (by rw [m16.at 11 rfl]; exact s14), (by rw [m16.at 11 rfl, m16.at 56 rfl, m16.at 57 rfl, m14.at 56 rfl, m14.at 57 rfl]; exact h16_0)⟩⟩
set_option maxRecDepth 20000 in
set_option maxHeartbeats 4000000 in
theorem k_GG_cells (l : Launch) (w : WT) (σ : MM) : CT SG l w yX0_cells cX0_cells 1 (some .int) 0 0 [.ref (w.2.2 0)] σ (PI fun z σ1 => σ = σ1 ∧ (z = σ 56 0 * σ 57 0) ∧ (1 ≤ z ∧ z ≤ 9)) := by
  refine CT.of 0 [some (.ref (w.2.2 0))] (by decide +kernel) (by simp [lg_sl, Value.category]) rfl sh_G (fun G hX => ?_)
  refine r_bd hX (fun hBd => ?_)
  have b_56 := hBd 56 1 3 rfl 0
  have b_57 := hBd 57 1 3 rfl 0
  have hn := mul_bd b_56 b_57
  refine r_aload_n hX dX0_cells_0 rfl ?_
  refine fg_G10_26 hX dX0_cells_1 (fun b1l b1u => ?_)
  refine r_aload_n hX dX0_cells_4 rfl ?_
  refine fg_G10_30 hX dX0_cells_5 (fun b5l b5u => ?_)
  refine r_imul hX dX0_cells_8 ?_
  exact r_iret hX dX0_cells_9 rfl ⟨_, rfl, ⟨rfl, (by omega), (by omega)⟩⟩
set_option maxRecDepth 20000 in
set_option maxHeartbeats 4000000 in
theorem k_GG_isThere (l : Launch) (w : WT) (σ : MM) (a : Int) (i_a : inr a) : CT SG l w yX0_isThere cX0_isThere 2 (some .boolean) 0 0 [.ref (w.2.2 0), .int (iI a)] σ (PI fun z σ1 => σ = σ1 ∧ ((z = 1 ∧ 0 ≤ a ∧ a < σ 56 0 * σ 57 0 ∧ a < 9) ∨ (z = 0 ∧ (a < 0 ∨ σ 56 0 * σ 57 0 ≤ a)))) := by
  refine CT.of 0 [some (.ref (w.2.2 0)), some (.int (iI a))] (by decide +kernel) (by simp [lg_sl, Value.category]) rfl sh_G (fun G hX => ?_)
  refine r_bd hX (fun hBd => ?_)
  have b_56 := hBd 56 1 3 rfl 0
  have b_57 := hBd 57 1 3 rfl 0
  have hn := mul_bd b_56 b_57
  refine r_iload_n hX dX0_isThere_0 rfl ?_
  refine r_if_lt hX (tgt := 27) dX0_isThere_1 (by decide) (by omega) (fun c1 => ?_) (fun c1 => ?_)
  · skip
    refine r_iconst hX dX0_isThere_27 ?_
    exact r_zret hX dX0_isThere_28 rfl (by omega) ⟨_, rfl, ⟨rfl, (by omega)⟩⟩
  · skip
    refine r_iload_n hX dX0_isThere_4 rfl ?_
    refine r_aload_n hX dX0_isThere_5 rfl ?_
    refine fg_G10_26 hX dX0_isThere_6 (fun b6l b6u => ?_)
    refine r_aload_n hX dX0_isThere_9 rfl ?_
    refine fg_G10_30 hX dX0_isThere_10 (fun b10l b10u => ?_)
    refine r_imul hX dX0_isThere_13 ?_
    refine r_icmp_ge hX (tgt := 27) dX0_isThere_14 (by decide) (by omega) (by omega) (fun c14 => ?_) (fun c14 => ?_)
    · skip
      refine r_iconst hX dX0_isThere_27 ?_
      exact r_zret hX dX0_isThere_28 rfl (by omega) ⟨_, rfl, ⟨rfl, (by omega)⟩⟩
    · skip
      refine r_iload_n hX dX0_isThere_17 rfl ?_
      refine r_bipush hX dX0_isThere_18 (by decide) ?_
      refine r_icmp_ge hX (tgt := 27) dX0_isThere_20 (by decide) (by omega) (by omega) (fun c20 => ?_) (fun c20 => ?_)
      · skip
        refine r_iconst hX dX0_isThere_27 ?_
        exact r_zret hX dX0_isThere_28 rfl (by omega) ⟨_, rfl, ⟨rfl, (by omega)⟩⟩
      · skip
        refine r_iconst hX dX0_isThere_23 ?_
        refine r_goto hX dX0_isThere_24 (tgt := 28) (by decide) ?_
        exact r_zret hX dX0_isThere_28 rfl (by omega) ⟨_, rfl, ⟨rfl, (by omega)⟩⟩
set_option maxRecDepth 20000 in
set_option maxHeartbeats 4000000 in
theorem k_GG_isOpen (l : Launch) (w : WT) (σ : MM) (a : Int) (i_a : inr a) : CT SG l w yX0_isOpen cX0_isOpen 2 (some .boolean) 1 21 [.ref (w.2.2 0), .int (iI a)] σ (PI fun z σ1 => σ = σ1 ∧ ((z = 1 ∧ 0 ≤ a ∧ a < σ 56 0 * σ 57 0 ∧ σ 11 a = 0) ∨ (z = 0 ∧ (a < 0 ∨ σ 56 0 * σ 57 0 ≤ a ∨ σ 11 a = 1)))) := by
  refine CT.of 0 [some (.ref (w.2.2 0)), some (.int (iI a))] (by decide +kernel) (by simp [lg_sl, Value.category]) rfl sh_G (fun G hX => ?_)
  refine r_aload_n hX dX0_isOpen_0 rfl ?_
  refine r_iload_n hX dX0_isOpen_1 rfl ?_
  refine r_callV hX dX0_isOpen_2 (k_GG_isThere l w σ _ (by omega)) mf_X0_isThere mv_X0_isThere lk_RX0_36 rfl rfl rfl rfl rfl ⟨Nat.le_of_ble_eq_true rfl, Nat.le_of_ble_eq_true rfl⟩ (Nat.le_of_ble_eq_true rfl) (kI fun z2 σ2 hh => ?_)
  obtain ⟨rfl, h2_0⟩ := hh
  refine r_if_eq hX (tgt := 21) dX0_isOpen_5 (by decide) (by omega) (fun c5 => ?_) (fun c5 => ?_)
  · skip
    refine r_iconst hX dX0_isOpen_21 ?_
    exact r_zret hX dX0_isOpen_22 rfl (by omega) ⟨_, rfl, ⟨rfl, (by omega)⟩⟩
  · skip
    refine r_aload_n hX dX0_isOpen_8 rfl ?_
    refine fg_G10_9 hX dX0_isOpen_9 ?_
    refine r_iload_n hX dX0_isOpen_12 rfl ?_
    refine ld_G11 hX dX0_isOpen_13 (by omega) (by omega) (fun b13l b13u => ?_)
    refine r_if_ne hX (tgt := 21) dX0_isOpen_14 (by decide) (by omega) (fun c14 => ?_) (fun c14 => ?_)
    · skip
      refine r_iconst hX dX0_isOpen_21 ?_
      exact r_zret hX dX0_isOpen_22 rfl (by omega) ⟨_, rfl, ⟨rfl, (by omega)⟩⟩
    · skip
      refine r_iconst hX dX0_isOpen_17 ?_
      refine r_goto hX dX0_isOpen_18 (tgt := 22) (by decide) ?_
      exact r_zret hX dX0_isOpen_22 rfl (by omega) ⟨_, rfl, ⟨rfl, (by omega)⟩⟩
set_option maxRecDepth 20000 in
set_option maxHeartbeats 4000000 in
theorem k_GG_areNeighbours (l : Launch) (w : WT) (σ : MM) (a : Int) (b : Int) (i_a : inr a) (i_b : inr b) (hab : 0 ≤ a ∧ a < 9 ∧ 0 ≤ b ∧ b < 9) : CT SG l w yX0_areNeighbours cX0_areNeighbours 5 (some .boolean) 1 21 [.ref (w.2.2 0), .int (iI a), .int (iI b)] σ (PI fun z σ1 => σ = σ1 ∧ ((z = 1 ∧ Nbr (σ 57 0) a b) ∨ (z = 0 ∧ ¬ Nbr (σ 57 0) a b))) := by
  refine CT.of 2 [some (.ref (w.2.2 0)), some (.int (iI a)), some (.int (iI b)), none, none] (by decide +kernel) (by simp [lg_sl, Value.category]) rfl sh_G (fun G hX => ?_)
  refine r_bd hX (fun hBd => ?_)
  have b_57 := hBd 57 1 3 rfl 0
  have d1 := Int.ediv_nonneg hab.1 (show (0 : Int) ≤ σ 57 0 by omega)
  have d2 := Int.ediv_nonneg hab.2.2.1 (show (0 : Int) ≤ σ 57 0 by omega)
  have d3 := Int.ediv_le_self (b := σ 57 0) hab.1
  have d4 := Int.ediv_le_self (b := σ 57 0) hab.2.2.1
  have d5 := Int.emod_nonneg a (show σ 57 0 ≠ 0 by omega)
  have d6 := Int.emod_nonneg b (show σ 57 0 ≠ 0 by omega)
  have d7 := Int.emod_lt_of_pos a (show (0 : Int) < σ 57 0 by omega)
  have d8 := Int.emod_lt_of_pos b (show (0 : Int) < σ 57 0 by omega)
  refine r_aload_n hX dX0_areNeighbours_0 rfl ?_
  refine fg_G10_30 hX dX0_areNeighbours_1 (fun b1l b1u => ?_)
  refine r_iconst hX dX0_areNeighbours_4 ?_
  refine r_icmp_ge hX (tgt := 10) dX0_areNeighbours_5 (by decide) (by omega) (by omega) (fun c5 => ?_) (fun c5 => ?_)
  · skip
    refine r_iload_n hX dX0_areNeighbours_10 rfl ?_
    refine r_aload_n hX dX0_areNeighbours_11 rfl ?_
    refine fg_G10_30 hX dX0_areNeighbours_12 (fun b12l b12u => ?_)
    refine r_idiv hX dX0_areNeighbours_15 (by omega) (by omega) (by omega) (by omega) ?_
    refine r_iload_n hX dX0_areNeighbours_16 rfl ?_
    refine r_aload_n hX dX0_areNeighbours_17 rfl ?_
    refine fg_G10_30 hX dX0_areNeighbours_18 (fun b18l b18u => ?_)
    refine r_idiv hX dX0_areNeighbours_21 (by omega) (by omega) (by omega) (by omega) ?_
    refine r_isub hX dX0_areNeighbours_22 ?_
    refine r_abs hX dX0_areNeighbours_23 lq_RX0_62 ma_abs_s ma_i ma_abs_c (Nat.le_of_ble_eq_true rfl) (Nat.le_of_ble_eq_true rfl) (by omega) (fun z23 h23 => ?_)
    refine r_istore_n hX (fun x26 => [some (.ref (w.2.2 0)), some (.int (iI a)), some (.int (iI b)), some (.int (iI x26)), none]) dX0_areNeighbours_26 (Nat.le_of_ble_eq_true rfl) rfl rfl (fun _ => rfl) (fun x26 e26 => ?_)
    refine r_iload_n hX dX0_areNeighbours_27 rfl ?_
    refine r_aload_n hX dX0_areNeighbours_28 rfl ?_
    refine fg_G10_30 hX dX0_areNeighbours_29 (fun b29l b29u => ?_)
    refine r_irem hX dX0_areNeighbours_32 (by omega) (by omega) (by omega) (by omega) ?_
    refine r_iload_n hX dX0_areNeighbours_33 rfl ?_
    refine r_aload_n hX dX0_areNeighbours_34 rfl ?_
    refine fg_G10_30 hX dX0_areNeighbours_35 (fun b35l b35u => ?_)
    refine r_irem hX dX0_areNeighbours_38 (by omega) (by omega) (by omega) (by omega) ?_
    refine r_isub hX dX0_areNeighbours_39 ?_
    refine r_abs hX dX0_areNeighbours_40 lq_RX0_62 ma_abs_s ma_i ma_abs_c (Nat.le_of_ble_eq_true rfl) (Nat.le_of_ble_eq_true rfl) (by omega) (fun z40 h40 => ?_)
    refine r_istore hX (fun x43 => [some (.ref (w.2.2 0)), some (.int (iI a)), some (.int (iI b)), some (.int (iI x26)), some (.int (iI x43))]) dX0_areNeighbours_43 (Nat.le_of_ble_eq_true rfl) rfl rfl (fun _ => rfl) (fun x43 e43 => ?_)
    refine r_iload_n hX dX0_areNeighbours_45 rfl ?_
    refine r_iload hX dX0_areNeighbours_46 rfl ?_
    refine r_iadd hX dX0_areNeighbours_48 ?_
    refine r_iconst hX dX0_areNeighbours_49 ?_
    refine r_icmp_ne hX (tgt := 57) dX0_areNeighbours_50 (by decide) (by omega) (by omega) (fun c50 => ?_) (fun c50 => ?_)
    · skip
      refine r_iconst hX dX0_areNeighbours_57 ?_
      exact r_zret hX dX0_areNeighbours_58 rfl (by omega) ⟨_, rfl, ⟨rfl, (by first | exact Or.inl ⟨rfl, by unfold Nbr; omega⟩ | exact Or.inr ⟨rfl, by unfold Nbr; omega⟩)⟩⟩
    · skip
      refine r_iconst hX dX0_areNeighbours_53 ?_
      refine r_goto hX dX0_areNeighbours_54 (tgt := 58) (by decide) ?_
      exact r_zret hX dX0_areNeighbours_58 rfl (by omega) ⟨_, rfl, ⟨rfl, (by first | exact Or.inl ⟨rfl, by unfold Nbr; omega⟩ | exact Or.inr ⟨rfl, by unfold Nbr; omega⟩)⟩⟩
  · exfalso; omega
set_option maxRecDepth 20000 in
set_option maxHeartbeats 4000000 in
theorem k_GG_singleStep (l : Launch) (w : WT) (σ : MM) (a : Int) (b : Int) (i_a : inr a) (i_b : inr b) (hab : 0 ≤ a ∧ a < 9 ∧ 0 ≤ b ∧ b < 9) : CT SG l w yX0_singleStep cX0_singleStep 3 (some .int) 2 45 [.ref (w.2.2 0), .int (iI a), .int (iI b)] σ (PI fun z σ1 => σ = σ1 ∧ (SSt (σ 11) (σ 56 0 * σ 57 0) (σ 57 0) a b z) ∧ (0 ≤ z ∧ z ≤ 1000)) := by
  refine CT.of 0 [some (.ref (w.2.2 0)), some (.int (iI a)), some (.int (iI b))] (by decide +kernel) (by simp [lg_sl, Value.category]) rfl sh_G (fun G hX => ?_)
  refine r_iload_n hX dX0_singleStep_0 rfl ?_
  refine r_iload_n hX dX0_singleStep_1 rfl ?_
  refine r_icmp_ne hX (tgt := 7) dX0_singleStep_2 (by decide) (by omega) (by omega) (fun c2 => ?_) (fun c2 => ?_)
  · skip
    refine r_aload_n hX dX0_singleStep_7 rfl ?_
    refine r_iload_n hX dX0_singleStep_8 rfl ?_
    refine r_callV hX dX0_singleStep_9 (k_GG_isOpen l w σ _ (by omega)) mf_X0_isOpen mv_X0_isOpen lk_RX0_44 rfl rfl rfl rfl rfl ⟨Nat.le_of_ble_eq_true rfl, Nat.le_of_ble_eq_true rfl⟩ (Nat.le_of_ble_eq_true rfl) (kI fun z9 σ9 hh => ?_)
    obtain ⟨rfl, h9_0⟩ := hh
    refine r_if_eq hX (tgt := 36) dX0_singleStep_12 (by decide) (by omega) (fun c12 => ?_) (fun c12 => ?_)
    · skip
      refine r_sipush hX dX0_singleStep_36 (by decide) ?_
      exact r_iret hX dX0_singleStep_39 rfl ⟨_, rfl, ⟨rfl, (by first | exact Or.inr (Or.inl ⟨c2, ⟨⟨by omega, by omega, by omega⟩, ⟨by omega, by omega, by omega⟩, cf_yes h26_0 (by omega)⟩, rfl⟩) | exact Or.inr (Or.inr ⟨c2, fun q => (by have q1 := q.1.1; have q2 := q.1.2.1; have q3 := q.1.2.2; have q4 := q.2.1.1; have q5 := q.2.1.2.1; have q6 := q.2.1.2.2; first | omega | exact cf_no h26_0 (by omega) q.2.2), rfl⟩)), (by omega)⟩⟩
    · skip
      refine r_aload_n hX dX0_singleStep_15 rfl ?_
      refine r_iload_n hX dX0_singleStep_16 rfl ?_
      refine r_callV hX dX0_singleStep_17 (k_GG_isOpen l w σ _ (by omega)) mf_X0_isOpen mv_X0_isOpen lk_RX0_44 rfl rfl rfl rfl rfl ⟨Nat.le_of_ble_eq_true rfl, Nat.le_of_ble_eq_true rfl⟩ (Nat.le_of_ble_eq_true rfl) (kI fun z17 σ17 hh => ?_)
      obtain ⟨rfl, h17_0⟩ := hh
      refine r_if_eq hX (tgt := 36) dX0_singleStep_20 (by decide) (by omega) (fun c20 => ?_) (fun c20 => ?_)
      · skip
        refine r_sipush hX dX0_singleStep_36 (by decide) ?_
        exact r_iret hX dX0_singleStep_39 rfl ⟨_, rfl, ⟨rfl, (by first | exact Or.inr (Or.inl ⟨c2, ⟨⟨by omega, by omega, by omega⟩, ⟨by omega, by omega, by omega⟩, cf_yes h26_0 (by omega)⟩, rfl⟩) | exact Or.inr (Or.inr ⟨c2, fun q => (by have q1 := q.1.1; have q2 := q.1.2.1; have q3 := q.1.2.2; have q4 := q.2.1.1; have q5 := q.2.1.2.1; have q6 := q.2.1.2.2; first | omega | exact cf_no h26_0 (by omega) q.2.2), rfl⟩)), (by omega)⟩⟩
      · skip
        refine r_aload_n hX dX0_singleStep_23 rfl ?_
        refine r_iload_n hX dX0_singleStep_24 rfl ?_
        refine r_iload_n hX dX0_singleStep_25 rfl ?_
        refine r_callV hX dX0_singleStep_26 (k_GG_areNeighbours l w σ _ _ (by omega) (by omega) (by omega)) mf_X0_areNeighbours mv_X0_areNeighbours lk_RX0_58 rfl rfl rfl rfl rfl ⟨Nat.le_of_ble_eq_true rfl, Nat.le_of_ble_eq_true rfl⟩ (Nat.le_of_ble_eq_true rfl) (kI fun z26 σ26 hh => ?_)
        obtain ⟨rfl, h26_0⟩ := hh
        refine r_if_eq hX (tgt := 36) dX0_singleStep_29 (by decide) (by omega) (fun c29 => ?_) (fun c29 => ?_)
        · skip
          refine r_sipush hX dX0_singleStep_36 (by decide) ?_
          exact r_iret hX dX0_singleStep_39 rfl ⟨_, rfl, ⟨rfl, (by first | exact Or.inr (Or.inl ⟨c2, ⟨⟨by omega, by omega, by omega⟩, ⟨by omega, by omega, by omega⟩, cf_yes h26_0 (by omega)⟩, rfl⟩) | exact Or.inr (Or.inr ⟨c2, fun q => (by have q1 := q.1.1; have q2 := q.1.2.1; have q3 := q.1.2.2; have q4 := q.2.1.1; have q5 := q.2.1.2.1; have q6 := q.2.1.2.2; first | omega | exact cf_no h26_0 (by omega) q.2.2), rfl⟩)), (by omega)⟩⟩
        · skip
          refine r_iconst hX dX0_singleStep_32 ?_
          refine r_goto hX dX0_singleStep_33 (tgt := 39) (by decide) ?_
          exact r_iret hX dX0_singleStep_39 rfl ⟨_, rfl, ⟨rfl, (by first | exact Or.inr (Or.inl ⟨c2, ⟨⟨by omega, by omega, by omega⟩, ⟨by omega, by omega, by omega⟩, cf_yes h26_0 (by omega)⟩, rfl⟩) | exact Or.inr (Or.inr ⟨c2, fun q => (by have q1 := q.1.1; have q2 := q.1.2.1; have q3 := q.1.2.2; have q4 := q.2.1.1; have q5 := q.2.1.2.1; have q6 := q.2.1.2.2; first | omega | exact cf_no h26_0 (by omega) q.2.2), rfl⟩)), (by omega)⟩⟩
  · skip
    refine r_iconst hX dX0_singleStep_5 ?_
    exact r_iret hX dX0_singleStep_6 rfl ⟨_, rfl, ⟨rfl, (by exact Or.inl ⟨c2, rfl⟩), (by omega)⟩⟩
set_option maxRecDepth 20000 in
set_option maxHeartbeats 4000000 in
theorem k_GG_shortenThrough (l : Launch) (w : WT) (σ : MM) (m : Int) (i_m : inr m) (hm : 0 ≤ m ∧ m < 9) (hz : ∀ a : Int, 0 ≤ a → a < 9 → σ 13 (a * 9 + a) = 0) : CT SG l w yX0_shortenThrough cX0_shortenThrough 5 none 0 0 [.ref (w.2.2 0), .int (iI m)] σ (PV fun σ1 => Mod [13] σ σ1 ∧ (Fw (σ 13) (σ1 13) m)) := by
  refine CT.of 3 [some (.ref (w.2.2 0)), some (.int (iI m)), none, none, none] (by decide +kernel) (by simp [lg_sl, Value.category]) rfl sh_G (fun G hX => ?_)
  refine r_iconst hX dX0_shortenThrough_0 ?_
  refine r_istore_n hX (fun x1 => [some (.ref (w.2.2 0)), some (.int (iI m)), some (.int (iI x1)), none, none]) dX0_shortenThrough_1 (Nat.le_of_ble_eq_true rfl) rfl rfl (fun _ => rfl) (fun x1 e1 => ?_)
  have lp2 : ∀ (n : Nat) (f : Int) (σ2 : MM) (m2 : Mod [13] σ σ2) (hf : 0 ≤ f ∧ f ≤ 9) (hW : ∀ a b : Int, 0 ≤ a → a < 9 → 0 ≤ b → b < 9 → σ2 13 (a * 9 + b) = if a < f ∨ (a = f ∧ b < 0) then (if σ 13 (a * 9 + m) + σ 13 (m * 9 + b) < σ 13 (a * 9 + b) then σ 13 (a * 9 + m) + σ 13 (m * 9 + b) else σ 13 (a * 9 + b)) else σ 13 (a * 9 + b)) (hmu : 10 - f < (n : Int)), G 2 [some (.ref (w.2.2 0)), some (.int (iI m)), some (.int (iI f)), none, none] [] σ2 := by
    intro n
    induction n with
    | zero => intro f σ2 m2 hf hW hmu; omega
    | succ n ih =>
      intro f σ2 m2 hf hW hmu
      have ih2 := ih
      clear ih
      refine r_iload_n hX dX0_shortenThrough_2 rfl ?_
      refine r_bipush hX dX0_shortenThrough_3 (by decide) ?_
      refine r_icmp_ge hX (tgt := 82) dX0_shortenThrough_5 (by decide) (by omega) (by omega) (fun c5 => ?_) (fun c5 => ?_)
      · skip
        exact r_ret hX dX0_shortenThrough_82 rfl ⟨rfl, ⟨(m2.w rfl), (fun a b a0 a1 b0 b1 => by rw [hW a b a0 a1 b0 b1, if_pos (by omega)])⟩⟩
      · skip
        refine r_iconst hX dX0_shortenThrough_8 ?_
        refine r_istore_n hX (fun x9 => [some (.ref (w.2.2 0)), some (.int (iI m)), some (.int (iI f)), some (.int (iI x9)), none]) dX0_shortenThrough_9 (Nat.le_of_ble_eq_true rfl) rfl rfl (fun _ => rfl) (fun x9 e9 => ?_)
        have lp10 : ∀ (n : Nat) (t : Int) (σ10 : MM) (m10 : Mod [13] σ2 σ10) (ht : 0 ≤ t ∧ t ≤ 9) (hW2 : ∀ a b : Int, 0 ≤ a → a < 9 → 0 ≤ b → b < 9 → σ10 13 (a * 9 + b) = if a < f ∨ (a = f ∧ b < t) then (if σ 13 (a * 9 + m) + σ 13 (m * 9 + b) < σ 13 (a * 9 + b) then σ 13 (a * 9 + m) + σ 13 (m * 9 + b) else σ 13 (a * 9 + b)) else σ 13 (a * 9 + b)) (hmu : 10 - t < (n : Int)), G 10 [some (.ref (w.2.2 0)), some (.int (iI m)), some (.int (iI f)), some (.int (iI t)), none] [] σ10 := by
          intro n
          induction n with
          | zero => intro t σ10 m10 ht hW2 hmu; omega
          | succ n ih =>
            intro t σ10 m10 ht hW2 hmu
            have ih10 := ih
            clear ih
            refine r_iload_n hX dX0_shortenThrough_10 rfl ?_
            refine r_bipush hX dX0_shortenThrough_11 (by decide) ?_
            refine r_icmp_ge hX (tgt := 76) dX0_shortenThrough_13 (by decide) (by omega) (by omega) (fun c13 => ?_) (fun c13 => ?_)
            · skip
              refine r_iinc hX (fun x76 => [some (.ref (w.2.2 0)), some (.int (iI m)), some (.int (iI x76)), some (.int (iI t)), none]) dX0_shortenThrough_76 rfl rfl rfl (fun _ => rfl) (fun x76 e76 => ?_)
              refine r_goto hX dX0_shortenThrough_79 (tgt := 2) (by decide) ?_
              refine r_wk hX (lv1 := [some (.ref (w.2.2 0)), some (.int (iI m)), some (.int (iI x76)), none, none]) ⟨rfl, ⟨rfl, ⟨rfl, trivial⟩⟩⟩ ?_
              exact ih2 x76 σ10 (Mod.tr (L := [13]) m2 m10 rfl rfl) (by omega) (fun a b a0 a1 b0 b1 => by rw [hW2 a b a0 a1 b0 b1]; exact if_iff _ _ (by omega)) (by omega)
            · skip
              refine r_aload_n hX dX0_shortenThrough_16 rfl ?_
              refine fg_G10_18 hX dX0_shortenThrough_17 ?_
              refine r_iload_n hX dX0_shortenThrough_20 rfl ?_
              refine r_bipush hX dX0_shortenThrough_21 (by decide) ?_
              refine r_imul hX dX0_shortenThrough_23 ?_
              refine r_iload_n hX dX0_shortenThrough_24 rfl ?_
              refine r_iadd hX dX0_shortenThrough_25 ?_
              refine ld_G13 hX dX0_shortenThrough_26 (by omega) (by omega) (fun b26l b26u => ?_)
              refine r_aload_n hX dX0_shortenThrough_27 rfl ?_
              refine fg_G10_18 hX dX0_shortenThrough_28 ?_
              refine r_iload_n hX dX0_shortenThrough_31 rfl ?_
              refine r_bipush hX dX0_shortenThrough_32 (by decide) ?_
              refine r_imul hX dX0_shortenThrough_34 ?_
              refine r_iload_n hX dX0_shortenThrough_35 rfl ?_
              refine r_iadd hX dX0_shortenThrough_36 ?_
              refine ld_G13 hX dX0_shortenThrough_37 (by omega) (by omega) (fun b37l b37u => ?_)
              refine r_iadd hX dX0_shortenThrough_38 ?_
              refine r_istore hX (fun x39 => [some (.ref (w.2.2 0)), some (.int (iI m)), some (.int (iI f)), some (.int (iI t)), some (.int (iI x39))]) dX0_shortenThrough_39 (Nat.le_of_ble_eq_true rfl) rfl rfl (fun _ => rfl) (fun x39 e39 => ?_)
              refine r_iload hX dX0_shortenThrough_41 rfl ?_
              refine r_aload_n hX dX0_shortenThrough_43 rfl ?_
              refine fg_G10_18 hX dX0_shortenThrough_44 ?_
              refine r_iload_n hX dX0_shortenThrough_47 rfl ?_
              refine r_bipush hX dX0_shortenThrough_48 (by decide) ?_
              refine r_imul hX dX0_shortenThrough_50 ?_
              refine r_iload_n hX dX0_shortenThrough_51 rfl ?_
              refine r_iadd hX dX0_shortenThrough_52 ?_
              refine ld_G13 hX dX0_shortenThrough_53 (by omega) (by omega) (fun b53l b53u => ?_)
              refine r_icmp_ge hX (tgt := 70) dX0_shortenThrough_54 (by decide) (by omega) (by omega) (fun c54 => ?_) (fun c54 => ?_)
              · skip
                refine r_iinc hX (fun x70 => [some (.ref (w.2.2 0)), some (.int (iI m)), some (.int (iI f)), some (.int (iI x70)), some (.int (iI x39))]) dX0_shortenThrough_70 rfl rfl rfl (fun _ => rfl) (fun x70 e70 => ?_)
                refine r_goto hX dX0_shortenThrough_73 (tgt := 10) (by decide) ?_
                refine r_wk hX (lv1 := [some (.ref (w.2.2 0)), some (.int (iI m)), some (.int (iI f)), some (.int (iI x70)), none]) ⟨rfl, ⟨rfl, ⟨rfl, ⟨rfl, trivial⟩⟩⟩⟩ ?_
                exact ih10 x70 σ10 (m10.w rfl) (by omega) (fun a b a0 a1 b0 b1 => fw_step (f := f) (t := t) (m := m) hm (by omega) (by omega) hW2 hz e39 (by first | exact Or.inl ⟨s69, by omega⟩ | exact Or.inr ⟨rfl, by omega⟩) e70 a b a0 a1 b0 b1) (by omega)
              · skip
                refine r_aload_n hX dX0_shortenThrough_57 rfl ?_
                refine fg_G10_18 hX dX0_shortenThrough_58 ?_
                refine r_iload_n hX dX0_shortenThrough_61 rfl ?_
                refine r_bipush hX dX0_shortenThrough_62 (by decide) ?_
                refine r_imul hX dX0_shortenThrough_64 ?_
                refine r_iload_n hX dX0_shortenThrough_65 rfl ?_
                refine r_iadd hX dX0_shortenThrough_66 ?_
                refine r_iload hX dX0_shortenThrough_67 rfl ?_
                refine st_G13 hX dX0_shortenThrough_69 (by omega) (by omega) (by omega) (fun σ69 m69 s69 => ?_)
                refine r_iinc hX (fun x70 => [some (.ref (w.2.2 0)), some (.int (iI m)), some (.int (iI f)), some (.int (iI x70)), some (.int (iI x39))]) dX0_shortenThrough_70 rfl rfl rfl (fun _ => rfl) (fun x70 e70 => ?_)
                refine r_goto hX dX0_shortenThrough_73 (tgt := 10) (by decide) ?_
                refine r_wk hX (lv1 := [some (.ref (w.2.2 0)), some (.int (iI m)), some (.int (iI f)), some (.int (iI x70)), none]) ⟨rfl, ⟨rfl, ⟨rfl, ⟨rfl, trivial⟩⟩⟩⟩ ?_
                exact ih10 x70 σ69 (Mod.tr (L := [13]) m10 m69 rfl rfl) (by omega) (fun a b a0 a1 b0 b1 => fw_step (f := f) (t := t) (m := m) hm (by omega) (by omega) hW2 hz e39 (by first | exact Or.inl ⟨s69, by omega⟩ | exact Or.inr ⟨rfl, by omega⟩) e70 a b a0 a1 b0 b1) (by omega)
        exact lp10 ((10 - (x9)) + 1).toNat x9 σ2 Mod.rf (by omega) (fun a b a0 a1 b0 b1 => by rw [hW a b a0 a1 b0 b1]; exact if_iff _ _ (by omega)) (by omega)
  exact lp2 ((10 - (x1)) + 1).toNat x1 σ Mod.rf (by omega) (fun a b a0 a1 b0 b1 => by rw [if_neg (by omega)]) (by omega)
set_option maxRecDepth 20000 in
set_option maxHeartbeats 4000000 in
theorem k_GG_measure (l : Launch) (w : WT) (σ : MM) : CT SG l w yX0_measure cX0_measure 3 none 3 67 [.ref (w.2.2 0)] σ (PV fun σ1 => Mod [13] σ σ1 ∧ (WayOK (σ 11) (σ 56 0 * σ 57 0) (σ 57 0) (σ1 13))) := by
  refine CT.of 2 [some (.ref (w.2.2 0)), none, none] (by decide +kernel) (by simp [lg_sl, Value.category]) rfl sh_G (fun G hX => ?_)
  refine r_bd hX (fun hBd => ?_)
  have b_56 := hBd 56 1 3 rfl 0
  have b_57 := hBd 57 1 3 rfl 0
  have hn := mul_bd b_56 b_57
  refine r_iconst hX dX0_measure_0 ?_
  refine r_istore_n hX (fun x1 => [some (.ref (w.2.2 0)), some (.int (iI x1)), none]) dX0_measure_1 (Nat.le_of_ble_eq_true rfl) rfl rfl (fun _ => rfl) (fun x1 e1 => ?_)
  have lp2 : ∀ (n : Nat) (f : Int) (σ2 : MM) (m2 : Mod [13] σ σ2) (hf : 0 ≤ f ∧ f ≤ 9) (hS : ∀ a b : Int, 0 ≤ a → a < f → 0 ≤ b → b < 9 → SSt (σ 11) (σ 56 0 * σ 57 0) (σ 57 0) a b (σ2 13 (a * 9 + b))) (hmu : 10 - f < (n : Int)), G 2 [some (.ref (w.2.2 0)), some (.int (iI f)), none] [] σ2 := by
    intro n
    induction n with
    | zero => intro f σ2 m2 hf hS hmu; omega
    | succ n ih =>
      intro f σ2 m2 hf hS hmu
      have ih2 := ih
      clear ih
      refine r_iload_n hX dX0_measure_2 rfl ?_
      refine r_bipush hX dX0_measure_3 (by decide) ?_
      refine r_icmp_ge hX (tgt := 45) dX0_measure_5 (by decide) (by omega) (by omega) (fun c5 => ?_) (fun c5 => ?_)
      · skip
        refine r_iconst hX dX0_measure_45 ?_
        refine r_istore_n hX (fun x46 => [some (.ref (w.2.2 0)), some (.int (iI x46)), none]) dX0_measure_46 (Nat.le_of_ble_eq_true rfl) rfl rfl (fun _ => rfl) (fun x46 e46 => ?_)
        have lp47 : ∀ (n : Nat) (k : Int) (σ47 : MM) (m47 : Mod [13] σ2 σ47) (hk : 0 ≤ k ∧ k ≤ (σ 56 0 * σ 57 0)) (hF : FWI (σ 11) (σ 56 0 * σ 57 0) (σ 57 0) k (σ47 13)) (hmu : 10 - k < (n : Int)), G 47 [some (.ref (w.2.2 0)), some (.int (iI k)), none] [] σ47 := by
          intro n
          induction n with
          | zero => intro k σ47 m47 hk hF hmu; omega
          | succ n ih =>
            intro k σ47 m47 hk hF hmu
            have ih47 := ih
            clear ih
            refine r_iload_n hX dX0_measure_47 rfl ?_
            refine r_aload_n hX dX0_measure_48 rfl ?_
            refine r_callV hX dX0_measure_49 (k_GG_cells l w σ47) mf_X0_cells mv_X0_cells lk_RX0_40 rfl rfl rfl rfl rfl ⟨Nat.le_of_ble_eq_true rfl, Nat.le_of_ble_eq_true rfl⟩ (Nat.le_of_ble_eq_true rfl) (kI fun z49 σ49 hh => ?_)
            obtain ⟨rfl, h49_0, h49_1⟩ := hh
            have q49_1 : σ47 56 = σ 56 := ((m47.at 56 rfl).trans (m2.at 56 rfl))
            have q49_2 : σ47 57 = σ 57 := ((m47.at 57 rfl).trans (m2.at 57 rfl))
            try simp only [q49_1, q49_2] at h49_0
            refine r_icmp_ge hX (tgt := 72) dX0_measure_52 (by decide) (by omega) (by omega) (fun c52 => ?_) (fun c52 => ?_)
            · skip
              exact r_ret hX dX0_measure_72 rfl ⟨rfl, ⟨(Mod.tr (L := [13]) m2 m47 rfl rfl), (by exact hF.fin (by omega) (by omega))⟩⟩
            · skip
              refine r_iload_n hX dX0_measure_55 rfl ?_
              refine r_bipush hX dX0_measure_56 (by decide) ?_
              refine r_icmp_ge hX (tgt := 72) dX0_measure_58 (by decide) (by omega) (by omega) (fun c58 => ?_) (fun c58 => ?_)
              · exfalso; omega
              · skip
                refine r_aload_n hX dX0_measure_61 rfl ?_
                refine r_iload_n hX dX0_measure_62 rfl ?_
                refine r_callV hX dX0_measure_63 (k_GG_shortenThrough l w σ47 _ (by omega) (by omega) (hF.2.1)) mf_X0_shortenThrough mv_X0_shortenThrough lk_RX0_54 rfl rfl rfl rfl rfl ⟨Nat.le_of_ble_eq_true rfl, Nat.le_of_ble_eq_true rfl⟩ (Nat.le_of_ble_eq_true rfl) (kV fun σ63 hh => ?_)
                obtain ⟨m63, h63_0⟩ := hh
                refine r_iinc hX (fun x66 => [some (.ref (w.2.2 0)), some (.int (iI x66)), none]) dX0_measure_66 rfl rfl rfl (fun _ => rfl) (fun x66 e66 => ?_)
                refine r_goto hX dX0_measure_69 (tgt := 47) (by decide) ?_
                exact ih47 x66 σ63 (Mod.tr (L := [13]) m47 m63 rfl rfl) (by omega) (by rw [e66]; exact hF.next (by omega) (by omega) h63_0) (by omega)
        exact lp47 ((10 - (x46)) + 1).toNat x46 σ2 Mod.rf (by omega) (by rw [e46]; exact FWI.init (fun a b a0 a1 b0 b1 => hS a b a0 (by omega) b0 b1)) (by omega)
      · skip
        refine r_iconst hX dX0_measure_8 ?_
        refine r_istore_n hX (fun x9 => [some (.ref (w.2.2 0)), some (.int (iI f)), some (.int (iI x9))]) dX0_measure_9 (Nat.le_of_ble_eq_true rfl) rfl rfl (fun _ => rfl) (fun x9 e9 => ?_)
        have lp10 : ∀ (n : Nat) (t : Int) (σ10 : MM) (m10 : Mod [13] σ2 σ10) (ht : 0 ≤ t ∧ t ≤ 9) (hS2 : ∀ a b : Int, 0 ≤ a → a < 9 → 0 ≤ b → b < 9 → (a < f ∨ (a = f ∧ b < t)) → SSt (σ 11) (σ 56 0 * σ 57 0) (σ 57 0) a b (σ10 13 (a * 9 + b))) (hmu : 10 - t < (n : Int)), G 10 [some (.ref (w.2.2 0)), some (.int (iI f)), some (.int (iI t))] [] σ10 := by
          intro n
          induction n with
          | zero => intro t σ10 m10 ht hS2 hmu; omega
          | succ n ih =>
            intro t σ10 m10 ht hS2 hmu
            have ih10 := ih
            clear ih
            refine r_iload_n hX dX0_measure_10 rfl ?_
            refine r_bipush hX dX0_measure_11 (by decide) ?_
            refine r_icmp_ge hX (tgt := 39) dX0_measure_13 (by decide) (by omega) (by omega) (fun c13 => ?_) (fun c13 => ?_)
            · skip
              refine r_iinc hX (fun x39 => [some (.ref (w.2.2 0)), some (.int (iI x39)), some (.int (iI t))]) dX0_measure_39 rfl rfl rfl (fun _ => rfl) (fun x39 e39 => ?_)
              refine r_goto hX dX0_measure_42 (tgt := 2) (by decide) ?_
              refine r_wk hX (lv1 := [some (.ref (w.2.2 0)), some (.int (iI x39)), none]) ⟨rfl, ⟨rfl, trivial⟩⟩ ?_
              exact ih2 x39 σ10 (Mod.tr (L := [13]) m2 m10 rfl rfl) (by omega) (fun a b a0 a1 b0 b1 => hS2 a b a0 (by omega) b0 b1 (by omega)) (by omega)
            · skip
              refine r_aload_n hX dX0_measure_16 rfl ?_
              refine fg_G10_18 hX dX0_measure_17 ?_
              refine r_iload_n hX dX0_measure_20 rfl ?_
              refine r_bipush hX dX0_measure_21 (by decide) ?_
              refine r_imul hX dX0_measure_23 ?_
              refine r_iload_n hX dX0_measure_24 rfl ?_
              refine r_iadd hX dX0_measure_25 ?_
              refine r_aload_n hX dX0_measure_26 rfl ?_
              refine r_iload_n hX dX0_measure_27 rfl ?_
              refine r_iload_n hX dX0_measure_28 rfl ?_
              refine r_callV hX dX0_measure_29 (k_GG_singleStep l w σ10 _ _ (by omega) (by omega) (by omega)) mf_X0_singleStep mv_X0_singleStep lk_RX0_50 rfl rfl rfl rfl rfl ⟨Nat.le_of_ble_eq_true rfl, Nat.le_of_ble_eq_true rfl⟩ (Nat.le_of_ble_eq_true rfl) (kI fun z29 σ29 hh => ?_)
              obtain ⟨rfl, h29_0, h29_1⟩ := hh
              have q29_3 : σ10 11 = σ 11 := ((m10.at 11 rfl).trans (m2.at 11 rfl))
              have q29_4 : σ10 56 = σ 56 := ((m10.at 56 rfl).trans (m2.at 56 rfl))
              have q29_5 : σ10 57 = σ 57 := ((m10.at 57 rfl).trans (m2.at 57 rfl))
              try simp only [q29_3, q29_4, q29_5] at h29_0
              refine st_G13 hX dX0_measure_32 (by omega) (by omega) (by omega) (fun σ32 m32 s32 => ?_)
              refine r_iinc hX (fun x33 => [some (.ref (w.2.2 0)), some (.int (iI f)), some (.int (iI x33))]) dX0_measure_33 rfl rfl rfl (fun _ => rfl) (fun x33 e33 => ?_)
              refine r_goto hX dX0_measure_36 (tgt := 10) (by decide) ?_
              exact ih10 x33 σ32 (Mod.tr (L := [13]) m10 m32 rfl rfl) (by omega) (pair_step hS2 s32 h29_0 e33 (by omega) (by omega)) (by omega)
        exact lp10 ((10 - (x9)) + 1).toNat x9 σ2 Mod.rf (by omega) (fun a b a0 a1 b0 b1 q => hS a b a0 (by omega) b0 b1) (by omega)
  exact lp2 ((10 - (x1)) + 1).toNat x1 σ Mod.rf (by omega) (fun a b a0 a1 b0 b1 => by omega) (by omega)
set_option maxRecDepth 20000 in
set_option maxHeartbeats 4000000 in
theorem k_GG_renew (l : Launch) (w : WT) (σ : MM) (r : Int) (c : Int) (i_r : inr r) (i_c : inr c) (hr : 1 ≤ r ∧ r ≤ 3) (hc : 1 ≤ c ∧ c ≤ 3) : CT SG l w yX0_renew cX0_renew 4 none 4 89 [.ref (w.2.2 0), .int (iI r), .int (iI c)] σ (PV fun σ1 => Mod [11, 12, 13, 56, 57] σ σ1 ∧ (σ1 56 0 = r) ∧ (σ1 57 0 = c) ∧ (∀ b : Int, 0 ≤ b → b < 9 → σ1 11 b = 0 ∧ σ1 12 b = 1) ∧ (WayOK (σ1 11) (σ1 56 0 * σ1 57 0) (σ1 57 0) (σ1 13))) := by
  refine CT.of 1 [some (.ref (w.2.2 0)), some (.int (iI r)), some (.int (iI c)), none] (by decide +kernel) (by simp [lg_sl, Value.category]) rfl sh_G (fun G hX => ?_)
  refine r_aload_n hX dX0_renew_0 rfl ?_
  refine r_iload_n hX dX0_renew_1 rfl ?_
  refine fp_G10_26 hX dX0_renew_2 (by omega) (fun σ2 m2 s2 => ?_)
  refine r_aload_n hX dX0_renew_5 rfl ?_
  refine r_iload_n hX dX0_renew_6 rfl ?_
  refine fp_G10_30 hX dX0_renew_7 (by omega) (fun σ7 m7 s7 => ?_)
  refine r_iconst hX dX0_renew_10 ?_
  refine r_istore_n hX (fun x11 => [some (.ref (w.2.2 0)), some (.int (iI r)), some (.int (iI c)), some (.int (iI x11))]) dX0_renew_11 (Nat.le_of_ble_eq_true rfl) rfl rfl (fun _ => rfl) (fun x11 e11 => ?_)
  have lp12 : ∀ (n : Nat) (i : Int) (σ12 : MM) (m12 : Mod [11, 12] σ7 σ12) (hi : 0 ≤ i ∧ i ≤ 9) (hz : ∀ b : Int, 0 ≤ b → b < i → σ12 11 b = 0 ∧ σ12 12 b = 1) (hmu : 10 - i < (n : Int)), G 12 [some (.ref (w.2.2 0)), some (.int (iI r)), some (.int (iI c)), some (.int (iI i))] [] σ12 := by
    intro n
    induction n with
    | zero => intro i σ12 m12 hi hz hmu; omega
    | succ n ih =>
      intro i σ12 m12 hi hz hmu
      have ih12 := ih
      clear ih
      refine r_iload_n hX dX0_renew_12 rfl ?_
      refine r_bipush hX dX0_renew_13 (by decide) ?_
      refine r_icmp_ge hX (tgt := 38) dX0_renew_15 (by decide) (by omega) (by omega) (fun c15 => ?_) (fun c15 => ?_)
      · skip
        refine r_aload_n hX dX0_renew_38 rfl ?_
        refine r_callV hX dX0_renew_39 (k_GG_measure l w σ12) mf_X0_measure mv_X0_measure lk_RX0_33 rfl rfl rfl rfl rfl ⟨Nat.le_of_ble_eq_true rfl, Nat.le_of_ble_eq_true rfl⟩ (Nat.le_of_ble_eq_true rfl) (kV fun σ39 hh => ?_)
        obtain ⟨m39, h39_0⟩ := hh
        have q39_1 : σ12 56 = σ2 56 := ((m12.at 56 rfl).trans (m7.at 56 rfl))
        have q39_2 : σ12 57 = σ7 57 := (m12.at 57 rfl)
        try simp only [q39_1, q39_2] at h39_0
        exact r_ret hX dX0_renew_42 rfl ⟨rfl, ⟨(Mod.tr (L := [11, 12, 13, 56, 57]) (Mod.tr (L := [11, 12, 13, 56, 57]) (Mod.tr (L := [11, 12, 13, 56, 57]) m2 m7 rfl rfl) m12 rfl rfl) m39 rfl rfl), (by rw [m39.at 56 rfl, m12.at 56 rfl, m7.at 56 rfl]; exact s2), (by rw [m39.at 57 rfl, m12.at 57 rfl]; exact s7), (fun b b0 b1 => by rw [m39.at 11 rfl, m39.at 12 rfl]; exact hz b b0 (by omega)), (by rw [m39.at 11 rfl, m39.at 56 rfl, m39.at 57 rfl, m12.at 56 rfl, m12.at 57 rfl, m7.at 56 rfl]; exact h39_0)⟩⟩
      · skip
        refine r_aload_n hX dX0_renew_18 rfl ?_
        refine fg_G10_9 hX dX0_renew_19 ?_
        refine r_iload_n hX dX0_renew_22 rfl ?_
        refine r_iconst hX dX0_renew_23 ?_
        refine st_G11 hX dX0_renew_24 (by omega) (by omega) (by omega) (fun σ24 m24 s24 => ?_)
        refine r_aload_n hX dX0_renew_25 rfl ?_
        refine fg_G10_15 hX dX0_renew_26 ?_
        refine r_iload_n hX dX0_renew_29 rfl ?_
        refine r_iconst hX dX0_renew_30 ?_
        refine st_G12 hX dX0_renew_31 (by omega) (by omega) (by omega) (fun σ31 m31 s31 => ?_)
        simp only [show σ24 12 = σ12 12 from (m24.at 12 rfl)] at s31
        refine r_iinc hX (fun x32 => [some (.ref (w.2.2 0)), some (.int (iI r)), some (.int (iI c)), some (.int (iI x32))]) dX0_renew_32 rfl rfl rfl (fun _ => rfl) (fun x32 e32 => ?_)
        refine r_goto hX dX0_renew_35 (tgt := 12) (by decide) ?_
        exact ih12 x32 σ31 (Mod.tr (L := [11, 12]) (Mod.tr (L := [11, 12]) m12 m24 rfl rfl) m31 rfl rfl) (by omega) (by rw [e32, m31.at 11 rfl]; exact two_step hz s24 s31) (by omega)
  exact lp12 ((10 - (x11)) + 1).toNat x11 σ7 Mod.rf (by omega) (fun b b0 b1 => by omega) (by omega)
end
section
theorem dX1_beat_0 : decode cX1_beat 0 = .ok (.aload_n 0, 1) := by decide +kernel
theorem dX1_beat_1 : decode cX1_beat 1 = .ok (.getfield 26, 3) := by decide +kernel
theorem dX1_beat_4 : decode cX1_beat 4 = .ok (.ireturn, 1) := by decide +kernel
set_option maxRecDepth 20000 in
set_option maxHeartbeats 4000000 in
theorem k_Ly_beat (l : Launch) (w : WT) (σ : MM) : CT SX l w yX1_beat cX1_beat 1 (some .int) 0 0 [.ref (w.2.2 14)] σ (PI fun z σ1 => σ = σ1 ∧ (z = σ 58 0) ∧ (0 ≤ z ∧ z ≤ 12)) := by
  refine CT.of 0 [some (.ref (w.2.2 14))] (by decide +kernel) (by simp [lg_sl, Value.category]) rfl sh_X (fun G hX => ?_)
  refine r_aload_n hX dX1_beat_0 rfl ?_
  refine fg_X14_26 hX dX1_beat_1 (fun b1l b1u => ?_)
  exact r_iret hX dX1_beat_4 rfl ⟨_, rfl, ⟨rfl, (by omega), (by omega)⟩⟩
theorem dX1_stands_0 : decode cX1_stands 0 = .ok (.aload_n 0, 1) := by decide +kernel
theorem dX1_stands_1 : decode cX1_stands 1 = .ok (.getfield 26, 3) := by decide +kernel
theorem dX1_stands_4 : decode cX1_stands 4 = .ok (.ifCond .le 7, 3) := by decide +kernel
theorem dX1_stands_7 : decode cX1_stands 7 = .ok (.iconst 1, 1) := by decide +kernel
theorem dX1_stands_8 : decode cX1_stands 8 = .ok (.goto 4, 3) := by decide +kernel
theorem dX1_stands_11 : decode cX1_stands 11 = .ok (.iconst 0, 1) := by decide +kernel
theorem dX1_stands_12 : decode cX1_stands 12 = .ok (.ireturn, 1) := by decide +kernel
set_option maxRecDepth 20000 in
set_option maxHeartbeats 4000000 in
theorem k_Ly_stands (l : Launch) (w : WT) (σ : MM) : CT SX l w yX1_stands cX1_stands 1 (some .boolean) 0 0 [.ref (w.2.2 14)] σ (PI fun z σ1 => σ = σ1 ∧ ((z = 1 ∧ 0 < σ 58 0) ∨ (z = 0 ∧ σ 58 0 = 0))) := by
  refine CT.of 0 [some (.ref (w.2.2 14))] (by decide +kernel) (by simp [lg_sl, Value.category]) rfl sh_X (fun G hX => ?_)
  refine r_aload_n hX dX1_stands_0 rfl ?_
  refine fg_X14_26 hX dX1_stands_1 (fun b1l b1u => ?_)
  refine r_if_le hX (tgt := 11) dX1_stands_4 (by decide) (by omega) (fun c4 => ?_) (fun c4 => ?_)
  · skip
    refine r_iconst hX dX1_stands_11 ?_
    exact r_zret hX dX1_stands_12 rfl (by omega) ⟨_, rfl, ⟨rfl, (by omega)⟩⟩
  · skip
    refine r_iconst hX dX1_stands_7 ?_
    refine r_goto hX dX1_stands_8 (tgt := 12) (by decide) ?_
    exact r_zret hX dX1_stands_12 rfl (by omega) ⟨_, rfl, ⟨rfl, (by omega)⟩⟩
theorem dX1_drop_0 : decode cX1_drop 0 = .ok (.aload_n 0, 1) := by decide +kernel
theorem dX1_drop_1 : decode cX1_drop 1 = .ok (.iconst 0, 1) := by decide +kernel
theorem dX1_drop_2 : decode cX1_drop 2 = .ok (.putfield 26, 3) := by decide +kernel
theorem dX1_drop_5 : decode cX1_drop 5 = .ok (.return_, 1) := by decide +kernel
set_option maxRecDepth 20000 in
set_option maxHeartbeats 4000000 in
theorem k_Ly_drop (l : Launch) (w : WT) (σ : MM) : CT SX l w yX1_drop cX1_drop 1 none 0 0 [.ref (w.2.2 14)] σ (PV fun σ1 => Mod [58] σ σ1 ∧ (σ1 58 0 = 0)) := by
  refine CT.of 0 [some (.ref (w.2.2 14))] (by decide +kernel) (by simp [lg_sl, Value.category]) rfl sh_X (fun G hX => ?_)
  refine r_aload_n hX dX1_drop_0 rfl ?_
  refine r_iconst hX dX1_drop_1 ?_
  refine fp_X14_26 hX dX1_drop_2 (by omega) (fun σ2 m2 s2 => ?_)
  exact r_ret hX dX1_drop_5 rfl ⟨rfl, ⟨(m2.w rfl), (by omega)⟩⟩
theorem dX1_begin_0 : decode cX1_begin 0 = .ok (.aload_n 0, 1) := by decide +kernel
theorem dX1_begin_1 : decode cX1_begin 1 = .ok (.iload_n 1, 1) := by decide +kernel
theorem dX1_begin_2 : decode cX1_begin 2 = .ok (.putfield 26, 3) := by decide +kernel
theorem dX1_begin_5 : decode cX1_begin 5 = .ok (.aload_n 0, 1) := by decide +kernel
theorem dX1_begin_6 : decode cX1_begin 6 = .ok (.getfield 9, 3) := by decide +kernel
theorem dX1_begin_9 : decode cX1_begin 9 = .ok (.iconst 0, 1) := by decide +kernel
theorem dX1_begin_10 : decode cX1_begin 10 = .ok (.invokestatic 30, 3) := by decide +kernel
theorem dX1_begin_13 : decode cX1_begin 13 = .ok (.aload_n 0, 1) := by decide +kernel
theorem dX1_begin_14 : decode cX1_begin 14 = .ok (.getfield 15, 3) := by decide +kernel
theorem dX1_begin_17 : decode cX1_begin 17 = .ok (.iconst 0, 1) := by decide +kernel
theorem dX1_begin_18 : decode cX1_begin 18 = .ok (.invokestatic 30, 3) := by decide +kernel
theorem dX1_begin_21 : decode cX1_begin 21 = .ok (.return_, 1) := by decide +kernel
set_option maxRecDepth 20000 in
set_option maxHeartbeats 4000000 in
theorem k_Ly_begin (l : Launch) (w : WT) (σ : MM) (b : Int) (i_b : inr b) (hb : 0 ≤ b ∧ b ≤ 12) : CT SX l w yX1_begin cX1_begin 2 none 1 23 [.ref (w.2.2 14), .int (iI b)] σ (PV fun σ1 => Mod [15, 16, 58] σ σ1 ∧ (σ1 58 0 = b) ∧ (∀ a : Int, 0 ≤ a → a < 8 → σ1 15 a = 0 ∧ σ1 16 a = 0)) := by
  refine CT.of 0 [some (.ref (w.2.2 14)), some (.int (iI b))] (by decide +kernel) (by simp [lg_sl, Value.category]) rfl sh_X (fun G hX => ?_)
  refine r_aload_n hX dX1_begin_0 rfl ?_
  refine r_iload_n hX dX1_begin_1 rfl ?_
  refine fp_X14_26 hX dX1_begin_2 (by omega) (fun σ2 m2 s2 => ?_)
  refine r_aload_n hX dX1_begin_5 rfl ?_
  refine fg_X14_9 hX dX1_begin_6 ?_
  refine r_iconst hX dX1_begin_9 ?_
  refine r_callS hX dX1_begin_10 (k_fill15 l w σ2 _ (by omega) (by omega)) mf_J7_fill_53178 ms_J7_fill_53178 lk_RX1_30 rfl rfl ⟨Nat.le_of_ble_eq_true rfl, Nat.le_of_ble_eq_true rfl⟩ (Nat.le_of_ble_eq_true rfl) (kV fun σ10 hh => ?_)
  obtain ⟨m10, h10_0⟩ := hh
  refine r_aload_n hX dX1_begin_13 rfl ?_
  refine fg_X14_15 hX dX1_begin_14 ?_
  refine r_iconst hX dX1_begin_17 ?_
  refine r_callS hX dX1_begin_18 (k_fill16 l w σ10 _ (by omega) (by omega)) mf_J7_fill_53178 ms_J7_fill_53178 lk_RX1_30 rfl rfl ⟨Nat.le_of_ble_eq_true rfl, Nat.le_of_ble_eq_true rfl⟩ (Nat.le_of_ble_eq_true rfl) (kV fun σ18 hh => ?_)
  obtain ⟨m18, h18_0⟩ := hh
  exact r_ret hX dX1_begin_21 rfl ⟨rfl, ⟨(Mod.tr (L := [15, 16, 58]) (Mod.tr (L := [15, 16, 58]) m2 m10 rfl rfl) m18 rfl rfl), (by rw [m18.at 58 rfl, m10.at 58 rfl]; exact s2), (fun a a0 a1 => ⟨by rw [m18.at 15 rfl]; exact h10_0 a a0 a1, h18_0 a a0 a1⟩)⟩⟩
theorem dX1_put_0 : decode cX1_put 0 = .ok (.aload_n 0, 1) := by decide +kernel
theorem dX1_put_1 : decode cX1_put 1 = .ok (.getfield 18, 3) := by decide +kernel
theorem dX1_put_4 : decode cX1_put 4 = .ok (.iload_n 1, 1) := by decide +kernel
theorem dX1_put_5 : decode cX1_put 5 = .ok (.invokevirtual 36, 3) := by decide +kernel
theorem dX1_put_8 : decode cX1_put 8 = .ok (.ifCond .eq 17, 3) := by decide +kernel
theorem dX1_put_11 : decode cX1_put 11 = .ok (.aload_n 0, 1) := by decide +kernel
theorem dX1_put_12 : decode cX1_put 12 = .ok (.getfield 9, 3) := by decide +kernel
theorem dX1_put_15 : decode cX1_put 15 = .ok (.iload_n 1, 1) := by decide +kernel
theorem dX1_put_16 : decode cX1_put 16 = .ok (.iload_n 2, 1) := by decide +kernel
theorem dX1_put_17 : decode cX1_put 17 = .ok (.iastore, 1) := by decide +kernel
theorem dX1_put_18 : decode cX1_put 18 = .ok (.aload_n 0, 1) := by decide +kernel
theorem dX1_put_19 : decode cX1_put 19 = .ok (.getfield 15, 3) := by decide +kernel
theorem dX1_put_22 : decode cX1_put 22 = .ok (.iload_n 1, 1) := by decide +kernel
theorem dX1_put_23 : decode cX1_put 23 = .ok (.iload_n 3, 1) := by decide +kernel
theorem dX1_put_24 : decode cX1_put 24 = .ok (.iastore, 1) := by decide +kernel
theorem dX1_put_25 : decode cX1_put 25 = .ok (.return_, 1) := by decide +kernel
set_option maxRecDepth 20000 in
set_option maxHeartbeats 4000000 in
theorem k_Ly_put (l : Launch) (w : WT) (σ : MM) (a : Int) (k : Int) (t : Int) (i_a : inr a) (i_k : inr k) (i_t : inr t) (ha : 0 ≤ a ∧ a < σ 53 0) (hk : 0 ≤ k ∧ k ≤ 8) (ht : 0 ≤ t ∧ t ≤ 20000000) : CT SX l w yX1_put cX1_put 4 none 1 21 [.ref (w.2.2 14), .int (iI a), .int (iI k), .int (iI t)] σ (PV fun σ1 => Mod [15, 16] σ σ1 ∧ (∀ b : Int, σ1 15 b = if b = a then k else σ 15 b) ∧ (∀ b : Int, σ1 16 b = if b = a then t else σ 16 b)) := by
  refine CT.of 0 [some (.ref (w.2.2 14)), some (.int (iI a)), some (.int (iI k)), some (.int (iI t))] (by decide +kernel) (by simp [lg_sl, Value.category]) rfl sh_X (fun G hX => ?_)
  refine r_aload_n hX dX1_put_0 rfl ?_
  refine fg_X14_18 hX dX1_put_1 ?_
  refine r_iload_n hX dX1_put_4 rfl ?_
  refine r_callV hX dX1_put_5 (k_Lp_isThere l w σ _ (by omega)) mf_X2_isThere mv_X2_isThere lk_RX1_36 rfl rfl rfl rfl rfl ⟨Nat.le_of_ble_eq_true rfl, Nat.le_of_ble_eq_true rfl⟩ (Nat.le_of_ble_eq_true rfl) (kI fun z5 σ5 hh => ?_)
  obtain ⟨rfl, h5_0⟩ := hh
  refine r_if_eq hX (tgt := 25) dX1_put_8 (by decide) (by omega) (fun c8 => ?_) (fun c8 => ?_)
  · exfalso; omega
  · skip
    refine r_aload_n hX dX1_put_11 rfl ?_
    refine fg_X14_9 hX dX1_put_12 ?_
    refine r_iload_n hX dX1_put_15 rfl ?_
    refine r_iload_n hX dX1_put_16 rfl ?_
    refine st_X15 hX dX1_put_17 (by omega) (by omega) (by omega) (fun σ17 m17 s17 => ?_)
    refine r_aload_n hX dX1_put_18 rfl ?_
    refine fg_X14_15 hX dX1_put_19 ?_
    refine r_iload_n hX dX1_put_22 rfl ?_
    refine r_iload_n hX dX1_put_23 rfl ?_
    refine st_X16 hX dX1_put_24 (by omega) (by omega) (by omega) (fun σ24 m24 s24 => ?_)
    simp only [show σ17 16 = σ 16 from (m17.at 16 rfl)] at s24
    exact r_ret hX dX1_put_25 rfl ⟨rfl, ⟨(Mod.tr (L := [15, 16]) m17 m24 rfl rfl), (by rw [m24.at 15 rfl]; exact s17), (by exact s24)⟩⟩
theorem dX1_cellOf_0 : decode cX1_cellOf 0 = .ok (.aload_n 0, 1) := by decide +kernel
theorem dX1_cellOf_1 : decode cX1_cellOf 1 = .ok (.getfield 18, 3) := by decide +kernel
theorem dX1_cellOf_4 : decode cX1_cellOf 4 = .ok (.iload_n 1, 1) := by decide +kernel
theorem dX1_cellOf_5 : decode cX1_cellOf 5 = .ok (.invokevirtual 36, 3) := by decide +kernel
theorem dX1_cellOf_8 : decode cX1_cellOf 8 = .ok (.ifCond .eq 12, 3) := by decide +kernel
theorem dX1_cellOf_11 : decode cX1_cellOf 11 = .ok (.aload_n 0, 1) := by decide +kernel
theorem dX1_cellOf_12 : decode cX1_cellOf 12 = .ok (.getfield 9, 3) := by decide +kernel
theorem dX1_cellOf_15 : decode cX1_cellOf 15 = .ok (.iload_n 1, 1) := by decide +kernel
theorem dX1_cellOf_16 : decode cX1_cellOf 16 = .ok (.iaload, 1) := by decide +kernel
theorem dX1_cellOf_17 : decode cX1_cellOf 17 = .ok (.goto 5, 3) := by decide +kernel
theorem dX1_cellOf_20 : decode cX1_cellOf 20 = .ok (.bipush (-6), 2) := by decide +kernel
theorem dX1_cellOf_22 : decode cX1_cellOf 22 = .ok (.ireturn, 1) := by decide +kernel
set_option maxRecDepth 20000 in
set_option maxHeartbeats 4000000 in
theorem k_Ly_cellOf (l : Launch) (w : WT) (σ : MM) (a : Int) (i_a : inr a) : CT SX l w yX1_cellOf cX1_cellOf 2 (some .int) 1 21 [.ref (w.2.2 14), .int (iI a)] σ (PI fun z σ1 => σ = σ1 ∧ ((0 ≤ a ∧ a < σ 53 0 ∧ 0 ≤ z ∧ z = σ 15 a) ∨ ((a < 0 ∨ σ 53 0 ≤ a) ∧ z = -6)) ∧ (-6 ≤ z ∧ z ≤ 8)) := by
  refine CT.of 0 [some (.ref (w.2.2 14)), some (.int (iI a))] (by decide +kernel) (by simp [lg_sl, Value.category]) rfl sh_X (fun G hX => ?_)
  refine r_aload_n hX dX1_cellOf_0 rfl ?_
  refine fg_X14_18 hX dX1_cellOf_1 ?_
  refine r_iload_n hX dX1_cellOf_4 rfl ?_
  refine r_callV hX dX1_cellOf_5 (k_Lp_isThere l w σ _ (by omega)) mf_X2_isThere mv_X2_isThere lk_RX1_36 rfl rfl rfl rfl rfl ⟨Nat.le_of_ble_eq_true rfl, Nat.le_of_ble_eq_true rfl⟩ (Nat.le_of_ble_eq_true rfl) (kI fun z5 σ5 hh => ?_)
  obtain ⟨rfl, h5_0⟩ := hh
  refine r_if_eq hX (tgt := 20) dX1_cellOf_8 (by decide) (by omega) (fun c8 => ?_) (fun c8 => ?_)
  · skip
    refine r_bipush hX dX1_cellOf_20 (by decide) ?_
    exact r_iret hX dX1_cellOf_22 rfl ⟨_, rfl, ⟨rfl, (by omega), (by omega)⟩⟩
  · skip
    refine r_aload_n hX dX1_cellOf_11 rfl ?_
    refine fg_X14_9 hX dX1_cellOf_12 ?_
    refine r_iload_n hX dX1_cellOf_15 rfl ?_
    refine ld_X15 hX dX1_cellOf_16 (by omega) (by omega) (fun b16l b16u => ?_)
    refine r_goto hX dX1_cellOf_17 (tgt := 22) (by decide) ?_
    exact r_iret hX dX1_cellOf_22 rfl ⟨_, rfl, ⟨rfl, (by omega), (by omega)⟩⟩
theorem dX1_startOf_0 : decode cX1_startOf 0 = .ok (.aload_n 0, 1) := by decide +kernel
theorem dX1_startOf_1 : decode cX1_startOf 1 = .ok (.getfield 18, 3) := by decide +kernel
theorem dX1_startOf_4 : decode cX1_startOf 4 = .ok (.iload_n 1, 1) := by decide +kernel
theorem dX1_startOf_5 : decode cX1_startOf 5 = .ok (.invokevirtual 36, 3) := by decide +kernel
theorem dX1_startOf_8 : decode cX1_startOf 8 = .ok (.ifCond .eq 12, 3) := by decide +kernel
theorem dX1_startOf_11 : decode cX1_startOf 11 = .ok (.aload_n 0, 1) := by decide +kernel
theorem dX1_startOf_12 : decode cX1_startOf 12 = .ok (.getfield 15, 3) := by decide +kernel
theorem dX1_startOf_15 : decode cX1_startOf 15 = .ok (.iload_n 1, 1) := by decide +kernel
theorem dX1_startOf_16 : decode cX1_startOf 16 = .ok (.iaload, 1) := by decide +kernel
theorem dX1_startOf_17 : decode cX1_startOf 17 = .ok (.goto 5, 3) := by decide +kernel
theorem dX1_startOf_20 : decode cX1_startOf 20 = .ok (.bipush (-6), 2) := by decide +kernel
theorem dX1_startOf_22 : decode cX1_startOf 22 = .ok (.ireturn, 1) := by decide +kernel
set_option maxRecDepth 20000 in
set_option maxHeartbeats 4000000 in
theorem k_Ly_startOf (l : Launch) (w : WT) (σ : MM) (a : Int) (i_a : inr a) : CT SX l w yX1_startOf cX1_startOf 2 (some .int) 1 21 [.ref (w.2.2 14), .int (iI a)] σ (PI fun z σ1 => σ = σ1 ∧ ((0 ≤ a ∧ a < σ 53 0 ∧ 0 ≤ z ∧ z = σ 16 a) ∨ ((a < 0 ∨ σ 53 0 ≤ a) ∧ z = -6)) ∧ (-6 ≤ z ∧ z ≤ 20000000)) := by
  refine CT.of 0 [some (.ref (w.2.2 14)), some (.int (iI a))] (by decide +kernel) (by simp [lg_sl, Value.category]) rfl sh_X (fun G hX => ?_)
  refine r_aload_n hX dX1_startOf_0 rfl ?_
  refine fg_X14_18 hX dX1_startOf_1 ?_
  refine r_iload_n hX dX1_startOf_4 rfl ?_
  refine r_callV hX dX1_startOf_5 (k_Lp_isThere l w σ _ (by omega)) mf_X2_isThere mv_X2_isThere lk_RX1_36 rfl rfl rfl rfl rfl ⟨Nat.le_of_ble_eq_true rfl, Nat.le_of_ble_eq_true rfl⟩ (Nat.le_of_ble_eq_true rfl) (kI fun z5 σ5 hh => ?_)
  obtain ⟨rfl, h5_0⟩ := hh
  refine r_if_eq hX (tgt := 20) dX1_startOf_8 (by decide) (by omega) (fun c8 => ?_) (fun c8 => ?_)
  · skip
    refine r_bipush hX dX1_startOf_20 (by decide) ?_
    exact r_iret hX dX1_startOf_22 rfl ⟨_, rfl, ⟨rfl, (by omega), (by omega)⟩⟩
  · skip
    refine r_aload_n hX dX1_startOf_11 rfl ?_
    refine fg_X14_15 hX dX1_startOf_12 ?_
    refine r_iload_n hX dX1_startOf_15 rfl ?_
    refine ld_X16 hX dX1_startOf_16 (by omega) (by omega) (fun b16l b16u => ?_)
    refine r_goto hX dX1_startOf_17 (tgt := 22) (by decide) ?_
    exact r_iret hX dX1_startOf_22 rfl ⟨_, rfl, ⟨rfl, (by omega), (by omega)⟩⟩
theorem dX1_madeAt_0 : decode cX1_madeAt 0 = .ok (.aload_n 0, 1) := by decide +kernel
theorem dX1_madeAt_1 : decode cX1_madeAt 1 = .ok (.iload_n 1, 1) := by decide +kernel
theorem dX1_madeAt_2 : decode cX1_madeAt 2 = .ok (.invokevirtual 42, 3) := by decide +kernel
theorem dX1_madeAt_5 : decode cX1_madeAt 5 = .ok (.aload_n 0, 1) := by decide +kernel
theorem dX1_madeAt_6 : decode cX1_madeAt 6 = .ok (.getfield 18, 3) := by decide +kernel
theorem dX1_madeAt_9 : decode cX1_madeAt 9 = .ok (.iload_n 1, 1) := by decide +kernel
theorem dX1_madeAt_10 : decode cX1_madeAt 10 = .ok (.invokevirtual 46, 3) := by decide +kernel
theorem dX1_madeAt_13 : decode cX1_madeAt 13 = .ok (.iadd, 1) := by decide +kernel
theorem dX1_madeAt_14 : decode cX1_madeAt 14 = .ok (.ireturn, 1) := by decide +kernel
set_option maxRecDepth 20000 in
set_option maxHeartbeats 4000000 in
theorem k_Ly_madeAt (l : Launch) (w : WT) (σ : MM) (a : Int) (i_a : inr a) (ha : 0 ≤ a ∧ a < σ 53 0) : CT SX l w yX1_madeAt cX1_madeAt 2 (some .int) 2 42 [.ref (w.2.2 14), .int (iI a)] σ (PI fun z σ1 => σ = σ1 ∧ (z = madeX σ a) ∧ (1 ≤ z ∧ z ≤ 20000002)) := by
  refine CT.of 0 [some (.ref (w.2.2 14)), some (.int (iI a))] (by decide +kernel) (by simp [lg_sl, Value.category]) rfl sh_X (fun G hX => ?_)
  refine r_aload_n hX dX1_madeAt_0 rfl ?_
  refine r_iload_n hX dX1_madeAt_1 rfl ?_
  refine r_callV hX dX1_madeAt_2 (k_Ly_startOf l w σ _ (by omega)) mf_X1_startOf mv_X1_startOf lk_RX1_42 rfl rfl rfl rfl rfl ⟨Nat.le_of_ble_eq_true rfl, Nat.le_of_ble_eq_true rfl⟩ (Nat.le_of_ble_eq_true rfl) (kI fun z2 σ2 hh => ?_)
  obtain ⟨rfl, h2_0, h2_1⟩ := hh
  refine r_aload_n hX dX1_madeAt_5 rfl ?_
  refine fg_X14_18 hX dX1_madeAt_6 ?_
  refine r_iload_n hX dX1_madeAt_9 rfl ?_
  refine r_callV hX dX1_madeAt_10 (k_Lp_lengthOf l w σ _ (by omega)) mf_X2_lengthOf mv_X2_lengthOf lk_RX1_46 rfl rfl rfl rfl rfl ⟨Nat.le_of_ble_eq_true rfl, Nat.le_of_ble_eq_true rfl⟩ (Nat.le_of_ble_eq_true rfl) (kI fun z10 σ10 hh => ?_)
  obtain ⟨rfl, h10_0⟩ := hh
  refine r_iadd hX dX1_madeAt_13 ?_
  exact r_iret hX dX1_madeAt_14 rfl ⟨_, rfl, ⟨rfl, (by have e := lenF_of h10_0 ha.1 ha.2; unfold madeX; omega), (by omega)⟩⟩
theorem dX1_usedAt_0 : decode cX1_usedAt 0 = .ok (.aload_n 0, 1) := by decide +kernel
theorem dX1_usedAt_1 : decode cX1_usedAt 1 = .ok (.iload_n 1, 1) := by decide +kernel
theorem dX1_usedAt_2 : decode cX1_usedAt 2 = .ok (.iconst 2, 1) := by decide +kernel
theorem dX1_usedAt_3 : decode cX1_usedAt 3 = .ok (.idiv, 1) := by decide +kernel
theorem dX1_usedAt_4 : decode cX1_usedAt 4 = .ok (.invokevirtual 42, 3) := by decide +kernel
theorem dX1_usedAt_7 : decode cX1_usedAt 7 = .ok (.aload_n 0, 1) := by decide +kernel
theorem dX1_usedAt_8 : decode cX1_usedAt 8 = .ok (.getfield 26, 3) := by decide +kernel
theorem dX1_usedAt_11 : decode cX1_usedAt 11 = .ok (.aload_n 0, 1) := by decide +kernel
theorem dX1_usedAt_12 : decode cX1_usedAt 12 = .ok (.getfield 18, 3) := by decide +kernel
theorem dX1_usedAt_15 : decode cX1_usedAt 15 = .ok (.iload_n 1, 1) := by decide +kernel
theorem dX1_usedAt_16 : decode cX1_usedAt 16 = .ok (.invokevirtual 97, 3) := by decide +kernel
theorem dX1_usedAt_19 : decode cX1_usedAt 19 = .ok (.imul, 1) := by decide +kernel
theorem dX1_usedAt_20 : decode cX1_usedAt 20 = .ok (.iadd, 1) := by decide +kernel
theorem dX1_usedAt_21 : decode cX1_usedAt 21 = .ok (.ireturn, 1) := by decide +kernel
set_option maxRecDepth 20000 in
set_option maxHeartbeats 4000000 in
theorem k_Ly_usedAt (l : Launch) (w : WT) (σ : MM) (s : Int) (i_s : inr s) (hs : 0 ≤ s ∧ s < 2 * σ 53 0) : CT SX l w yX1_usedAt cX1_usedAt 2 (some .int) 2 42 [.ref (w.2.2 14), .int (iI s)] σ (PI fun z σ1 => σ = σ1 ∧ (z = useX σ s) ∧ (0 ≤ z ∧ z ≤ 20000036)) := by
  refine CT.of 0 [some (.ref (w.2.2 14)), some (.int (iI s))] (by decide +kernel) (by simp [lg_sl, Value.category]) rfl sh_X (fun G hX => ?_)
  refine r_aload_n hX dX1_usedAt_0 rfl ?_
  refine r_iload_n hX dX1_usedAt_1 rfl ?_
  refine r_iconst hX dX1_usedAt_2 ?_
  refine r_idiv hX dX1_usedAt_3 (by omega) (by omega) (by omega) (by omega) ?_
  refine r_callV hX dX1_usedAt_4 (k_Ly_startOf l w σ _ (by omega)) mf_X1_startOf mv_X1_startOf lk_RX1_42 rfl rfl rfl rfl rfl ⟨Nat.le_of_ble_eq_true rfl, Nat.le_of_ble_eq_true rfl⟩ (Nat.le_of_ble_eq_true rfl) (kI fun z4 σ4 hh => ?_)
  obtain ⟨rfl, h4_0, h4_1⟩ := hh
  obtain rfl : z4 = σ 16 (s / 2) := by omega
  refine r_aload_n hX dX1_usedAt_7 rfl ?_
  refine fg_X14_26 hX dX1_usedAt_8 (fun b8l b8u => ?_)
  refine r_aload_n hX dX1_usedAt_11 rfl ?_
  refine fg_X14_18 hX dX1_usedAt_12 ?_
  refine r_iload_n hX dX1_usedAt_15 rfl ?_
  refine r_callV hX dX1_usedAt_16 (k_Lp_distanceOf l w σ _ (by omega)) mf_X2_distanceOf mv_X2_distanceOf lk_RX1_97 rfl rfl rfl rfl rfl ⟨Nat.le_of_ble_eq_true rfl, Nat.le_of_ble_eq_true rfl⟩ (Nat.le_of_ble_eq_true rfl) (kI fun z16 σ16 hh => ?_)
  obtain ⟨rfl, h16_0, h16_1⟩ := hh
  have hp := pm (a := σ 58 0) (A := 12) (b := z16) (B := 3) (by omega) (by omega)
  obtain rfl : z16 = σ 6 s := by omega
  refine r_imul hX dX1_usedAt_19 ?_
  refine r_iadd hX dX1_usedAt_20 ?_
  exact r_iret hX dX1_usedAt_21 rfl ⟨_, rfl, ⟨rfl, (by unfold useX; omega), (by omega)⟩⟩
theorem dX1_isLate_0 : decode cX1_isLate 0 = .ok (.aload_n 0, 1) := by decide +kernel
theorem dX1_isLate_1 : decode cX1_isLate 1 = .ok (.getfield 18, 3) := by decide +kernel
theorem dX1_isLate_4 : decode cX1_isLate 4 = .ok (.iload_n 1, 1) := by decide +kernel
theorem dX1_isLate_5 : decode cX1_isLate 5 = .ok (.invokevirtual 84, 3) := by decide +kernel
theorem dX1_isLate_8 : decode cX1_isLate 8 = .ok (.istore_n 2, 1) := by decide +kernel
theorem dX1_isLate_9 : decode cX1_isLate 9 = .ok (.iload_n 2, 1) := by decide +kernel
theorem dX1_isLate_10 : decode cX1_isLate 10 = .ok (.bipush (-6), 2) := by decide +kernel
theorem dX1_isLate_12 : decode cX1_isLate 12 = .ok (.if_icmp .ne 5, 3) := by decide +kernel
theorem dX1_isLate_15 : decode cX1_isLate 15 = .ok (.iconst 0, 1) := by decide +kernel
theorem dX1_isLate_16 : decode cX1_isLate 16 = .ok (.ireturn, 1) := by decide +kernel
theorem dX1_isLate_17 : decode cX1_isLate 17 = .ok (.aload_n 0, 1) := by decide +kernel
theorem dX1_isLate_18 : decode cX1_isLate 18 = .ok (.getfield 22, 3) := by decide +kernel
theorem dX1_isLate_21 : decode cX1_isLate 21 = .ok (.aload_n 0, 1) := by decide +kernel
theorem dX1_isLate_22 : decode cX1_isLate 22 = .ok (.iload_n 2, 1) := by decide +kernel
theorem dX1_isLate_23 : decode cX1_isLate 23 = .ok (.invokevirtual 63, 3) := by decide +kernel
theorem dX1_isLate_26 : decode cX1_isLate 26 = .ok (.aload_n 0, 1) := by decide +kernel
theorem dX1_isLate_27 : decode cX1_isLate 27 = .ok (.iload_n 1, 1) := by decide +kernel
theorem dX1_isLate_28 : decode cX1_isLate 28 = .ok (.iconst 2, 1) := by decide +kernel
theorem dX1_isLate_29 : decode cX1_isLate 29 = .ok (.idiv, 1) := by decide +kernel
theorem dX1_isLate_30 : decode cX1_isLate 30 = .ok (.invokevirtual 63, 3) := by decide +kernel
theorem dX1_isLate_33 : decode cX1_isLate 33 = .ok (.invokevirtual 87, 3) := by decide +kernel
theorem dX1_isLate_36 : decode cX1_isLate 36 = .ok (.istore_n 3, 1) := by decide +kernel
theorem dX1_isLate_37 : decode cX1_isLate 37 = .ok (.iload_n 3, 1) := by decide +kernel
theorem dX1_isLate_38 : decode cX1_isLate 38 = .ok (.bipush (-6), 2) := by decide +kernel
theorem dX1_isLate_40 : decode cX1_isLate 40 = .ok (.if_icmp .eq 18, 3) := by decide +kernel
theorem dX1_isLate_43 : decode cX1_isLate 43 = .ok (.aload_n 0, 1) := by decide +kernel
theorem dX1_isLate_44 : decode cX1_isLate 44 = .ok (.iload_n 1, 1) := by decide +kernel
theorem dX1_isLate_45 : decode cX1_isLate 45 = .ok (.invokevirtual 91, 3) := by decide +kernel
theorem dX1_isLate_48 : decode cX1_isLate 48 = .ok (.aload_n 0, 1) := by decide +kernel
theorem dX1_isLate_49 : decode cX1_isLate 49 = .ok (.iload_n 2, 1) := by decide +kernel
theorem dX1_isLate_50 : decode cX1_isLate 50 = .ok (.invokevirtual 94, 3) := by decide +kernel
theorem dX1_isLate_53 : decode cX1_isLate 53 = .ok (.iload_n 3, 1) := by decide +kernel
theorem dX1_isLate_54 : decode cX1_isLate 54 = .ok (.iadd, 1) := by decide +kernel
theorem dX1_isLate_55 : decode cX1_isLate 55 = .ok (.if_icmp .ge 7, 3) := by decide +kernel
theorem dX1_isLate_58 : decode cX1_isLate 58 = .ok (.iconst 1, 1) := by decide +kernel
theorem dX1_isLate_59 : decode cX1_isLate 59 = .ok (.goto 4, 3) := by decide +kernel
theorem dX1_isLate_62 : decode cX1_isLate 62 = .ok (.iconst 0, 1) := by decide +kernel
theorem dX1_isLate_63 : decode cX1_isLate 63 = .ok (.ireturn, 1) := by decide +kernel
set_option maxRecDepth 20000 in
set_option maxHeartbeats 4000000 in
theorem k_Ly_isLate (l : Launch) (w : WT) (σ : MM) (s : Int) (i_s : inr s) (hs : 0 ≤ s ∧ s < 2 * σ 53 0) (hsrc : SrcOK (σ 5) (σ 53 0)) (hlc : ∀ a : Int, 0 ≤ a → a < σ 53 0 → σ 15 a < σ 56 0 * σ 57 0) : CT SX l w yX1_isLate cX1_isLate 4 (some .boolean) 3 63 [.ref (w.2.2 14), .int (iI s)] σ (PI fun z σ1 => σ = σ1 ∧ ((z = 1 ∧ P4x σ s) ∨ (z = 0 ∧ ¬ P4x σ s))) := by
  refine CT.of 2 [some (.ref (w.2.2 14)), some (.int (iI s)), none, none] (by decide +kernel) (by simp [lg_sl, Value.category]) rfl sh_X (fun G hX => ?_)
  refine r_aload_n hX dX1_isLate_0 rfl ?_
  refine fg_X14_18 hX dX1_isLate_1 ?_
  refine r_iload_n hX dX1_isLate_4 rfl ?_
  refine r_callV hX dX1_isLate_5 (k_Lp_sourceOf l w σ _ (by omega)) mf_X2_sourceOf mv_X2_sourceOf lk_RX1_84 rfl rfl rfl rfl rfl ⟨Nat.le_of_ble_eq_true rfl, Nat.le_of_ble_eq_true rfl⟩ (Nat.le_of_ble_eq_true rfl) (kI fun z5 σ5 hh => ?_)
  obtain ⟨rfl, h5_0, h5_1⟩ := hh
  refine r_istore_n hX (fun x8 => [some (.ref (w.2.2 14)), some (.int (iI s)), some (.int (iI x8)), none]) dX1_isLate_8 (Nat.le_of_ble_eq_true rfl) rfl rfl (fun _ => rfl) (fun x8 e8 => ?_)
  refine r_iload_n hX dX1_isLate_9 rfl ?_
  refine r_bipush hX dX1_isLate_10 (by decide) ?_
  refine r_icmp_ne hX (tgt := 17) dX1_isLate_12 (by decide) (by omega) (by omega) (fun c12 => ?_) (fun c12 => ?_)
  · skip
    obtain rfl : x8 = σ 5 s := by omega
    have h9 := hsrc s (by omega) (by omega)
    have hl1 := hlc (σ 5 s) (by omega) (by omega)
    have hl2 := hlc (s / 2) (by omega) (by omega)
    refine r_aload_n hX dX1_isLate_17 rfl ?_
    refine fg_X14_22 hX dX1_isLate_18 ?_
    refine r_aload_n hX dX1_isLate_21 rfl ?_
    refine r_iload_n hX dX1_isLate_22 rfl ?_
    refine r_callV hX dX1_isLate_23 (k_Ly_cellOf l w σ _ (by omega)) mf_X1_cellOf mv_X1_cellOf lk_RX1_63 rfl rfl rfl rfl rfl ⟨Nat.le_of_ble_eq_true rfl, Nat.le_of_ble_eq_true rfl⟩ (Nat.le_of_ble_eq_true rfl) (kI fun z23 σ23 hh => ?_)
    obtain ⟨rfl, h23_0, h23_1⟩ := hh
    obtain rfl : z23 = σ 15 (σ 5 s) := by omega
    refine r_aload_n hX dX1_isLate_26 rfl ?_
    refine r_iload_n hX dX1_isLate_27 rfl ?_
    refine r_iconst hX dX1_isLate_28 ?_
    refine r_idiv hX dX1_isLate_29 (by omega) (by omega) (by omega) (by omega) ?_
    refine r_callV hX dX1_isLate_30 (k_Ly_cellOf l w σ _ (by omega)) mf_X1_cellOf mv_X1_cellOf lk_RX1_63 rfl rfl rfl rfl rfl ⟨Nat.le_of_ble_eq_true rfl, Nat.le_of_ble_eq_true rfl⟩ (Nat.le_of_ble_eq_true rfl) (kI fun z30 σ30 hh => ?_)
    obtain ⟨rfl, h30_0, h30_1⟩ := hh
    obtain rfl : z30 = σ 15 (s / 2) := by omega
    refine r_callV hX dX1_isLate_33 (k_Gd_wayBetween l w σ _ _ (by omega) (by omega)) mf_X0_wayBetween mv_X0_wayBetween lk_RX1_87 rfl rfl rfl rfl rfl ⟨Nat.le_of_ble_eq_true rfl, Nat.le_of_ble_eq_true rfl⟩ (Nat.le_of_ble_eq_true rfl) (kI fun z33 σ33 hh => ?_)
    obtain ⟨rfl, h33_0⟩ := hh
    refine r_istore_n hX (fun x36 => [some (.ref (w.2.2 14)), some (.int (iI s)), some (.int (iI (σ 5 s))), some (.int (iI x36))]) dX1_isLate_36 (Nat.le_of_ble_eq_true rfl) rfl rfl (fun _ => rfl) (fun x36 e36 => ?_)
    refine r_iload_n hX dX1_isLate_37 rfl ?_
    refine r_bipush hX dX1_isLate_38 (by decide) ?_
    refine r_icmp_eq hX (tgt := 58) dX1_isLate_40 (by decide) (by omega) (by omega) (fun c40 => ?_) (fun c40 => ?_)
    · skip
      refine r_iconst hX dX1_isLate_58 ?_
      refine r_goto hX dX1_isLate_59 (tgt := 63) (by decide) ?_
      exact r_zret hX dX1_isLate_63 rfl (by omega) ⟨_, rfl, ⟨rfl, (by rw [late_iff]; first | exact Or.inl ⟨rfl, by omega, by omega⟩ | exact Or.inr ⟨rfl, by omega⟩)⟩⟩
    · skip
      refine r_aload_n hX dX1_isLate_43 rfl ?_
      refine r_iload_n hX dX1_isLate_44 rfl ?_
      refine r_callV hX dX1_isLate_45 (k_Ly_usedAt l w σ _ (by omega) (by omega)) mf_X1_usedAt mv_X1_usedAt lk_RX1_91 rfl rfl rfl rfl rfl ⟨Nat.le_of_ble_eq_true rfl, Nat.le_of_ble_eq_true rfl⟩ (Nat.le_of_ble_eq_true rfl) (kI fun z45 σ45 hh => ?_)
      obtain ⟨rfl, h45_0, h45_1⟩ := hh
      refine r_aload_n hX dX1_isLate_48 rfl ?_
      refine r_iload_n hX dX1_isLate_49 rfl ?_
      refine r_callV hX dX1_isLate_50 (k_Ly_madeAt l w σ _ (by omega) (by omega)) mf_X1_madeAt mv_X1_madeAt lk_RX1_94 rfl rfl rfl rfl rfl ⟨Nat.le_of_ble_eq_true rfl, Nat.le_of_ble_eq_true rfl⟩ (Nat.le_of_ble_eq_true rfl) (kI fun z50 σ50 hh => ?_)
      obtain ⟨rfl, h50_0, h50_1⟩ := hh
      refine r_iload_n hX dX1_isLate_53 rfl ?_
      refine r_iadd hX dX1_isLate_54 ?_
      refine r_icmp_ge hX (tgt := 62) dX1_isLate_55 (by decide) (by omega) (by omega) (fun c55 => ?_) (fun c55 => ?_)
      · skip
        refine r_iconst hX dX1_isLate_62 ?_
        exact r_zret hX dX1_isLate_63 rfl (by omega) ⟨_, rfl, ⟨rfl, (by rw [late_iff]; first | exact Or.inl ⟨rfl, by omega, by omega⟩ | exact Or.inr ⟨rfl, by omega⟩)⟩⟩
      · skip
        refine r_iconst hX dX1_isLate_58 ?_
        refine r_goto hX dX1_isLate_59 (tgt := 63) (by decide) ?_
        exact r_zret hX dX1_isLate_63 rfl (by omega) ⟨_, rfl, ⟨rfl, (by rw [late_iff]; first | exact Or.inl ⟨rfl, by omega, by omega⟩ | exact Or.inr ⟨rfl, by omega⟩)⟩⟩
  · skip
    refine r_iconst hX dX1_isLate_15 ?_
    exact r_zret hX dX1_isLate_16 rfl (by omega) ⟨_, rfl, ⟨rfl, (by exact Or.inr ⟨rfl, fun q => q.1 (by omega)⟩)⟩⟩
theorem dX1_meetsOneAhead_0 : decode cX1_meetsOneAhead 0 = .ok (.aload_n 0, 1) := by decide +kernel
theorem dX1_meetsOneAhead_1 : decode cX1_meetsOneAhead 1 = .ok (.getfield 26, 3) := by decide +kernel
theorem dX1_meetsOneAhead_4 : decode cX1_meetsOneAhead 4 = .ok (.iconst 1, 1) := by decide +kernel
theorem dX1_meetsOneAhead_5 : decode cX1_meetsOneAhead 5 = .ok (.if_icmp .ge 5, 3) := by decide +kernel
theorem dX1_meetsOneAhead_8 : decode cX1_meetsOneAhead 8 = .ok (.iconst 0, 1) := by decide +kernel
theorem dX1_meetsOneAhead_9 : decode cX1_meetsOneAhead 9 = .ok (.ireturn, 1) := by decide +kernel
theorem dX1_meetsOneAhead_10 : decode cX1_meetsOneAhead 10 = .ok (.iconst 0, 1) := by decide +kernel
theorem dX1_meetsOneAhead_11 : decode cX1_meetsOneAhead 11 = .ok (.istore_n 2, 1) := by decide +kernel
theorem dX1_meetsOneAhead_12 : decode cX1_meetsOneAhead 12 = .ok (.iload_n 2, 1) := by decide +kernel
theorem dX1_meetsOneAhead_13 : decode cX1_meetsOneAhead 13 = .ok (.iload_n 1, 1) := by decide +kernel
theorem dX1_meetsOneAhead_14 : decode cX1_meetsOneAhead 14 = .ok (.if_icmp .ge 53, 3) := by decide +kernel
theorem dX1_meetsOneAhead_17 : decode cX1_meetsOneAhead 17 = .ok (.aload_n 0, 1) := by decide +kernel
theorem dX1_meetsOneAhead_18 : decode cX1_meetsOneAhead 18 = .ok (.iload_n 2, 1) := by decide +kernel
theorem dX1_meetsOneAhead_19 : decode cX1_meetsOneAhead 19 = .ok (.invokevirtual 63, 3) := by decide +kernel
theorem dX1_meetsOneAhead_22 : decode cX1_meetsOneAhead 22 = .ok (.aload_n 0, 1) := by decide +kernel
theorem dX1_meetsOneAhead_23 : decode cX1_meetsOneAhead 23 = .ok (.iload_n 1, 1) := by decide +kernel
theorem dX1_meetsOneAhead_24 : decode cX1_meetsOneAhead 24 = .ok (.invokevirtual 63, 3) := by decide +kernel
theorem dX1_meetsOneAhead_27 : decode cX1_meetsOneAhead 27 = .ok (.if_icmp .ne 7, 3) := by decide +kernel
theorem dX1_meetsOneAhead_30 : decode cX1_meetsOneAhead 30 = .ok (.iconst 1, 1) := by decide +kernel
theorem dX1_meetsOneAhead_31 : decode cX1_meetsOneAhead 31 = .ok (.goto 4, 3) := by decide +kernel
theorem dX1_meetsOneAhead_34 : decode cX1_meetsOneAhead 34 = .ok (.iconst 0, 1) := by decide +kernel
theorem dX1_meetsOneAhead_35 : decode cX1_meetsOneAhead 35 = .ok (.istore_n 3, 1) := by decide +kernel
theorem dX1_meetsOneAhead_36 : decode cX1_meetsOneAhead 36 = .ok (.iload_n 3, 1) := by decide +kernel
theorem dX1_meetsOneAhead_37 : decode cX1_meetsOneAhead 37 = .ok (.ifCond .eq 24, 3) := by decide +kernel
theorem dX1_meetsOneAhead_40 : decode cX1_meetsOneAhead 40 = .ok (.aload_n 0, 1) := by decide +kernel
theorem dX1_meetsOneAhead_41 : decode cX1_meetsOneAhead 41 = .ok (.iload_n 1, 1) := by decide +kernel
theorem dX1_meetsOneAhead_42 : decode cX1_meetsOneAhead 42 = .ok (.invokevirtual 42, 3) := by decide +kernel
theorem dX1_meetsOneAhead_45 : decode cX1_meetsOneAhead 45 = .ok (.aload_n 0, 1) := by decide +kernel
theorem dX1_meetsOneAhead_46 : decode cX1_meetsOneAhead 46 = .ok (.iload_n 2, 1) := by decide +kernel
theorem dX1_meetsOneAhead_47 : decode cX1_meetsOneAhead 47 = .ok (.invokevirtual 42, 3) := by decide +kernel
theorem dX1_meetsOneAhead_50 : decode cX1_meetsOneAhead 50 = .ok (.isub, 1) := by decide +kernel
theorem dX1_meetsOneAhead_51 : decode cX1_meetsOneAhead 51 = .ok (.aload_n 0, 1) := by decide +kernel
theorem dX1_meetsOneAhead_52 : decode cX1_meetsOneAhead 52 = .ok (.getfield 26, 3) := by decide +kernel
theorem dX1_meetsOneAhead_55 : decode cX1_meetsOneAhead 55 = .ok (.irem, 1) := by decide +kernel
theorem dX1_meetsOneAhead_56 : decode cX1_meetsOneAhead 56 = .ok (.ifCond .ne 5, 3) := by decide +kernel
theorem dX1_meetsOneAhead_59 : decode cX1_meetsOneAhead 59 = .ok (.iconst 1, 1) := by decide +kernel
theorem dX1_meetsOneAhead_60 : decode cX1_meetsOneAhead 60 = .ok (.ireturn, 1) := by decide +kernel
theorem dX1_meetsOneAhead_61 : decode cX1_meetsOneAhead 61 = .ok (.iinc 2 1, 3) := by decide +kernel
theorem dX1_meetsOneAhead_64 : decode cX1_meetsOneAhead 64 = .ok (.goto (-52), 3) := by decide +kernel
theorem dX1_meetsOneAhead_67 : decode cX1_meetsOneAhead 67 = .ok (.iconst 0, 1) := by decide +kernel
theorem dX1_meetsOneAhead_68 : decode cX1_meetsOneAhead 68 = .ok (.ireturn, 1) := by decide +kernel
set_option maxRecDepth 20000 in
set_option maxHeartbeats 4000000 in
theorem k_Ly_meets (l : Launch) (w : WT) (σ : MM) (a : Int) (i_a : inr a) (ha : 0 ≤ a ∧ a < σ 53 0) (hbt : 0 < σ 58 0) : CT SX l w yX1_meetsOneAhead cX1_meetsOneAhead 4 (some .boolean) 2 42 [.ref (w.2.2 14), .int (iI a)] σ (PI fun z σ1 => σ = σ1 ∧ ((z = 1 ∧ P3x σ a) ∨ (z = 0 ∧ ¬ P3x σ a))) := by
  refine CT.of 2 [some (.ref (w.2.2 14)), some (.int (iI a)), none, none] (by decide +kernel) (by simp [lg_sl, Value.category]) rfl sh_X (fun G hX => ?_)
  refine r_bd hX (fun hBd => ?_)
  have b_53 := hBd 53 0 8 rfl 0
  have b_58 := hBd 58 0 12 rfl 0
  refine r_aload_n hX dX1_meetsOneAhead_0 rfl ?_
  refine fg_X14_26 hX dX1_meetsOneAhead_1 (fun b1l b1u => ?_)
  refine r_iconst hX dX1_meetsOneAhead_4 ?_
  refine r_icmp_ge hX (tgt := 10) dX1_meetsOneAhead_5 (by decide) (by omega) (by omega) (fun c5 => ?_) (fun c5 => ?_)
  · skip
    refine r_iconst hX dX1_meetsOneAhead_10 ?_
    refine r_istore_n hX (fun x11 => [some (.ref (w.2.2 14)), some (.int (iI a)), some (.int (iI x11)), none]) dX1_meetsOneAhead_11 (Nat.le_of_ble_eq_true rfl) rfl rfl (fun _ => rfl) (fun x11 e11 => ?_)
    have lp12 : ∀ (n : Nat) (o : Int) (ho : 0 ≤ o ∧ o ≤ a) (hn : Non (fun x => σ 15 x = σ 15 a ∧ σ 16 a % σ 58 0 = σ 16 x % σ 58 0) o) (hmu : 9 - o < (n : Int)), G 12 [some (.ref (w.2.2 14)), some (.int (iI a)), some (.int (iI o)), none] [] σ := by
      intro n
      induction n with
      | zero => intro o ho hn hmu; omega
      | succ n ih =>
        intro o ho hn hmu
        have ih12 := ih
        clear ih
        refine r_iload_n hX dX1_meetsOneAhead_12 rfl ?_
        refine r_iload_n hX dX1_meetsOneAhead_13 rfl ?_
        refine r_icmp_ge hX (tgt := 67) dX1_meetsOneAhead_14 (by decide) (by omega) (by omega) (fun c14 => ?_) (fun c14 => ?_)
        · skip
          refine r_iconst hX dX1_meetsOneAhead_67 ?_
          exact r_zret hX dX1_meetsOneAhead_68 rfl (by omega) ⟨_, rfl, ⟨rfl, (by exact Or.inr ⟨rfl, fun ⟨o1, q0, q1, q2, q3⟩ => hn o1 q0 (by omega) ⟨q2, q3⟩⟩)⟩⟩
        · skip
          refine r_aload_n hX dX1_meetsOneAhead_17 rfl ?_
          refine r_iload_n hX dX1_meetsOneAhead_18 rfl ?_
          refine r_callV hX dX1_meetsOneAhead_19 (k_Ly_cellOf l w σ _ (by omega)) mf_X1_cellOf mv_X1_cellOf lk_RX1_63 rfl rfl rfl rfl rfl ⟨Nat.le_of_ble_eq_true rfl, Nat.le_of_ble_eq_true rfl⟩ (Nat.le_of_ble_eq_true rfl) (kI fun z19 σ19 hh => ?_)
          obtain ⟨rfl, h19_0, h19_1⟩ := hh
          obtain rfl : z19 = σ 15 o := by omega
          refine r_aload_n hX dX1_meetsOneAhead_22 rfl ?_
          refine r_iload_n hX dX1_meetsOneAhead_23 rfl ?_
          refine r_callV hX dX1_meetsOneAhead_24 (k_Ly_cellOf l w σ _ (by omega)) mf_X1_cellOf mv_X1_cellOf lk_RX1_63 rfl rfl rfl rfl rfl ⟨Nat.le_of_ble_eq_true rfl, Nat.le_of_ble_eq_true rfl⟩ (Nat.le_of_ble_eq_true rfl) (kI fun z24 σ24 hh => ?_)
          obtain ⟨rfl, h24_0, h24_1⟩ := hh
          obtain rfl : z24 = σ 15 a := by omega
          refine r_icmp_ne hX (tgt := 34) dX1_meetsOneAhead_27 (by decide) (by omega) (by omega) (fun c27 => ?_) (fun c27 => ?_)
          · skip
            refine r_iconst hX dX1_meetsOneAhead_34 ?_
            refine r_istore_n hX (fun x35 => [some (.ref (w.2.2 14)), some (.int (iI a)), some (.int (iI o)), some (.int (iI x35))]) dX1_meetsOneAhead_35 (Nat.le_of_ble_eq_true rfl) rfl rfl (fun _ => rfl) (fun x35 e35 => ?_)
            refine r_iload_n hX dX1_meetsOneAhead_36 rfl ?_
            refine r_if_eq hX (tgt := 61) dX1_meetsOneAhead_37 (by decide) (by omega) (fun c37 => ?_) (fun c37 => by exfalso; omega)
            refine r_iinc hX (fun x61 => [some (.ref (w.2.2 14)), some (.int (iI a)), some (.int (iI x61)), some (.int (iI x35))]) dX1_meetsOneAhead_61 rfl rfl rfl (fun _ => rfl) (fun x61 e61 => ?_)
            refine r_goto hX dX1_meetsOneAhead_64 (tgt := 12) (by decide) ?_
            refine r_wk hX (lv1 := [some (.ref (w.2.2 14)), some (.int (iI a)), some (.int (iI x61)), none]) ⟨rfl, ⟨rfl, ⟨rfl, trivial⟩⟩⟩ ?_
            exact ih12 x61 (by omega) (hn.next (fun q => by first | exact absurd q.1 (by omega) | exact absurd ((tmod_same (x := σ 16 a) (y := σ 16 o) (b := σ 58 0) (by omega)).mpr q.2) (by omega)) e61) (by omega)
          · skip
            refine r_iconst hX dX1_meetsOneAhead_30 ?_
            refine r_goto hX dX1_meetsOneAhead_31 (tgt := 35) (by decide) ?_
            refine r_istore_n hX (fun x35 => [some (.ref (w.2.2 14)), some (.int (iI a)), some (.int (iI o)), some (.int (iI x35))]) dX1_meetsOneAhead_35 (Nat.le_of_ble_eq_true rfl) rfl rfl (fun _ => rfl) (fun x35 e35 => ?_)
            refine r_iload_n hX dX1_meetsOneAhead_36 rfl ?_
            refine r_if_eq hX (tgt := 61) dX1_meetsOneAhead_37 (by decide) (by omega) (fun c37 => by exfalso; omega) (fun c37 => ?_)
            refine r_aload_n hX dX1_meetsOneAhead_40 rfl ?_
            refine r_iload_n hX dX1_meetsOneAhead_41 rfl ?_
            refine r_callV hX dX1_meetsOneAhead_42 (k_Ly_startOf l w σ _ (by omega)) mf_X1_startOf mv_X1_startOf lk_RX1_42 rfl rfl rfl rfl rfl ⟨Nat.le_of_ble_eq_true rfl, Nat.le_of_ble_eq_true rfl⟩ (Nat.le_of_ble_eq_true rfl) (kI fun z42 σ42 hh => ?_)
            obtain ⟨rfl, h42_0, h42_1⟩ := hh
            obtain rfl : z42 = σ 16 a := by omega
            refine r_aload_n hX dX1_meetsOneAhead_45 rfl ?_
            refine r_iload_n hX dX1_meetsOneAhead_46 rfl ?_
            refine r_callV hX dX1_meetsOneAhead_47 (k_Ly_startOf l w σ _ (by omega)) mf_X1_startOf mv_X1_startOf lk_RX1_42 rfl rfl rfl rfl rfl ⟨Nat.le_of_ble_eq_true rfl, Nat.le_of_ble_eq_true rfl⟩ (Nat.le_of_ble_eq_true rfl) (kI fun z47 σ47 hh => ?_)
            obtain ⟨rfl, h47_0, h47_1⟩ := hh
            obtain rfl : z47 = σ 16 o := by omega
            have b16 := hBd 16 0 20000000 rfl a
            have b16o := hBd 16 0 20000000 rfl o
            refine r_isub hX dX1_meetsOneAhead_50 ?_
            refine r_aload_n hX dX1_meetsOneAhead_51 rfl ?_
            refine fg_X14_26 hX dX1_meetsOneAhead_52 (fun b52l b52u => ?_)
            refine r_iremT hX dX1_meetsOneAhead_55 (by omega) (by omega) (by omega) ?_
            have tb := Int.tmod_lt_of_pos (σ 16 a - σ 16 o) (show (0 : Int) < σ 58 0 by omega)
            have tb2 := Int.lt_tmod_of_pos (σ 16 a - σ 16 o) (show (0 : Int) < σ 58 0 by omega)
            refine r_if_ne hX (tgt := 61) dX1_meetsOneAhead_56 (by decide) (by omega) (fun c56 => ?_) (fun c56 => ?_)
            · skip
              refine r_iinc hX (fun x61 => [some (.ref (w.2.2 14)), some (.int (iI a)), some (.int (iI x61)), some (.int (iI x35))]) dX1_meetsOneAhead_61 rfl rfl rfl (fun _ => rfl) (fun x61 e61 => ?_)
              refine r_goto hX dX1_meetsOneAhead_64 (tgt := 12) (by decide) ?_
              refine r_wk hX (lv1 := [some (.ref (w.2.2 14)), some (.int (iI a)), some (.int (iI x61)), none]) ⟨rfl, ⟨rfl, ⟨rfl, trivial⟩⟩⟩ ?_
              exact ih12 x61 (by omega) (hn.next (fun q => by first | exact absurd q.1 (by omega) | exact absurd ((tmod_same (x := σ 16 a) (y := σ 16 o) (b := σ 58 0) (by omega)).mpr q.2) (by omega)) e61) (by omega)
            · skip
              refine r_iconst hX dX1_meetsOneAhead_59 ?_
              exact r_zret hX dX1_meetsOneAhead_60 rfl (by omega) ⟨_, rfl, ⟨rfl, (by exact Or.inl ⟨rfl, o, by omega, by omega, by omega, (tmod_same (by omega)).mp (by omega)⟩)⟩⟩
    exact lp12 ((9 - (x11)) + 1).toNat x11 (by omega) (fun b b0 b1 => by omega) (by omega)
  · exfalso; omega
theorem dX1_firstLack_0 : decode cX1_firstLack 0 = .ok (.aload_n 0, 1) := by decide +kernel
theorem dX1_firstLack_1 : decode cX1_firstLack 1 = .ok (.getfield 18, 3) := by decide +kernel
theorem dX1_firstLack_4 : decode cX1_firstLack 4 = .ok (.invokevirtual 60, 3) := by decide +kernel
theorem dX1_firstLack_7 : decode cX1_firstLack 7 = .ok (.istore_n 1, 1) := by decide +kernel
theorem dX1_firstLack_8 : decode cX1_firstLack 8 = .ok (.iconst 0, 1) := by decide +kernel
theorem dX1_firstLack_9 : decode cX1_firstLack 9 = .ok (.istore_n 2, 1) := by decide +kernel
theorem dX1_firstLack_10 : decode cX1_firstLack 10 = .ok (.iload_n 2, 1) := by decide +kernel
theorem dX1_firstLack_11 : decode cX1_firstLack 11 = .ok (.iload_n 1, 1) := by decide +kernel
theorem dX1_firstLack_12 : decode cX1_firstLack 12 = .ok (.if_icmp .ge 29, 3) := by decide +kernel
theorem dX1_firstLack_15 : decode cX1_firstLack 15 = .ok (.aload_n 0, 1) := by decide +kernel
theorem dX1_firstLack_16 : decode cX1_firstLack 16 = .ok (.getfield 22, 3) := by decide +kernel
theorem dX1_firstLack_19 : decode cX1_firstLack 19 = .ok (.aload_n 0, 1) := by decide +kernel
theorem dX1_firstLack_20 : decode cX1_firstLack 20 = .ok (.iload_n 2, 1) := by decide +kernel
theorem dX1_firstLack_21 : decode cX1_firstLack 21 = .ok (.invokevirtual 63, 3) := by decide +kernel
theorem dX1_firstLack_24 : decode cX1_firstLack 24 = .ok (.invokevirtual 66, 3) := by decide +kernel
theorem dX1_firstLack_27 : decode cX1_firstLack 27 = .ok (.ifCond .eq 8, 3) := by decide +kernel
theorem dX1_firstLack_30 : decode cX1_firstLack 30 = .ok (.bipush 10, 2) := by decide +kernel
theorem dX1_firstLack_32 : decode cX1_firstLack 32 = .ok (.iload_n 2, 1) := by decide +kernel
theorem dX1_firstLack_33 : decode cX1_firstLack 33 = .ok (.iadd, 1) := by decide +kernel
theorem dX1_firstLack_34 : decode cX1_firstLack 34 = .ok (.ireturn, 1) := by decide +kernel
theorem dX1_firstLack_35 : decode cX1_firstLack 35 = .ok (.iinc 2 1, 3) := by decide +kernel
theorem dX1_firstLack_38 : decode cX1_firstLack 38 = .ok (.goto (-28), 3) := by decide +kernel
theorem dX1_firstLack_41 : decode cX1_firstLack 41 = .ok (.iconst 0, 1) := by decide +kernel
theorem dX1_firstLack_42 : decode cX1_firstLack 42 = .ok (.istore_n 2, 1) := by decide +kernel
theorem dX1_firstLack_43 : decode cX1_firstLack 43 = .ok (.iload_n 2, 1) := by decide +kernel
theorem dX1_firstLack_44 : decode cX1_firstLack 44 = .ok (.iload_n 1, 1) := by decide +kernel
theorem dX1_firstLack_45 : decode cX1_firstLack 45 = .ok (.if_icmp .ge 37, 3) := by decide +kernel
theorem dX1_firstLack_48 : decode cX1_firstLack 48 = .ok (.aload_n 0, 1) := by decide +kernel
theorem dX1_firstLack_49 : decode cX1_firstLack 49 = .ok (.getfield 22, 3) := by decide +kernel
theorem dX1_firstLack_52 : decode cX1_firstLack 52 = .ok (.aload_n 0, 1) := by decide +kernel
theorem dX1_firstLack_53 : decode cX1_firstLack 53 = .ok (.getfield 18, 3) := by decide +kernel
theorem dX1_firstLack_56 : decode cX1_firstLack 56 = .ok (.iload_n 2, 1) := by decide +kernel
theorem dX1_firstLack_57 : decode cX1_firstLack 57 = .ok (.invokevirtual 71, 3) := by decide +kernel
theorem dX1_firstLack_60 : decode cX1_firstLack 60 = .ok (.aload_n 0, 1) := by decide +kernel
theorem dX1_firstLack_61 : decode cX1_firstLack 61 = .ok (.iload_n 2, 1) := by decide +kernel
theorem dX1_firstLack_62 : decode cX1_firstLack 62 = .ok (.invokevirtual 63, 3) := by decide +kernel
theorem dX1_firstLack_65 : decode cX1_firstLack 65 = .ok (.invokevirtual 74, 3) := by decide +kernel
theorem dX1_firstLack_68 : decode cX1_firstLack 68 = .ok (.ifCond .ne 8, 3) := by decide +kernel
theorem dX1_firstLack_71 : decode cX1_firstLack 71 = .ok (.bipush 20, 2) := by decide +kernel
theorem dX1_firstLack_73 : decode cX1_firstLack 73 = .ok (.iload_n 2, 1) := by decide +kernel
theorem dX1_firstLack_74 : decode cX1_firstLack 74 = .ok (.iadd, 1) := by decide +kernel
theorem dX1_firstLack_75 : decode cX1_firstLack 75 = .ok (.ireturn, 1) := by decide +kernel
theorem dX1_firstLack_76 : decode cX1_firstLack 76 = .ok (.iinc 2 1, 3) := by decide +kernel
theorem dX1_firstLack_79 : decode cX1_firstLack 79 = .ok (.goto (-36), 3) := by decide +kernel
theorem dX1_firstLack_82 : decode cX1_firstLack 82 = .ok (.iconst 0, 1) := by decide +kernel
theorem dX1_firstLack_83 : decode cX1_firstLack 83 = .ok (.istore_n 2, 1) := by decide +kernel
theorem dX1_firstLack_84 : decode cX1_firstLack 84 = .ok (.iload_n 2, 1) := by decide +kernel
theorem dX1_firstLack_85 : decode cX1_firstLack 85 = .ok (.iload_n 1, 1) := by decide +kernel
theorem dX1_firstLack_86 : decode cX1_firstLack 86 = .ok (.if_icmp .ge 22, 3) := by decide +kernel
theorem dX1_firstLack_89 : decode cX1_firstLack 89 = .ok (.aload_n 0, 1) := by decide +kernel
theorem dX1_firstLack_90 : decode cX1_firstLack 90 = .ok (.iload_n 2, 1) := by decide +kernel
theorem dX1_firstLack_91 : decode cX1_firstLack 91 = .ok (.invokevirtual 78, 3) := by decide +kernel
theorem dX1_firstLack_94 : decode cX1_firstLack 94 = .ok (.ifCond .eq 8, 3) := by decide +kernel
theorem dX1_firstLack_97 : decode cX1_firstLack 97 = .ok (.bipush 30, 2) := by decide +kernel
theorem dX1_firstLack_99 : decode cX1_firstLack 99 = .ok (.iload_n 2, 1) := by decide +kernel
theorem dX1_firstLack_100 : decode cX1_firstLack 100 = .ok (.iadd, 1) := by decide +kernel
theorem dX1_firstLack_101 : decode cX1_firstLack 101 = .ok (.ireturn, 1) := by decide +kernel
theorem dX1_firstLack_102 : decode cX1_firstLack 102 = .ok (.iinc 2 1, 3) := by decide +kernel
theorem dX1_firstLack_105 : decode cX1_firstLack 105 = .ok (.goto (-21), 3) := by decide +kernel
theorem dX1_firstLack_108 : decode cX1_firstLack 108 = .ok (.iconst 0, 1) := by decide +kernel
theorem dX1_firstLack_109 : decode cX1_firstLack 109 = .ok (.istore_n 2, 1) := by decide +kernel
theorem dX1_firstLack_110 : decode cX1_firstLack 110 = .ok (.iload_n 2, 1) := by decide +kernel
theorem dX1_firstLack_111 : decode cX1_firstLack 111 = .ok (.iconst 2, 1) := by decide +kernel
theorem dX1_firstLack_112 : decode cX1_firstLack 112 = .ok (.iload_n 1, 1) := by decide +kernel
theorem dX1_firstLack_113 : decode cX1_firstLack 113 = .ok (.imul, 1) := by decide +kernel
theorem dX1_firstLack_114 : decode cX1_firstLack 114 = .ok (.if_icmp .ge 22, 3) := by decide +kernel
theorem dX1_firstLack_117 : decode cX1_firstLack 117 = .ok (.aload_n 0, 1) := by decide +kernel
theorem dX1_firstLack_118 : decode cX1_firstLack 118 = .ok (.iload_n 2, 1) := by decide +kernel
theorem dX1_firstLack_119 : decode cX1_firstLack 119 = .ok (.invokevirtual 81, 3) := by decide +kernel
theorem dX1_firstLack_122 : decode cX1_firstLack 122 = .ok (.ifCond .eq 8, 3) := by decide +kernel
theorem dX1_firstLack_125 : decode cX1_firstLack 125 = .ok (.bipush 40, 2) := by decide +kernel
theorem dX1_firstLack_127 : decode cX1_firstLack 127 = .ok (.iload_n 2, 1) := by decide +kernel
theorem dX1_firstLack_128 : decode cX1_firstLack 128 = .ok (.iadd, 1) := by decide +kernel
theorem dX1_firstLack_129 : decode cX1_firstLack 129 = .ok (.ireturn, 1) := by decide +kernel
theorem dX1_firstLack_130 : decode cX1_firstLack 130 = .ok (.iinc 2 1, 3) := by decide +kernel
theorem dX1_firstLack_133 : decode cX1_firstLack 133 = .ok (.goto (-23), 3) := by decide +kernel
theorem dX1_firstLack_136 : decode cX1_firstLack 136 = .ok (.iconst 0, 1) := by decide +kernel
theorem dX1_firstLack_137 : decode cX1_firstLack 137 = .ok (.ireturn, 1) := by decide +kernel
set_option maxRecDepth 20000 in
set_option maxHeartbeats 4000000 in
theorem k_Ly_firstLack (l : Launch) (w : WT) (σ : MM) (hsrc : SrcOK (σ 5) (σ 53 0)) (hlc : ∀ a : Int, 0 ≤ a → a < σ 53 0 → σ 15 a < σ 56 0 * σ 57 0) (hbt : 0 < σ 58 0) : CT SX l w yX1_firstLack cX1_firstLack 3 (some .int) 4 86 [.ref (w.2.2 14)] σ (PI fun z σ1 => σ = σ1 ∧ (FLx σ z) ∧ (0 ≤ z ∧ z ≤ 60)) := by
  refine CT.of 2 [some (.ref (w.2.2 14)), none, none] (by decide +kernel) (by simp [lg_sl, Value.category]) rfl sh_X (fun G hX => ?_)
  refine r_aload_n hX dX1_firstLack_0 rfl ?_
  refine fg_X14_18 hX dX1_firstLack_1 ?_
  refine r_callV hX dX1_firstLack_4 (k_Lp_count l w σ) mf_X2_count mv_X2_count lk_RX1_60 rfl rfl rfl rfl rfl ⟨Nat.le_of_ble_eq_true rfl, Nat.le_of_ble_eq_true rfl⟩ (Nat.le_of_ble_eq_true rfl) (kI fun z4 σ4 hh => ?_)
  obtain ⟨rfl, h4_0, h4_1⟩ := hh
  refine r_istore_n hX (fun x7 => [some (.ref (w.2.2 14)), some (.int (iI x7)), none]) dX1_firstLack_7 (Nat.le_of_ble_eq_true rfl) rfl rfl (fun _ => rfl) (fun x7 e7 => ?_)
  refine r_iconst hX dX1_firstLack_8 ?_
  refine r_istore_n hX (fun x9 => [some (.ref (w.2.2 14)), some (.int (iI x7)), some (.int (iI x9))]) dX1_firstLack_9 (Nat.le_of_ble_eq_true rfl) rfl rfl (fun _ => rfl) (fun x9 e9 => ?_)
  have lp10 : ∀ (n : Nat) (a1 : Int) (ha1 : 0 ≤ a1 ∧ a1 ≤ σ 53 0) (hn1 : Non (P1x σ) a1) (hmu : 9 - a1 < (n : Int)), G 10 [some (.ref (w.2.2 14)), some (.int (iI x7)), some (.int (iI a1))] [] σ := by
    intro n
    induction n with
    | zero => intro a1 ha1 hn1 hmu; omega
    | succ n ih =>
      intro a1 ha1 hn1 hmu
      have ih10 := ih
      clear ih
      refine r_iload_n hX dX1_firstLack_10 rfl ?_
      refine r_iload_n hX dX1_firstLack_11 rfl ?_
      refine r_icmp_ge hX (tgt := 41) dX1_firstLack_12 (by decide) (by omega) (by omega) (fun c12 => ?_) (fun c12 => ?_)
      · skip
        have hm1 : Non (P1x σ) (σ 53 0) := (show a1 = σ 53 0 by omega) ▸ hn1
        refine r_iconst hX dX1_firstLack_41 ?_
        refine r_istore_n hX (fun x42 => [some (.ref (w.2.2 14)), some (.int (iI x7)), some (.int (iI x42))]) dX1_firstLack_42 (Nat.le_of_ble_eq_true rfl) rfl rfl (fun _ => rfl) (fun x42 e42 => ?_)
        have lp43 : ∀ (n : Nat) (a2 : Int) (ha2 : 0 ≤ a2 ∧ a2 ≤ σ 53 0) (hn2 : Non (P2x σ) a2) (hmu : 9 - a2 < (n : Int)), G 43 [some (.ref (w.2.2 14)), some (.int (iI x7)), some (.int (iI a2))] [] σ := by
          intro n
          induction n with
          | zero => intro a2 ha2 hn2 hmu; omega
          | succ n ih =>
            intro a2 ha2 hn2 hmu
            have ih43 := ih
            clear ih
            refine r_iload_n hX dX1_firstLack_43 rfl ?_
            refine r_iload_n hX dX1_firstLack_44 rfl ?_
            refine r_icmp_ge hX (tgt := 82) dX1_firstLack_45 (by decide) (by omega) (by omega) (fun c45 => ?_) (fun c45 => ?_)
            · skip
              have hm2 : Non (P2x σ) (σ 53 0) := (show a2 = σ 53 0 by omega) ▸ hn2
              refine r_iconst hX dX1_firstLack_82 ?_
              refine r_istore_n hX (fun x83 => [some (.ref (w.2.2 14)), some (.int (iI x7)), some (.int (iI x83))]) dX1_firstLack_83 (Nat.le_of_ble_eq_true rfl) rfl rfl (fun _ => rfl) (fun x83 e83 => ?_)
              have lp84 : ∀ (n : Nat) (a3 : Int) (ha3 : 0 ≤ a3 ∧ a3 ≤ σ 53 0) (hn3 : Non (P3x σ) a3) (hmu : 9 - a3 < (n : Int)), G 84 [some (.ref (w.2.2 14)), some (.int (iI x7)), some (.int (iI a3))] [] σ := by
                intro n
                induction n with
                | zero => intro a3 ha3 hn3 hmu; omega
                | succ n ih =>
                  intro a3 ha3 hn3 hmu
                  have ih84 := ih
                  clear ih
                  refine r_iload_n hX dX1_firstLack_84 rfl ?_
                  refine r_iload_n hX dX1_firstLack_85 rfl ?_
                  refine r_icmp_ge hX (tgt := 108) dX1_firstLack_86 (by decide) (by omega) (by omega) (fun c86 => ?_) (fun c86 => ?_)
                  · skip
                    have hm3 : Non (P3x σ) (σ 53 0) := (show a3 = σ 53 0 by omega) ▸ hn3
                    refine r_iconst hX dX1_firstLack_108 ?_
                    refine r_istore_n hX (fun x109 => [some (.ref (w.2.2 14)), some (.int (iI x7)), some (.int (iI x109))]) dX1_firstLack_109 (Nat.le_of_ble_eq_true rfl) rfl rfl (fun _ => rfl) (fun x109 e109 => ?_)
                    have lp110 : ∀ (n : Nat) (s4 : Int) (hs4 : 0 ≤ s4 ∧ s4 ≤ 2 * σ 53 0) (hn4 : Non (P4x σ) s4) (hmu : 17 - s4 < (n : Int)), G 110 [some (.ref (w.2.2 14)), some (.int (iI x7)), some (.int (iI s4))] [] σ := by
                      intro n
                      induction n with
                      | zero => intro s4 hs4 hn4 hmu; omega
                      | succ n ih =>
                        intro s4 hs4 hn4 hmu
                        have ih110 := ih
                        clear ih
                        refine r_iload_n hX dX1_firstLack_110 rfl ?_
                        refine r_iconst hX dX1_firstLack_111 ?_
                        refine r_iload_n hX dX1_firstLack_112 rfl ?_
                        refine r_imul hX dX1_firstLack_113 ?_
                        refine r_icmp_ge hX (tgt := 136) dX1_firstLack_114 (by decide) (by omega) (by omega) (fun c114 => ?_) (fun c114 => ?_)
                        · skip
                          refine r_iconst hX dX1_firstLack_136 ?_
                          exact r_iret hX dX1_firstLack_137 rfl ⟨_, rfl, ⟨rfl, (by exact Or.inr (Or.inr (Or.inr (Or.inr ⟨hm1, hm2, hm3, (show s4 = 2 * σ 53 0 by omega) ▸ hn4, rfl⟩)))), (by omega)⟩⟩
                        · skip
                          refine r_aload_n hX dX1_firstLack_117 rfl ?_
                          refine r_iload_n hX dX1_firstLack_118 rfl ?_
                          refine r_callV hX dX1_firstLack_119 (k_Ly_isLate l w σ _ (by omega) (by omega) (by skip; exact hsrc) (by skip; exact hlc)) mf_X1_isLate mv_X1_isLate lk_RX1_81 rfl rfl rfl rfl rfl ⟨Nat.le_of_ble_eq_true rfl, Nat.le_of_ble_eq_true rfl⟩ (Nat.le_of_ble_eq_true rfl) (kI fun z119 σ119 hh => ?_)
                          obtain ⟨rfl, h119_0⟩ := hh
                          refine r_if_eq hX (tgt := 130) dX1_firstLack_122 (by decide) (by omega) (fun c122 => ?_) (fun c122 => ?_)
                          · skip
                            refine r_iinc hX (fun x130 => [some (.ref (w.2.2 14)), some (.int (iI x7)), some (.int (iI x130))]) dX1_firstLack_130 rfl rfl rfl (fun _ => rfl) (fun x130 e130 => ?_)
                            refine r_goto hX dX1_firstLack_133 (tgt := 110) (by decide) ?_
                            exact ih110 x130 (by omega) (hn4.next (cf_no h119_0 (by omega)) e130) (by omega)
                          · skip
                            refine r_bipush hX dX1_firstLack_125 (by decide) ?_
                            refine r_iload_n hX dX1_firstLack_127 rfl ?_
                            refine r_iadd hX dX1_firstLack_128 ?_
                            exact r_iret hX dX1_firstLack_129 rfl ⟨_, rfl, ⟨rfl, (by exact Or.inr (Or.inr (Or.inr (Or.inl ⟨hm1, hm2, hm3, s4, hn4.fst (by omega) (by omega) (cf_yes h119_0 (by omega)), by omega⟩)))), (by omega)⟩⟩
                    exact lp110 ((17 - (x109)) + 1).toNat x109 (by omega) (fun b b0 b1 => by omega) (by omega)
                  · skip
                    refine r_aload_n hX dX1_firstLack_89 rfl ?_
                    refine r_iload_n hX dX1_firstLack_90 rfl ?_
                    refine r_callV hX dX1_firstLack_91 (k_Ly_meets l w σ _ (by omega) (by omega) (by omega)) mf_X1_meetsOneAhead mv_X1_meetsOneAhead lk_RX1_78 rfl rfl rfl rfl rfl ⟨Nat.le_of_ble_eq_true rfl, Nat.le_of_ble_eq_true rfl⟩ (Nat.le_of_ble_eq_true rfl) (kI fun z91 σ91 hh => ?_)
                    obtain ⟨rfl, h91_0⟩ := hh
                    refine r_if_eq hX (tgt := 102) dX1_firstLack_94 (by decide) (by omega) (fun c94 => ?_) (fun c94 => ?_)
                    · skip
                      refine r_iinc hX (fun x102 => [some (.ref (w.2.2 14)), some (.int (iI x7)), some (.int (iI x102))]) dX1_firstLack_102 rfl rfl rfl (fun _ => rfl) (fun x102 e102 => ?_)
                      refine r_goto hX dX1_firstLack_105 (tgt := 84) (by decide) ?_
                      exact ih84 x102 (by omega) (hn3.next (cf_no h91_0 (by omega)) e102) (by omega)
                    · skip
                      refine r_bipush hX dX1_firstLack_97 (by decide) ?_
                      refine r_iload_n hX dX1_firstLack_99 rfl ?_
                      refine r_iadd hX dX1_firstLack_100 ?_
                      exact r_iret hX dX1_firstLack_101 rfl ⟨_, rfl, ⟨rfl, (by exact Or.inr (Or.inr (Or.inl ⟨hm1, hm2, a3, hn3.fst (by omega) (by omega) (cf_yes h91_0 (by omega)), by omega⟩))), (by omega)⟩⟩
              exact lp84 ((9 - (x83)) + 1).toNat x83 (by omega) (fun b b0 b1 => by omega) (by omega)
            · skip
              have hl := hlc a2 (by omega) (by omega)
              refine r_aload_n hX dX1_firstLack_48 rfl ?_
              refine fg_X14_22 hX dX1_firstLack_49 ?_
              refine r_aload_n hX dX1_firstLack_52 rfl ?_
              refine fg_X14_18 hX dX1_firstLack_53 ?_
              refine r_iload_n hX dX1_firstLack_56 rfl ?_
              refine r_callV hX dX1_firstLack_57 (k_Lp_kindOf l w σ _ (by omega)) mf_X2_kindOf mv_X2_kindOf lk_RX1_71 rfl rfl rfl rfl rfl ⟨Nat.le_of_ble_eq_true rfl, Nat.le_of_ble_eq_true rfl⟩ (Nat.le_of_ble_eq_true rfl) (kI fun z57 σ57 hh => ?_)
              obtain ⟨rfl, h57_0, h57_1⟩ := hh
              obtain rfl : z57 = σ 2 a2 := by omega
              refine r_aload_n hX dX1_firstLack_60 rfl ?_
              refine r_iload_n hX dX1_firstLack_61 rfl ?_
              refine r_callV hX dX1_firstLack_62 (k_Ly_cellOf l w σ _ (by omega)) mf_X1_cellOf mv_X1_cellOf lk_RX1_63 rfl rfl rfl rfl rfl ⟨Nat.le_of_ble_eq_true rfl, Nat.le_of_ble_eq_true rfl⟩ (Nat.le_of_ble_eq_true rfl) (kI fun z62 σ62 hh => ?_)
              obtain ⟨rfl, h62_0, h62_1⟩ := hh
              obtain rfl : z62 = σ 15 a2 := by omega
              refine r_callV hX dX1_firstLack_65 (k_Gd_suits l w σ _ _ (by omega) (by omega)) mf_X0_suits mv_X0_suits lk_RX1_74 rfl rfl rfl rfl rfl ⟨Nat.le_of_ble_eq_true rfl, Nat.le_of_ble_eq_true rfl⟩ (Nat.le_of_ble_eq_true rfl) (kI fun z65 σ65 hh => ?_)
              obtain ⟨rfl, h65_0⟩ := hh
              refine r_if_ne hX (tgt := 76) dX1_firstLack_68 (by decide) (by omega) (fun c68 => ?_) (fun c68 => ?_)
              · skip
                refine r_iinc hX (fun x76 => [some (.ref (w.2.2 14)), some (.int (iI x7)), some (.int (iI x76))]) dX1_firstLack_76 rfl rfl rfl (fun _ => rfl) (fun x76 e76 => ?_)
                refine r_goto hX dX1_firstLack_79 (tgt := 43) (by decide) ?_
                exact ih43 x76 (by omega) (hn2.next (by unfold P2x; omega) e76) (by omega)
              · skip
                refine r_bipush hX dX1_firstLack_71 (by decide) ?_
                refine r_iload_n hX dX1_firstLack_73 rfl ?_
                refine r_iadd hX dX1_firstLack_74 ?_
                exact r_iret hX dX1_firstLack_75 rfl ⟨_, rfl, ⟨rfl, (by exact Or.inr (Or.inl ⟨hm1, a2, hn2.fst (by omega) (by omega) ⟨by omega, by omega⟩, by omega⟩)), (by omega)⟩⟩
        exact lp43 ((9 - (x42)) + 1).toNat x42 (by omega) (fun b b0 b1 => by omega) (by omega)
      · skip
        have hl := hlc a1 (by omega) (by omega)
        refine r_aload_n hX dX1_firstLack_15 rfl ?_
        refine fg_X14_22 hX dX1_firstLack_16 ?_
        refine r_aload_n hX dX1_firstLack_19 rfl ?_
        refine r_iload_n hX dX1_firstLack_20 rfl ?_
        refine r_callV hX dX1_firstLack_21 (k_Ly_cellOf l w σ _ (by omega)) mf_X1_cellOf mv_X1_cellOf lk_RX1_63 rfl rfl rfl rfl rfl ⟨Nat.le_of_ble_eq_true rfl, Nat.le_of_ble_eq_true rfl⟩ (Nat.le_of_ble_eq_true rfl) (kI fun z21 σ21 hh => ?_)
        obtain ⟨rfl, h21_0, h21_1⟩ := hh
        obtain rfl : z21 = σ 15 a1 := by omega
        refine r_callV hX dX1_firstLack_24 (k_Gd_isBroken l w σ _ (by omega)) mf_X0_isBroken mv_X0_isBroken lk_RX1_66 rfl rfl rfl rfl rfl ⟨Nat.le_of_ble_eq_true rfl, Nat.le_of_ble_eq_true rfl⟩ (Nat.le_of_ble_eq_true rfl) (kI fun z24 σ24 hh => ?_)
        obtain ⟨rfl, h24_0⟩ := hh
        refine r_if_eq hX (tgt := 35) dX1_firstLack_27 (by decide) (by omega) (fun c27 => ?_) (fun c27 => ?_)
        · skip
          refine r_iinc hX (fun x35 => [some (.ref (w.2.2 14)), some (.int (iI x7)), some (.int (iI x35))]) dX1_firstLack_35 rfl rfl rfl (fun _ => rfl) (fun x35 e35 => ?_)
          refine r_goto hX dX1_firstLack_38 (tgt := 10) (by decide) ?_
          exact ih10 x35 (by omega) (hn1.next (by unfold P1x; omega) e35) (by omega)
        · skip
          refine r_bipush hX dX1_firstLack_30 (by decide) ?_
          refine r_iload_n hX dX1_firstLack_32 rfl ?_
          refine r_iadd hX dX1_firstLack_33 ?_
          exact r_iret hX dX1_firstLack_34 rfl ⟨_, rfl, ⟨rfl, (by exact Or.inl ⟨a1, hn1.fst (by omega) (by omega) (by unfold P1x; omega), by omega⟩), (by omega)⟩⟩
  exact lp10 ((9 - (x9)) + 1).toNat x9 (by omega) (fun b b0 b1 => by omega) (by omega)
theorem dX1_isGood_0 : decode cX1_isGood 0 = .ok (.aload_n 0, 1) := by decide +kernel
theorem dX1_isGood_1 : decode cX1_isGood 1 = .ok (.invokevirtual 49, 3) := by decide +kernel
theorem dX1_isGood_4 : decode cX1_isGood 4 = .ok (.ifCond .eq 24, 3) := by decide +kernel
theorem dX1_isGood_7 : decode cX1_isGood 7 = .ok (.aload_n 0, 1) := by decide +kernel
theorem dX1_isGood_8 : decode cX1_isGood 8 = .ok (.getfield 18, 3) := by decide +kernel
theorem dX1_isGood_11 : decode cX1_isGood 11 = .ok (.invokevirtual 53, 3) := by decide +kernel
theorem dX1_isGood_14 : decode cX1_isGood 14 = .ok (.ifCond .eq 14, 3) := by decide +kernel
theorem dX1_isGood_17 : decode cX1_isGood 17 = .ok (.aload_n 0, 1) := by decide +kernel
theorem dX1_isGood_18 : decode cX1_isGood 18 = .ok (.invokevirtual 56, 3) := by decide +kernel
theorem dX1_isGood_21 : decode cX1_isGood 21 = .ok (.ifCond .ne 7, 3) := by decide +kernel
theorem dX1_isGood_24 : decode cX1_isGood 24 = .ok (.iconst 1, 1) := by decide +kernel
theorem dX1_isGood_25 : decode cX1_isGood 25 = .ok (.goto 4, 3) := by decide +kernel
theorem dX1_isGood_28 : decode cX1_isGood 28 = .ok (.iconst 0, 1) := by decide +kernel
theorem dX1_isGood_29 : decode cX1_isGood 29 = .ok (.ireturn, 1) := by decide +kernel
set_option maxRecDepth 20000 in
set_option maxHeartbeats 4000000 in
theorem k_Ly_isGood (l : Launch) (w : WT) (σ : MM) (hLO : LoopOK σ) (hLa : LayOK σ) : CT SX l w yX1_isGood cX1_isGood 1 (some .boolean) 5 108 [.ref (w.2.2 14)] σ (PI fun z σ1 => σ = σ1 ∧ ((z = 1 ∧ 0 < σ 58 0 ∧ σ 54 0 = σ 53 0 ∧ FLx σ 0) ∨ (z = 0 ∧ (σ 58 0 = 0 ∨ σ 54 0 ≠ σ 53 0 ∨ ∃ y, FLx σ y ∧ y ≠ 0)))) := by
  refine CT.of 0 [some (.ref (w.2.2 14))] (by decide +kernel) (by simp [lg_sl, Value.category]) rfl sh_X (fun G hX => ?_)
  refine r_aload_n hX dX1_isGood_0 rfl ?_
  refine r_callV hX dX1_isGood_1 (k_Ly_stands l w σ) mf_X1_stands mv_X1_stands lk_RX1_49 rfl rfl rfl rfl rfl ⟨Nat.le_of_ble_eq_true rfl, Nat.le_of_ble_eq_true rfl⟩ (Nat.le_of_ble_eq_true rfl) (kI fun z1 σ1 hh => ?_)
  obtain ⟨rfl, h1_0⟩ := hh
  refine r_if_eq hX (tgt := 28) dX1_isGood_4 (by decide) (by omega) (fun c4 => ?_) (fun c4 => ?_)
  · skip
    refine r_iconst hX dX1_isGood_28 ?_
    exact r_zret hX dX1_isGood_29 rfl (by omega) ⟨_, rfl, ⟨rfl, (by first | exact Or.inl ⟨rfl, by omega, by omega, (show z18 = 0 by omega) ▸ h18_0⟩ | exact Or.inr ⟨rfl, by omega⟩ | exact Or.inr ⟨rfl, Or.inr (Or.inr ⟨z18, h18_0, by omega⟩)⟩)⟩⟩
  · skip
    refine r_aload_n hX dX1_isGood_7 rfl ?_
    refine fg_X14_18 hX dX1_isGood_8 ?_
    refine r_callV hX dX1_isGood_11 (k_Lp_isSound l w σ) mf_X2_isSound mv_X2_isSound lk_RX1_53 rfl rfl rfl rfl rfl ⟨Nat.le_of_ble_eq_true rfl, Nat.le_of_ble_eq_true rfl⟩ (Nat.le_of_ble_eq_true rfl) (kI fun z11 σ11 hh => ?_)
    obtain ⟨rfl, h11_0⟩ := hh
    refine r_if_eq hX (tgt := 28) dX1_isGood_14 (by decide) (by omega) (fun c14 => ?_) (fun c14 => ?_)
    · skip
      refine r_iconst hX dX1_isGood_28 ?_
      exact r_zret hX dX1_isGood_29 rfl (by omega) ⟨_, rfl, ⟨rfl, (by first | exact Or.inl ⟨rfl, by omega, by omega, (show z18 = 0 by omega) ▸ h18_0⟩ | exact Or.inr ⟨rfl, by omega⟩ | exact Or.inr ⟨rfl, Or.inr (Or.inr ⟨z18, h18_0, by omega⟩)⟩)⟩⟩
    · skip
      have hsrc := srcOK_of hLO (by omega)
      have hlc := hLa (by omega)
      refine r_aload_n hX dX1_isGood_17 rfl ?_
      refine r_callV hX dX1_isGood_18 (k_Ly_firstLack l w σ (by skip; exact hsrc) (by skip; exact hlc) (by omega)) mf_X1_firstLack mv_X1_firstLack lk_RX1_56 rfl rfl rfl rfl rfl ⟨Nat.le_of_ble_eq_true rfl, Nat.le_of_ble_eq_true rfl⟩ (Nat.le_of_ble_eq_true rfl) (kI fun z18 σ18 hh => ?_)
      obtain ⟨rfl, h18_0, h18_1⟩ := hh
      refine r_if_ne hX (tgt := 28) dX1_isGood_21 (by decide) (by omega) (fun c21 => ?_) (fun c21 => ?_)
      · skip
        refine r_iconst hX dX1_isGood_28 ?_
        exact r_zret hX dX1_isGood_29 rfl (by omega) ⟨_, rfl, ⟨rfl, (by first | exact Or.inl ⟨rfl, by omega, by omega, (show z18 = 0 by omega) ▸ h18_0⟩ | exact Or.inr ⟨rfl, by omega⟩ | exact Or.inr ⟨rfl, Or.inr (Or.inr ⟨z18, h18_0, by omega⟩)⟩)⟩⟩
      · skip
        refine r_iconst hX dX1_isGood_24 ?_
        refine r_goto hX dX1_isGood_25 (tgt := 29) (by decide) ?_
        exact r_zret hX dX1_isGood_29 rfl (by omega) ⟨_, rfl, ⟨rfl, (by first | exact Or.inl ⟨rfl, by omega, by omega, (show z18 = 0 by omega) ▸ h18_0⟩ | exact Or.inr ⟨rfl, by omega⟩ | exact Or.inr ⟨rfl, Or.inr (Or.inr ⟨z18, h18_0, by omega⟩)⟩)⟩⟩
theorem dX1_mostKept_0 : decode cX1_mostKept 0 = .ok (.aload_n 0, 1) := by decide +kernel
theorem dX1_mostKept_1 : decode cX1_mostKept 1 = .ok (.getfield 26, 3) := by decide +kernel
theorem dX1_mostKept_4 : decode cX1_mostKept 4 = .ok (.iconst 1, 1) := by decide +kernel
theorem dX1_mostKept_5 : decode cX1_mostKept 5 = .ok (.if_icmp .ge 6, 3) := by decide +kernel
theorem dX1_mostKept_8 : decode cX1_mostKept 8 = .ok (.bipush (-5), 2) := by decide +kernel
theorem dX1_mostKept_10 : decode cX1_mostKept 10 = .ok (.ireturn, 1) := by decide +kernel
theorem dX1_mostKept_11 : decode cX1_mostKept 11 = .ok (.aload_n 0, 1) := by decide +kernel
theorem dX1_mostKept_12 : decode cX1_mostKept 12 = .ok (.iload_n 1, 1) := by decide +kernel
theorem dX1_mostKept_13 : decode cX1_mostKept 13 = .ok (.invokevirtual 94, 3) := by decide +kernel
theorem dX1_mostKept_16 : decode cX1_mostKept 16 = .ok (.istore_n 2, 1) := by decide +kernel
theorem dX1_mostKept_17 : decode cX1_mostKept 17 = .ok (.iload_n 2, 1) := by decide +kernel
theorem dX1_mostKept_18 : decode cX1_mostKept 18 = .ok (.istore_n 3, 1) := by decide +kernel
theorem dX1_mostKept_19 : decode cX1_mostKept 19 = .ok (.iconst 0, 1) := by decide +kernel
theorem dX1_mostKept_20 : decode cX1_mostKept 20 = .ok (.istore 4, 2) := by decide +kernel
theorem dX1_mostKept_22 : decode cX1_mostKept 22 = .ok (.iload 4, 2) := by decide +kernel
theorem dX1_mostKept_24 : decode cX1_mostKept 24 = .ok (.iconst 2, 1) := by decide +kernel
theorem dX1_mostKept_25 : decode cX1_mostKept 25 = .ok (.aload_n 0, 1) := by decide +kernel
theorem dX1_mostKept_26 : decode cX1_mostKept 26 = .ok (.getfield 18, 3) := by decide +kernel
theorem dX1_mostKept_29 : decode cX1_mostKept 29 = .ok (.invokevirtual 60, 3) := by decide +kernel
theorem dX1_mostKept_32 : decode cX1_mostKept 32 = .ok (.imul, 1) := by decide +kernel
theorem dX1_mostKept_33 : decode cX1_mostKept 33 = .ok (.if_icmp .ge 33, 3) := by decide +kernel
theorem dX1_mostKept_36 : decode cX1_mostKept 36 = .ok (.aload_n 0, 1) := by decide +kernel
theorem dX1_mostKept_37 : decode cX1_mostKept 37 = .ok (.getfield 18, 3) := by decide +kernel
theorem dX1_mostKept_40 : decode cX1_mostKept 40 = .ok (.iload 4, 2) := by decide +kernel
theorem dX1_mostKept_42 : decode cX1_mostKept 42 = .ok (.invokevirtual 84, 3) := by decide +kernel
theorem dX1_mostKept_45 : decode cX1_mostKept 45 = .ok (.iload_n 1, 1) := by decide +kernel
theorem dX1_mostKept_46 : decode cX1_mostKept 46 = .ok (.if_icmp .ne 14, 3) := by decide +kernel
theorem dX1_mostKept_49 : decode cX1_mostKept 49 = .ok (.iload_n 3, 1) := by decide +kernel
theorem dX1_mostKept_50 : decode cX1_mostKept 50 = .ok (.aload_n 0, 1) := by decide +kernel
theorem dX1_mostKept_51 : decode cX1_mostKept 51 = .ok (.iload 4, 2) := by decide +kernel
theorem dX1_mostKept_53 : decode cX1_mostKept 53 = .ok (.invokevirtual 91, 3) := by decide +kernel
theorem dX1_mostKept_56 : decode cX1_mostKept 56 = .ok (.invokestatic 100, 3) := by decide +kernel
theorem dX1_mostKept_59 : decode cX1_mostKept 59 = .ok (.istore_n 3, 1) := by decide +kernel
theorem dX1_mostKept_60 : decode cX1_mostKept 60 = .ok (.iinc 4 1, 3) := by decide +kernel
theorem dX1_mostKept_63 : decode cX1_mostKept 63 = .ok (.goto (-41), 3) := by decide +kernel
theorem dX1_mostKept_66 : decode cX1_mostKept 66 = .ok (.iload_n 3, 1) := by decide +kernel
theorem dX1_mostKept_67 : decode cX1_mostKept 67 = .ok (.iload_n 2, 1) := by decide +kernel
theorem dX1_mostKept_68 : decode cX1_mostKept 68 = .ok (.isub, 1) := by decide +kernel
theorem dX1_mostKept_69 : decode cX1_mostKept 69 = .ok (.aload_n 0, 1) := by decide +kernel
theorem dX1_mostKept_70 : decode cX1_mostKept 70 = .ok (.getfield 26, 3) := by decide +kernel
theorem dX1_mostKept_73 : decode cX1_mostKept 73 = .ok (.idiv, 1) := by decide +kernel
theorem dX1_mostKept_74 : decode cX1_mostKept 74 = .ok (.iconst 1, 1) := by decide +kernel
theorem dX1_mostKept_75 : decode cX1_mostKept 75 = .ok (.iadd, 1) := by decide +kernel
theorem dX1_mostKept_76 : decode cX1_mostKept 76 = .ok (.ireturn, 1) := by decide +kernel
set_option maxRecDepth 20000 in
set_option maxHeartbeats 4000000 in
theorem k_Ly_mostKept (l : Launch) (w : WT) (σ : MM) (a : Int) (i_a : inr a) (ha : 0 ≤ a ∧ a < σ 53 0) (hbt : 0 < σ 58 0) : CT SX l w yX1_mostKept cX1_mostKept 5 (some .int) 3 63 [.ref (w.2.2 14), .int (iI a)] σ (PI fun z σ1 => σ = σ1 ∧ (∃ y : Int, IsMax (fun s => σ 5 s = a) (useX σ) (2 * σ 53 0) (madeX σ a) y ∧ z = (y - madeX σ a) / σ 58 0 + 1)) := by
  refine CT.of 3 [some (.ref (w.2.2 14)), some (.int (iI a)), none, none, none] (by decide +kernel) (by simp [lg_sl, Value.category]) rfl sh_X (fun G hX => ?_)
  refine r_bd hX (fun hBd => ?_)
  have b_53 := hBd 53 0 8 rfl 0
  have b_58 := hBd 58 0 12 rfl 0
  refine r_aload_n hX dX1_mostKept_0 rfl ?_
  refine fg_X14_26 hX dX1_mostKept_1 (fun b1l b1u => ?_)
  refine r_iconst hX dX1_mostKept_4 ?_
  refine r_icmp_ge hX (tgt := 11) dX1_mostKept_5 (by decide) (by omega) (by omega) (fun c5 => ?_) (fun c5 => ?_)
  · skip
    refine r_aload_n hX dX1_mostKept_11 rfl ?_
    refine r_iload_n hX dX1_mostKept_12 rfl ?_
    refine r_callV hX dX1_mostKept_13 (k_Ly_madeAt l w σ _ (by omega) (by omega)) mf_X1_madeAt mv_X1_madeAt lk_RX1_94 rfl rfl rfl rfl rfl ⟨Nat.le_of_ble_eq_true rfl, Nat.le_of_ble_eq_true rfl⟩ (Nat.le_of_ble_eq_true rfl) (kI fun z13 σ13 hh => ?_)
    obtain ⟨rfl, h13_0, h13_1⟩ := hh
    refine r_istore_n hX (fun x16 => [some (.ref (w.2.2 14)), some (.int (iI a)), some (.int (iI x16)), none, none]) dX1_mostKept_16 (Nat.le_of_ble_eq_true rfl) rfl rfl (fun _ => rfl) (fun x16 e16 => ?_)
    refine r_iload_n hX dX1_mostKept_17 rfl ?_
    refine r_istore_n hX (fun x18 => [some (.ref (w.2.2 14)), some (.int (iI a)), some (.int (iI x16)), some (.int (iI x18)), none]) dX1_mostKept_18 (Nat.le_of_ble_eq_true rfl) rfl rfl (fun _ => rfl) (fun x18 e18 => ?_)
    have hx16 : x16 = madeX σ a := by omega
    refine r_iconst hX dX1_mostKept_19 ?_
    refine r_istore hX (fun x20 => [some (.ref (w.2.2 14)), some (.int (iI a)), some (.int (iI x16)), some (.int (iI x18)), some (.int (iI x20))]) dX1_mostKept_20 (Nat.le_of_ble_eq_true rfl) rfl rfl (fun _ => rfl) (fun x20 e20 => ?_)
    have lp22 : ∀ (n : Nat) (last : Int) (s : Int) (hs : 0 ≤ s ∧ s ≤ 2 * σ 53 0) (hl0 : 1 ≤ last ∧ last ≤ 20000036) (hM : IsMax (fun s => σ 5 s = a) (useX σ) s (madeX σ a) last) (hmu : 17 - s < (n : Int)), G 22 [some (.ref (w.2.2 14)), some (.int (iI a)), some (.int (iI x16)), some (.int (iI last)), some (.int (iI s))] [] σ := by
      intro n
      induction n with
      | zero => intro last s hs hl0 hM hmu; omega
      | succ n ih =>
        intro last s hs hl0 hM hmu
        have ih22 := ih
        clear ih
        refine r_iload hX dX1_mostKept_22 rfl ?_
        refine r_iconst hX dX1_mostKept_24 ?_
        refine r_aload_n hX dX1_mostKept_25 rfl ?_
        refine fg_X14_18 hX dX1_mostKept_26 ?_
        refine r_callV hX dX1_mostKept_29 (k_Lp_count l w σ) mf_X2_count mv_X2_count lk_RX1_60 rfl rfl rfl rfl rfl ⟨Nat.le_of_ble_eq_true rfl, Nat.le_of_ble_eq_true rfl⟩ (Nat.le_of_ble_eq_true rfl) (kI fun z29 σ29 hh => ?_)
        obtain ⟨rfl, h29_0, h29_1⟩ := hh
        refine r_imul hX dX1_mostKept_32 ?_
        refine r_icmp_ge hX (tgt := 66) dX1_mostKept_33 (by decide) (by omega) (by omega) (fun c33 => ?_) (fun c33 => ?_)
        · skip
          refine r_iload_n hX dX1_mostKept_66 rfl ?_
          refine r_iload_n hX dX1_mostKept_67 rfl ?_
          refine r_isub hX dX1_mostKept_68 ?_
          have hl := hM.1
          refine r_aload_n hX dX1_mostKept_69 rfl ?_
          refine fg_X14_26 hX dX1_mostKept_70 (fun b70l b70u => ?_)
          have hd := Int.ediv_le_self (b := σ 58 0) (show 0 ≤ last - x16 by omega)
          have hd2 := Int.ediv_nonneg (show 0 ≤ last - x16 by omega) (show 0 ≤ σ 58 0 by omega)
          refine r_idiv hX dX1_mostKept_73 (by omega) (by omega) (by omega) (by omega) ?_
          refine r_iconst hX dX1_mostKept_74 ?_
          refine r_iadd hX dX1_mostKept_75 ?_
          exact r_iret hX dX1_mostKept_76 rfl ⟨_, rfl, ⟨rfl, (by exact ⟨last, (show s = 2 * σ 53 0 by omega) ▸ hM, by rw [← hx16]⟩)⟩⟩
        · skip
          refine r_aload_n hX dX1_mostKept_36 rfl ?_
          refine fg_X14_18 hX dX1_mostKept_37 ?_
          refine r_iload hX dX1_mostKept_40 rfl ?_
          refine r_callV hX dX1_mostKept_42 (k_Lp_sourceOf l w σ _ (by omega)) mf_X2_sourceOf mv_X2_sourceOf lk_RX1_84 rfl rfl rfl rfl rfl ⟨Nat.le_of_ble_eq_true rfl, Nat.le_of_ble_eq_true rfl⟩ (Nat.le_of_ble_eq_true rfl) (kI fun z42 σ42 hh => ?_)
          obtain ⟨rfl, h42_0, h42_1⟩ := hh
          obtain rfl : z42 = σ 5 s := by omega
          refine r_iload_n hX dX1_mostKept_45 rfl ?_
          refine r_icmp_ne hX (tgt := 60) dX1_mostKept_46 (by decide) (by omega) (by omega) (fun c46 => ?_) (fun c46 => ?_)
          · skip
            refine r_iinc hX (fun x60 => [some (.ref (w.2.2 14)), some (.int (iI a)), some (.int (iI x16)), some (.int (iI last)), some (.int (iI x60))]) dX1_mostKept_60 rfl rfl rfl (fun _ => rfl) (fun x60 e60 => ?_)
            refine r_goto hX dX1_mostKept_63 (tgt := 22) (by decide) ?_
            exact ih22 last x60 (by omega) (by omega) (by first | exact hM.skip (by omega) e60 | exact hM.take (by omega) (by omega) (by omega) e60) (by omega)
          · skip
            refine r_iload_n hX dX1_mostKept_49 rfl ?_
            refine r_aload_n hX dX1_mostKept_50 rfl ?_
            refine r_iload hX dX1_mostKept_51 rfl ?_
            refine r_callV hX dX1_mostKept_53 (k_Ly_usedAt l w σ _ (by omega) (by omega)) mf_X1_usedAt mv_X1_usedAt lk_RX1_91 rfl rfl rfl rfl rfl ⟨Nat.le_of_ble_eq_true rfl, Nat.le_of_ble_eq_true rfl⟩ (Nat.le_of_ble_eq_true rfl) (kI fun z53 σ53 hh => ?_)
            obtain ⟨rfl, h53_0, h53_1⟩ := hh
            obtain rfl : z53 = useX σ s := by omega
            refine r_max hX dX1_mostKept_56 lq_RX1_100 ma_max_s ma_i ma_max_c (Nat.le_of_ble_eq_true rfl) (Nat.le_of_ble_eq_true rfl) (fun z56 h56 => ?_)
            rw [iI_lt (by omega) (by omega)] at h56
            refine r_istore_n hX (fun x59 => [some (.ref (w.2.2 14)), some (.int (iI a)), some (.int (iI x16)), some (.int (iI x59)), some (.int (iI s))]) dX1_mostKept_59 (Nat.le_of_ble_eq_true rfl) rfl rfl (fun _ => rfl) (fun x59 e59 => ?_)
            refine r_iinc hX (fun x60 => [some (.ref (w.2.2 14)), some (.int (iI a)), some (.int (iI x16)), some (.int (iI x59)), some (.int (iI x60))]) dX1_mostKept_60 rfl rfl rfl (fun _ => rfl) (fun x60 e60 => ?_)
            refine r_goto hX dX1_mostKept_63 (tgt := 22) (by decide) ?_
            exact ih22 x59 x60 (by omega) (by omega) (by first | exact hM.skip (by omega) e60 | exact hM.take (by omega) (by omega) (by omega) e60) (by omega)
    exact lp22 ((17 - (x20)) + 1).toNat x18 x20 (by omega) (by omega) (by rw [e18, ← hx16]; exact IsMax.init e20) (by omega)
  · exfalso; omega
theorem dX1_endOf_0 : decode cX1_endOf 0 = .ok (.iconst 0, 1) := by decide +kernel
theorem dX1_endOf_1 : decode cX1_endOf 1 = .ok (.istore_n 2, 1) := by decide +kernel
theorem dX1_endOf_2 : decode cX1_endOf 2 = .ok (.iconst 0, 1) := by decide +kernel
theorem dX1_endOf_3 : decode cX1_endOf 3 = .ok (.istore_n 3, 1) := by decide +kernel
theorem dX1_endOf_4 : decode cX1_endOf 4 = .ok (.iload_n 3, 1) := by decide +kernel
theorem dX1_endOf_5 : decode cX1_endOf 5 = .ok (.aload_n 0, 1) := by decide +kernel
theorem dX1_endOf_6 : decode cX1_endOf 6 = .ok (.getfield 18, 3) := by decide +kernel
theorem dX1_endOf_9 : decode cX1_endOf 9 = .ok (.invokevirtual 60, 3) := by decide +kernel
theorem dX1_endOf_12 : decode cX1_endOf 12 = .ok (.if_icmp .ge 28, 3) := by decide +kernel
theorem dX1_endOf_15 : decode cX1_endOf 15 = .ok (.iload_n 2, 1) := by decide +kernel
theorem dX1_endOf_16 : decode cX1_endOf 16 = .ok (.aload_n 0, 1) := by decide +kernel
theorem dX1_endOf_17 : decode cX1_endOf 17 = .ok (.iload_n 3, 1) := by decide +kernel
theorem dX1_endOf_18 : decode cX1_endOf 18 = .ok (.invokevirtual 94, 3) := by decide +kernel
theorem dX1_endOf_21 : decode cX1_endOf 21 = .ok (.iload_n 1, 1) := by decide +kernel
theorem dX1_endOf_22 : decode cX1_endOf 22 = .ok (.iconst 1, 1) := by decide +kernel
theorem dX1_endOf_23 : decode cX1_endOf 23 = .ok (.isub, 1) := by decide +kernel
theorem dX1_endOf_24 : decode cX1_endOf 24 = .ok (.aload_n 0, 1) := by decide +kernel
theorem dX1_endOf_25 : decode cX1_endOf 25 = .ok (.getfield 26, 3) := by decide +kernel
theorem dX1_endOf_28 : decode cX1_endOf 28 = .ok (.imul, 1) := by decide +kernel
theorem dX1_endOf_29 : decode cX1_endOf 29 = .ok (.iadd, 1) := by decide +kernel
theorem dX1_endOf_30 : decode cX1_endOf 30 = .ok (.invokestatic 100, 3) := by decide +kernel
theorem dX1_endOf_33 : decode cX1_endOf 33 = .ok (.istore_n 2, 1) := by decide +kernel
theorem dX1_endOf_34 : decode cX1_endOf 34 = .ok (.iinc 3 1, 3) := by decide +kernel
theorem dX1_endOf_37 : decode cX1_endOf 37 = .ok (.goto (-33), 3) := by decide +kernel
theorem dX1_endOf_40 : decode cX1_endOf 40 = .ok (.iload_n 2, 1) := by decide +kernel
theorem dX1_endOf_41 : decode cX1_endOf 41 = .ok (.ireturn, 1) := by decide +kernel
set_option maxRecDepth 20000 in
set_option maxHeartbeats 4000000 in
theorem k_Ly_endOf (l : Launch) (w : WT) (σ : MM) (r : Int) (i_r : inr r) (hr : 1 ≤ r ∧ r ≤ 60) : CT SX l w yX1_endOf cX1_endOf 4 (some .int) 3 63 [.ref (w.2.2 14), .int (iI r)] σ (PI fun z σ1 => σ = σ1 ∧ (IsMax (fun _ => True) (fun a => madeX σ a + (r - 1) * σ 58 0) (σ 53 0) 0 z) ∧ (0 ≤ z ∧ z ≤ 20000800)) := by
  refine CT.of 2 [some (.ref (w.2.2 14)), some (.int (iI r)), none, none] (by decide +kernel) (by simp [lg_sl, Value.category]) rfl sh_X (fun G hX => ?_)
  refine r_bd hX (fun hBd => ?_)
  have b_53 := hBd 53 0 8 rfl 0
  have b_58 := hBd 58 0 12 rfl 0
  refine r_iconst hX dX1_endOf_0 ?_
  refine r_istore_n hX (fun x1 => [some (.ref (w.2.2 14)), some (.int (iI r)), some (.int (iI x1)), none]) dX1_endOf_1 (Nat.le_of_ble_eq_true rfl) rfl rfl (fun _ => rfl) (fun x1 e1 => ?_)
  refine r_iconst hX dX1_endOf_2 ?_
  refine r_istore_n hX (fun x3 => [some (.ref (w.2.2 14)), some (.int (iI r)), some (.int (iI x1)), some (.int (iI x3))]) dX1_endOf_3 (Nat.le_of_ble_eq_true rfl) rfl rfl (fun _ => rfl) (fun x3 e3 => ?_)
  have lp4 : ∀ (n : Nat) (e : Int) (a : Int) (ha : 0 ≤ a ∧ a ≤ σ 53 0) (he : 0 ≤ e ∧ e ≤ 20000800) (hM : IsMax (fun _ => True) (fun a => madeX σ a + (r - 1) * σ 58 0) a 0 e) (hmu : 9 - a < (n : Int)), G 4 [some (.ref (w.2.2 14)), some (.int (iI r)), some (.int (iI e)), some (.int (iI a))] [] σ := by
    intro n
    induction n with
    | zero => intro e a ha he hM hmu; omega
    | succ n ih =>
      intro e a ha he hM hmu
      have ih4 := ih
      clear ih
      refine r_iload_n hX dX1_endOf_4 rfl ?_
      refine r_aload_n hX dX1_endOf_5 rfl ?_
      refine fg_X14_18 hX dX1_endOf_6 ?_
      refine r_callV hX dX1_endOf_9 (k_Lp_count l w σ) mf_X2_count mv_X2_count lk_RX1_60 rfl rfl rfl rfl rfl ⟨Nat.le_of_ble_eq_true rfl, Nat.le_of_ble_eq_true rfl⟩ (Nat.le_of_ble_eq_true rfl) (kI fun z9 σ9 hh => ?_)
      obtain ⟨rfl, h9_0, h9_1⟩ := hh
      refine r_icmp_ge hX (tgt := 40) dX1_endOf_12 (by decide) (by omega) (by omega) (fun c12 => ?_) (fun c12 => ?_)
      · skip
        refine r_iload_n hX dX1_endOf_40 rfl ?_
        exact r_iret hX dX1_endOf_41 rfl ⟨_, rfl, ⟨rfl, (by exact (show a = σ 53 0 by omega) ▸ hM), (by omega)⟩⟩
      · skip
        refine r_iload_n hX dX1_endOf_15 rfl ?_
        refine r_aload_n hX dX1_endOf_16 rfl ?_
        refine r_iload_n hX dX1_endOf_17 rfl ?_
        refine r_callV hX dX1_endOf_18 (k_Ly_madeAt l w σ _ (by omega) (by omega)) mf_X1_madeAt mv_X1_madeAt lk_RX1_94 rfl rfl rfl rfl rfl ⟨Nat.le_of_ble_eq_true rfl, Nat.le_of_ble_eq_true rfl⟩ (Nat.le_of_ble_eq_true rfl) (kI fun z18 σ18 hh => ?_)
        obtain ⟨rfl, h18_0, h18_1⟩ := hh
        obtain rfl : z18 = madeX σ a := by omega
        have hp := pm (a := r - 1) (A := 59) (b := σ 58 0) (B := 12) (by omega) (by omega)
        refine r_iload_n hX dX1_endOf_21 rfl ?_
        refine r_iconst hX dX1_endOf_22 ?_
        refine r_isub hX dX1_endOf_23 ?_
        refine r_aload_n hX dX1_endOf_24 rfl ?_
        refine fg_X14_26 hX dX1_endOf_25 (fun b25l b25u => ?_)
        refine r_imul hX dX1_endOf_28 ?_
        refine r_iadd hX dX1_endOf_29 ?_
        refine r_max hX dX1_endOf_30 lq_RX1_100 ma_max_s ma_i ma_max_c (Nat.le_of_ble_eq_true rfl) (Nat.le_of_ble_eq_true rfl) (fun z30 h30 => ?_)
        rw [iI_lt (by omega) (by omega)] at h30
        refine r_istore_n hX (fun x33 => [some (.ref (w.2.2 14)), some (.int (iI r)), some (.int (iI x33)), some (.int (iI a))]) dX1_endOf_33 (Nat.le_of_ble_eq_true rfl) rfl rfl (fun _ => rfl) (fun x33 e33 => ?_)
        refine r_iinc hX (fun x34 => [some (.ref (w.2.2 14)), some (.int (iI r)), some (.int (iI x33)), some (.int (iI x34))]) dX1_endOf_34 rfl rfl rfl (fun _ => rfl) (fun x34 e34 => ?_)
        refine r_goto hX dX1_endOf_37 (tgt := 4) (by decide) ?_
        exact ih4 x33 x34 (by omega) (by omega) (hM.take (by omega) trivial (by omega) e34) (by omega)
  exact lp4 ((9 - (x3)) + 1).toNat x1 x3 (by omega) (by omega) (by rw [e1]; exact IsMax.init e3) (by omega)
theorem dX1_roundStarting_0 : decode cX1_roundStarting 0 = .ok (.iload_n 2, 1) := by decide +kernel
theorem dX1_roundStarting_1 : decode cX1_roundStarting 1 = .ok (.aload_n 0, 1) := by decide +kernel
theorem dX1_roundStarting_2 : decode cX1_roundStarting 2 = .ok (.iload_n 1, 1) := by decide +kernel
theorem dX1_roundStarting_3 : decode cX1_roundStarting 3 = .ok (.invokevirtual 42, 3) := by decide +kernel
theorem dX1_roundStarting_6 : decode cX1_roundStarting 6 = .ok (.isub, 1) := by decide +kernel
theorem dX1_roundStarting_7 : decode cX1_roundStarting 7 = .ok (.istore_n 3, 1) := by decide +kernel
theorem dX1_roundStarting_8 : decode cX1_roundStarting 8 = .ok (.aload_n 0, 1) := by decide +kernel
theorem dX1_roundStarting_9 : decode cX1_roundStarting 9 = .ok (.getfield 26, 3) := by decide +kernel
theorem dX1_roundStarting_12 : decode cX1_roundStarting 12 = .ok (.ifCond .le 25, 3) := by decide +kernel
theorem dX1_roundStarting_15 : decode cX1_roundStarting 15 = .ok (.iload_n 3, 1) := by decide +kernel
theorem dX1_roundStarting_16 : decode cX1_roundStarting 16 = .ok (.ifCond .lt 21, 3) := by decide +kernel
theorem dX1_roundStarting_19 : decode cX1_roundStarting 19 = .ok (.iload_n 3, 1) := by decide +kernel
theorem dX1_roundStarting_20 : decode cX1_roundStarting 20 = .ok (.aload_n 0, 1) := by decide +kernel
theorem dX1_roundStarting_21 : decode cX1_roundStarting 21 = .ok (.getfield 26, 3) := by decide +kernel
theorem dX1_roundStarting_24 : decode cX1_roundStarting 24 = .ok (.irem, 1) := by decide +kernel
theorem dX1_roundStarting_25 : decode cX1_roundStarting 25 = .ok (.ifCond .ne 12, 3) := by decide +kernel
theorem dX1_roundStarting_28 : decode cX1_roundStarting 28 = .ok (.iload_n 3, 1) := by decide +kernel
theorem dX1_roundStarting_29 : decode cX1_roundStarting 29 = .ok (.aload_n 0, 1) := by decide +kernel
theorem dX1_roundStarting_30 : decode cX1_roundStarting 30 = .ok (.getfield 26, 3) := by decide +kernel
theorem dX1_roundStarting_33 : decode cX1_roundStarting 33 = .ok (.idiv, 1) := by decide +kernel
theorem dX1_roundStarting_34 : decode cX1_roundStarting 34 = .ok (.goto 5, 3) := by decide +kernel
theorem dX1_roundStarting_37 : decode cX1_roundStarting 37 = .ok (.bipush (-6), 2) := by decide +kernel
theorem dX1_roundStarting_39 : decode cX1_roundStarting 39 = .ok (.ireturn, 1) := by decide +kernel
set_option maxRecDepth 20000 in
set_option maxHeartbeats 4000000 in
theorem k_Ly_roundStarting (l : Launch) (w : WT) (σ : MM) (a : Int) (t : Int) (i_a : inr a) (i_t : inr t) (ha : 0 ≤ a ∧ a < σ 53 0) (hbt : 0 < σ 58 0) (ht : 0 ≤ t ∧ t ≤ 30000000) : CT SX l w yX1_roundStarting cX1_roundStarting 4 (some .int) 2 42 [.ref (w.2.2 14), .int (iI a), .int (iI t)] σ (PI fun z σ1 => σ = σ1 ∧ (RS (σ 16 a) (σ 58 0) t z) ∧ (-6 ≤ z ∧ z ≤ 30000000)) := by
  refine CT.of 1 [some (.ref (w.2.2 14)), some (.int (iI a)), some (.int (iI t)), none] (by decide +kernel) (by simp [lg_sl, Value.category]) rfl sh_X (fun G hX => ?_)
  refine r_iload_n hX dX1_roundStarting_0 rfl ?_
  refine r_aload_n hX dX1_roundStarting_1 rfl ?_
  refine r_iload_n hX dX1_roundStarting_2 rfl ?_
  refine r_callV hX dX1_roundStarting_3 (k_Ly_startOf l w σ _ (by omega)) mf_X1_startOf mv_X1_startOf lk_RX1_42 rfl rfl rfl rfl rfl ⟨Nat.le_of_ble_eq_true rfl, Nat.le_of_ble_eq_true rfl⟩ (Nat.le_of_ble_eq_true rfl) (kI fun z3 σ3 hh => ?_)
  obtain ⟨rfl, h3_0, h3_1⟩ := hh
  obtain rfl : z3 = σ 16 a := by omega
  refine r_isub hX dX1_roundStarting_6 ?_
  refine r_istore_n hX (fun x7 => [some (.ref (w.2.2 14)), some (.int (iI a)), some (.int (iI t)), some (.int (iI x7))]) dX1_roundStarting_7 (Nat.le_of_ble_eq_true rfl) rfl rfl (fun _ => rfl) (fun x7 e7 => ?_)
  refine r_aload_n hX dX1_roundStarting_8 rfl ?_
  refine fg_X14_26 hX dX1_roundStarting_9 (fun b9l b9u => ?_)
  refine r_if_le hX (tgt := 37) dX1_roundStarting_12 (by decide) (by omega) (fun c12 => ?_) (fun c12 => ?_)
  · exfalso; omega
  · skip
    refine r_iload_n hX dX1_roundStarting_15 rfl ?_
    refine r_if_lt hX (tgt := 37) dX1_roundStarting_16 (by decide) (by omega) (fun c16 => ?_) (fun c16 => ?_)
    · skip
      refine r_bipush hX dX1_roundStarting_37 (by decide) ?_
      exact r_iret hX dX1_roundStarting_39 rfl ⟨_, rfl, ⟨rfl, (by rw [e7] at *; unfold RS; first | exact Or.inl ⟨by omega, by omega, rfl⟩ | exact Or.inr ⟨by omega, rfl⟩), (by first | omega | (have hd := Int.ediv_le_self (b := σ 58 0) (show 0 ≤ x7 by omega); have hd2 := Int.ediv_nonneg (show 0 ≤ x7 by omega) (show 0 ≤ σ 58 0 by omega); omega))⟩⟩
    · skip
      refine r_iload_n hX dX1_roundStarting_19 rfl ?_
      refine r_aload_n hX dX1_roundStarting_20 rfl ?_
      refine fg_X14_26 hX dX1_roundStarting_21 (fun b21l b21u => ?_)
      refine r_irem hX dX1_roundStarting_24 (by omega) (by omega) (by omega) (by omega) ?_
      have hm := Int.emod_lt_of_pos x7 (show (0 : Int) < σ 58 0 by omega)
      have hm2 := Int.emod_nonneg x7 (show σ 58 0 ≠ 0 by omega)
      refine r_if_ne hX (tgt := 37) dX1_roundStarting_25 (by decide) (by omega) (fun c25 => ?_) (fun c25 => ?_)
      · skip
        refine r_bipush hX dX1_roundStarting_37 (by decide) ?_
        exact r_iret hX dX1_roundStarting_39 rfl ⟨_, rfl, ⟨rfl, (by rw [e7] at *; unfold RS; first | exact Or.inl ⟨by omega, by omega, rfl⟩ | exact Or.inr ⟨by omega, rfl⟩), (by first | omega | (have hd := Int.ediv_le_self (b := σ 58 0) (show 0 ≤ x7 by omega); have hd2 := Int.ediv_nonneg (show 0 ≤ x7 by omega) (show 0 ≤ σ 58 0 by omega); omega))⟩⟩
      · skip
        refine r_iload_n hX dX1_roundStarting_28 rfl ?_
        refine r_aload_n hX dX1_roundStarting_29 rfl ?_
        refine fg_X14_26 hX dX1_roundStarting_30 (fun b30l b30u => ?_)
        refine r_idiv hX dX1_roundStarting_33 (by omega) (by omega) (by omega) (by omega) ?_
        refine r_goto hX dX1_roundStarting_34 (tgt := 39) (by decide) ?_
        exact r_iret hX dX1_roundStarting_39 rfl ⟨_, rfl, ⟨rfl, (by rw [e7] at *; unfold RS; first | exact Or.inl ⟨by omega, by omega, rfl⟩ | exact Or.inr ⟨by omega, rfl⟩), (by first | omega | (have hd := Int.ediv_le_self (b := σ 58 0) (show 0 ≤ x7 by omega); have hd2 := Int.ediv_nonneg (show 0 ≤ x7 by omega) (show 0 ≤ σ 58 0 by omega); omega))⟩⟩
theorem dX1_actStarting_0 : decode cX1_actStarting 0 = .ok (.iconst 0, 1) := by decide +kernel
theorem dX1_actStarting_1 : decode cX1_actStarting 1 = .ok (.istore_n 3, 1) := by decide +kernel
theorem dX1_actStarting_2 : decode cX1_actStarting 2 = .ok (.iload_n 3, 1) := by decide +kernel
theorem dX1_actStarting_3 : decode cX1_actStarting 3 = .ok (.aload_n 0, 1) := by decide +kernel
theorem dX1_actStarting_4 : decode cX1_actStarting 4 = .ok (.getfield 18, 3) := by decide +kernel
theorem dX1_actStarting_7 : decode cX1_actStarting 7 = .ok (.invokevirtual 60, 3) := by decide +kernel
theorem dX1_actStarting_10 : decode cX1_actStarting 10 = .ok (.if_icmp .ge 29, 3) := by decide +kernel
theorem dX1_actStarting_13 : decode cX1_actStarting 13 = .ok (.aload_n 0, 1) := by decide +kernel
theorem dX1_actStarting_14 : decode cX1_actStarting 14 = .ok (.iload_n 3, 1) := by decide +kernel
theorem dX1_actStarting_15 : decode cX1_actStarting 15 = .ok (.invokevirtual 63, 3) := by decide +kernel
theorem dX1_actStarting_18 : decode cX1_actStarting 18 = .ok (.iload_n 1, 1) := by decide +kernel
theorem dX1_actStarting_19 : decode cX1_actStarting 19 = .ok (.if_icmp .ne 14, 3) := by decide +kernel
theorem dX1_actStarting_22 : decode cX1_actStarting 22 = .ok (.aload_n 0, 1) := by decide +kernel
theorem dX1_actStarting_23 : decode cX1_actStarting 23 = .ok (.iload_n 3, 1) := by decide +kernel
theorem dX1_actStarting_24 : decode cX1_actStarting 24 = .ok (.iload_n 2, 1) := by decide +kernel
theorem dX1_actStarting_25 : decode cX1_actStarting 25 = .ok (.invokevirtual 105, 3) := by decide +kernel
theorem dX1_actStarting_28 : decode cX1_actStarting 28 = .ok (.ifCond .lt 5, 3) := by decide +kernel
theorem dX1_actStarting_31 : decode cX1_actStarting 31 = .ok (.iload_n 3, 1) := by decide +kernel
theorem dX1_actStarting_32 : decode cX1_actStarting 32 = .ok (.ireturn, 1) := by decide +kernel
theorem dX1_actStarting_33 : decode cX1_actStarting 33 = .ok (.iinc 3 1, 3) := by decide +kernel
theorem dX1_actStarting_36 : decode cX1_actStarting 36 = .ok (.goto (-34), 3) := by decide +kernel
theorem dX1_actStarting_39 : decode cX1_actStarting 39 = .ok (.bipush (-6), 2) := by decide +kernel
theorem dX1_actStarting_41 : decode cX1_actStarting 41 = .ok (.ireturn, 1) := by decide +kernel
set_option maxRecDepth 20000 in
set_option maxHeartbeats 4000000 in
theorem k_Ly_actStarting (l : Launch) (w : WT) (σ : MM) (k : Int) (t : Int) (i_k : inr k) (i_t : inr t) (hbt : 0 < σ 58 0) (ht : 0 ≤ t ∧ t ≤ 30000000) : CT SX l w yX1_actStarting cX1_actStarting 4 (some .int) 3 65 [.ref (w.2.2 14), .int (iI k), .int (iI t)] σ (PI fun z σ1 => σ = σ1 ∧ ((Fst (fun a => σ 15 a = k ∧ σ 16 a ≤ t ∧ (t - σ 16 a) % σ 58 0 = 0) (σ 53 0) z) ∨ (Non (fun a => σ 15 a = k ∧ σ 16 a ≤ t ∧ (t - σ 16 a) % σ 58 0 = 0) (σ 53 0) ∧ z = -6)) ∧ (-6 ≤ z ∧ z ≤ 7)) := by
  refine CT.of 1 [some (.ref (w.2.2 14)), some (.int (iI k)), some (.int (iI t)), none] (by decide +kernel) (by simp [lg_sl, Value.category]) rfl sh_X (fun G hX => ?_)
  refine r_bd hX (fun hBd => ?_)
  have b_53 := hBd 53 0 8 rfl 0
  refine r_iconst hX dX1_actStarting_0 ?_
  refine r_istore_n hX (fun x1 => [some (.ref (w.2.2 14)), some (.int (iI k)), some (.int (iI t)), some (.int (iI x1))]) dX1_actStarting_1 (Nat.le_of_ble_eq_true rfl) rfl rfl (fun _ => rfl) (fun x1 e1 => ?_)
  have lp2 : ∀ (n : Nat) (a : Int) (ha : 0 ≤ a ∧ a ≤ σ 53 0) (hn : Non (fun a => σ 15 a = k ∧ σ 16 a ≤ t ∧ (t - σ 16 a) % σ 58 0 = 0) a) (hmu : 9 - a < (n : Int)), G 2 [some (.ref (w.2.2 14)), some (.int (iI k)), some (.int (iI t)), some (.int (iI a))] [] σ := by
    intro n
    induction n with
    | zero => intro a ha hn hmu; omega
    | succ n ih =>
      intro a ha hn hmu
      have ih2 := ih
      clear ih
      refine r_iload_n hX dX1_actStarting_2 rfl ?_
      refine r_aload_n hX dX1_actStarting_3 rfl ?_
      refine fg_X14_18 hX dX1_actStarting_4 ?_
      refine r_callV hX dX1_actStarting_7 (k_Lp_count l w σ) mf_X2_count mv_X2_count lk_RX1_60 rfl rfl rfl rfl rfl ⟨Nat.le_of_ble_eq_true rfl, Nat.le_of_ble_eq_true rfl⟩ (Nat.le_of_ble_eq_true rfl) (kI fun z7 σ7 hh => ?_)
      obtain ⟨rfl, h7_0, h7_1⟩ := hh
      refine r_icmp_ge hX (tgt := 39) dX1_actStarting_10 (by decide) (by omega) (by omega) (fun c10 => ?_) (fun c10 => ?_)
      · skip
        refine r_bipush hX dX1_actStarting_39 (by decide) ?_
        exact r_iret hX dX1_actStarting_41 rfl ⟨_, rfl, ⟨rfl, (by exact Or.inr ⟨(show a = σ 53 0 by omega) ▸ hn, rfl⟩), (by omega)⟩⟩
      · skip
        refine r_aload_n hX dX1_actStarting_13 rfl ?_
        refine r_iload_n hX dX1_actStarting_14 rfl ?_
        refine r_callV hX dX1_actStarting_15 (k_Ly_cellOf l w σ _ (by omega)) mf_X1_cellOf mv_X1_cellOf lk_RX1_63 rfl rfl rfl rfl rfl ⟨Nat.le_of_ble_eq_true rfl, Nat.le_of_ble_eq_true rfl⟩ (Nat.le_of_ble_eq_true rfl) (kI fun z15 σ15 hh => ?_)
        obtain ⟨rfl, h15_0, h15_1⟩ := hh
        obtain rfl : z15 = σ 15 a := by omega
        refine r_iload_n hX dX1_actStarting_18 rfl ?_
        refine r_icmp_ne hX (tgt := 33) dX1_actStarting_19 (by decide) (by omega) (by omega) (fun c19 => ?_) (fun c19 => ?_)
        · skip
          refine r_iinc hX (fun x33 => [some (.ref (w.2.2 14)), some (.int (iI k)), some (.int (iI t)), some (.int (iI x33))]) dX1_actStarting_33 rfl rfl rfl (fun _ => rfl) (fun x33 e33 => ?_)
          refine r_goto hX dX1_actStarting_36 (tgt := 2) (by decide) ?_
          exact ih2 x33 (by omega) (hn.next (fun q => by first | exact absurd q.1 (by omega) | (unfold RS at h25_0; have q1 := q.2.1; have q2 := q.2.2; have := Int.ediv_nonneg (show 0 ≤ t - σ 16 a by omega) (show 0 ≤ σ 58 0 by omega); omega)) e33) (by omega)
        · skip
          refine r_aload_n hX dX1_actStarting_22 rfl ?_
          refine r_iload_n hX dX1_actStarting_23 rfl ?_
          refine r_iload_n hX dX1_actStarting_24 rfl ?_
          refine r_callV hX dX1_actStarting_25 (k_Ly_roundStarting l w σ _ _ (by omega) (by omega) (by omega) (by omega) (by omega)) mf_X1_roundStarting mv_X1_roundStarting lk_RX1_105 rfl rfl rfl rfl rfl ⟨Nat.le_of_ble_eq_true rfl, Nat.le_of_ble_eq_true rfl⟩ (Nat.le_of_ble_eq_true rfl) (kI fun z25 σ25 hh => ?_)
          obtain ⟨rfl, h25_0, h25_1⟩ := hh
          refine r_if_lt hX (tgt := 33) dX1_actStarting_28 (by decide) (by omega) (fun c28 => ?_) (fun c28 => ?_)
          · skip
            refine r_iinc hX (fun x33 => [some (.ref (w.2.2 14)), some (.int (iI k)), some (.int (iI t)), some (.int (iI x33))]) dX1_actStarting_33 rfl rfl rfl (fun _ => rfl) (fun x33 e33 => ?_)
            refine r_goto hX dX1_actStarting_36 (tgt := 2) (by decide) ?_
            exact ih2 x33 (by omega) (hn.next (fun q => by first | exact absurd q.1 (by omega) | (unfold RS at h25_0; have q1 := q.2.1; have q2 := q.2.2; have := Int.ediv_nonneg (show 0 ≤ t - σ 16 a by omega) (show 0 ≤ σ 58 0 by omega); omega)) e33) (by omega)
          · skip
            refine r_iload_n hX dX1_actStarting_31 rfl ?_
            exact r_iret hX dX1_actStarting_32 rfl ⟨_, rfl, ⟨rfl, (by exact Or.inl (hn.fst (by omega) (by omega) ⟨by omega, by unfold RS at h25_0; omega, by unfold RS at h25_0; omega⟩)), (by omega)⟩⟩
  exact lp2 ((9 - (x1)) + 1).toNat x1 (by omega) (fun b b0 b1 => by omega) (by omega)
end
section
theorem dX4_isPlace_0 : decode cX4_isPlace 0 = .ok (.iload_n 0, 1) := by decide +kernel
theorem dX4_isPlace_1 : decode cX4_isPlace 1 = .ok (.ifCond .lt 23, 3) := by decide +kernel
theorem dX4_isPlace_4 : decode cX4_isPlace 4 = .ok (.iload_n 0, 1) := by decide +kernel
theorem dX4_isPlace_5 : decode cX4_isPlace 5 = .ok (.bipush 8, 2) := by decide +kernel
theorem dX4_isPlace_7 : decode cX4_isPlace 7 = .ok (.if_icmp .ge 17, 3) := by decide +kernel
theorem dX4_isPlace_10 : decode cX4_isPlace 10 = .ok (.iload_n 1, 1) := by decide +kernel
theorem dX4_isPlace_11 : decode cX4_isPlace 11 = .ok (.ifCond .lt 13, 3) := by decide +kernel
theorem dX4_isPlace_14 : decode cX4_isPlace 14 = .ok (.iload_n 1, 1) := by decide +kernel
theorem dX4_isPlace_15 : decode cX4_isPlace 15 = .ok (.bipush 60, 2) := by decide +kernel
theorem dX4_isPlace_17 : decode cX4_isPlace 17 = .ok (.if_icmp .gt 7, 3) := by decide +kernel
theorem dX4_isPlace_20 : decode cX4_isPlace 20 = .ok (.iconst 1, 1) := by decide +kernel
theorem dX4_isPlace_21 : decode cX4_isPlace 21 = .ok (.goto 4, 3) := by decide +kernel
theorem dX4_isPlace_24 : decode cX4_isPlace 24 = .ok (.iconst 0, 1) := by decide +kernel
theorem dX4_isPlace_25 : decode cX4_isPlace 25 = .ok (.ireturn, 1) := by decide +kernel
set_option maxRecDepth 20000 in
set_option maxHeartbeats 4000000 in
theorem k_V_isPlace (l : Launch) (w : WT) (σ : MM) (a : Int) (t : Int) (i_a : inr a) (i_t : inr t) : CT SX l w yX4_isPlace cX4_isPlace 2 (some .boolean) 0 0 [.int (iI a), .int (iI t)] σ (PI fun z σ1 => σ = σ1 ∧ ((z = 1 ∧ 0 ≤ a ∧ a < 8 ∧ 0 ≤ t ∧ t ≤ 60) ∨ (z = 0 ∧ (a < 0 ∨ 8 ≤ a ∨ t < 0 ∨ 60 < t)))) := by
  refine CT.of 0 [some (.int (iI a)), some (.int (iI t))] (by decide +kernel) (by simp [lg_sl, Value.category]) rfl sh_X (fun G hX => ?_)
  refine r_iload_n hX dX4_isPlace_0 rfl ?_
  refine r_if_lt hX (tgt := 24) dX4_isPlace_1 (by decide) (by omega) (fun c1 => ?_) (fun c1 => ?_)
  · skip
    refine r_iconst hX dX4_isPlace_24 ?_
    exact r_zret hX dX4_isPlace_25 rfl (by omega) ⟨_, rfl, ⟨rfl, (by omega)⟩⟩
  · skip
    refine r_iload_n hX dX4_isPlace_4 rfl ?_
    refine r_bipush hX dX4_isPlace_5 (by decide) ?_
    refine r_icmp_ge hX (tgt := 24) dX4_isPlace_7 (by decide) (by omega) (by omega) (fun c7 => ?_) (fun c7 => ?_)
    · skip
      refine r_iconst hX dX4_isPlace_24 ?_
      exact r_zret hX dX4_isPlace_25 rfl (by omega) ⟨_, rfl, ⟨rfl, (by omega)⟩⟩
    · skip
      refine r_iload_n hX dX4_isPlace_10 rfl ?_
      refine r_if_lt hX (tgt := 24) dX4_isPlace_11 (by decide) (by omega) (fun c11 => ?_) (fun c11 => ?_)
      · skip
        refine r_iconst hX dX4_isPlace_24 ?_
        exact r_zret hX dX4_isPlace_25 rfl (by omega) ⟨_, rfl, ⟨rfl, (by omega)⟩⟩
      · skip
        refine r_iload_n hX dX4_isPlace_14 rfl ?_
        refine r_bipush hX dX4_isPlace_15 (by decide) ?_
        refine r_icmp_gt hX (tgt := 24) dX4_isPlace_17 (by decide) (by omega) (by omega) (fun c17 => ?_) (fun c17 => ?_)
        · skip
          refine r_iconst hX dX4_isPlace_24 ?_
          exact r_zret hX dX4_isPlace_25 rfl (by omega) ⟨_, rfl, ⟨rfl, (by omega)⟩⟩
        · skip
          refine r_iconst hX dX4_isPlace_20 ?_
          refine r_goto hX dX4_isPlace_21 (tgt := 25) (by decide) ?_
          exact r_zret hX dX4_isPlace_25 rfl (by omega) ⟨_, rfl, ⟨rfl, (by omega)⟩⟩
theorem dX4_at_0 : decode cX4_at 0 = .ok (.iload_n 1, 1) := by decide +kernel
theorem dX4_at_1 : decode cX4_at 1 = .ok (.iload_n 2, 1) := by decide +kernel
theorem dX4_at_2 : decode cX4_at 2 = .ok (.invokestatic 19, 3) := by decide +kernel
theorem dX4_at_5 : decode cX4_at 5 = .ok (.ifCond .eq 17, 3) := by decide +kernel
theorem dX4_at_8 : decode cX4_at 8 = .ok (.aload_n 0, 1) := by decide +kernel
theorem dX4_at_9 : decode cX4_at 9 = .ok (.getfield 9, 3) := by decide +kernel
theorem dX4_at_12 : decode cX4_at 12 = .ok (.iload_n 1, 1) := by decide +kernel
theorem dX4_at_13 : decode cX4_at 13 = .ok (.bipush 61, 2) := by decide +kernel
theorem dX4_at_15 : decode cX4_at 15 = .ok (.imul, 1) := by decide +kernel
theorem dX4_at_16 : decode cX4_at 16 = .ok (.iload_n 2, 1) := by decide +kernel
theorem dX4_at_17 : decode cX4_at 17 = .ok (.iadd, 1) := by decide +kernel
theorem dX4_at_18 : decode cX4_at 18 = .ok (.iaload, 1) := by decide +kernel
theorem dX4_at_19 : decode cX4_at 19 = .ok (.goto 4, 3) := by decide +kernel
theorem dX4_at_22 : decode cX4_at 22 = .ok (.iconst 0, 1) := by decide +kernel
theorem dX4_at_23 : decode cX4_at 23 = .ok (.ireturn, 1) := by decide +kernel
set_option maxRecDepth 20000 in
set_option maxHeartbeats 4000000 in
theorem k_V1_at (l : Launch) (w : WT) (σ : MM) (a : Int) (t : Int) (i_a : inr a) (i_t : inr t) : CT SX l w yX4_at cX4_at 3 (some .int) 1 21 [.ref (w.2.2 23), .int (iI a), .int (iI t)] σ (PI fun z σ1 => σ = σ1 ∧ ((0 ≤ a ∧ a < 8 ∧ 0 ≤ t ∧ t ≤ 60 ∧ z = σ 24 (a * 61 + t)) ∨ ((a < 0 ∨ 8 ≤ a ∨ t < 0 ∨ 60 < t) ∧ z = 0))) := by
  refine CT.of 0 [some (.ref (w.2.2 23)), some (.int (iI a)), some (.int (iI t))] (by decide +kernel) (by simp [lg_sl, Value.category]) rfl sh_X (fun G hX => ?_)
  refine r_iload_n hX dX4_at_0 rfl ?_
  refine r_iload_n hX dX4_at_1 rfl ?_
  refine r_callS hX dX4_at_2 (k_V_isPlace l w σ _ _ (by omega) (by omega)) mf_X4_isPlace ms_X4_isPlace lk_RX4_19 rfl rfl ⟨Nat.le_of_ble_eq_true rfl, Nat.le_of_ble_eq_true rfl⟩ (Nat.le_of_ble_eq_true rfl) (kI fun z2 σ2 hh => ?_)
  obtain ⟨rfl, h2_0⟩ := hh
  refine r_if_eq hX (tgt := 22) dX4_at_5 (by decide) (by omega) (fun c5 => ?_) (fun c5 => ?_)
  · skip
    refine r_iconst hX dX4_at_22 ?_
    exact r_iret hX dX4_at_23 rfl ⟨_, rfl, ⟨rfl, (by omega)⟩⟩
  · skip
    refine r_aload_n hX dX4_at_8 rfl ?_
    refine fg_X23_9 hX dX4_at_9 ?_
    refine r_iload_n hX dX4_at_12 rfl ?_
    refine r_bipush hX dX4_at_13 (by decide) ?_
    refine r_imul hX dX4_at_15 ?_
    refine r_iload_n hX dX4_at_16 rfl ?_
    refine r_iadd hX dX4_at_17 ?_
    refine ld_X24 hX dX4_at_18 (by omega) (by omega) ?_
    refine r_goto hX dX4_at_19 (tgt := 23) (by decide) ?_
    exact r_iret hX dX4_at_23 rfl ⟨_, rfl, ⟨rfl, (by omega)⟩⟩
theorem dX4_operand_0 : decode cX4_operand 0 = .ok (.iload_n 2, 1) := by decide +kernel
theorem dX4_operand_1 : decode cX4_operand 1 = .ok (.aload_n 0, 1) := by decide +kernel
theorem dX4_operand_2 : decode cX4_operand 2 = .ok (.getfield 15, 3) := by decide +kernel
theorem dX4_operand_5 : decode cX4_operand 5 = .ok (.iload_n 1, 1) := by decide +kernel
theorem dX4_operand_6 : decode cX4_operand 6 = .ok (.invokevirtual 61, 3) := by decide +kernel
theorem dX4_operand_9 : decode cX4_operand 9 = .ok (.isub, 1) := by decide +kernel
theorem dX4_operand_10 : decode cX4_operand 10 = .ok (.istore_n 3, 1) := by decide +kernel
theorem dX4_operand_11 : decode cX4_operand 11 = .ok (.iload_n 3, 1) := by decide +kernel
theorem dX4_operand_12 : decode cX4_operand 12 = .ok (.ifCond .ge 13, 3) := by decide +kernel
theorem dX4_operand_15 : decode cX4_operand 15 = .ok (.aload_n 0, 1) := by decide +kernel
theorem dX4_operand_16 : decode cX4_operand 16 = .ok (.getfield 15, 3) := by decide +kernel
theorem dX4_operand_19 : decode cX4_operand 19 = .ok (.invokevirtual 64, 3) := by decide +kernel
theorem dX4_operand_22 : decode cX4_operand 22 = .ok (.goto 16, 3) := by decide +kernel
theorem dX4_operand_25 : decode cX4_operand 25 = .ok (.aload_n 0, 1) := by decide +kernel
theorem dX4_operand_26 : decode cX4_operand 26 = .ok (.aload_n 0, 1) := by decide +kernel
theorem dX4_operand_27 : decode cX4_operand 27 = .ok (.getfield 15, 3) := by decide +kernel
theorem dX4_operand_30 : decode cX4_operand 30 = .ok (.iload_n 1, 1) := by decide +kernel
theorem dX4_operand_31 : decode cX4_operand 31 = .ok (.invokevirtual 67, 3) := by decide +kernel
theorem dX4_operand_34 : decode cX4_operand 34 = .ok (.iload_n 3, 1) := by decide +kernel
theorem dX4_operand_35 : decode cX4_operand 35 = .ok (.invokevirtual 70, 3) := by decide +kernel
theorem dX4_operand_38 : decode cX4_operand 38 = .ok (.ireturn, 1) := by decide +kernel
set_option maxRecDepth 20000 in
set_option maxHeartbeats 4000000 in
theorem k_V1_operand (l : Launch) (w : WT) (σ : MM) (s : Int) (t : Int) (i_s : inr s) (i_t : inr t) (hs : 0 ≤ s ∧ s < 2 * σ 53 0) (hu : 0 ≤ σ 5 s ∧ σ 5 s < 8) (ht : 0 ≤ t ∧ t ≤ 60) : CT SX l w yX4_operand cX4_operand 4 (some .int) 2 43 [.ref (w.2.2 23), .int (iI s), .int (iI t)] σ (PI fun z σ1 => σ = σ1 ∧ (z = opV (σ 5) (σ 6) (σ 24) (σ 55 0) s t)) := by
  refine CT.of 1 [some (.ref (w.2.2 23)), some (.int (iI s)), some (.int (iI t)), none] (by decide +kernel) (by simp [lg_sl, Value.category]) rfl sh_X (fun G hX => ?_)
  refine r_iload_n hX dX4_operand_0 rfl ?_
  refine r_aload_n hX dX4_operand_1 rfl ?_
  refine fg_X23_15 hX dX4_operand_2 ?_
  refine r_iload_n hX dX4_operand_5 rfl ?_
  refine r_callV hX dX4_operand_6 (k_Lp_distanceOf l w σ _ (by omega)) mf_X2_distanceOf mv_X2_distanceOf lk_RX4_61 rfl rfl rfl rfl rfl ⟨Nat.le_of_ble_eq_true rfl, Nat.le_of_ble_eq_true rfl⟩ (Nat.le_of_ble_eq_true rfl) (kI fun z6 σ6 hh => ?_)
  obtain ⟨rfl, h6_0, h6_1⟩ := hh
  obtain rfl : z6 = σ 6 s := by omega
  refine r_isub hX dX4_operand_9 ?_
  refine r_istore_n hX (fun x10 => [some (.ref (w.2.2 23)), some (.int (iI s)), some (.int (iI t)), some (.int (iI x10))]) dX4_operand_10 (Nat.le_of_ble_eq_true rfl) rfl rfl (fun _ => rfl) (fun x10 e10 => ?_)
  refine r_iload_n hX dX4_operand_11 rfl ?_
  refine r_if_ge hX (tgt := 25) dX4_operand_12 (by decide) (by omega) (fun c12 => ?_) (fun c12 => ?_)
  · skip
    refine r_aload_n hX dX4_operand_25 rfl ?_
    refine r_aload_n hX dX4_operand_26 rfl ?_
    refine fg_X23_15 hX dX4_operand_27 ?_
    refine r_iload_n hX dX4_operand_30 rfl ?_
    refine r_callV hX dX4_operand_31 (k_Lp_sourceOf l w σ _ (by omega)) mf_X2_sourceOf mv_X2_sourceOf lk_RX4_67 rfl rfl rfl rfl rfl ⟨Nat.le_of_ble_eq_true rfl, Nat.le_of_ble_eq_true rfl⟩ (Nat.le_of_ble_eq_true rfl) (kI fun z31 σ31 hh => ?_)
    obtain ⟨rfl, h31_0, h31_1⟩ := hh
    obtain rfl : z31 = σ 5 s := by omega
    refine r_iload_n hX dX4_operand_34 rfl ?_
    refine r_callV hX dX4_operand_35 (k_V1_at l w σ _ _ (by omega) (by omega)) mf_X4_at mv_X4_at lk_RX4_70 rfl rfl rfl rfl rfl ⟨Nat.le_of_ble_eq_true rfl, Nat.le_of_ble_eq_true rfl⟩ (Nat.le_of_ble_eq_true rfl) (kI fun z35 σ35 hh => ?_)
    obtain ⟨rfl, h35_0⟩ := hh
    exact r_iret hX dX4_operand_38 rfl ⟨_, rfl, ⟨rfl, (by unfold opV; rw [e10] at *; first | (rw [if_pos (by omega)]; omega) | (rw [if_neg (by omega)]; omega))⟩⟩
  · skip
    refine r_aload_n hX dX4_operand_15 rfl ?_
    refine fg_X23_15 hX dX4_operand_16 ?_
    refine r_callV hX dX4_operand_19 (k_Lp_first l w σ) mf_X2_firstNumber mv_X2_firstNumber lk_RX4_64 rfl rfl rfl rfl rfl ⟨Nat.le_of_ble_eq_true rfl, Nat.le_of_ble_eq_true rfl⟩ (Nat.le_of_ble_eq_true rfl) (kI fun z19 σ19 hh => ?_)
    obtain ⟨rfl, h19_0⟩ := hh
    refine r_goto hX dX4_operand_22 (tgt := 38) (by decide) ?_
    exact r_iret hX dX4_operand_38 rfl ⟨_, rfl, ⟨rfl, (by unfold opV; rw [e10] at *; first | (rw [if_pos (by omega)]; omega) | (rw [if_neg (by omega)]; omega))⟩⟩
theorem dX4_valueOf_0 : decode cX4_valueOf 0 = .ok (.aload_n 0, 1) := by decide +kernel
theorem dX4_valueOf_1 : decode cX4_valueOf 1 = .ok (.getfield 15, 3) := by decide +kernel
theorem dX4_valueOf_4 : decode cX4_valueOf 4 = .ok (.iload_n 1, 1) := by decide +kernel
theorem dX4_valueOf_5 : decode cX4_valueOf 5 = .ok (.invokevirtual 41, 3) := by decide +kernel
theorem dX4_valueOf_8 : decode cX4_valueOf 8 = .ok (.ifCond .ne 23, 3) := by decide +kernel
theorem dX4_valueOf_11 : decode cX4_valueOf 11 = .ok (.aload_n 0, 1) := by decide +kernel
theorem dX4_valueOf_12 : decode cX4_valueOf 12 = .ok (.getfield 15, 3) := by decide +kernel
theorem dX4_valueOf_15 : decode cX4_valueOf 15 = .ok (.iload_n 1, 1) := by decide +kernel
theorem dX4_valueOf_16 : decode cX4_valueOf 16 = .ok (.invokevirtual 44, 3) := by decide +kernel
theorem dX4_valueOf_19 : decode cX4_valueOf 19 = .ok (.iload_n 2, 1) := by decide +kernel
theorem dX4_valueOf_20 : decode cX4_valueOf 20 = .ok (.imul, 1) := by decide +kernel
theorem dX4_valueOf_21 : decode cX4_valueOf 21 = .ok (.aload_n 0, 1) := by decide +kernel
theorem dX4_valueOf_22 : decode cX4_valueOf 22 = .ok (.getfield 15, 3) := by decide +kernel
theorem dX4_valueOf_25 : decode cX4_valueOf 25 = .ok (.iload_n 1, 1) := by decide +kernel
theorem dX4_valueOf_26 : decode cX4_valueOf 26 = .ok (.invokevirtual 47, 3) := by decide +kernel
theorem dX4_valueOf_29 : decode cX4_valueOf 29 = .ok (.iadd, 1) := by decide +kernel
theorem dX4_valueOf_30 : decode cX4_valueOf 30 = .ok (.ireturn, 1) := by decide +kernel
theorem dX4_valueOf_31 : decode cX4_valueOf 31 = .ok (.aload_n 0, 1) := by decide +kernel
theorem dX4_valueOf_32 : decode cX4_valueOf 32 = .ok (.iconst 2, 1) := by decide +kernel
theorem dX4_valueOf_33 : decode cX4_valueOf 33 = .ok (.iload_n 1, 1) := by decide +kernel
theorem dX4_valueOf_34 : decode cX4_valueOf 34 = .ok (.imul, 1) := by decide +kernel
theorem dX4_valueOf_35 : decode cX4_valueOf 35 = .ok (.iload_n 2, 1) := by decide +kernel
theorem dX4_valueOf_36 : decode cX4_valueOf 36 = .ok (.invokevirtual 50, 3) := by decide +kernel
theorem dX4_valueOf_39 : decode cX4_valueOf 39 = .ok (.istore_n 3, 1) := by decide +kernel
theorem dX4_valueOf_40 : decode cX4_valueOf 40 = .ok (.aload_n 0, 1) := by decide +kernel
theorem dX4_valueOf_41 : decode cX4_valueOf 41 = .ok (.iconst 2, 1) := by decide +kernel
theorem dX4_valueOf_42 : decode cX4_valueOf 42 = .ok (.iload_n 1, 1) := by decide +kernel
theorem dX4_valueOf_43 : decode cX4_valueOf 43 = .ok (.imul, 1) := by decide +kernel
theorem dX4_valueOf_44 : decode cX4_valueOf 44 = .ok (.iconst 1, 1) := by decide +kernel
theorem dX4_valueOf_45 : decode cX4_valueOf 45 = .ok (.iadd, 1) := by decide +kernel
theorem dX4_valueOf_46 : decode cX4_valueOf 46 = .ok (.iload_n 2, 1) := by decide +kernel
theorem dX4_valueOf_47 : decode cX4_valueOf 47 = .ok (.invokevirtual 50, 3) := by decide +kernel
theorem dX4_valueOf_50 : decode cX4_valueOf 50 = .ok (.istore 4, 2) := by decide +kernel
theorem dX4_valueOf_52 : decode cX4_valueOf 52 = .ok (.aload_n 0, 1) := by decide +kernel
theorem dX4_valueOf_53 : decode cX4_valueOf 53 = .ok (.getfield 15, 3) := by decide +kernel
theorem dX4_valueOf_56 : decode cX4_valueOf 56 = .ok (.iload_n 1, 1) := by decide +kernel
theorem dX4_valueOf_57 : decode cX4_valueOf 57 = .ok (.invokevirtual 41, 3) := by decide +kernel
theorem dX4_valueOf_60 : decode cX4_valueOf 60 = .ok (.tableswitch 54 1 4 #[32, 37, 42, 47], 32) := by decide +kernel
theorem dX4_valueOf_92 : decode cX4_valueOf 92 = .ok (.iload_n 3, 1) := by decide +kernel
theorem dX4_valueOf_93 : decode cX4_valueOf 93 = .ok (.iload 4, 2) := by decide +kernel
theorem dX4_valueOf_95 : decode cX4_valueOf 95 = .ok (.iadd, 1) := by decide +kernel
theorem dX4_valueOf_96 : decode cX4_valueOf 96 = .ok (.ireturn, 1) := by decide +kernel
theorem dX4_valueOf_97 : decode cX4_valueOf 97 = .ok (.iload_n 3, 1) := by decide +kernel
theorem dX4_valueOf_98 : decode cX4_valueOf 98 = .ok (.iload 4, 2) := by decide +kernel
theorem dX4_valueOf_100 : decode cX4_valueOf 100 = .ok (.isub, 1) := by decide +kernel
theorem dX4_valueOf_101 : decode cX4_valueOf 101 = .ok (.ireturn, 1) := by decide +kernel
theorem dX4_valueOf_102 : decode cX4_valueOf 102 = .ok (.iload_n 3, 1) := by decide +kernel
theorem dX4_valueOf_103 : decode cX4_valueOf 103 = .ok (.iload 4, 2) := by decide +kernel
theorem dX4_valueOf_105 : decode cX4_valueOf 105 = .ok (.imul, 1) := by decide +kernel
theorem dX4_valueOf_106 : decode cX4_valueOf 106 = .ok (.ireturn, 1) := by decide +kernel
theorem dX4_valueOf_107 : decode cX4_valueOf 107 = .ok (.iload_n 3, 1) := by decide +kernel
theorem dX4_valueOf_108 : decode cX4_valueOf 108 = .ok (.iload 4, 2) := by decide +kernel
theorem dX4_valueOf_110 : decode cX4_valueOf 110 = .ok (.invokestatic 53, 3) := by decide +kernel
theorem dX4_valueOf_113 : decode cX4_valueOf 113 = .ok (.ireturn, 1) := by decide +kernel
theorem dX4_valueOf_114 : decode cX4_valueOf 114 = .ok (.iload_n 3, 1) := by decide +kernel
theorem dX4_valueOf_115 : decode cX4_valueOf 115 = .ok (.iload 4, 2) := by decide +kernel
theorem dX4_valueOf_117 : decode cX4_valueOf 117 = .ok (.invokestatic 58, 3) := by decide +kernel
theorem dX4_valueOf_120 : decode cX4_valueOf 120 = .ok (.ireturn, 1) := by decide +kernel
set_option maxRecDepth 20000 in
set_option maxHeartbeats 4000000 in
theorem k_V1_valueOf (l : Launch) (w : WT) (σ : MM) (a : Int) (t : Int) (i_a : inr a) (i_t : inr t) (ha : 0 ≤ a ∧ a < σ 53 0) (hd : σ 2 a ≠ 0 → 0 ≤ σ 5 (2 * a) ∧ σ 5 (2 * a) < 8 ∧ 0 ≤ σ 5 (2 * a + 1) ∧ σ 5 (2 * a + 1) < 8) (ht : 0 ≤ t ∧ t ≤ 60) : CT SX l w yX4_valueOf cX4_valueOf 5 (some .int) 3 66 [.ref (w.2.2 23), .int (iI a), .int (iI t)] σ (PI fun z σ1 => σ = σ1 ∧ (iI z = VALx σ (σ 24) a t)) := by
  refine CT.of 2 [some (.ref (w.2.2 23)), some (.int (iI a)), some (.int (iI t)), none, none] (by decide +kernel) (by simp [lg_sl, Value.category]) rfl sh_X (fun G hX => ?_)
  refine r_bd hX (fun hBd => ?_)
  have b_53 := hBd 53 0 8 rfl 0
  have b2 := hBd 2 0 5 rfl a
  refine r_aload_n hX dX4_valueOf_0 rfl ?_
  refine fg_X23_15 hX dX4_valueOf_1 ?_
  refine r_iload_n hX dX4_valueOf_4 rfl ?_
  refine r_callV hX dX4_valueOf_5 (k_Lp_kindOf l w σ _ (by omega)) mf_X2_kindOf mv_X2_kindOf lk_RX4_41 rfl rfl rfl rfl rfl ⟨Nat.le_of_ble_eq_true rfl, Nat.le_of_ble_eq_true rfl⟩ (Nat.le_of_ble_eq_true rfl) (kI fun z5 σ5 hh => ?_)
  obtain ⟨rfl, h5_0, h5_1⟩ := hh
  obtain rfl : z5 = σ 2 a := by omega
  refine r_if_ne hX (tgt := 31) dX4_valueOf_8 (by decide) (by omega) (fun c8 => ?_) (fun c8 => ?_)
  · skip
    have hd1 := hd (by omega)
    refine r_aload_n hX dX4_valueOf_31 rfl ?_
    refine r_iconst hX dX4_valueOf_32 ?_
    refine r_iload_n hX dX4_valueOf_33 rfl ?_
    refine r_imul hX dX4_valueOf_34 ?_
    refine r_iload_n hX dX4_valueOf_35 rfl ?_
    refine r_callV hX dX4_valueOf_36 (k_V1_operand l w σ _ _ (by omega) (by omega) (by omega) (by omega) (by omega)) mf_X4_operand mv_X4_operand lk_RX4_50 rfl rfl rfl rfl rfl ⟨Nat.le_of_ble_eq_true rfl, Nat.le_of_ble_eq_true rfl⟩ (Nat.le_of_ble_eq_true rfl) (kI fun z36 σ36 hh => ?_)
    obtain ⟨rfl, h36_0⟩ := hh
    refine r_istore_n hX (fun x39 => [some (.ref (w.2.2 23)), some (.int (iI a)), some (.int (iI t)), some (.int (iI x39)), none]) dX4_valueOf_39 (Nat.le_of_ble_eq_true rfl) rfl rfl (fun _ => rfl) (fun x39 e39 => ?_)
    refine r_aload_n hX dX4_valueOf_40 rfl ?_
    refine r_iconst hX dX4_valueOf_41 ?_
    refine r_iload_n hX dX4_valueOf_42 rfl ?_
    refine r_imul hX dX4_valueOf_43 ?_
    refine r_iconst hX dX4_valueOf_44 ?_
    refine r_iadd hX dX4_valueOf_45 ?_
    refine r_iload_n hX dX4_valueOf_46 rfl ?_
    refine r_callV hX dX4_valueOf_47 (k_V1_operand l w σ _ _ (by omega) (by omega) (by omega) (by omega) (by omega)) mf_X4_operand mv_X4_operand lk_RX4_50 rfl rfl rfl rfl rfl ⟨Nat.le_of_ble_eq_true rfl, Nat.le_of_ble_eq_true rfl⟩ (Nat.le_of_ble_eq_true rfl) (kI fun z47 σ47 hh => ?_)
    obtain ⟨rfl, h47_0⟩ := hh
    refine r_istore hX (fun x50 => [some (.ref (w.2.2 23)), some (.int (iI a)), some (.int (iI t)), some (.int (iI x39)), some (.int (iI x50))]) dX4_valueOf_50 (Nat.le_of_ble_eq_true rfl) rfl rfl (fun _ => rfl) (fun x50 e50 => ?_)
    refine r_aload_n hX dX4_valueOf_52 rfl ?_
    refine fg_X23_15 hX dX4_valueOf_53 ?_
    refine r_iload_n hX dX4_valueOf_56 rfl ?_
    refine r_callV hX dX4_valueOf_57 (k_Lp_kindOf l w σ _ (by omega)) mf_X2_kindOf mv_X2_kindOf lk_RX4_41 rfl rfl rfl rfl rfl ⟨Nat.le_of_ble_eq_true rfl, Nat.le_of_ble_eq_true rfl⟩ (Nat.le_of_ble_eq_true rfl) (kI fun z57 σ57 hh => ?_)
    obtain ⟨rfl, h57_0, h57_1⟩ := hh
    obtain rfl : z57 = σ 2 a := by omega
    refine r_nm hX (fun x60 e60 => ?_)
    rcases (by omega : x60 < 1 ∨ 4 < x60 ∨ x60 = 1 ∨ x60 = 2 ∨ x60 = 3 ∨ x60 = 4) with c60 | c60 | c60 | c60 | c60 | c60
    · skip
      refine r_tblOut hX dX4_valueOf_60 (by omega) (Or.inl c60) (tgt := 114) (by decide) ?_
      refine r_iload_n hX dX4_valueOf_114 rfl ?_
      refine r_iload hX dX4_valueOf_115 rfl ?_
      refine r_max hX dX4_valueOf_117 lq_RX4_58 ma_max_s ma_i ma_max_c (Nat.le_of_ble_eq_true rfl) (Nat.le_of_ble_eq_true rfl) (fun z117 h117 => ?_)
      exact r_iret hX dX4_valueOf_120 rfl ⟨_, rfl, ⟨rfl, (by unfold VALx VAL; rw [if_neg (by omega), if_neg (by omega), if_neg (by omega), if_neg (by omega), if_neg (by omega), ← h36_0, ← h47_0]; rw [e39, e50] at *; rcases h117 with ⟨q1, q2⟩ | ⟨q1, q2⟩ <;> simp [q1, q2])⟩⟩
    · skip
      refine r_tblOut hX dX4_valueOf_60 (by omega) (Or.inr c60) (tgt := 114) (by decide) ?_
      refine r_iload_n hX dX4_valueOf_114 rfl ?_
      refine r_iload hX dX4_valueOf_115 rfl ?_
      refine r_max hX dX4_valueOf_117 lq_RX4_58 ma_max_s ma_i ma_max_c (Nat.le_of_ble_eq_true rfl) (Nat.le_of_ble_eq_true rfl) (fun z117 h117 => ?_)
      exact r_iret hX dX4_valueOf_120 rfl ⟨_, rfl, ⟨rfl, (by unfold VALx VAL; rw [if_neg (by omega), if_neg (by omega), if_neg (by omega), if_neg (by omega), if_neg (by omega), ← h36_0, ← h47_0]; rw [e39, e50] at *; rcases h117 with ⟨q1, q2⟩ | ⟨q1, q2⟩ <;> simp [q1, q2])⟩⟩
    · skip
      refine r_tblIn hX 1 dX4_valueOf_60 c60 (by decide) rfl (tgt := 92) (by decide) ?_
      refine r_iload_n hX dX4_valueOf_92 rfl ?_
      refine r_iload hX dX4_valueOf_93 rfl ?_
      refine r_iadd hX dX4_valueOf_95 ?_
      exact r_iret hX dX4_valueOf_96 rfl ⟨_, rfl, ⟨rfl, (by unfold VALx VAL; rw [if_neg (by omega), if_pos (by omega), ← h36_0, ← h47_0, e39, e50])⟩⟩
    · skip
      refine r_tblIn hX 2 dX4_valueOf_60 c60 (by decide) rfl (tgt := 97) (by decide) ?_
      refine r_iload_n hX dX4_valueOf_97 rfl ?_
      refine r_iload hX dX4_valueOf_98 rfl ?_
      refine r_isub hX dX4_valueOf_100 ?_
      exact r_iret hX dX4_valueOf_101 rfl ⟨_, rfl, ⟨rfl, (by unfold VALx VAL; rw [if_neg (by omega), if_neg (by omega), if_pos (by omega), ← h36_0, ← h47_0, e39, e50])⟩⟩
    · skip
      refine r_tblIn hX 3 dX4_valueOf_60 c60 (by decide) rfl (tgt := 102) (by decide) ?_
      refine r_iload_n hX dX4_valueOf_102 rfl ?_
      refine r_iload hX dX4_valueOf_103 rfl ?_
      refine r_imul hX dX4_valueOf_105 ?_
      exact r_iret hX dX4_valueOf_106 rfl ⟨_, rfl, ⟨rfl, (by unfold VALx VAL; rw [if_neg (by omega), if_neg (by omega), if_neg (by omega), if_pos (by omega), ← h36_0, ← h47_0, e39, e50])⟩⟩
    · skip
      refine r_tblIn hX 4 dX4_valueOf_60 c60 (by decide) rfl (tgt := 107) (by decide) ?_
      refine r_iload_n hX dX4_valueOf_107 rfl ?_
      refine r_iload hX dX4_valueOf_108 rfl ?_
      refine r_min hX dX4_valueOf_110 lq_RX4_53 ma_min_s ma_i ma_min_c (Nat.le_of_ble_eq_true rfl) (Nat.le_of_ble_eq_true rfl) (fun z110 h110 => ?_)
      exact r_iret hX dX4_valueOf_113 rfl ⟨_, rfl, ⟨rfl, (by unfold VALx VAL; rw [if_neg (by omega), if_neg (by omega), if_neg (by omega), if_neg (by omega), if_pos (by omega), ← h36_0, ← h47_0]; rw [e39, e50] at *; rcases h110 with ⟨q1, q2⟩ | ⟨q1, q2⟩ <;> simp [q1, q2])⟩⟩
  · skip
    refine r_aload_n hX dX4_valueOf_11 rfl ?_
    refine fg_X23_15 hX dX4_valueOf_12 ?_
    refine r_iload_n hX dX4_valueOf_15 rfl ?_
    refine r_callV hX dX4_valueOf_16 (k_Lp_factorOf l w σ _ (by omega)) mf_X2_factorOf mv_X2_factorOf lk_RX4_44 rfl rfl rfl rfl rfl ⟨Nat.le_of_ble_eq_true rfl, Nat.le_of_ble_eq_true rfl⟩ (Nat.le_of_ble_eq_true rfl) (kI fun z16 σ16 hh => ?_)
    obtain ⟨rfl, h16_0⟩ := hh
    obtain rfl : z16 = σ 3 a := by omega
    refine r_iload_n hX dX4_valueOf_19 rfl ?_
    refine r_imul hX dX4_valueOf_20 ?_
    refine r_aload_n hX dX4_valueOf_21 rfl ?_
    refine fg_X23_15 hX dX4_valueOf_22 ?_
    refine r_iload_n hX dX4_valueOf_25 rfl ?_
    refine r_callV hX dX4_valueOf_26 (k_Lp_addendOf l w σ _ (by omega)) mf_X2_addendOf mv_X2_addendOf lk_RX4_47 rfl rfl rfl rfl rfl ⟨Nat.le_of_ble_eq_true rfl, Nat.le_of_ble_eq_true rfl⟩ (Nat.le_of_ble_eq_true rfl) (kI fun z26 σ26 hh => ?_)
    obtain ⟨rfl, h26_0⟩ := hh
    obtain rfl : z26 = σ 4 a := by omega
    refine r_iadd hX dX4_valueOf_29 ?_
    exact r_iret hX dX4_valueOf_30 rfl ⟨_, rfl, ⟨rfl, (by unfold VALx VAL; rw [if_pos (by omega)])⟩⟩
theorem dX4_make_0 : decode cX4_make 0 = .ok (.iload_n 1, 1) := by decide +kernel
theorem dX4_make_1 : decode cX4_make 1 = .ok (.iload_n 2, 1) := by decide +kernel
theorem dX4_make_2 : decode cX4_make 2 = .ok (.invokestatic 19, 3) := by decide +kernel
theorem dX4_make_5 : decode cX4_make 5 = .ok (.ifCond .eq 20, 3) := by decide +kernel
theorem dX4_make_8 : decode cX4_make 8 = .ok (.aload_n 0, 1) := by decide +kernel
theorem dX4_make_9 : decode cX4_make 9 = .ok (.getfield 9, 3) := by decide +kernel
theorem dX4_make_12 : decode cX4_make 12 = .ok (.iload_n 1, 1) := by decide +kernel
theorem dX4_make_13 : decode cX4_make 13 = .ok (.bipush 61, 2) := by decide +kernel
theorem dX4_make_15 : decode cX4_make 15 = .ok (.imul, 1) := by decide +kernel
theorem dX4_make_16 : decode cX4_make 16 = .ok (.iload_n 2, 1) := by decide +kernel
theorem dX4_make_17 : decode cX4_make 17 = .ok (.iadd, 1) := by decide +kernel
theorem dX4_make_18 : decode cX4_make 18 = .ok (.aload_n 0, 1) := by decide +kernel
theorem dX4_make_19 : decode cX4_make 19 = .ok (.iload_n 1, 1) := by decide +kernel
theorem dX4_make_20 : decode cX4_make 20 = .ok (.iload_n 2, 1) := by decide +kernel
theorem dX4_make_21 : decode cX4_make 21 = .ok (.invokevirtual 37, 3) := by decide +kernel
theorem dX4_make_24 : decode cX4_make 24 = .ok (.iastore, 1) := by decide +kernel
theorem dX4_make_25 : decode cX4_make 25 = .ok (.return_, 1) := by decide +kernel
set_option maxRecDepth 20000 in
set_option maxHeartbeats 4000000 in
theorem k_V1_make (l : Launch) (w : WT) (σ : MM) (a : Int) (t : Int) (i_a : inr a) (i_t : inr t) (ha : 0 ≤ a ∧ a < σ 53 0) (hc : σ 53 0 ≤ 8) (hd : σ 2 a ≠ 0 → 0 ≤ σ 5 (2 * a) ∧ σ 5 (2 * a) < 8 ∧ 0 ≤ σ 5 (2 * a + 1) ∧ σ 5 (2 * a + 1) < 8) (ht : 0 ≤ t ∧ t ≤ 60) : CT SX l w yX4_make cX4_make 3 none 4 90 [.ref (w.2.2 23), .int (iI a), .int (iI t)] σ (PV fun σ1 => Mod [24] σ σ1 ∧ (∃ v : Int, iI v = VALx σ (σ 24) a t ∧ ∀ b : Int, σ1 24 b = if b = a * 61 + t then v else σ 24 b)) := by
  refine CT.of 0 [some (.ref (w.2.2 23)), some (.int (iI a)), some (.int (iI t))] (by decide +kernel) (by simp [lg_sl, Value.category]) rfl sh_X (fun G hX => ?_)
  refine r_iload_n hX dX4_make_0 rfl ?_
  refine r_iload_n hX dX4_make_1 rfl ?_
  refine r_callS hX dX4_make_2 (k_V_isPlace l w σ _ _ (by omega) (by omega)) mf_X4_isPlace ms_X4_isPlace lk_RX4_19 rfl rfl ⟨Nat.le_of_ble_eq_true rfl, Nat.le_of_ble_eq_true rfl⟩ (Nat.le_of_ble_eq_true rfl) (kI fun z2 σ2 hh => ?_)
  obtain ⟨rfl, h2_0⟩ := hh
  refine r_if_eq hX (tgt := 25) dX4_make_5 (by decide) (by omega) (fun c5 => ?_) (fun c5 => ?_)
  · exfalso; omega
  · skip
    refine r_aload_n hX dX4_make_8 rfl ?_
    refine fg_X23_9 hX dX4_make_9 ?_
    refine r_iload_n hX dX4_make_12 rfl ?_
    refine r_bipush hX dX4_make_13 (by decide) ?_
    refine r_imul hX dX4_make_15 ?_
    refine r_iload_n hX dX4_make_16 rfl ?_
    refine r_iadd hX dX4_make_17 ?_
    refine r_aload_n hX dX4_make_18 rfl ?_
    refine r_iload_n hX dX4_make_19 rfl ?_
    refine r_iload_n hX dX4_make_20 rfl ?_
    refine r_callV hX dX4_make_21 (k_V1_valueOf l w σ _ _ (by omega) (by omega) (by omega) (hd) (by omega)) mf_X4_valueOf mv_X4_valueOf lk_RX4_37 rfl rfl rfl rfl rfl ⟨Nat.le_of_ble_eq_true rfl, Nat.le_of_ble_eq_true rfl⟩ (Nat.le_of_ble_eq_true rfl) (kI fun z21 σ21 hh => ?_)
    obtain ⟨rfl, h21_0⟩ := hh
    refine st_X24 hX dX4_make_24 (by omega) (by omega) (fun σ24 m24 s24 => ?_)
    exact r_ret hX dX4_make_25 rfl ⟨rfl, ⟨(m24.w rfl), (by exact ⟨_, h21_0, s24⟩)⟩⟩
theorem dX4_makeRound_0 : decode cX4_makeRound 0 = .ok (.iconst 0, 1) := by decide +kernel
theorem dX4_makeRound_1 : decode cX4_makeRound 1 = .ok (.istore_n 2, 1) := by decide +kernel
theorem dX4_makeRound_2 : decode cX4_makeRound 2 = .ok (.iload_n 2, 1) := by decide +kernel
theorem dX4_makeRound_3 : decode cX4_makeRound 3 = .ok (.aload_n 0, 1) := by decide +kernel
theorem dX4_makeRound_4 : decode cX4_makeRound 4 = .ok (.getfield 15, 3) := by decide +kernel
theorem dX4_makeRound_7 : decode cX4_makeRound 7 = .ok (.invokevirtual 23, 3) := by decide +kernel
theorem dX4_makeRound_10 : decode cX4_makeRound 10 = .ok (.if_icmp .ge 22, 3) := by decide +kernel
theorem dX4_makeRound_13 : decode cX4_makeRound 13 = .ok (.aload_n 0, 1) := by decide +kernel
theorem dX4_makeRound_14 : decode cX4_makeRound 14 = .ok (.aload_n 0, 1) := by decide +kernel
theorem dX4_makeRound_15 : decode cX4_makeRound 15 = .ok (.getfield 15, 3) := by decide +kernel
theorem dX4_makeRound_18 : decode cX4_makeRound 18 = .ok (.iload_n 2, 1) := by decide +kernel
theorem dX4_makeRound_19 : decode cX4_makeRound 19 = .ok (.invokevirtual 29, 3) := by decide +kernel
theorem dX4_makeRound_22 : decode cX4_makeRound 22 = .ok (.iload_n 1, 1) := by decide +kernel
theorem dX4_makeRound_23 : decode cX4_makeRound 23 = .ok (.invokevirtual 33, 3) := by decide +kernel
theorem dX4_makeRound_26 : decode cX4_makeRound 26 = .ok (.iinc 2 1, 3) := by decide +kernel
theorem dX4_makeRound_29 : decode cX4_makeRound 29 = .ok (.goto (-27), 3) := by decide +kernel
theorem dX4_makeRound_32 : decode cX4_makeRound 32 = .ok (.return_, 1) := by decide +kernel
set_option maxRecDepth 20000 in
set_option maxHeartbeats 4000000 in
theorem k_V1_makeRound (l : Launch) (w : WT) (σ : MM) (t : Int) (i_t : inr t) (hLO : LoopOK σ) (hso : σ 54 0 = σ 53 0) (hD : DatOK σ) (ht : 0 ≤ t ∧ t ≤ 60) : CT SX l w yX4_makeRound cX4_makeRound 3 none 5 112 [.ref (w.2.2 23), .int (iI t)] σ (PV fun σ1 => Mod [24] σ σ1 ∧ (EQs σ (σ 24) t → EQs σ (σ1 24) (t + 1))) := by
  refine CT.of 1 [some (.ref (w.2.2 23)), some (.int (iI t)), none] (by decide +kernel) (by simp [lg_sl, Value.category]) rfl sh_X (fun G hX => ?_)
  refine r_bd hX (fun hBd => ?_)
  have b_53 := hBd 53 0 8 rfl 0
  have hdi : ∀ s : Int, 0 ≤ σ 6 s ∧ σ 6 s ≤ 3 := fun s => hBd 6 0 3 rfl s
  refine r_iconst hX dX4_makeRound_0 ?_
  refine r_istore_n hX (fun x1 => [some (.ref (w.2.2 23)), some (.int (iI t)), some (.int (iI x1))]) dX4_makeRound_1 (Nat.le_of_ble_eq_true rfl) rfl rfl (fun _ => rfl) (fun x1 e1 => ?_)
  have lp2 : ∀ (n : Nat) (p : Int) (σ2 : MM) (m2 : Mod [24] σ σ2) (hp : 0 ≤ p ∧ p ≤ σ 53 0) (hM : MR σ (σ 24) t p (σ2 24)) (hmu : 9 - p < (n : Int)), G 2 [some (.ref (w.2.2 23)), some (.int (iI t)), some (.int (iI p))] [] σ2 := by
    intro n
    induction n with
    | zero => intro p σ2 m2 hp hM hmu; omega
    | succ n ih =>
      intro p σ2 m2 hp hM hmu
      have ih2 := ih
      clear ih
      refine r_iload_n hX dX4_makeRound_2 rfl ?_
      refine r_aload_n hX dX4_makeRound_3 rfl ?_
      refine fg_X23_15 hX dX4_makeRound_4 ?_
      refine r_callV hX dX4_makeRound_7 (k_Lp_count l w σ2) mf_X2_count mv_X2_count lk_RX4_23 rfl rfl rfl rfl rfl ⟨Nat.le_of_ble_eq_true rfl, Nat.le_of_ble_eq_true rfl⟩ (Nat.le_of_ble_eq_true rfl) (kI fun z7 σ7 hh => ?_)
      obtain ⟨rfl, h7_0, h7_1⟩ := hh
      have q7_1 : σ2 53 = σ 53 := (m2.at 53 rfl)
      try simp only [q7_1] at h7_0
      refine r_icmp_ge hX (tgt := 32) dX4_makeRound_10 (by decide) (by omega) (by omega) (fun c10 => ?_) (fun c10 => ?_)
      · skip
        exact r_ret hX dX4_makeRound_32 rfl ⟨rfl, ⟨(m2.w rfl), (by intro hE; exact hM.fin hLO hso hD b_53.2 hdi ht hE (by omega))⟩⟩
      · skip
        refine r_aload_n hX dX4_makeRound_13 rfl ?_
        refine r_aload_n hX dX4_makeRound_14 rfl ?_
        refine fg_X23_15 hX dX4_makeRound_15 ?_
        refine r_iload_n hX dX4_makeRound_18 rfl ?_
        refine r_callV hX dX4_makeRound_19 (k_Lp_actInOrder l w σ2 _ (by omega)) mf_X2_actInOrder mv_X2_actInOrder lk_RX4_29 rfl rfl rfl rfl rfl ⟨Nat.le_of_ble_eq_true rfl, Nat.le_of_ble_eq_true rfl⟩ (Nat.le_of_ble_eq_true rfl) (kI fun z19 σ19 hh => ?_)
        obtain ⟨rfl, h19_0, h19_1⟩ := hh
        have q19_2 : σ2 7 = σ 7 := (m2.at 7 rfl)
        have q19_3 : σ2 53 = σ 53 := (m2.at 53 rfl)
        have q19_4 : σ2 54 = σ 54 := (m2.at 54 rfl)
        try simp only [q19_2, q19_3, q19_4] at h19_0
        have ho := ar_ord hLO hso b_53.2 (i := p) (by omega) (by omega)
        obtain rfl : z19 = σ 7 p := by omega
        have hsr := srcOK_of hLO hso
        have hdp := hD (σ 7 p) ho.1 ho.2.1
        have hs1 := hsr (2 * σ 7 p) (by omega) (by omega)
        have hs2 := hsr (2 * σ 7 p + 1) (by omega) (by omega)
        refine r_iload_n hX dX4_makeRound_22 rfl ?_
        have qp23_53 : σ2 53 = σ 53 := (m2.at 53 rfl)
        have qp23_53 : σ2 53 = σ 53 := (m2.at 53 rfl)
        have qp23_2 : σ2 2 = σ 2 := (m2.at 2 rfl)
        have qp23_5 : σ2 5 = σ 5 := (m2.at 5 rfl)
        refine r_callV hX dX4_makeRound_23 (k_V1_make l w σ2 _ _ (by omega) (by omega) (by simp only [qp23_53]; omega) (by simp only [qp23_53]; omega) (by simp only [qp23_2, qp23_5]; intro q; omega) (by omega)) mf_X4_make mv_X4_make lk_RX4_33 rfl rfl rfl rfl rfl ⟨Nat.le_of_ble_eq_true rfl, Nat.le_of_ble_eq_true rfl⟩ (Nat.le_of_ble_eq_true rfl) (kV fun σ23 hh => ?_)
        obtain ⟨m23, h23_0⟩ := hh
        obtain ⟨v, hv, hw⟩ := h23_0
        rw [VALx_of m2 rfl] at hv
        refine r_iinc hX (fun x26 => [some (.ref (w.2.2 23)), some (.int (iI t)), some (.int (iI x26))]) dX4_makeRound_26 rfl rfl rfl (fun _ => rfl) (fun x26 e26 => ?_)
        refine r_goto hX dX4_makeRound_29 (tgt := 2) (by decide) ?_
        exact ih2 x26 σ23 (Mod.tr (L := [24]) m2 m23 rfl rfl) (by omega) (by rw [e26]; exact hM.next hLO hso hD b_53.2 hdi ht (by omega) hv hw) (by omega)
  exact lp2 ((9 - (x1)) + 1).toNat x1 σ Mod.rf (by omega) (by rw [e1]; exact MR.init) (by omega)
set_option maxRecDepth 20000 in
set_option maxHeartbeats 4000000 in
theorem k_V2_at (l : Launch) (w : WT) (σ : MM) (a : Int) (t : Int) (i_a : inr a) (i_t : inr t) : CT SX l w yX4_at cX4_at 3 (some .int) 1 21 [.ref (w.2.2 25), .int (iI a), .int (iI t)] σ (PI fun z σ1 => σ = σ1 ∧ ((0 ≤ a ∧ a < 8 ∧ 0 ≤ t ∧ t ≤ 60 ∧ z = σ 26 (a * 61 + t)) ∨ ((a < 0 ∨ 8 ≤ a ∨ t < 0 ∨ 60 < t) ∧ z = 0))) := by
  refine CT.of 0 [some (.ref (w.2.2 25)), some (.int (iI a)), some (.int (iI t))] (by decide +kernel) (by simp [lg_sl, Value.category]) rfl sh_X (fun G hX => ?_)
  refine r_iload_n hX dX4_at_0 rfl ?_
  refine r_iload_n hX dX4_at_1 rfl ?_
  refine r_callS hX dX4_at_2 (k_V_isPlace l w σ _ _ (by omega) (by omega)) mf_X4_isPlace ms_X4_isPlace lk_RX4_19 rfl rfl ⟨Nat.le_of_ble_eq_true rfl, Nat.le_of_ble_eq_true rfl⟩ (Nat.le_of_ble_eq_true rfl) (kI fun z2 σ2 hh => ?_)
  obtain ⟨rfl, h2_0⟩ := hh
  refine r_if_eq hX (tgt := 22) dX4_at_5 (by decide) (by omega) (fun c5 => ?_) (fun c5 => ?_)
  · skip
    refine r_iconst hX dX4_at_22 ?_
    exact r_iret hX dX4_at_23 rfl ⟨_, rfl, ⟨rfl, (by omega)⟩⟩
  · skip
    refine r_aload_n hX dX4_at_8 rfl ?_
    refine fg_X25_9 hX dX4_at_9 ?_
    refine r_iload_n hX dX4_at_12 rfl ?_
    refine r_bipush hX dX4_at_13 (by decide) ?_
    refine r_imul hX dX4_at_15 ?_
    refine r_iload_n hX dX4_at_16 rfl ?_
    refine r_iadd hX dX4_at_17 ?_
    refine ld_X26 hX dX4_at_18 (by omega) (by omega) ?_
    refine r_goto hX dX4_at_19 (tgt := 23) (by decide) ?_
    exact r_iret hX dX4_at_23 rfl ⟨_, rfl, ⟨rfl, (by omega)⟩⟩
set_option maxRecDepth 20000 in
set_option maxHeartbeats 4000000 in
theorem k_V2_operand (l : Launch) (w : WT) (σ : MM) (s : Int) (t : Int) (i_s : inr s) (i_t : inr t) (hs : 0 ≤ s ∧ s < 2 * σ 53 0) (hu : 0 ≤ σ 5 s ∧ σ 5 s < 8) (ht : 0 ≤ t ∧ t ≤ 60) : CT SX l w yX4_operand cX4_operand 4 (some .int) 2 43 [.ref (w.2.2 25), .int (iI s), .int (iI t)] σ (PI fun z σ1 => σ = σ1 ∧ (z = opV (σ 5) (σ 6) (σ 26) (σ 55 0) s t)) := by
  refine CT.of 1 [some (.ref (w.2.2 25)), some (.int (iI s)), some (.int (iI t)), none] (by decide +kernel) (by simp [lg_sl, Value.category]) rfl sh_X (fun G hX => ?_)
  refine r_iload_n hX dX4_operand_0 rfl ?_
  refine r_aload_n hX dX4_operand_1 rfl ?_
  refine fg_X25_15 hX dX4_operand_2 ?_
  refine r_iload_n hX dX4_operand_5 rfl ?_
  refine r_callV hX dX4_operand_6 (k_Lp_distanceOf l w σ _ (by omega)) mf_X2_distanceOf mv_X2_distanceOf lk_RX4_61 rfl rfl rfl rfl rfl ⟨Nat.le_of_ble_eq_true rfl, Nat.le_of_ble_eq_true rfl⟩ (Nat.le_of_ble_eq_true rfl) (kI fun z6 σ6 hh => ?_)
  obtain ⟨rfl, h6_0, h6_1⟩ := hh
  obtain rfl : z6 = σ 6 s := by omega
  refine r_isub hX dX4_operand_9 ?_
  refine r_istore_n hX (fun x10 => [some (.ref (w.2.2 25)), some (.int (iI s)), some (.int (iI t)), some (.int (iI x10))]) dX4_operand_10 (Nat.le_of_ble_eq_true rfl) rfl rfl (fun _ => rfl) (fun x10 e10 => ?_)
  refine r_iload_n hX dX4_operand_11 rfl ?_
  refine r_if_ge hX (tgt := 25) dX4_operand_12 (by decide) (by omega) (fun c12 => ?_) (fun c12 => ?_)
  · skip
    refine r_aload_n hX dX4_operand_25 rfl ?_
    refine r_aload_n hX dX4_operand_26 rfl ?_
    refine fg_X25_15 hX dX4_operand_27 ?_
    refine r_iload_n hX dX4_operand_30 rfl ?_
    refine r_callV hX dX4_operand_31 (k_Lp_sourceOf l w σ _ (by omega)) mf_X2_sourceOf mv_X2_sourceOf lk_RX4_67 rfl rfl rfl rfl rfl ⟨Nat.le_of_ble_eq_true rfl, Nat.le_of_ble_eq_true rfl⟩ (Nat.le_of_ble_eq_true rfl) (kI fun z31 σ31 hh => ?_)
    obtain ⟨rfl, h31_0, h31_1⟩ := hh
    obtain rfl : z31 = σ 5 s := by omega
    refine r_iload_n hX dX4_operand_34 rfl ?_
    refine r_callV hX dX4_operand_35 (k_V2_at l w σ _ _ (by omega) (by omega)) mf_X4_at mv_X4_at lk_RX4_70 rfl rfl rfl rfl rfl ⟨Nat.le_of_ble_eq_true rfl, Nat.le_of_ble_eq_true rfl⟩ (Nat.le_of_ble_eq_true rfl) (kI fun z35 σ35 hh => ?_)
    obtain ⟨rfl, h35_0⟩ := hh
    exact r_iret hX dX4_operand_38 rfl ⟨_, rfl, ⟨rfl, (by unfold opV; rw [e10] at *; first | (rw [if_pos (by omega)]; omega) | (rw [if_neg (by omega)]; omega))⟩⟩
  · skip
    refine r_aload_n hX dX4_operand_15 rfl ?_
    refine fg_X25_15 hX dX4_operand_16 ?_
    refine r_callV hX dX4_operand_19 (k_Lp_first l w σ) mf_X2_firstNumber mv_X2_firstNumber lk_RX4_64 rfl rfl rfl rfl rfl ⟨Nat.le_of_ble_eq_true rfl, Nat.le_of_ble_eq_true rfl⟩ (Nat.le_of_ble_eq_true rfl) (kI fun z19 σ19 hh => ?_)
    obtain ⟨rfl, h19_0⟩ := hh
    refine r_goto hX dX4_operand_22 (tgt := 38) (by decide) ?_
    exact r_iret hX dX4_operand_38 rfl ⟨_, rfl, ⟨rfl, (by unfold opV; rw [e10] at *; first | (rw [if_pos (by omega)]; omega) | (rw [if_neg (by omega)]; omega))⟩⟩
set_option maxRecDepth 20000 in
set_option maxHeartbeats 4000000 in
theorem k_V2_valueOf (l : Launch) (w : WT) (σ : MM) (a : Int) (t : Int) (i_a : inr a) (i_t : inr t) (ha : 0 ≤ a ∧ a < σ 53 0) (hd : σ 2 a ≠ 0 → 0 ≤ σ 5 (2 * a) ∧ σ 5 (2 * a) < 8 ∧ 0 ≤ σ 5 (2 * a + 1) ∧ σ 5 (2 * a + 1) < 8) (ht : 0 ≤ t ∧ t ≤ 60) : CT SX l w yX4_valueOf cX4_valueOf 5 (some .int) 3 66 [.ref (w.2.2 25), .int (iI a), .int (iI t)] σ (PI fun z σ1 => σ = σ1 ∧ (iI z = VALx σ (σ 26) a t)) := by
  refine CT.of 2 [some (.ref (w.2.2 25)), some (.int (iI a)), some (.int (iI t)), none, none] (by decide +kernel) (by simp [lg_sl, Value.category]) rfl sh_X (fun G hX => ?_)
  refine r_bd hX (fun hBd => ?_)
  have b_53 := hBd 53 0 8 rfl 0
  have b2 := hBd 2 0 5 rfl a
  refine r_aload_n hX dX4_valueOf_0 rfl ?_
  refine fg_X25_15 hX dX4_valueOf_1 ?_
  refine r_iload_n hX dX4_valueOf_4 rfl ?_
  refine r_callV hX dX4_valueOf_5 (k_Lp_kindOf l w σ _ (by omega)) mf_X2_kindOf mv_X2_kindOf lk_RX4_41 rfl rfl rfl rfl rfl ⟨Nat.le_of_ble_eq_true rfl, Nat.le_of_ble_eq_true rfl⟩ (Nat.le_of_ble_eq_true rfl) (kI fun z5 σ5 hh => ?_)
  obtain ⟨rfl, h5_0, h5_1⟩ := hh
  obtain rfl : z5 = σ 2 a := by omega
  refine r_if_ne hX (tgt := 31) dX4_valueOf_8 (by decide) (by omega) (fun c8 => ?_) (fun c8 => ?_)
  · skip
    have hd1 := hd (by omega)
    refine r_aload_n hX dX4_valueOf_31 rfl ?_
    refine r_iconst hX dX4_valueOf_32 ?_
    refine r_iload_n hX dX4_valueOf_33 rfl ?_
    refine r_imul hX dX4_valueOf_34 ?_
    refine r_iload_n hX dX4_valueOf_35 rfl ?_
    refine r_callV hX dX4_valueOf_36 (k_V2_operand l w σ _ _ (by omega) (by omega) (by omega) (by omega) (by omega)) mf_X4_operand mv_X4_operand lk_RX4_50 rfl rfl rfl rfl rfl ⟨Nat.le_of_ble_eq_true rfl, Nat.le_of_ble_eq_true rfl⟩ (Nat.le_of_ble_eq_true rfl) (kI fun z36 σ36 hh => ?_)
    obtain ⟨rfl, h36_0⟩ := hh
    refine r_istore_n hX (fun x39 => [some (.ref (w.2.2 25)), some (.int (iI a)), some (.int (iI t)), some (.int (iI x39)), none]) dX4_valueOf_39 (Nat.le_of_ble_eq_true rfl) rfl rfl (fun _ => rfl) (fun x39 e39 => ?_)
    refine r_aload_n hX dX4_valueOf_40 rfl ?_
    refine r_iconst hX dX4_valueOf_41 ?_
    refine r_iload_n hX dX4_valueOf_42 rfl ?_
    refine r_imul hX dX4_valueOf_43 ?_
    refine r_iconst hX dX4_valueOf_44 ?_
    refine r_iadd hX dX4_valueOf_45 ?_
    refine r_iload_n hX dX4_valueOf_46 rfl ?_
    refine r_callV hX dX4_valueOf_47 (k_V2_operand l w σ _ _ (by omega) (by omega) (by omega) (by omega) (by omega)) mf_X4_operand mv_X4_operand lk_RX4_50 rfl rfl rfl rfl rfl ⟨Nat.le_of_ble_eq_true rfl, Nat.le_of_ble_eq_true rfl⟩ (Nat.le_of_ble_eq_true rfl) (kI fun z47 σ47 hh => ?_)
    obtain ⟨rfl, h47_0⟩ := hh
    refine r_istore hX (fun x50 => [some (.ref (w.2.2 25)), some (.int (iI a)), some (.int (iI t)), some (.int (iI x39)), some (.int (iI x50))]) dX4_valueOf_50 (Nat.le_of_ble_eq_true rfl) rfl rfl (fun _ => rfl) (fun x50 e50 => ?_)
    refine r_aload_n hX dX4_valueOf_52 rfl ?_
    refine fg_X25_15 hX dX4_valueOf_53 ?_
    refine r_iload_n hX dX4_valueOf_56 rfl ?_
    refine r_callV hX dX4_valueOf_57 (k_Lp_kindOf l w σ _ (by omega)) mf_X2_kindOf mv_X2_kindOf lk_RX4_41 rfl rfl rfl rfl rfl ⟨Nat.le_of_ble_eq_true rfl, Nat.le_of_ble_eq_true rfl⟩ (Nat.le_of_ble_eq_true rfl) (kI fun z57 σ57 hh => ?_)
    obtain ⟨rfl, h57_0, h57_1⟩ := hh
    obtain rfl : z57 = σ 2 a := by omega
    refine r_nm hX (fun x60 e60 => ?_)
    rcases (by omega : x60 < 1 ∨ 4 < x60 ∨ x60 = 1 ∨ x60 = 2 ∨ x60 = 3 ∨ x60 = 4) with c60 | c60 | c60 | c60 | c60 | c60
    · skip
      refine r_tblOut hX dX4_valueOf_60 (by omega) (Or.inl c60) (tgt := 114) (by decide) ?_
      refine r_iload_n hX dX4_valueOf_114 rfl ?_
      refine r_iload hX dX4_valueOf_115 rfl ?_
      refine r_max hX dX4_valueOf_117 lq_RX4_58 ma_max_s ma_i ma_max_c (Nat.le_of_ble_eq_true rfl) (Nat.le_of_ble_eq_true rfl) (fun z117 h117 => ?_)
      exact r_iret hX dX4_valueOf_120 rfl ⟨_, rfl, ⟨rfl, (by unfold VALx VAL; rw [if_neg (by omega), if_neg (by omega), if_neg (by omega), if_neg (by omega), if_neg (by omega), ← h36_0, ← h47_0]; rw [e39, e50] at *; rcases h117 with ⟨q1, q2⟩ | ⟨q1, q2⟩ <;> simp [q1, q2])⟩⟩
    · skip
      refine r_tblOut hX dX4_valueOf_60 (by omega) (Or.inr c60) (tgt := 114) (by decide) ?_
      refine r_iload_n hX dX4_valueOf_114 rfl ?_
      refine r_iload hX dX4_valueOf_115 rfl ?_
      refine r_max hX dX4_valueOf_117 lq_RX4_58 ma_max_s ma_i ma_max_c (Nat.le_of_ble_eq_true rfl) (Nat.le_of_ble_eq_true rfl) (fun z117 h117 => ?_)
      exact r_iret hX dX4_valueOf_120 rfl ⟨_, rfl, ⟨rfl, (by unfold VALx VAL; rw [if_neg (by omega), if_neg (by omega), if_neg (by omega), if_neg (by omega), if_neg (by omega), ← h36_0, ← h47_0]; rw [e39, e50] at *; rcases h117 with ⟨q1, q2⟩ | ⟨q1, q2⟩ <;> simp [q1, q2])⟩⟩
    · skip
      refine r_tblIn hX 1 dX4_valueOf_60 c60 (by decide) rfl (tgt := 92) (by decide) ?_
      refine r_iload_n hX dX4_valueOf_92 rfl ?_
      refine r_iload hX dX4_valueOf_93 rfl ?_
      refine r_iadd hX dX4_valueOf_95 ?_
      exact r_iret hX dX4_valueOf_96 rfl ⟨_, rfl, ⟨rfl, (by unfold VALx VAL; rw [if_neg (by omega), if_pos (by omega), ← h36_0, ← h47_0, e39, e50])⟩⟩
    · skip
      refine r_tblIn hX 2 dX4_valueOf_60 c60 (by decide) rfl (tgt := 97) (by decide) ?_
      refine r_iload_n hX dX4_valueOf_97 rfl ?_
      refine r_iload hX dX4_valueOf_98 rfl ?_
      refine r_isub hX dX4_valueOf_100 ?_
      exact r_iret hX dX4_valueOf_101 rfl ⟨_, rfl, ⟨rfl, (by unfold VALx VAL; rw [if_neg (by omega), if_neg (by omega), if_pos (by omega), ← h36_0, ← h47_0, e39, e50])⟩⟩
    · skip
      refine r_tblIn hX 3 dX4_valueOf_60 c60 (by decide) rfl (tgt := 102) (by decide) ?_
      refine r_iload_n hX dX4_valueOf_102 rfl ?_
      refine r_iload hX dX4_valueOf_103 rfl ?_
      refine r_imul hX dX4_valueOf_105 ?_
      exact r_iret hX dX4_valueOf_106 rfl ⟨_, rfl, ⟨rfl, (by unfold VALx VAL; rw [if_neg (by omega), if_neg (by omega), if_neg (by omega), if_pos (by omega), ← h36_0, ← h47_0, e39, e50])⟩⟩
    · skip
      refine r_tblIn hX 4 dX4_valueOf_60 c60 (by decide) rfl (tgt := 107) (by decide) ?_
      refine r_iload_n hX dX4_valueOf_107 rfl ?_
      refine r_iload hX dX4_valueOf_108 rfl ?_
      refine r_min hX dX4_valueOf_110 lq_RX4_53 ma_min_s ma_i ma_min_c (Nat.le_of_ble_eq_true rfl) (Nat.le_of_ble_eq_true rfl) (fun z110 h110 => ?_)
      exact r_iret hX dX4_valueOf_113 rfl ⟨_, rfl, ⟨rfl, (by unfold VALx VAL; rw [if_neg (by omega), if_neg (by omega), if_neg (by omega), if_neg (by omega), if_pos (by omega), ← h36_0, ← h47_0]; rw [e39, e50] at *; rcases h110 with ⟨q1, q2⟩ | ⟨q1, q2⟩ <;> simp [q1, q2])⟩⟩
  · skip
    refine r_aload_n hX dX4_valueOf_11 rfl ?_
    refine fg_X25_15 hX dX4_valueOf_12 ?_
    refine r_iload_n hX dX4_valueOf_15 rfl ?_
    refine r_callV hX dX4_valueOf_16 (k_Lp_factorOf l w σ _ (by omega)) mf_X2_factorOf mv_X2_factorOf lk_RX4_44 rfl rfl rfl rfl rfl ⟨Nat.le_of_ble_eq_true rfl, Nat.le_of_ble_eq_true rfl⟩ (Nat.le_of_ble_eq_true rfl) (kI fun z16 σ16 hh => ?_)
    obtain ⟨rfl, h16_0⟩ := hh
    obtain rfl : z16 = σ 3 a := by omega
    refine r_iload_n hX dX4_valueOf_19 rfl ?_
    refine r_imul hX dX4_valueOf_20 ?_
    refine r_aload_n hX dX4_valueOf_21 rfl ?_
    refine fg_X25_15 hX dX4_valueOf_22 ?_
    refine r_iload_n hX dX4_valueOf_25 rfl ?_
    refine r_callV hX dX4_valueOf_26 (k_Lp_addendOf l w σ _ (by omega)) mf_X2_addendOf mv_X2_addendOf lk_RX4_47 rfl rfl rfl rfl rfl ⟨Nat.le_of_ble_eq_true rfl, Nat.le_of_ble_eq_true rfl⟩ (Nat.le_of_ble_eq_true rfl) (kI fun z26 σ26 hh => ?_)
    obtain ⟨rfl, h26_0⟩ := hh
    obtain rfl : z26 = σ 4 a := by omega
    refine r_iadd hX dX4_valueOf_29 ?_
    exact r_iret hX dX4_valueOf_30 rfl ⟨_, rfl, ⟨rfl, (by unfold VALx VAL; rw [if_pos (by omega)])⟩⟩
set_option maxRecDepth 20000 in
set_option maxHeartbeats 4000000 in
theorem k_V2_make (l : Launch) (w : WT) (σ : MM) (a : Int) (t : Int) (i_a : inr a) (i_t : inr t) (ha : 0 ≤ a ∧ a < σ 53 0) (hc : σ 53 0 ≤ 8) (hd : σ 2 a ≠ 0 → 0 ≤ σ 5 (2 * a) ∧ σ 5 (2 * a) < 8 ∧ 0 ≤ σ 5 (2 * a + 1) ∧ σ 5 (2 * a + 1) < 8) (ht : 0 ≤ t ∧ t ≤ 60) : CT SX l w yX4_make cX4_make 3 none 4 90 [.ref (w.2.2 25), .int (iI a), .int (iI t)] σ (PV fun σ1 => Mod [26] σ σ1 ∧ (∃ v : Int, iI v = VALx σ (σ 26) a t ∧ ∀ b : Int, σ1 26 b = if b = a * 61 + t then v else σ 26 b)) := by
  refine CT.of 0 [some (.ref (w.2.2 25)), some (.int (iI a)), some (.int (iI t))] (by decide +kernel) (by simp [lg_sl, Value.category]) rfl sh_X (fun G hX => ?_)
  refine r_iload_n hX dX4_make_0 rfl ?_
  refine r_iload_n hX dX4_make_1 rfl ?_
  refine r_callS hX dX4_make_2 (k_V_isPlace l w σ _ _ (by omega) (by omega)) mf_X4_isPlace ms_X4_isPlace lk_RX4_19 rfl rfl ⟨Nat.le_of_ble_eq_true rfl, Nat.le_of_ble_eq_true rfl⟩ (Nat.le_of_ble_eq_true rfl) (kI fun z2 σ2 hh => ?_)
  obtain ⟨rfl, h2_0⟩ := hh
  refine r_if_eq hX (tgt := 25) dX4_make_5 (by decide) (by omega) (fun c5 => ?_) (fun c5 => ?_)
  · exfalso; omega
  · skip
    refine r_aload_n hX dX4_make_8 rfl ?_
    refine fg_X25_9 hX dX4_make_9 ?_
    refine r_iload_n hX dX4_make_12 rfl ?_
    refine r_bipush hX dX4_make_13 (by decide) ?_
    refine r_imul hX dX4_make_15 ?_
    refine r_iload_n hX dX4_make_16 rfl ?_
    refine r_iadd hX dX4_make_17 ?_
    refine r_aload_n hX dX4_make_18 rfl ?_
    refine r_iload_n hX dX4_make_19 rfl ?_
    refine r_iload_n hX dX4_make_20 rfl ?_
    refine r_callV hX dX4_make_21 (k_V2_valueOf l w σ _ _ (by omega) (by omega) (by omega) (hd) (by omega)) mf_X4_valueOf mv_X4_valueOf lk_RX4_37 rfl rfl rfl rfl rfl ⟨Nat.le_of_ble_eq_true rfl, Nat.le_of_ble_eq_true rfl⟩ (Nat.le_of_ble_eq_true rfl) (kI fun z21 σ21 hh => ?_)
    obtain ⟨rfl, h21_0⟩ := hh
    refine st_X26 hX dX4_make_24 (by omega) (by omega) (fun σ24 m24 s24 => ?_)
    exact r_ret hX dX4_make_25 rfl ⟨rfl, ⟨(m24.w rfl), (by exact ⟨_, h21_0, s24⟩)⟩⟩
set_option maxRecDepth 20000 in
set_option maxHeartbeats 4000000 in
theorem k_V2_makeRound (l : Launch) (w : WT) (σ : MM) (t : Int) (i_t : inr t) (hLO : LoopOK σ) (hso : σ 54 0 = σ 53 0) (hD : DatOK σ) (ht : 0 ≤ t ∧ t ≤ 60) : CT SX l w yX4_makeRound cX4_makeRound 3 none 5 112 [.ref (w.2.2 25), .int (iI t)] σ (PV fun σ1 => Mod [26] σ σ1 ∧ (EQs σ (σ 26) t → EQs σ (σ1 26) (t + 1))) := by
  refine CT.of 1 [some (.ref (w.2.2 25)), some (.int (iI t)), none] (by decide +kernel) (by simp [lg_sl, Value.category]) rfl sh_X (fun G hX => ?_)
  refine r_bd hX (fun hBd => ?_)
  have b_53 := hBd 53 0 8 rfl 0
  have hdi : ∀ s : Int, 0 ≤ σ 6 s ∧ σ 6 s ≤ 3 := fun s => hBd 6 0 3 rfl s
  refine r_iconst hX dX4_makeRound_0 ?_
  refine r_istore_n hX (fun x1 => [some (.ref (w.2.2 25)), some (.int (iI t)), some (.int (iI x1))]) dX4_makeRound_1 (Nat.le_of_ble_eq_true rfl) rfl rfl (fun _ => rfl) (fun x1 e1 => ?_)
  have lp2 : ∀ (n : Nat) (p : Int) (σ2 : MM) (m2 : Mod [26] σ σ2) (hp : 0 ≤ p ∧ p ≤ σ 53 0) (hM : MR σ (σ 26) t p (σ2 26)) (hmu : 9 - p < (n : Int)), G 2 [some (.ref (w.2.2 25)), some (.int (iI t)), some (.int (iI p))] [] σ2 := by
    intro n
    induction n with
    | zero => intro p σ2 m2 hp hM hmu; omega
    | succ n ih =>
      intro p σ2 m2 hp hM hmu
      have ih2 := ih
      clear ih
      refine r_iload_n hX dX4_makeRound_2 rfl ?_
      refine r_aload_n hX dX4_makeRound_3 rfl ?_
      refine fg_X25_15 hX dX4_makeRound_4 ?_
      refine r_callV hX dX4_makeRound_7 (k_Lp_count l w σ2) mf_X2_count mv_X2_count lk_RX4_23 rfl rfl rfl rfl rfl ⟨Nat.le_of_ble_eq_true rfl, Nat.le_of_ble_eq_true rfl⟩ (Nat.le_of_ble_eq_true rfl) (kI fun z7 σ7 hh => ?_)
      obtain ⟨rfl, h7_0, h7_1⟩ := hh
      have q7_1 : σ2 53 = σ 53 := (m2.at 53 rfl)
      try simp only [q7_1] at h7_0
      refine r_icmp_ge hX (tgt := 32) dX4_makeRound_10 (by decide) (by omega) (by omega) (fun c10 => ?_) (fun c10 => ?_)
      · skip
        exact r_ret hX dX4_makeRound_32 rfl ⟨rfl, ⟨(m2.w rfl), (by intro hE; exact hM.fin hLO hso hD b_53.2 hdi ht hE (by omega))⟩⟩
      · skip
        refine r_aload_n hX dX4_makeRound_13 rfl ?_
        refine r_aload_n hX dX4_makeRound_14 rfl ?_
        refine fg_X25_15 hX dX4_makeRound_15 ?_
        refine r_iload_n hX dX4_makeRound_18 rfl ?_
        refine r_callV hX dX4_makeRound_19 (k_Lp_actInOrder l w σ2 _ (by omega)) mf_X2_actInOrder mv_X2_actInOrder lk_RX4_29 rfl rfl rfl rfl rfl ⟨Nat.le_of_ble_eq_true rfl, Nat.le_of_ble_eq_true rfl⟩ (Nat.le_of_ble_eq_true rfl) (kI fun z19 σ19 hh => ?_)
        obtain ⟨rfl, h19_0, h19_1⟩ := hh
        have q19_2 : σ2 7 = σ 7 := (m2.at 7 rfl)
        have q19_3 : σ2 53 = σ 53 := (m2.at 53 rfl)
        have q19_4 : σ2 54 = σ 54 := (m2.at 54 rfl)
        try simp only [q19_2, q19_3, q19_4] at h19_0
        have ho := ar_ord hLO hso b_53.2 (i := p) (by omega) (by omega)
        obtain rfl : z19 = σ 7 p := by omega
        have hsr := srcOK_of hLO hso
        have hdp := hD (σ 7 p) ho.1 ho.2.1
        have hs1 := hsr (2 * σ 7 p) (by omega) (by omega)
        have hs2 := hsr (2 * σ 7 p + 1) (by omega) (by omega)
        refine r_iload_n hX dX4_makeRound_22 rfl ?_
        have qp23_53 : σ2 53 = σ 53 := (m2.at 53 rfl)
        have qp23_53 : σ2 53 = σ 53 := (m2.at 53 rfl)
        have qp23_2 : σ2 2 = σ 2 := (m2.at 2 rfl)
        have qp23_5 : σ2 5 = σ 5 := (m2.at 5 rfl)
        refine r_callV hX dX4_makeRound_23 (k_V2_make l w σ2 _ _ (by omega) (by omega) (by simp only [qp23_53]; omega) (by simp only [qp23_53]; omega) (by simp only [qp23_2, qp23_5]; intro q; omega) (by omega)) mf_X4_make mv_X4_make lk_RX4_33 rfl rfl rfl rfl rfl ⟨Nat.le_of_ble_eq_true rfl, Nat.le_of_ble_eq_true rfl⟩ (Nat.le_of_ble_eq_true rfl) (kV fun σ23 hh => ?_)
        obtain ⟨m23, h23_0⟩ := hh
        obtain ⟨v, hv, hw⟩ := h23_0
        rw [VALx_of m2 rfl] at hv
        refine r_iinc hX (fun x26 => [some (.ref (w.2.2 25)), some (.int (iI t)), some (.int (iI x26))]) dX4_makeRound_26 rfl rfl rfl (fun _ => rfl) (fun x26 e26 => ?_)
        refine r_goto hX dX4_makeRound_29 (tgt := 2) (by decide) ?_
        exact ih2 x26 σ23 (Mod.tr (L := [26]) m2 m23 rfl rfl) (by omega) (by rw [e26]; exact hM.next hLO hso hD b_53.2 hdi ht (by omega) hv hw) (by omega)
  exact lp2 ((9 - (x1)) + 1).toNat x1 σ Mod.rf (by omega) (by rw [e1]; exact MR.init) (by omega)
end
section
theorem dJ9_floorDiv_7cf53_0 : decode cJ9_floorDiv_7cf53 0 = .ok (.iload_n 0, 1) := by decide +kernel
theorem dJ9_floorDiv_7cf53_1 : decode cJ9_floorDiv_7cf53 1 = .ok (.iload_n 1, 1) := by decide +kernel
theorem dJ9_floorDiv_7cf53_2 : decode cJ9_floorDiv_7cf53 2 = .ok (.idiv, 1) := by decide +kernel
theorem dJ9_floorDiv_7cf53_3 : decode cJ9_floorDiv_7cf53 3 = .ok (.istore_n 2, 1) := by decide +kernel
theorem dJ9_floorDiv_7cf53_4 : decode cJ9_floorDiv_7cf53 4 = .ok (.iload_n 0, 1) := by decide +kernel
theorem dJ9_floorDiv_7cf53_5 : decode cJ9_floorDiv_7cf53 5 = .ok (.iload_n 1, 1) := by decide +kernel
theorem dJ9_floorDiv_7cf53_6 : decode cJ9_floorDiv_7cf53 6 = .ok (.ixor, 1) := by decide +kernel
theorem dJ9_floorDiv_7cf53_7 : decode cJ9_floorDiv_7cf53 7 = .ok (.ifCond .ge 14, 3) := by decide +kernel
theorem dJ9_floorDiv_7cf53_10 : decode cJ9_floorDiv_7cf53 10 = .ok (.iload_n 2, 1) := by decide +kernel
theorem dJ9_floorDiv_7cf53_11 : decode cJ9_floorDiv_7cf53 11 = .ok (.iload_n 1, 1) := by decide +kernel
theorem dJ9_floorDiv_7cf53_12 : decode cJ9_floorDiv_7cf53 12 = .ok (.imul, 1) := by decide +kernel
theorem dJ9_floorDiv_7cf53_13 : decode cJ9_floorDiv_7cf53 13 = .ok (.iload_n 0, 1) := by decide +kernel
theorem dJ9_floorDiv_7cf53_14 : decode cJ9_floorDiv_7cf53 14 = .ok (.if_icmp .eq 7, 3) := by decide +kernel
theorem dJ9_floorDiv_7cf53_17 : decode cJ9_floorDiv_7cf53 17 = .ok (.iload_n 2, 1) := by decide +kernel
theorem dJ9_floorDiv_7cf53_18 : decode cJ9_floorDiv_7cf53 18 = .ok (.iconst 1, 1) := by decide +kernel
theorem dJ9_floorDiv_7cf53_19 : decode cJ9_floorDiv_7cf53 19 = .ok (.isub, 1) := by decide +kernel
theorem dJ9_floorDiv_7cf53_20 : decode cJ9_floorDiv_7cf53 20 = .ok (.ireturn, 1) := by decide +kernel
theorem dJ9_floorDiv_7cf53_21 : decode cJ9_floorDiv_7cf53 21 = .ok (.iload_n 2, 1) := by decide +kernel
theorem dJ9_floorDiv_7cf53_22 : decode cJ9_floorDiv_7cf53 22 = .ok (.ireturn, 1) := by decide +kernel
set_option maxRecDepth 20000 in
set_option maxHeartbeats 4000000 in
theorem k_floorDiv (l : Launch) (w : WT) (σ : MM) (x : Int) (y : Int) (i_x : inr x) (i_y : inr y) (hx : -1000000 ≤ x ∧ x ≤ 1000000) (hy : 1 ≤ y ∧ y ≤ 1000000) : CT SX l w yJ9_floorDiv_7cf53 cJ9_floorDiv_7cf53 3 (some .int) 0 0 [.int (iI x), .int (iI y)] σ (PI fun z σ1 => σ = σ1 ∧ (z = x / y)) := by
  refine CT.of 1 [some (.int (iI x)), some (.int (iI y)), none] (by decide +kernel) (by simp [lg_sl, Value.category]) rfl sh_X (fun G hX => ?_)
  refine r_iload_n hX dJ9_floorDiv_7cf53_0 rfl ?_
  refine r_iload_n hX dJ9_floorDiv_7cf53_1 rfl ?_
  refine r_idivT hX dJ9_floorDiv_7cf53_2 (by omega) (by omega) (by omega) ?_
  refine r_istore_n hX (fun x3 => [some (.int (iI x)), some (.int (iI y)), some (.int (iI x3))]) dJ9_floorDiv_7cf53_3 (Nat.le_of_ble_eq_true rfl) rfl rfl (fun _ => rfl) (fun x3 e3 => ?_)
  have hq : 0 ≤ x → x3 = x / y := fun h => by rw [e3]; exact Int.tdiv_eq_ediv_of_nonneg h
  have hq2 := fun h : x < 0 => fd_of h (show 0 < y by omega)
  rw [← e3] at hq2
  refine r_iload_n hX dJ9_floorDiv_7cf53_4 rfl ?_
  refine r_iload_n hX dJ9_floorDiv_7cf53_5 rfl ?_
  refine r_ixor hX dJ9_floorDiv_7cf53_6 (by omega) (by omega) (by omega) (fun z6 i6 h6 => ?_)
  refine r_if_ge hX (tgt := 21) dJ9_floorDiv_7cf53_7 (by decide) (by omega) (fun c7 => ?_) (fun c7 => ?_)
  · skip
    refine r_iload_n hX dJ9_floorDiv_7cf53_21 rfl ?_
    exact r_iret hX dJ9_floorDiv_7cf53_22 rfl ⟨_, rfl, ⟨rfl, (by first | (have h0 := hq (by omega); omega) | (have h9 := (hq2 (by omega)).1 (by omega); omega))⟩⟩
  · skip
    refine r_iload_n hX dJ9_floorDiv_7cf53_10 rfl ?_
    refine r_iload_n hX dJ9_floorDiv_7cf53_11 rfl ?_
    refine r_imul hX dJ9_floorDiv_7cf53_12 ?_
    have hq3 := hq2 (by omega)
    refine r_iload_n hX dJ9_floorDiv_7cf53_13 rfl ?_
    refine r_icmp_eq hX (tgt := 21) dJ9_floorDiv_7cf53_14 (by decide) (by omega) (by omega) (fun c14 => ?_) (fun c14 => ?_)
    · skip
      refine r_iload_n hX dJ9_floorDiv_7cf53_21 rfl ?_
      exact r_iret hX dJ9_floorDiv_7cf53_22 rfl ⟨_, rfl, ⟨rfl, (by first | (have h0 := hq (by omega); omega) | (have h9 := (hq2 (by omega)).1 (by omega); omega))⟩⟩
    · skip
      refine r_iload_n hX dJ9_floorDiv_7cf53_17 rfl ?_
      refine r_iconst hX dJ9_floorDiv_7cf53_18 ?_
      refine r_isub hX dJ9_floorDiv_7cf53_19 ?_
      exact r_iret hX dJ9_floorDiv_7cf53_20 rfl ⟨_, rfl, ⟨rfl, (by have h9 := hq3.2.1 (by omega); omega)⟩⟩
theorem dX5_cutUp_0 : decode cX5_cutUp 0 = .ok (.iload_n 1, 1) := by decide +kernel
theorem dX5_cutUp_1 : decode cX5_cutUp 1 = .ok (.ifCond .le 13, 3) := by decide +kernel
theorem dX5_cutUp_4 : decode cX5_cutUp 4 = .ok (.iload_n 0, 1) := by decide +kernel
theorem dX5_cutUp_5 : decode cX5_cutUp 5 = .ok (.ineg, 1) := by decide +kernel
theorem dX5_cutUp_6 : decode cX5_cutUp 6 = .ok (.iload_n 1, 1) := by decide +kernel
theorem dX5_cutUp_7 : decode cX5_cutUp 7 = .ok (.invokestatic 226, 3) := by decide +kernel
theorem dX5_cutUp_10 : decode cX5_cutUp 10 = .ok (.ineg, 1) := by decide +kernel
theorem dX5_cutUp_11 : decode cX5_cutUp 11 = .ok (.goto 5, 3) := by decide +kernel
theorem dX5_cutUp_14 : decode cX5_cutUp 14 = .ok (.bipush (-6), 2) := by decide +kernel
theorem dX5_cutUp_16 : decode cX5_cutUp 16 = .ok (.ireturn, 1) := by decide +kernel
set_option maxRecDepth 20000 in
set_option maxHeartbeats 4000000 in
theorem k_cutUp (l : Launch) (w : WT) (σ : MM) (x : Int) (n : Int) (i_x : inr x) (i_n : inr n) (hx : -1000000 ≤ x ∧ x ≤ 1000000) (hn : 1 ≤ n ∧ n ≤ 1000000) : CT SX l w yX5_cutUp cX5_cutUp 2 (some .int) 1 22 [.int (iI x), .int (iI n)] σ (PI fun z σ1 => σ = σ1 ∧ (z = cdiv x n)) := by
  refine CT.of 0 [some (.int (iI x)), some (.int (iI n))] (by decide +kernel) (by simp [lg_sl, Value.category]) rfl sh_X (fun G hX => ?_)
  refine r_iload_n hX dX5_cutUp_0 rfl ?_
  refine r_if_le hX (tgt := 14) dX5_cutUp_1 (by decide) (by omega) (fun c1 => ?_) (fun c1 => ?_)
  · exfalso; omega
  · skip
    refine r_iload_n hX dX5_cutUp_4 rfl ?_
    refine r_ineg hX dX5_cutUp_5 ?_
    refine r_iload_n hX dX5_cutUp_6 rfl ?_
    refine r_callS hX dX5_cutUp_7 (k_floorDiv l w σ _ _ (by omega) (by omega) (by omega) (by omega)) mf_J9_floorDiv_7cf53 ms_J9_floorDiv_7cf53 lk_RX5_226 rfl rfl ⟨Nat.le_of_ble_eq_true rfl, Nat.le_of_ble_eq_true rfl⟩ (Nat.le_of_ble_eq_true rfl) (kI fun z7 σ7 hh => ?_)
    obtain ⟨rfl, h7_0⟩ := hh
    obtain rfl : z7 = -x / n := h7_0
    have hb0 := cdiv_bd (x := x) (n := n) (B := 1000000) (by omega) hx (by omega)
    unfold cdiv at hb0
    refine r_ineg hX dX5_cutUp_10 ?_
    have hb := cdiv_bd (x := x) (n := n) (B := 1000000) (by omega) hx (by omega)
    refine r_goto hX dX5_cutUp_11 (tgt := 16) (by decide) ?_
    exact r_iret hX dX5_cutUp_16 rfl ⟨_, rfl, ⟨rfl, (by rfl)⟩⟩
theorem dX3_triesMade_0 : decode cX3_triesMade 0 = .ok (.aload_n 0, 1) := by decide +kernel
theorem dX3_triesMade_1 : decode cX3_triesMade 1 = .ok (.getfield 35, 3) := by decide +kernel
theorem dX3_triesMade_4 : decode cX3_triesMade 4 = .ok (.ireturn, 1) := by decide +kernel
set_option maxRecDepth 20000 in
set_option maxHeartbeats 4000000 in
theorem k_Sr_triesMade (l : Launch) (w : WT) (σ : MM) : CT SX l w yX3_triesMade cX3_triesMade 1 (some .int) 0 0 [.ref (w.2.2 17)] σ (PI fun z σ1 => σ = σ1 ∧ (z = σ 60 0) ∧ (0 ≤ z ∧ z ≤ 20000)) := by
  refine CT.of 0 [some (.ref (w.2.2 17))] (by decide +kernel) (by simp [lg_sl, Value.category]) rfl sh_X (fun G hX => ?_)
  refine r_aload_n hX dX3_triesMade_0 rfl ?_
  refine fg_X17_35 hX dX3_triesMade_1 (fun b1l b1u => ?_)
  exact r_iret hX dX3_triesMade_4 rfl ⟨_, rfl, ⟨rfl, (by omega), (by omega)⟩⟩
theorem dX3_cellOf_0 : decode cX3_cellOf 0 = .ok (.aload_n 0, 1) := by decide +kernel
theorem dX3_cellOf_1 : decode cX3_cellOf 1 = .ok (.getfield 27, 3) := by decide +kernel
theorem dX3_cellOf_4 : decode cX3_cellOf 4 = .ok (.iload_n 1, 1) := by decide +kernel
theorem dX3_cellOf_5 : decode cX3_cellOf 5 = .ok (.invokevirtual 39, 3) := by decide +kernel
theorem dX3_cellOf_8 : decode cX3_cellOf 8 = .ok (.ifCond .eq 12, 3) := by decide +kernel
theorem dX3_cellOf_11 : decode cX3_cellOf 11 = .ok (.aload_n 0, 1) := by decide +kernel
theorem dX3_cellOf_12 : decode cX3_cellOf 12 = .ok (.getfield 9, 3) := by decide +kernel
theorem dX3_cellOf_15 : decode cX3_cellOf 15 = .ok (.iload_n 1, 1) := by decide +kernel
theorem dX3_cellOf_16 : decode cX3_cellOf 16 = .ok (.iaload, 1) := by decide +kernel
theorem dX3_cellOf_17 : decode cX3_cellOf 17 = .ok (.goto 5, 3) := by decide +kernel
theorem dX3_cellOf_20 : decode cX3_cellOf 20 = .ok (.bipush (-6), 2) := by decide +kernel
theorem dX3_cellOf_22 : decode cX3_cellOf 22 = .ok (.ireturn, 1) := by decide +kernel
set_option maxRecDepth 20000 in
set_option maxHeartbeats 4000000 in
theorem k_Sr_cellOf (l : Launch) (w : WT) (σ : MM) (a : Int) (i_a : inr a) : CT SX l w yX3_cellOf cX3_cellOf 2 (some .int) 1 21 [.ref (w.2.2 17), .int (iI a)] σ (PI fun z σ1 => σ = σ1 ∧ ((0 ≤ a ∧ a < σ 53 0 ∧ 0 ≤ z ∧ z = σ 18 a) ∨ ((a < 0 ∨ σ 53 0 ≤ a) ∧ z = -6)) ∧ (-6 ≤ z ∧ z ≤ 8)) := by
  refine CT.of 0 [some (.ref (w.2.2 17)), some (.int (iI a))] (by decide +kernel) (by simp [lg_sl, Value.category]) rfl sh_X (fun G hX => ?_)
  refine r_aload_n hX dX3_cellOf_0 rfl ?_
  refine fg_X17_27 hX dX3_cellOf_1 ?_
  refine r_iload_n hX dX3_cellOf_4 rfl ?_
  refine r_callV hX dX3_cellOf_5 (k_Lp_isThere l w σ _ (by omega)) mf_X2_isThere mv_X2_isThere lk_RX3_39 rfl rfl rfl rfl rfl ⟨Nat.le_of_ble_eq_true rfl, Nat.le_of_ble_eq_true rfl⟩ (Nat.le_of_ble_eq_true rfl) (kI fun z5 σ5 hh => ?_)
  obtain ⟨rfl, h5_0⟩ := hh
  refine r_if_eq hX (tgt := 20) dX3_cellOf_8 (by decide) (by omega) (fun c8 => ?_) (fun c8 => ?_)
  · skip
    refine r_bipush hX dX3_cellOf_20 (by decide) ?_
    exact r_iret hX dX3_cellOf_22 rfl ⟨_, rfl, ⟨rfl, (by omega), (by omega)⟩⟩
  · skip
    refine r_aload_n hX dX3_cellOf_11 rfl ?_
    refine fg_X17_9 hX dX3_cellOf_12 ?_
    refine r_iload_n hX dX3_cellOf_15 rfl ?_
    refine ld_X18 hX dX3_cellOf_16 (by omega) (by omega) (fun b16l b16u => ?_)
    refine r_goto hX dX3_cellOf_17 (tgt := 22) (by decide) ?_
    exact r_iret hX dX3_cellOf_22 rfl ⟨_, rfl, ⟨rfl, (by omega), (by omega)⟩⟩
theorem dX3_startOf_0 : decode cX3_startOf 0 = .ok (.aload_n 0, 1) := by decide +kernel
theorem dX3_startOf_1 : decode cX3_startOf 1 = .ok (.getfield 27, 3) := by decide +kernel
theorem dX3_startOf_4 : decode cX3_startOf 4 = .ok (.iload_n 1, 1) := by decide +kernel
theorem dX3_startOf_5 : decode cX3_startOf 5 = .ok (.invokevirtual 39, 3) := by decide +kernel
theorem dX3_startOf_8 : decode cX3_startOf 8 = .ok (.ifCond .ne 6, 3) := by decide +kernel
theorem dX3_startOf_11 : decode cX3_startOf 11 = .ok (.bipush (-6), 2) := by decide +kernel
theorem dX3_startOf_13 : decode cX3_startOf 13 = .ok (.ireturn, 1) := by decide +kernel
theorem dX3_startOf_14 : decode cX3_startOf 14 = .ok (.aload_n 0, 1) := by decide +kernel
theorem dX3_startOf_15 : decode cX3_startOf 15 = .ok (.getfield 15, 3) := by decide +kernel
theorem dX3_startOf_18 : decode cX3_startOf 18 = .ok (.iload_n 1, 1) := by decide +kernel
theorem dX3_startOf_19 : decode cX3_startOf 19 = .ok (.iaload, 1) := by decide +kernel
theorem dX3_startOf_20 : decode cX3_startOf 20 = .ok (.aload_n 0, 1) := by decide +kernel
theorem dX3_startOf_21 : decode cX3_startOf 21 = .ok (.getfield 45, 3) := by decide +kernel
theorem dX3_startOf_24 : decode cX3_startOf 24 = .ok (.aload_n 0, 1) := by decide +kernel
theorem dX3_startOf_25 : decode cX3_startOf 25 = .ok (.getfield 24, 3) := by decide +kernel
theorem dX3_startOf_28 : decode cX3_startOf 28 = .ok (.aload_n 0, 1) := by decide +kernel
theorem dX3_startOf_29 : decode cX3_startOf 29 = .ok (.getfield 27, 3) := by decide +kernel
theorem dX3_startOf_32 : decode cX3_startOf 32 = .ok (.invokevirtual 48, 3) := by decide +kernel
theorem dX3_startOf_35 : decode cX3_startOf 35 = .ok (.iconst 1, 1) := by decide +kernel
theorem dX3_startOf_36 : decode cX3_startOf 36 = .ok (.isub, 1) := by decide +kernel
theorem dX3_startOf_37 : decode cX3_startOf 37 = .ok (.bipush 8, 2) := by decide +kernel
theorem dX3_startOf_39 : decode cX3_startOf 39 = .ok (.imul, 1) := by decide +kernel
theorem dX3_startOf_40 : decode cX3_startOf 40 = .ok (.iload_n 1, 1) := by decide +kernel
theorem dX3_startOf_41 : decode cX3_startOf 41 = .ok (.iadd, 1) := by decide +kernel
theorem dX3_startOf_42 : decode cX3_startOf 42 = .ok (.iaload, 1) := by decide +kernel
theorem dX3_startOf_43 : decode cX3_startOf 43 = .ok (.imul, 1) := by decide +kernel
theorem dX3_startOf_44 : decode cX3_startOf 44 = .ok (.iadd, 1) := by decide +kernel
theorem dX3_startOf_45 : decode cX3_startOf 45 = .ok (.ireturn, 1) := by decide +kernel
set_option maxRecDepth 20000 in
set_option maxHeartbeats 4000000 in
theorem k_Sr_startOf (l : Launch) (w : WT) (σ : MM) (a : Int) (i_a : inr a) (ha : 0 ≤ a ∧ a < σ 53 0) : CT SX l w yX3_startOf cX3_startOf 2 (some .int) 1 21 [.ref (w.2.2 17), .int (iI a)] σ (PI fun z σ1 => σ = σ1 ∧ (z = σ 19 a + σ 59 0 * σ 22 ((σ 53 0 - 1) * 8 + a)) ∧ (0 ≤ z ∧ z ≤ 20000000)) := by
  refine CT.of 0 [some (.ref (w.2.2 17)), some (.int (iI a))] (by decide +kernel) (by simp [lg_sl, Value.category]) rfl sh_X (fun G hX => ?_)
  refine r_bd hX (fun hBd => ?_)
  have b_53 := hBd 53 0 8 rfl 0
  refine r_aload_n hX dX3_startOf_0 rfl ?_
  refine fg_X17_27 hX dX3_startOf_1 ?_
  refine r_iload_n hX dX3_startOf_4 rfl ?_
  refine r_callV hX dX3_startOf_5 (k_Lp_isThere l w σ _ (by omega)) mf_X2_isThere mv_X2_isThere lk_RX3_39 rfl rfl rfl rfl rfl ⟨Nat.le_of_ble_eq_true rfl, Nat.le_of_ble_eq_true rfl⟩ (Nat.le_of_ble_eq_true rfl) (kI fun z5 σ5 hh => ?_)
  obtain ⟨rfl, h5_0⟩ := hh
  refine r_if_ne hX (tgt := 14) dX3_startOf_8 (by decide) (by omega) (fun c8 => ?_) (fun c8 => ?_)
  · skip
    refine r_aload_n hX dX3_startOf_14 rfl ?_
    refine fg_X17_15 hX dX3_startOf_15 ?_
    refine r_iload_n hX dX3_startOf_18 rfl ?_
    refine ld_X19 hX dX3_startOf_19 (by omega) (by omega) (fun b19l b19u => ?_)
    refine r_aload_n hX dX3_startOf_20 rfl ?_
    refine fg_X17_45 hX dX3_startOf_21 (fun b21l b21u => ?_)
    refine r_aload_n hX dX3_startOf_24 rfl ?_
    refine fg_X17_24 hX dX3_startOf_25 ?_
    refine r_aload_n hX dX3_startOf_28 rfl ?_
    refine fg_X17_27 hX dX3_startOf_29 ?_
    refine r_callV hX dX3_startOf_32 (k_Lp_count l w σ) mf_X2_count mv_X2_count lk_RX3_48 rfl rfl rfl rfl rfl ⟨Nat.le_of_ble_eq_true rfl, Nat.le_of_ble_eq_true rfl⟩ (Nat.le_of_ble_eq_true rfl) (kI fun z32 σ32 hh => ?_)
    obtain ⟨rfl, h32_0, h32_1⟩ := hh
    obtain rfl : z32 = σ 53 0 := by omega
    refine r_iconst hX dX3_startOf_35 ?_
    refine r_isub hX dX3_startOf_36 ?_
    refine r_bipush hX dX3_startOf_37 (by decide) ?_
    refine r_imul hX dX3_startOf_39 ?_
    refine r_iload_n hX dX3_startOf_40 rfl ?_
    refine r_iadd hX dX3_startOf_41 ?_
    refine ld_X22 hX dX3_startOf_42 (by omega) (by omega) (fun b42l b42u => ?_)
    have hp := pm (a := σ 59 0) (A := 12) (b := σ 22 ((σ 53 0 - 1) * 8 + a)) (B := 1300000) (by omega) (by omega)
    refine r_imul hX dX3_startOf_43 ?_
    refine r_iadd hX dX3_startOf_44 ?_
    exact r_iret hX dX3_startOf_45 rfl ⟨_, rfl, ⟨rfl, (by rfl), (by omega)⟩⟩
  · exfalso; omega
theorem dX3_isFree_0 : decode cX3_isFree 0 = .ok (.aload_n 0, 1) := by decide +kernel
theorem dX3_isFree_1 : decode cX3_isFree 1 = .ok (.getfield 27, 3) := by decide +kernel
theorem dX3_isFree_4 : decode cX3_isFree 4 = .ok (.iload_n 1, 1) := by decide +kernel
theorem dX3_isFree_5 : decode cX3_isFree 5 = .ok (.invokevirtual 39, 3) := by decide +kernel
theorem dX3_isFree_8 : decode cX3_isFree 8 = .ok (.ifCond .eq 43, 3) := by decide +kernel
theorem dX3_isFree_11 : decode cX3_isFree 11 = .ok (.aload_n 0, 1) := by decide +kernel
theorem dX3_isFree_12 : decode cX3_isFree 12 = .ok (.getfield 31, 3) := by decide +kernel
theorem dX3_isFree_15 : decode cX3_isFree 15 = .ok (.aload_n 0, 1) := by decide +kernel
theorem dX3_isFree_16 : decode cX3_isFree 16 = .ok (.getfield 9, 3) := by decide +kernel
theorem dX3_isFree_19 : decode cX3_isFree 19 = .ok (.iload_n 1, 1) := by decide +kernel
theorem dX3_isFree_20 : decode cX3_isFree 20 = .ok (.iaload, 1) := by decide +kernel
theorem dX3_isFree_21 : decode cX3_isFree 21 = .ok (.invokevirtual 69, 3) := by decide +kernel
theorem dX3_isFree_24 : decode cX3_isFree 24 = .ok (.ifCond .ne 27, 3) := by decide +kernel
theorem dX3_isFree_27 : decode cX3_isFree 27 = .ok (.aload_n 0, 1) := by decide +kernel
theorem dX3_isFree_28 : decode cX3_isFree 28 = .ok (.getfield 31, 3) := by decide +kernel
theorem dX3_isFree_31 : decode cX3_isFree 31 = .ok (.aload_n 0, 1) := by decide +kernel
theorem dX3_isFree_32 : decode cX3_isFree 32 = .ok (.getfield 27, 3) := by decide +kernel
theorem dX3_isFree_35 : decode cX3_isFree 35 = .ok (.iload_n 1, 1) := by decide +kernel
theorem dX3_isFree_36 : decode cX3_isFree 36 = .ok (.invokevirtual 72, 3) := by decide +kernel
theorem dX3_isFree_39 : decode cX3_isFree 39 = .ok (.aload_n 0, 1) := by decide +kernel
theorem dX3_isFree_40 : decode cX3_isFree 40 = .ok (.getfield 9, 3) := by decide +kernel
theorem dX3_isFree_43 : decode cX3_isFree 43 = .ok (.iload_n 1, 1) := by decide +kernel
theorem dX3_isFree_44 : decode cX3_isFree 44 = .ok (.iaload, 1) := by decide +kernel
theorem dX3_isFree_45 : decode cX3_isFree 45 = .ok (.invokevirtual 76, 3) := by decide +kernel
theorem dX3_isFree_48 : decode cX3_isFree 48 = .ok (.ifCond .ne 5, 3) := by decide +kernel
theorem dX3_isFree_51 : decode cX3_isFree 51 = .ok (.iconst 0, 1) := by decide +kernel
theorem dX3_isFree_52 : decode cX3_isFree 52 = .ok (.ireturn, 1) := by decide +kernel
theorem dX3_isFree_53 : decode cX3_isFree 53 = .ok (.iconst 0, 1) := by decide +kernel
theorem dX3_isFree_54 : decode cX3_isFree 54 = .ok (.istore_n 2, 1) := by decide +kernel
theorem dX3_isFree_55 : decode cX3_isFree 55 = .ok (.iload_n 2, 1) := by decide +kernel
theorem dX3_isFree_56 : decode cX3_isFree 56 = .ok (.iload_n 1, 1) := by decide +kernel
theorem dX3_isFree_57 : decode cX3_isFree 57 = .ok (.if_icmp .ge 41, 3) := by decide +kernel
theorem dX3_isFree_60 : decode cX3_isFree 60 = .ok (.aload_n 0, 1) := by decide +kernel
theorem dX3_isFree_61 : decode cX3_isFree 61 = .ok (.getfield 9, 3) := by decide +kernel
theorem dX3_isFree_64 : decode cX3_isFree 64 = .ok (.iload_n 2, 1) := by decide +kernel
theorem dX3_isFree_65 : decode cX3_isFree 65 = .ok (.iaload, 1) := by decide +kernel
theorem dX3_isFree_66 : decode cX3_isFree 66 = .ok (.aload_n 0, 1) := by decide +kernel
theorem dX3_isFree_67 : decode cX3_isFree 67 = .ok (.getfield 9, 3) := by decide +kernel
theorem dX3_isFree_70 : decode cX3_isFree 70 = .ok (.iload_n 1, 1) := by decide +kernel
theorem dX3_isFree_71 : decode cX3_isFree 71 = .ok (.iaload, 1) := by decide +kernel
theorem dX3_isFree_72 : decode cX3_isFree 72 = .ok (.if_icmp .ne 20, 3) := by decide +kernel
theorem dX3_isFree_75 : decode cX3_isFree 75 = .ok (.aload_n 0, 1) := by decide +kernel
theorem dX3_isFree_76 : decode cX3_isFree 76 = .ok (.getfield 15, 3) := by decide +kernel
theorem dX3_isFree_79 : decode cX3_isFree 79 = .ok (.iload_n 2, 1) := by decide +kernel
theorem dX3_isFree_80 : decode cX3_isFree 80 = .ok (.iaload, 1) := by decide +kernel
theorem dX3_isFree_81 : decode cX3_isFree 81 = .ok (.aload_n 0, 1) := by decide +kernel
theorem dX3_isFree_82 : decode cX3_isFree 82 = .ok (.getfield 15, 3) := by decide +kernel
theorem dX3_isFree_85 : decode cX3_isFree 85 = .ok (.iload_n 1, 1) := by decide +kernel
theorem dX3_isFree_86 : decode cX3_isFree 86 = .ok (.iaload, 1) := by decide +kernel
theorem dX3_isFree_87 : decode cX3_isFree 87 = .ok (.if_icmp .ne 5, 3) := by decide +kernel
theorem dX3_isFree_90 : decode cX3_isFree 90 = .ok (.iconst 0, 1) := by decide +kernel
theorem dX3_isFree_91 : decode cX3_isFree 91 = .ok (.ireturn, 1) := by decide +kernel
theorem dX3_isFree_92 : decode cX3_isFree 92 = .ok (.iinc 2 1, 3) := by decide +kernel
theorem dX3_isFree_95 : decode cX3_isFree 95 = .ok (.goto (-40), 3) := by decide +kernel
theorem dX3_isFree_98 : decode cX3_isFree 98 = .ok (.iconst 1, 1) := by decide +kernel
theorem dX3_isFree_99 : decode cX3_isFree 99 = .ok (.ireturn, 1) := by decide +kernel
set_option maxRecDepth 20000 in
set_option maxHeartbeats 4000000 in
theorem k_Sr_isFree (l : Launch) (w : WT) (σ : MM) (a : Int) (i_a : inr a) (ha : 0 ≤ a ∧ a < σ 53 0) (hl : ∀ l : Int, 0 ≤ l → l ≤ a → σ 18 l < σ 56 0 * σ 57 0) : CT SX l w yX3_isFree cX3_isFree 3 (some .boolean) 2 43 [.ref (w.2.2 17), .int (iI a)] σ (PI fun z σ1 => σ = σ1 ∧ ((z = 1 ∧ FreeS (σ 11) (σ 12) (σ 2) (σ 18) (σ 19) a) ∨ (z = 0 ∧ ¬ FreeS (σ 11) (σ 12) (σ 2) (σ 18) (σ 19) a))) := by
  refine CT.of 1 [some (.ref (w.2.2 17)), some (.int (iI a)), none] (by decide +kernel) (by simp [lg_sl, Value.category]) rfl sh_X (fun G hX => ?_)
  refine r_bd hX (fun hBd => ?_)
  have b_53 := hBd 53 0 8 rfl 0
  refine r_aload_n hX dX3_isFree_0 rfl ?_
  refine fg_X17_27 hX dX3_isFree_1 ?_
  refine r_iload_n hX dX3_isFree_4 rfl ?_
  refine r_callV hX dX3_isFree_5 (k_Lp_isThere l w σ _ (by omega)) mf_X2_isThere mv_X2_isThere lk_RX3_39 rfl rfl rfl rfl rfl ⟨Nat.le_of_ble_eq_true rfl, Nat.le_of_ble_eq_true rfl⟩ (Nat.le_of_ble_eq_true rfl) (kI fun z5 σ5 hh => ?_)
  obtain ⟨rfl, h5_0⟩ := hh
  refine r_if_eq hX (tgt := 51) dX3_isFree_8 (by decide) (by omega) (fun c8 => ?_) (fun c8 => ?_)
  · exfalso; omega
  · skip
    refine r_aload_n hX dX3_isFree_11 rfl ?_
    refine fg_X17_31 hX dX3_isFree_12 ?_
    refine r_aload_n hX dX3_isFree_15 rfl ?_
    refine fg_X17_9 hX dX3_isFree_16 ?_
    refine r_iload_n hX dX3_isFree_19 rfl ?_
    refine ld_X18 hX dX3_isFree_20 (by omega) (by omega) (fun b20l b20u => ?_)
    refine r_callV hX dX3_isFree_21 (k_Gd_isBroken l w σ _ (by omega)) mf_X0_isBroken mv_X0_isBroken lk_RX3_69 rfl rfl rfl rfl rfl ⟨Nat.le_of_ble_eq_true rfl, Nat.le_of_ble_eq_true rfl⟩ (Nat.le_of_ble_eq_true rfl) (kI fun z21 σ21 hh => ?_)
    obtain ⟨rfl, h21_0⟩ := hh
    have hla0 := hl a (by omega) (by omega)
    refine r_if_ne hX (tgt := 51) dX3_isFree_24 (by decide) (by omega) (fun c24 => ?_) (fun c24 => ?_)
    · skip
      refine r_iconst hX dX3_isFree_51 ?_
      exact r_zret hX dX3_isFree_52 rfl (by omega) ⟨_, rfl, ⟨rfl, (by exact Or.inr ⟨rfl, fun q => (by have q1 := q.1; have q2 := q.2.1; first | omega | (have q3 := q2 (by omega); omega))⟩)⟩⟩
    · skip
      have hla := hl a (by omega) (by omega)
      refine r_aload_n hX dX3_isFree_27 rfl ?_
      refine fg_X17_31 hX dX3_isFree_28 ?_
      refine r_aload_n hX dX3_isFree_31 rfl ?_
      refine fg_X17_27 hX dX3_isFree_32 ?_
      refine r_iload_n hX dX3_isFree_35 rfl ?_
      refine r_callV hX dX3_isFree_36 (k_Lp_kindOf l w σ _ (by omega)) mf_X2_kindOf mv_X2_kindOf lk_RX3_72 rfl rfl rfl rfl rfl ⟨Nat.le_of_ble_eq_true rfl, Nat.le_of_ble_eq_true rfl⟩ (Nat.le_of_ble_eq_true rfl) (kI fun z36 σ36 hh => ?_)
      obtain ⟨rfl, h36_0, h36_1⟩ := hh
      obtain rfl : z36 = σ 2 a := by omega
      refine r_aload_n hX dX3_isFree_39 rfl ?_
      refine fg_X17_9 hX dX3_isFree_40 ?_
      refine r_iload_n hX dX3_isFree_43 rfl ?_
      refine ld_X18 hX dX3_isFree_44 (by omega) (by omega) (fun b44l b44u => ?_)
      refine r_callV hX dX3_isFree_45 (k_Gd_suits l w σ _ _ (by omega) (by omega)) mf_X0_suits mv_X0_suits lk_RX3_76 rfl rfl rfl rfl rfl ⟨Nat.le_of_ble_eq_true rfl, Nat.le_of_ble_eq_true rfl⟩ (Nat.le_of_ble_eq_true rfl) (kI fun z45 σ45 hh => ?_)
      obtain ⟨rfl, h45_0⟩ := hh
      refine r_if_ne hX (tgt := 53) dX3_isFree_48 (by decide) (by omega) (fun c48 => ?_) (fun c48 => ?_)
      · skip
        refine r_iconst hX dX3_isFree_53 ?_
        refine r_istore_n hX (fun x54 => [some (.ref (w.2.2 17)), some (.int (iI a)), some (.int (iI x54))]) dX3_isFree_54 (Nat.le_of_ble_eq_true rfl) rfl rfl (fun _ => rfl) (fun x54 e54 => ?_)
        have lp55 : ∀ (n : Nat) (o : Int) (ho : 0 ≤ o ∧ o ≤ a) (hn : ∀ x, 0 ≤ x → x < o → ¬ (σ 18 x = σ 18 a ∧ σ 19 x = σ 19 a)) (hmu : 9 - o < (n : Int)), G 55 [some (.ref (w.2.2 17)), some (.int (iI a)), some (.int (iI o))] [] σ := by
          intro n
          induction n with
          | zero => intro o ho hn hmu; omega
          | succ n ih =>
            intro o ho hn hmu
            have ih55 := ih
            clear ih
            refine r_iload_n hX dX3_isFree_55 rfl ?_
            refine r_iload_n hX dX3_isFree_56 rfl ?_
            refine r_icmp_ge hX (tgt := 98) dX3_isFree_57 (by decide) (by omega) (by omega) (fun c57 => ?_) (fun c57 => ?_)
            · skip
              refine r_iconst hX dX3_isFree_98 ?_
              exact r_zret hX dX3_isFree_99 rfl (by omega) ⟨_, rfl, ⟨rfl, (by exact Or.inl ⟨rfl, by omega, by omega, (show o = a by omega) ▸ hn⟩)⟩⟩
            · skip
              refine r_aload_n hX dX3_isFree_60 rfl ?_
              refine fg_X17_9 hX dX3_isFree_61 ?_
              refine r_iload_n hX dX3_isFree_64 rfl ?_
              refine ld_X18 hX dX3_isFree_65 (by omega) (by omega) (fun b65l b65u => ?_)
              refine r_aload_n hX dX3_isFree_66 rfl ?_
              refine fg_X17_9 hX dX3_isFree_67 ?_
              refine r_iload_n hX dX3_isFree_70 rfl ?_
              refine ld_X18 hX dX3_isFree_71 (by omega) (by omega) (fun b71l b71u => ?_)
              refine r_icmp_ne hX (tgt := 92) dX3_isFree_72 (by decide) (by omega) (by omega) (fun c72 => ?_) (fun c72 => ?_)
              · skip
                refine r_iinc hX (fun x92 => [some (.ref (w.2.2 17)), some (.int (iI a)), some (.int (iI x92))]) dX3_isFree_92 rfl rfl rfl (fun _ => rfl) (fun x92 e92 => ?_)
                refine r_goto hX dX3_isFree_95 (tgt := 55) (by decide) ?_
                exact ih55 x92 (by omega) (Non.next (P := fun x => σ 18 x = σ 18 a ∧ σ 19 x = σ 19 a) hn (by omega) e92) (by omega)
              · skip
                refine r_aload_n hX dX3_isFree_75 rfl ?_
                refine fg_X17_15 hX dX3_isFree_76 ?_
                refine r_iload_n hX dX3_isFree_79 rfl ?_
                refine ld_X19 hX dX3_isFree_80 (by omega) (by omega) (fun b80l b80u => ?_)
                refine r_aload_n hX dX3_isFree_81 rfl ?_
                refine fg_X17_15 hX dX3_isFree_82 ?_
                refine r_iload_n hX dX3_isFree_85 rfl ?_
                refine ld_X19 hX dX3_isFree_86 (by omega) (by omega) (fun b86l b86u => ?_)
                refine r_icmp_ne hX (tgt := 92) dX3_isFree_87 (by decide) (by omega) (by omega) (fun c87 => ?_) (fun c87 => ?_)
                · skip
                  refine r_iinc hX (fun x92 => [some (.ref (w.2.2 17)), some (.int (iI a)), some (.int (iI x92))]) dX3_isFree_92 rfl rfl rfl (fun _ => rfl) (fun x92 e92 => ?_)
                  refine r_goto hX dX3_isFree_95 (tgt := 55) (by decide) ?_
                  exact ih55 x92 (by omega) (Non.next (P := fun x => σ 18 x = σ 18 a ∧ σ 19 x = σ 19 a) hn (by omega) e92) (by omega)
                · skip
                  refine r_iconst hX dX3_isFree_90 ?_
                  exact r_zret hX dX3_isFree_91 rfl (by omega) ⟨_, rfl, ⟨rfl, (by exact Or.inr ⟨rfl, fun q => q.2.2 o (by omega) (by omega) ⟨by omega, by omega⟩⟩)⟩⟩
        exact lp55 ((9 - (x54)) + 1).toNat x54 (by omega) (fun x x0 x1 => by omega) (by omega)
      · skip
        refine r_iconst hX dX3_isFree_51 ?_
        exact r_zret hX dX3_isFree_52 rfl (by omega) ⟨_, rfl, ⟨rfl, (by exact Or.inr ⟨rfl, fun q => (by have q1 := q.1; have q2 := q.2.1; first | omega | (have q3 := q2 (by omega); omega))⟩)⟩⟩
theorem dX3_measureGaps_0 : decode cX3_measureGaps 0 = .ok (.iconst 0, 1) := by decide +kernel
theorem dX3_measureGaps_1 : decode cX3_measureGaps 1 = .ok (.istore_n 2, 1) := by decide +kernel
theorem dX3_measureGaps_2 : decode cX3_measureGaps 2 = .ok (.iload_n 2, 1) := by decide +kernel
theorem dX3_measureGaps_3 : decode cX3_measureGaps 3 = .ok (.iconst 2, 1) := by decide +kernel
theorem dX3_measureGaps_4 : decode cX3_measureGaps 4 = .ok (.iload_n 1, 1) := by decide +kernel
theorem dX3_measureGaps_5 : decode cX3_measureGaps 5 = .ok (.imul, 1) := by decide +kernel
theorem dX3_measureGaps_6 : decode cX3_measureGaps 6 = .ok (.iconst 2, 1) := by decide +kernel
theorem dX3_measureGaps_7 : decode cX3_measureGaps 7 = .ok (.iadd, 1) := by decide +kernel
theorem dX3_measureGaps_8 : decode cX3_measureGaps 8 = .ok (.if_icmp .ge 137, 3) := by decide +kernel
theorem dX3_measureGaps_11 : decode cX3_measureGaps 11 = .ok (.iload_n 2, 1) := by decide +kernel
theorem dX3_measureGaps_12 : decode cX3_measureGaps 12 = .ok (.bipush 16, 2) := by decide +kernel
theorem dX3_measureGaps_14 : decode cX3_measureGaps 14 = .ok (.if_icmp .ge 131, 3) := by decide +kernel
theorem dX3_measureGaps_17 : decode cX3_measureGaps 17 = .ok (.aload_n 0, 1) := by decide +kernel
theorem dX3_measureGaps_18 : decode cX3_measureGaps 18 = .ok (.getfield 27, 3) := by decide +kernel
theorem dX3_measureGaps_21 : decode cX3_measureGaps 21 = .ok (.iload_n 2, 1) := by decide +kernel
theorem dX3_measureGaps_22 : decode cX3_measureGaps 22 = .ok (.invokevirtual 80, 3) := by decide +kernel
theorem dX3_measureGaps_25 : decode cX3_measureGaps 25 = .ok (.istore_n 3, 1) := by decide +kernel
theorem dX3_measureGaps_26 : decode cX3_measureGaps 26 = .ok (.iload_n 2, 1) := by decide +kernel
theorem dX3_measureGaps_27 : decode cX3_measureGaps 27 = .ok (.iconst 2, 1) := by decide +kernel
theorem dX3_measureGaps_28 : decode cX3_measureGaps 28 = .ok (.idiv, 1) := by decide +kernel
theorem dX3_measureGaps_29 : decode cX3_measureGaps 29 = .ok (.istore 4, 2) := by decide +kernel
theorem dX3_measureGaps_31 : decode cX3_measureGaps 31 = .ok (.iload_n 3, 1) := by decide +kernel
theorem dX3_measureGaps_32 : decode cX3_measureGaps 32 = .ok (.ifCond .lt 107, 3) := by decide +kernel
theorem dX3_measureGaps_35 : decode cX3_measureGaps 35 = .ok (.iload_n 3, 1) := by decide +kernel
theorem dX3_measureGaps_36 : decode cX3_measureGaps 36 = .ok (.iload_n 1, 1) := by decide +kernel
theorem dX3_measureGaps_37 : decode cX3_measureGaps 37 = .ok (.if_icmp .gt 102, 3) := by decide +kernel
theorem dX3_measureGaps_40 : decode cX3_measureGaps 40 = .ok (.iload_n 3, 1) := by decide +kernel
theorem dX3_measureGaps_41 : decode cX3_measureGaps 41 = .ok (.iload_n 1, 1) := by decide +kernel
theorem dX3_measureGaps_42 : decode cX3_measureGaps 42 = .ok (.if_icmp .eq 9, 3) := by decide +kernel
theorem dX3_measureGaps_45 : decode cX3_measureGaps 45 = .ok (.iload 4, 2) := by decide +kernel
theorem dX3_measureGaps_47 : decode cX3_measureGaps 47 = .ok (.iload_n 1, 1) := by decide +kernel
theorem dX3_measureGaps_48 : decode cX3_measureGaps 48 = .ok (.if_icmp .ne 91, 3) := by decide +kernel
theorem dX3_measureGaps_51 : decode cX3_measureGaps 51 = .ok (.aload_n 0, 1) := by decide +kernel
theorem dX3_measureGaps_52 : decode cX3_measureGaps 52 = .ok (.getfield 31, 3) := by decide +kernel
theorem dX3_measureGaps_55 : decode cX3_measureGaps 55 = .ok (.aload_n 0, 1) := by decide +kernel
theorem dX3_measureGaps_56 : decode cX3_measureGaps 56 = .ok (.getfield 9, 3) := by decide +kernel
theorem dX3_measureGaps_59 : decode cX3_measureGaps 59 = .ok (.iload_n 3, 1) := by decide +kernel
theorem dX3_measureGaps_60 : decode cX3_measureGaps 60 = .ok (.iaload, 1) := by decide +kernel
theorem dX3_measureGaps_61 : decode cX3_measureGaps 61 = .ok (.aload_n 0, 1) := by decide +kernel
theorem dX3_measureGaps_62 : decode cX3_measureGaps 62 = .ok (.getfield 9, 3) := by decide +kernel
theorem dX3_measureGaps_65 : decode cX3_measureGaps 65 = .ok (.iload 4, 2) := by decide +kernel
theorem dX3_measureGaps_67 : decode cX3_measureGaps 67 = .ok (.iaload, 1) := by decide +kernel
theorem dX3_measureGaps_68 : decode cX3_measureGaps 68 = .ok (.invokevirtual 83, 3) := by decide +kernel
theorem dX3_measureGaps_71 : decode cX3_measureGaps 71 = .ok (.istore 5, 2) := by decide +kernel
theorem dX3_measureGaps_73 : decode cX3_measureGaps 73 = .ok (.iload 5, 2) := by decide +kernel
theorem dX3_measureGaps_75 : decode cX3_measureGaps 75 = .ok (.bipush (-6), 2) := by decide +kernel
theorem dX3_measureGaps_77 : decode cX3_measureGaps 77 = .ok (.if_icmp .ne 5, 3) := by decide +kernel
theorem dX3_measureGaps_80 : decode cX3_measureGaps 80 = .ok (.iconst 0, 1) := by decide +kernel
theorem dX3_measureGaps_81 : decode cX3_measureGaps 81 = .ok (.ireturn, 1) := by decide +kernel
theorem dX3_measureGaps_82 : decode cX3_measureGaps 82 = .ok (.aload_n 0, 1) := by decide +kernel
theorem dX3_measureGaps_83 : decode cX3_measureGaps 83 = .ok (.getfield 15, 3) := by decide +kernel
theorem dX3_measureGaps_86 : decode cX3_measureGaps 86 = .ok (.iload 4, 2) := by decide +kernel
theorem dX3_measureGaps_88 : decode cX3_measureGaps 88 = .ok (.iaload, 1) := by decide +kernel
theorem dX3_measureGaps_89 : decode cX3_measureGaps 89 = .ok (.aload_n 0, 1) := by decide +kernel
theorem dX3_measureGaps_90 : decode cX3_measureGaps 90 = .ok (.getfield 45, 3) := by decide +kernel
theorem dX3_measureGaps_93 : decode cX3_measureGaps 93 = .ok (.aload_n 0, 1) := by decide +kernel
theorem dX3_measureGaps_94 : decode cX3_measureGaps 94 = .ok (.getfield 27, 3) := by decide +kernel
theorem dX3_measureGaps_97 : decode cX3_measureGaps 97 = .ok (.iload_n 2, 1) := by decide +kernel
theorem dX3_measureGaps_98 : decode cX3_measureGaps 98 = .ok (.invokevirtual 87, 3) := by decide +kernel
theorem dX3_measureGaps_101 : decode cX3_measureGaps 101 = .ok (.imul, 1) := by decide +kernel
theorem dX3_measureGaps_102 : decode cX3_measureGaps 102 = .ok (.iadd, 1) := by decide +kernel
theorem dX3_measureGaps_103 : decode cX3_measureGaps 103 = .ok (.aload_n 0, 1) := by decide +kernel
theorem dX3_measureGaps_104 : decode cX3_measureGaps 104 = .ok (.getfield 15, 3) := by decide +kernel
theorem dX3_measureGaps_107 : decode cX3_measureGaps 107 = .ok (.iload_n 3, 1) := by decide +kernel
theorem dX3_measureGaps_108 : decode cX3_measureGaps 108 = .ok (.iaload, 1) := by decide +kernel
theorem dX3_measureGaps_109 : decode cX3_measureGaps 109 = .ok (.isub, 1) := by decide +kernel
theorem dX3_measureGaps_110 : decode cX3_measureGaps 110 = .ok (.istore 6, 2) := by decide +kernel
theorem dX3_measureGaps_112 : decode cX3_measureGaps 112 = .ok (.aload_n 0, 1) := by decide +kernel
theorem dX3_measureGaps_113 : decode cX3_measureGaps 113 = .ok (.getfield 21, 3) := by decide +kernel
theorem dX3_measureGaps_116 : decode cX3_measureGaps 116 = .ok (.iload_n 2, 1) := by decide +kernel
theorem dX3_measureGaps_117 : decode cX3_measureGaps 117 = .ok (.aload_n 0, 1) := by decide +kernel
theorem dX3_measureGaps_118 : decode cX3_measureGaps 118 = .ok (.getfield 27, 3) := by decide +kernel
theorem dX3_measureGaps_121 : decode cX3_measureGaps 121 = .ok (.iload_n 3, 1) := by decide +kernel
theorem dX3_measureGaps_122 : decode cX3_measureGaps 122 = .ok (.invokevirtual 90, 3) := by decide +kernel
theorem dX3_measureGaps_125 : decode cX3_measureGaps 125 = .ok (.iload 5, 2) := by decide +kernel
theorem dX3_measureGaps_127 : decode cX3_measureGaps 127 = .ok (.iadd, 1) := by decide +kernel
theorem dX3_measureGaps_128 : decode cX3_measureGaps 128 = .ok (.iload 6, 2) := by decide +kernel
theorem dX3_measureGaps_130 : decode cX3_measureGaps 130 = .ok (.isub, 1) := by decide +kernel
theorem dX3_measureGaps_131 : decode cX3_measureGaps 131 = .ok (.aload_n 0, 1) := by decide +kernel
theorem dX3_measureGaps_132 : decode cX3_measureGaps 132 = .ok (.getfield 45, 3) := by decide +kernel
theorem dX3_measureGaps_135 : decode cX3_measureGaps 135 = .ok (.invokestatic 93, 3) := by decide +kernel
theorem dX3_measureGaps_138 : decode cX3_measureGaps 138 = .ok (.iastore, 1) := by decide +kernel
theorem dX3_measureGaps_139 : decode cX3_measureGaps 139 = .ok (.iinc 2 1, 3) := by decide +kernel
theorem dX3_measureGaps_142 : decode cX3_measureGaps 142 = .ok (.goto (-140), 3) := by decide +kernel
theorem dX3_measureGaps_145 : decode cX3_measureGaps 145 = .ok (.iconst 1, 1) := by decide +kernel
theorem dX3_measureGaps_146 : decode cX3_measureGaps 146 = .ok (.ireturn, 1) := by decide +kernel
set_option maxRecDepth 20000 in
set_option maxHeartbeats 4000000 in
theorem k_Sr_measureGaps (l : Launch) (w : WT) (σ : MM) (a : Int) (i_a : inr a) (ha : 0 ≤ a ∧ a < σ 53 0) (hl : ∀ l : Int, 0 ≤ l → l ≤ a → σ 18 l < σ 56 0 * σ 57 0) (hbt : 1 ≤ σ 59 0) : CT SX l w yX3_measureGaps cX3_measureGaps 7 (some .boolean) 2 44 [.ref (w.2.2 17), .int (iI a)] σ (PI fun z σ1 => Mod [21] σ σ1 ∧ (∀ s : Int, ¬ (0 ≤ s ∧ s < 2 * (a + 1) ∧ 0 ≤ σ 5 s ∧ σ 5 s ≤ a ∧ (σ 5 s = a ∨ s / 2 = a)) → σ1 21 s = σ 21 s) ∧ ((z = 1 ∧ (∀ s : Int, 0 ≤ s → s < 2 * (a + 1) → 0 ≤ σ 5 s → σ 5 s ≤ a → (σ 5 s = a ∨ s / 2 = a) → σ 13 (σ 18 (σ 5 s) * 9 + σ 18 (s / 2)) < 1000 ∧ σ1 21 s = gapS (σ 2) (σ 5) (σ 6) (σ 13) (σ 18) (σ 19) (σ 59 0) s)) ∨ (z = 0 ∧ ∃ s : Int, 0 ≤ s ∧ s < 2 * (a + 1) ∧ 0 ≤ σ 5 s ∧ σ 5 s ≤ a ∧ 1000 ≤ σ 13 (σ 18 (σ 5 s) * 9 + σ 18 (s / 2))))) := by
  refine CT.of 5 [some (.ref (w.2.2 17)), some (.int (iI a)), none, none, none, none, none] (by decide +kernel) (by simp [lg_sl, Value.category]) rfl sh_X (fun G hX => ?_)
  refine r_bd hX (fun hBd => ?_)
  have b_53 := hBd 53 0 8 rfl 0
  have b_59 := hBd 59 0 12 rfl 0
  refine r_iconst hX dX3_measureGaps_0 ?_
  refine r_istore_n hX (fun x1 => [some (.ref (w.2.2 17)), some (.int (iI a)), some (.int (iI x1)), none, none, none, none]) dX3_measureGaps_1 (Nat.le_of_ble_eq_true rfl) rfl rfl (fun _ => rfl) (fun x1 e1 => ?_)
  have lp2 : ∀ (n : Nat) (p : Int) (σ2 : MM) (m2 : Mod [21] σ σ2) (hp : 0 ≤ p ∧ p ≤ 2 * a + 2) (hK : ∀ s : Int, ¬ (0 ≤ s ∧ s < 2 * (a + 1) ∧ 0 ≤ σ 5 s ∧ σ 5 s ≤ a ∧ (σ 5 s = a ∨ s / 2 = a)) → σ2 21 s = σ 21 s) (hG : ∀ s : Int, 0 ≤ s → s < p → 0 ≤ σ 5 s → σ 5 s ≤ a → (σ 5 s = a ∨ s / 2 = a) → σ 13 (σ 18 (σ 5 s) * 9 + σ 18 (s / 2)) < 1000 ∧ σ2 21 s = gapS (σ 2) (σ 5) (σ 6) (σ 13) (σ 18) (σ 19) (σ 59 0) s) (hmu : 17 - p < (n : Int)), G 2 [some (.ref (w.2.2 17)), some (.int (iI a)), some (.int (iI p)), none, none, none, none] [] σ2 := by
    intro n
    induction n with
    | zero => intro p σ2 m2 hp hK hG hmu; omega
    | succ n ih =>
      intro p σ2 m2 hp hK hG hmu
      have ih2 := ih
      clear ih
      refine r_iload_n hX dX3_measureGaps_2 rfl ?_
      refine r_iconst hX dX3_measureGaps_3 ?_
      refine r_iload_n hX dX3_measureGaps_4 rfl ?_
      refine r_imul hX dX3_measureGaps_5 ?_
      refine r_iconst hX dX3_measureGaps_6 ?_
      refine r_iadd hX dX3_measureGaps_7 ?_
      refine r_icmp_ge hX (tgt := 145) dX3_measureGaps_8 (by decide) (by omega) (by omega) (fun c8 => ?_) (fun c8 => ?_)
      · skip
        refine r_iconst hX dX3_measureGaps_145 ?_
        exact r_zret hX dX3_measureGaps_146 rfl (by omega) ⟨_, rfl, ⟨(m2.w rfl), (by exact hK), (by exact Or.inl ⟨rfl, fun s s0 s1 => hG s s0 (by omega)⟩)⟩⟩
      · skip
        refine r_iload_n hX dX3_measureGaps_11 rfl ?_
        refine r_bipush hX dX3_measureGaps_12 (by decide) ?_
        refine r_icmp_ge hX (tgt := 145) dX3_measureGaps_14 (by decide) (by omega) (by omega) (fun c14 => ?_) (fun c14 => ?_)
        · exfalso; omega
        · skip
          refine r_aload_n hX dX3_measureGaps_17 rfl ?_
          refine fg_X17_27 hX dX3_measureGaps_18 ?_
          refine r_iload_n hX dX3_measureGaps_21 rfl ?_
          refine r_callV hX dX3_measureGaps_22 (k_Lp_sourceOf l w σ2 _ (by omega)) mf_X2_sourceOf mv_X2_sourceOf lk_RX3_80 rfl rfl rfl rfl rfl ⟨Nat.le_of_ble_eq_true rfl, Nat.le_of_ble_eq_true rfl⟩ (Nat.le_of_ble_eq_true rfl) (kI fun z22 σ22 hh => ?_)
          obtain ⟨rfl, h22_0, h22_1⟩ := hh
          have q22_1 : σ2 5 = σ 5 := (m2.at 5 rfl)
          have q22_2 : σ2 53 = σ 53 := (m2.at 53 rfl)
          try simp only [q22_1, q22_2] at h22_0
          refine r_istore_n hX (fun x25 => [some (.ref (w.2.2 17)), some (.int (iI a)), some (.int (iI p)), some (.int (iI x25)), none, none, none]) dX3_measureGaps_25 (Nat.le_of_ble_eq_true rfl) rfl rfl (fun _ => rfl) (fun x25 e25 => ?_)
          refine r_iload_n hX dX3_measureGaps_26 rfl ?_
          refine r_iconst hX dX3_measureGaps_27 ?_
          refine r_idiv hX dX3_measureGaps_28 (by omega) (by omega) (by omega) (by omega) ?_
          refine r_istore hX (fun x29 => [some (.ref (w.2.2 17)), some (.int (iI a)), some (.int (iI p)), some (.int (iI x25)), some (.int (iI x29)), none, none]) dX3_measureGaps_29 (Nat.le_of_ble_eq_true rfl) rfl rfl (fun _ => rfl) (fun x29 e29 => ?_)
          refine r_iload_n hX dX3_measureGaps_31 rfl ?_
          refine r_if_lt hX (tgt := 139) dX3_measureGaps_32 (by decide) (by omega) (fun c32 => ?_) (fun c32 => ?_)
          · skip
            refine r_iinc hX (fun x139 => [some (.ref (w.2.2 17)), some (.int (iI a)), some (.int (iI x139)), some (.int (iI x25)), some (.int (iI x29)), none, none]) dX3_measureGaps_139 rfl rfl rfl (fun _ => rfl) (fun x139 e139 => ?_)
            refine r_goto hX dX3_measureGaps_142 (tgt := 2) (by decide) ?_
            refine r_wk hX (lv1 := [some (.ref (w.2.2 17)), some (.int (iI a)), some (.int (iI x139)), none, none, none, none]) ⟨rfl, ⟨rfl, ⟨rfl, trivial⟩⟩⟩ ?_
            exact ih2 x139 σ2 (m2.w rfl) (by omega) (by first | exact hK | exact fun s q => by rw [s138, if_neg (fun e => q (by rw [e]; omega))]; exact hK s q) (by first | exact mg_skip hG e139 (by omega) | exact mg_put hG e139 s138 hgap (by omega)) (by omega)
          · skip
            refine r_iload_n hX dX3_measureGaps_35 rfl ?_
            refine r_iload_n hX dX3_measureGaps_36 rfl ?_
            refine r_icmp_gt hX (tgt := 139) dX3_measureGaps_37 (by decide) (by omega) (by omega) (fun c37 => ?_) (fun c37 => ?_)
            · skip
              refine r_iinc hX (fun x139 => [some (.ref (w.2.2 17)), some (.int (iI a)), some (.int (iI x139)), some (.int (iI x25)), some (.int (iI x29)), none, none]) dX3_measureGaps_139 rfl rfl rfl (fun _ => rfl) (fun x139 e139 => ?_)
              refine r_goto hX dX3_measureGaps_142 (tgt := 2) (by decide) ?_
              refine r_wk hX (lv1 := [some (.ref (w.2.2 17)), some (.int (iI a)), some (.int (iI x139)), none, none, none, none]) ⟨rfl, ⟨rfl, ⟨rfl, trivial⟩⟩⟩ ?_
              exact ih2 x139 σ2 (m2.w rfl) (by omega) (by first | exact hK | exact fun s q => by rw [s138, if_neg (fun e => q (by rw [e]; omega))]; exact hK s q) (by first | exact mg_skip hG e139 (by omega) | exact mg_put hG e139 s138 hgap (by omega)) (by omega)
            · skip
              refine r_iload_n hX dX3_measureGaps_40 rfl ?_
              refine r_iload_n hX dX3_measureGaps_41 rfl ?_
              refine r_icmp_eq hX (tgt := 51) dX3_measureGaps_42 (by decide) (by omega) (by omega) (fun c42 => ?_) (fun c42 => ?_)
              · skip
                obtain rfl : x25 = σ 5 p := by omega
                obtain rfl : x29 = p / 2 := e29
                have hl1 := hl (σ 5 p) (by omega) (by omega)
                have hl2 := hl (p / 2) (by omega) (by omega)
                refine r_aload_n hX dX3_measureGaps_51 rfl ?_
                refine fg_X17_31 hX dX3_measureGaps_52 ?_
                refine r_aload_n hX dX3_measureGaps_55 rfl ?_
                refine fg_X17_9 hX dX3_measureGaps_56 ?_
                refine r_iload_n hX dX3_measureGaps_59 rfl ?_
                refine ld_X18 hX dX3_measureGaps_60 (by omega) (by omega) (fun b60l b60u => ?_)
                have q60 : σ2 18 = σ 18 := (m2.at 18 rfl)
                rw [q60]
                rw [q60] at b60l b60u
                refine r_aload_n hX dX3_measureGaps_61 rfl ?_
                refine fg_X17_9 hX dX3_measureGaps_62 ?_
                refine r_iload hX dX3_measureGaps_65 rfl ?_
                refine ld_X18 hX dX3_measureGaps_67 (by omega) (by omega) (fun b67l b67u => ?_)
                have q67 : σ2 18 = σ 18 := (m2.at 18 rfl)
                rw [q67]
                rw [q67] at b67l b67u
                refine r_callV hX dX3_measureGaps_68 (k_Gd_wayBetween l w σ2 _ _ (by omega) (by omega)) mf_X0_wayBetween mv_X0_wayBetween lk_RX3_83 rfl rfl rfl rfl rfl ⟨Nat.le_of_ble_eq_true rfl, Nat.le_of_ble_eq_true rfl⟩ (Nat.le_of_ble_eq_true rfl) (kI fun z68 σ68 hh => ?_)
                obtain ⟨rfl, h68_0⟩ := hh
                have q68_3 : σ2 13 = σ 13 := (m2.at 13 rfl)
                have q68_4 : σ2 56 = σ 56 := (m2.at 56 rfl)
                have q68_5 : σ2 57 = σ 57 := (m2.at 57 rfl)
                try simp only [q68_3, q68_4, q68_5] at h68_0
                refine r_istore hX (fun x71 => [some (.ref (w.2.2 17)), some (.int (iI a)), some (.int (iI p)), some (.int (iI (σ 5 p))), some (.int (iI (p / 2))), some (.int (iI x71)), none]) dX3_measureGaps_71 (Nat.le_of_ble_eq_true rfl) rfl rfl (fun _ => rfl) (fun x71 e71 => ?_)
                refine r_iload hX dX3_measureGaps_73 rfl ?_
                refine r_bipush hX dX3_measureGaps_75 (by decide) ?_
                refine r_icmp_ne hX (tgt := 82) dX3_measureGaps_77 (by decide) (by omega) (by omega) (fun c77 => ?_) (fun c77 => ?_)
                · skip
                  refine r_aload_n hX dX3_measureGaps_82 rfl ?_
                  refine fg_X17_15 hX dX3_measureGaps_83 ?_
                  refine r_iload hX dX3_measureGaps_86 rfl ?_
                  refine ld_X19 hX dX3_measureGaps_88 (by omega) (by omega) (fun b88l b88u => ?_)
                  have q88 : σ2 19 = σ 19 := (m2.at 19 rfl)
                  rw [q88]
                  rw [q88] at b88l b88u
                  refine r_aload_n hX dX3_measureGaps_89 rfl ?_
                  refine fg_X17_45 hX dX3_measureGaps_90 (fun b90l b90u => ?_)
                  have q90 : σ2 59 = σ 59 := (m2.at 59 rfl)
                  rw [q90]
                  rw [q90] at b90l b90u
                  refine r_aload_n hX dX3_measureGaps_93 rfl ?_
                  refine fg_X17_27 hX dX3_measureGaps_94 ?_
                  refine r_iload_n hX dX3_measureGaps_97 rfl ?_
                  refine r_callV hX dX3_measureGaps_98 (k_Lp_distanceOf l w σ2 _ (by omega)) mf_X2_distanceOf mv_X2_distanceOf lk_RX3_87 rfl rfl rfl rfl rfl ⟨Nat.le_of_ble_eq_true rfl, Nat.le_of_ble_eq_true rfl⟩ (Nat.le_of_ble_eq_true rfl) (kI fun z98 σ98 hh => ?_)
                  obtain ⟨rfl, h98_0, h98_1⟩ := hh
                  have q98_6 : σ2 6 = σ 6 := (m2.at 6 rfl)
                  have q98_7 : σ2 53 = σ 53 := (m2.at 53 rfl)
                  try simp only [q98_6, q98_7] at h98_0
                  obtain rfl : z98 = σ 6 p := by omega
                  have hp2 := pm (a := σ 59 0) (A := 12) (b := σ 6 p) (B := 3) (by omega) (by omega)
                  refine r_imul hX dX3_measureGaps_101 ?_
                  refine r_iadd hX dX3_measureGaps_102 ?_
                  refine r_aload_n hX dX3_measureGaps_103 rfl ?_
                  refine fg_X17_15 hX dX3_measureGaps_104 ?_
                  refine r_iload_n hX dX3_measureGaps_107 rfl ?_
                  refine ld_X19 hX dX3_measureGaps_108 (by omega) (by omega) (fun b108l b108u => ?_)
                  have q108 : σ2 19 = σ 19 := (m2.at 19 rfl)
                  rw [q108]
                  rw [q108] at b108l b108u
                  refine r_isub hX dX3_measureGaps_109 ?_
                  refine r_istore hX (fun x110 => [some (.ref (w.2.2 17)), some (.int (iI a)), some (.int (iI p)), some (.int (iI (σ 5 p))), some (.int (iI (p / 2))), some (.int (iI x71)), some (.int (iI x110))]) dX3_measureGaps_110 (Nat.le_of_ble_eq_true rfl) rfl rfl (fun _ => rfl) (fun x110 e110 => ?_)
                  refine r_aload_n hX dX3_measureGaps_112 rfl ?_
                  refine fg_X17_21 hX dX3_measureGaps_113 ?_
                  refine r_iload_n hX dX3_measureGaps_116 rfl ?_
                  refine r_aload_n hX dX3_measureGaps_117 rfl ?_
                  refine fg_X17_27 hX dX3_measureGaps_118 ?_
                  refine r_iload_n hX dX3_measureGaps_121 rfl ?_
                  refine r_callV hX dX3_measureGaps_122 (k_Lp_lengthOf l w σ2 _ (by omega)) mf_X2_lengthOf mv_X2_lengthOf lk_RX3_90 rfl rfl rfl rfl rfl ⟨Nat.le_of_ble_eq_true rfl, Nat.le_of_ble_eq_true rfl⟩ (Nat.le_of_ble_eq_true rfl) (kI fun z122 σ122 hh => ?_)
                  obtain ⟨rfl, h122_0⟩ := hh
                  have q122_8 : σ2 2 = σ 2 := (m2.at 2 rfl)
                  have q122_9 : σ2 53 = σ 53 := (m2.at 53 rfl)
                  try simp only [q122_8, q122_9] at h122_0
                  have hle := lenF_of h122_0 (by omega) (by omega)
                  subst hle
                  refine r_iload hX dX3_measureGaps_125 rfl ?_
                  refine r_iadd hX dX3_measureGaps_127 ?_
                  refine r_iload hX dX3_measureGaps_128 rfl ?_
                  refine r_isub hX dX3_measureGaps_130 ?_
                  refine r_aload_n hX dX3_measureGaps_131 rfl ?_
                  refine fg_X17_45 hX dX3_measureGaps_132 (fun b132l b132u => ?_)
                  have q132 : σ2 59 = σ 59 := (m2.at 59 rfl)
                  rw [q132]
                  rw [q132] at b132l b132u
                  have hlb := @lenF_bd (σ 2) (σ 5 p)
                  refine r_callSN hX dX3_measureGaps_135 (k_cutUp l w σ2 _ _ (by omega) (by omega) (by omega) (by omega)) mf_X5_cutUp ms_X5_cutUp rfl rfl rfl ⟨Nat.le_of_ble_eq_true rfl, Nat.le_of_ble_eq_true rfl⟩ (Nat.le_of_ble_eq_true rfl) (kI fun z135 σ135 hh => ?_)
                  obtain ⟨rfl, h135_0⟩ := hh
                  have hgap : z135 = gapS (σ 2) (σ 5) (σ 6) (σ 13) (σ 18) (σ 19) (σ 59 0) p := by
                    rw [h135_0, e110]
                    unfold gapS
                    rw [show x71 = σ 13 (σ 18 (σ 5 p) * 9 + σ 18 (p / 2)) by omega]
                  have hcb := cdiv_bd (n := σ 59 0) (B := 1100) (x := lenF (σ 2) (σ 5 p) + x71 - x110) (by have := @lenF_bd (σ 2) (σ 5 p); omega) (by have := @lenF_bd (σ 2) (σ 5 p); omega) (by omega)
                  refine st_X21 hX dX3_measureGaps_138 (by omega) (by omega) (by rw [h135_0]; exact hcb) (fun σ138 m138 s138 => ?_)
                  refine r_iinc hX (fun x139 => [some (.ref (w.2.2 17)), some (.int (iI a)), some (.int (iI x139)), some (.int (iI (σ 5 p))), some (.int (iI (p / 2))), some (.int (iI x71)), some (.int (iI x110))]) dX3_measureGaps_139 rfl rfl rfl (fun _ => rfl) (fun x139 e139 => ?_)
                  refine r_goto hX dX3_measureGaps_142 (tgt := 2) (by decide) ?_
                  refine r_wk hX (lv1 := [some (.ref (w.2.2 17)), some (.int (iI a)), some (.int (iI x139)), none, none, none, none]) ⟨rfl, ⟨rfl, ⟨rfl, trivial⟩⟩⟩ ?_
                  exact ih2 x139 σ138 (Mod.tr (L := [21]) m2 m138 rfl rfl) (by omega) (by first | exact hK | exact fun s q => by rw [s138, if_neg (fun e => q (by rw [e]; omega))]; exact hK s q) (by first | exact mg_skip hG e139 (by omega) | exact mg_put hG e139 s138 hgap (by omega)) (by omega)
                · skip
                  refine r_iconst hX dX3_measureGaps_80 ?_
                  exact r_zret hX dX3_measureGaps_81 rfl (by omega) ⟨_, rfl, ⟨(m2.w rfl), (by exact hK), (by exact Or.inr ⟨rfl, p, by omega, by omega, by omega, by omega, by omega⟩)⟩⟩
              · skip
                refine r_iload hX dX3_measureGaps_45 rfl ?_
                refine r_iload_n hX dX3_measureGaps_47 rfl ?_
                refine r_icmp_ne hX (tgt := 139) dX3_measureGaps_48 (by decide) (by omega) (by omega) (fun c48 => ?_) (fun c48 => ?_)
                · skip
                  refine r_iinc hX (fun x139 => [some (.ref (w.2.2 17)), some (.int (iI a)), some (.int (iI x139)), some (.int (iI x25)), some (.int (iI x29)), none, none]) dX3_measureGaps_139 rfl rfl rfl (fun _ => rfl) (fun x139 e139 => ?_)
                  refine r_goto hX dX3_measureGaps_142 (tgt := 2) (by decide) ?_
                  refine r_wk hX (lv1 := [some (.ref (w.2.2 17)), some (.int (iI a)), some (.int (iI x139)), none, none, none, none]) ⟨rfl, ⟨rfl, ⟨rfl, trivial⟩⟩⟩ ?_
                  exact ih2 x139 σ2 (m2.w rfl) (by omega) (by first | exact hK | exact fun s q => by rw [s138, if_neg (fun e => q (by rw [e]; omega))]; exact hK s q) (by first | exact mg_skip hG e139 (by omega) | exact mg_put hG e139 s138 hgap (by omega)) (by omega)
                · skip
                  obtain rfl : x25 = σ 5 p := by omega
                  obtain rfl : x29 = p / 2 := e29
                  have hl1 := hl (σ 5 p) (by omega) (by omega)
                  have hl2 := hl (p / 2) (by omega) (by omega)
                  refine r_aload_n hX dX3_measureGaps_51 rfl ?_
                  refine fg_X17_31 hX dX3_measureGaps_52 ?_
                  refine r_aload_n hX dX3_measureGaps_55 rfl ?_
                  refine fg_X17_9 hX dX3_measureGaps_56 ?_
                  refine r_iload_n hX dX3_measureGaps_59 rfl ?_
                  refine ld_X18 hX dX3_measureGaps_60 (by omega) (by omega) (fun b60l b60u => ?_)
                  have q60 : σ2 18 = σ 18 := (m2.at 18 rfl)
                  rw [q60]
                  rw [q60] at b60l b60u
                  refine r_aload_n hX dX3_measureGaps_61 rfl ?_
                  refine fg_X17_9 hX dX3_measureGaps_62 ?_
                  refine r_iload hX dX3_measureGaps_65 rfl ?_
                  refine ld_X18 hX dX3_measureGaps_67 (by omega) (by omega) (fun b67l b67u => ?_)
                  have q67 : σ2 18 = σ 18 := (m2.at 18 rfl)
                  rw [q67]
                  rw [q67] at b67l b67u
                  refine r_callV hX dX3_measureGaps_68 (k_Gd_wayBetween l w σ2 _ _ (by omega) (by omega)) mf_X0_wayBetween mv_X0_wayBetween lk_RX3_83 rfl rfl rfl rfl rfl ⟨Nat.le_of_ble_eq_true rfl, Nat.le_of_ble_eq_true rfl⟩ (Nat.le_of_ble_eq_true rfl) (kI fun z68 σ68 hh => ?_)
                  obtain ⟨rfl, h68_0⟩ := hh
                  have q68_10 : σ2 13 = σ 13 := (m2.at 13 rfl)
                  have q68_11 : σ2 56 = σ 56 := (m2.at 56 rfl)
                  have q68_12 : σ2 57 = σ 57 := (m2.at 57 rfl)
                  try simp only [q68_10, q68_11, q68_12] at h68_0
                  refine r_istore hX (fun x71 => [some (.ref (w.2.2 17)), some (.int (iI a)), some (.int (iI p)), some (.int (iI (σ 5 p))), some (.int (iI (p / 2))), some (.int (iI x71)), none]) dX3_measureGaps_71 (Nat.le_of_ble_eq_true rfl) rfl rfl (fun _ => rfl) (fun x71 e71 => ?_)
                  refine r_iload hX dX3_measureGaps_73 rfl ?_
                  refine r_bipush hX dX3_measureGaps_75 (by decide) ?_
                  refine r_icmp_ne hX (tgt := 82) dX3_measureGaps_77 (by decide) (by omega) (by omega) (fun c77 => ?_) (fun c77 => ?_)
                  · skip
                    refine r_aload_n hX dX3_measureGaps_82 rfl ?_
                    refine fg_X17_15 hX dX3_measureGaps_83 ?_
                    refine r_iload hX dX3_measureGaps_86 rfl ?_
                    refine ld_X19 hX dX3_measureGaps_88 (by omega) (by omega) (fun b88l b88u => ?_)
                    have q88 : σ2 19 = σ 19 := (m2.at 19 rfl)
                    rw [q88]
                    rw [q88] at b88l b88u
                    refine r_aload_n hX dX3_measureGaps_89 rfl ?_
                    refine fg_X17_45 hX dX3_measureGaps_90 (fun b90l b90u => ?_)
                    have q90 : σ2 59 = σ 59 := (m2.at 59 rfl)
                    rw [q90]
                    rw [q90] at b90l b90u
                    refine r_aload_n hX dX3_measureGaps_93 rfl ?_
                    refine fg_X17_27 hX dX3_measureGaps_94 ?_
                    refine r_iload_n hX dX3_measureGaps_97 rfl ?_
                    refine r_callV hX dX3_measureGaps_98 (k_Lp_distanceOf l w σ2 _ (by omega)) mf_X2_distanceOf mv_X2_distanceOf lk_RX3_87 rfl rfl rfl rfl rfl ⟨Nat.le_of_ble_eq_true rfl, Nat.le_of_ble_eq_true rfl⟩ (Nat.le_of_ble_eq_true rfl) (kI fun z98 σ98 hh => ?_)
                    obtain ⟨rfl, h98_0, h98_1⟩ := hh
                    have q98_13 : σ2 6 = σ 6 := (m2.at 6 rfl)
                    have q98_14 : σ2 53 = σ 53 := (m2.at 53 rfl)
                    try simp only [q98_13, q98_14] at h98_0
                    obtain rfl : z98 = σ 6 p := by omega
                    have hp2 := pm (a := σ 59 0) (A := 12) (b := σ 6 p) (B := 3) (by omega) (by omega)
                    refine r_imul hX dX3_measureGaps_101 ?_
                    refine r_iadd hX dX3_measureGaps_102 ?_
                    refine r_aload_n hX dX3_measureGaps_103 rfl ?_
                    refine fg_X17_15 hX dX3_measureGaps_104 ?_
                    refine r_iload_n hX dX3_measureGaps_107 rfl ?_
                    refine ld_X19 hX dX3_measureGaps_108 (by omega) (by omega) (fun b108l b108u => ?_)
                    have q108 : σ2 19 = σ 19 := (m2.at 19 rfl)
                    rw [q108]
                    rw [q108] at b108l b108u
                    refine r_isub hX dX3_measureGaps_109 ?_
                    refine r_istore hX (fun x110 => [some (.ref (w.2.2 17)), some (.int (iI a)), some (.int (iI p)), some (.int (iI (σ 5 p))), some (.int (iI (p / 2))), some (.int (iI x71)), some (.int (iI x110))]) dX3_measureGaps_110 (Nat.le_of_ble_eq_true rfl) rfl rfl (fun _ => rfl) (fun x110 e110 => ?_)
                    refine r_aload_n hX dX3_measureGaps_112 rfl ?_
                    refine fg_X17_21 hX dX3_measureGaps_113 ?_
                    refine r_iload_n hX dX3_measureGaps_116 rfl ?_
                    refine r_aload_n hX dX3_measureGaps_117 rfl ?_
                    refine fg_X17_27 hX dX3_measureGaps_118 ?_
                    refine r_iload_n hX dX3_measureGaps_121 rfl ?_
                    refine r_callV hX dX3_measureGaps_122 (k_Lp_lengthOf l w σ2 _ (by omega)) mf_X2_lengthOf mv_X2_lengthOf lk_RX3_90 rfl rfl rfl rfl rfl ⟨Nat.le_of_ble_eq_true rfl, Nat.le_of_ble_eq_true rfl⟩ (Nat.le_of_ble_eq_true rfl) (kI fun z122 σ122 hh => ?_)
                    obtain ⟨rfl, h122_0⟩ := hh
                    have q122_15 : σ2 2 = σ 2 := (m2.at 2 rfl)
                    have q122_16 : σ2 53 = σ 53 := (m2.at 53 rfl)
                    try simp only [q122_15, q122_16] at h122_0
                    have hle := lenF_of h122_0 (by omega) (by omega)
                    subst hle
                    refine r_iload hX dX3_measureGaps_125 rfl ?_
                    refine r_iadd hX dX3_measureGaps_127 ?_
                    refine r_iload hX dX3_measureGaps_128 rfl ?_
                    refine r_isub hX dX3_measureGaps_130 ?_
                    refine r_aload_n hX dX3_measureGaps_131 rfl ?_
                    refine fg_X17_45 hX dX3_measureGaps_132 (fun b132l b132u => ?_)
                    have q132 : σ2 59 = σ 59 := (m2.at 59 rfl)
                    rw [q132]
                    rw [q132] at b132l b132u
                    have hlb := @lenF_bd (σ 2) (σ 5 p)
                    refine r_callSN hX dX3_measureGaps_135 (k_cutUp l w σ2 _ _ (by omega) (by omega) (by omega) (by omega)) mf_X5_cutUp ms_X5_cutUp rfl rfl rfl ⟨Nat.le_of_ble_eq_true rfl, Nat.le_of_ble_eq_true rfl⟩ (Nat.le_of_ble_eq_true rfl) (kI fun z135 σ135 hh => ?_)
                    obtain ⟨rfl, h135_0⟩ := hh
                    have hgap : z135 = gapS (σ 2) (σ 5) (σ 6) (σ 13) (σ 18) (σ 19) (σ 59 0) p := by
                      rw [h135_0, e110]
                      unfold gapS
                      rw [show x71 = σ 13 (σ 18 (σ 5 p) * 9 + σ 18 (p / 2)) by omega]
                    have hcb := cdiv_bd (n := σ 59 0) (B := 1100) (x := lenF (σ 2) (σ 5 p) + x71 - x110) (by have := @lenF_bd (σ 2) (σ 5 p); omega) (by have := @lenF_bd (σ 2) (σ 5 p); omega) (by omega)
                    refine st_X21 hX dX3_measureGaps_138 (by omega) (by omega) (by rw [h135_0]; exact hcb) (fun σ138 m138 s138 => ?_)
                    refine r_iinc hX (fun x139 => [some (.ref (w.2.2 17)), some (.int (iI a)), some (.int (iI x139)), some (.int (iI (σ 5 p))), some (.int (iI (p / 2))), some (.int (iI x71)), some (.int (iI x110))]) dX3_measureGaps_139 rfl rfl rfl (fun _ => rfl) (fun x139 e139 => ?_)
                    refine r_goto hX dX3_measureGaps_142 (tgt := 2) (by decide) ?_
                    refine r_wk hX (lv1 := [some (.ref (w.2.2 17)), some (.int (iI a)), some (.int (iI x139)), none, none, none, none]) ⟨rfl, ⟨rfl, ⟨rfl, trivial⟩⟩⟩ ?_
                    exact ih2 x139 σ138 (Mod.tr (L := [21]) m2 m138 rfl rfl) (by omega) (by first | exact hK | exact fun s q => by rw [s138, if_neg (fun e => q (by rw [e]; omega))]; exact hK s q) (by first | exact mg_skip hG e139 (by omega) | exact mg_put hG e139 s138 hgap (by omega)) (by omega)
                  · skip
                    refine r_iconst hX dX3_measureGaps_80 ?_
                    exact r_zret hX dX3_measureGaps_81 rfl (by omega) ⟨_, rfl, ⟨(m2.w rfl), (by exact hK), (by exact Or.inr ⟨rfl, p, by omega, by omega, by omega, by omega, by omega⟩)⟩⟩
  exact lp2 ((17 - (x1)) + 1).toNat x1 σ Mod.rf (by omega) (fun s q => rfl) (fun s s0 s1 => by omega) (by omega)
theorem dX3_beginRow_0 : decode cX3_beginRow 0 = .ok (.iload_n 1, 1) := by decide +kernel
theorem dX3_beginRow_1 : decode cX3_beginRow 1 = .ok (.bipush 8, 2) := by decide +kernel
theorem dX3_beginRow_3 : decode cX3_beginRow 3 = .ok (.imul, 1) := by decide +kernel
theorem dX3_beginRow_4 : decode cX3_beginRow 4 = .ok (.istore_n 2, 1) := by decide +kernel
theorem dX3_beginRow_5 : decode cX3_beginRow 5 = .ok (.iload_n 1, 1) := by decide +kernel
theorem dX3_beginRow_6 : decode cX3_beginRow 6 = .ok (.ifCond .le 26, 3) := by decide +kernel
theorem dX3_beginRow_9 : decode cX3_beginRow 9 = .ok (.iload_n 1, 1) := by decide +kernel
theorem dX3_beginRow_10 : decode cX3_beginRow 10 = .ok (.bipush 8, 2) := by decide +kernel
theorem dX3_beginRow_12 : decode cX3_beginRow 12 = .ok (.if_icmp .ge 20, 3) := by decide +kernel
theorem dX3_beginRow_15 : decode cX3_beginRow 15 = .ok (.aload_n 0, 1) := by decide +kernel
theorem dX3_beginRow_16 : decode cX3_beginRow 16 = .ok (.getfield 24, 3) := by decide +kernel
theorem dX3_beginRow_19 : decode cX3_beginRow 19 = .ok (.iload_n 2, 1) := by decide +kernel
theorem dX3_beginRow_20 : decode cX3_beginRow 20 = .ok (.bipush 8, 2) := by decide +kernel
theorem dX3_beginRow_22 : decode cX3_beginRow 22 = .ok (.isub, 1) := by decide +kernel
theorem dX3_beginRow_23 : decode cX3_beginRow 23 = .ok (.aload_n 0, 1) := by decide +kernel
theorem dX3_beginRow_24 : decode cX3_beginRow 24 = .ok (.getfield 24, 3) := by decide +kernel
theorem dX3_beginRow_27 : decode cX3_beginRow 27 = .ok (.iload_n 2, 1) := by decide +kernel
theorem dX3_beginRow_28 : decode cX3_beginRow 28 = .ok (.iload_n 1, 1) := by decide +kernel
theorem dX3_beginRow_29 : decode cX3_beginRow 29 = .ok (.invokestatic 100, 3) := by decide +kernel
theorem dX3_beginRow_32 : decode cX3_beginRow 32 = .ok (.aload_n 0, 1) := by decide +kernel
theorem dX3_beginRow_33 : decode cX3_beginRow 33 = .ok (.getfield 24, 3) := by decide +kernel
theorem dX3_beginRow_36 : decode cX3_beginRow 36 = .ok (.iload_n 2, 1) := by decide +kernel
theorem dX3_beginRow_37 : decode cX3_beginRow 37 = .ok (.iload_n 1, 1) := by decide +kernel
theorem dX3_beginRow_38 : decode cX3_beginRow 38 = .ok (.iadd, 1) := by decide +kernel
theorem dX3_beginRow_39 : decode cX3_beginRow 39 = .ok (.iconst 0, 1) := by decide +kernel
theorem dX3_beginRow_40 : decode cX3_beginRow 40 = .ok (.iastore, 1) := by decide +kernel
theorem dX3_beginRow_41 : decode cX3_beginRow 41 = .ok (.iconst 2, 1) := by decide +kernel
theorem dX3_beginRow_42 : decode cX3_beginRow 42 = .ok (.iload_n 1, 1) := by decide +kernel
theorem dX3_beginRow_43 : decode cX3_beginRow 43 = .ok (.imul, 1) := by decide +kernel
theorem dX3_beginRow_44 : decode cX3_beginRow 44 = .ok (.istore_n 3, 1) := by decide +kernel
theorem dX3_beginRow_45 : decode cX3_beginRow 45 = .ok (.iload_n 3, 1) := by decide +kernel
theorem dX3_beginRow_46 : decode cX3_beginRow 46 = .ok (.iconst 2, 1) := by decide +kernel
theorem dX3_beginRow_47 : decode cX3_beginRow 47 = .ok (.iload_n 1, 1) := by decide +kernel
theorem dX3_beginRow_48 : decode cX3_beginRow 48 = .ok (.imul, 1) := by decide +kernel
theorem dX3_beginRow_49 : decode cX3_beginRow 49 = .ok (.iconst 2, 1) := by decide +kernel
theorem dX3_beginRow_50 : decode cX3_beginRow 50 = .ok (.iadd, 1) := by decide +kernel
theorem dX3_beginRow_51 : decode cX3_beginRow 51 = .ok (.if_icmp .ge 71, 3) := by decide +kernel
theorem dX3_beginRow_54 : decode cX3_beginRow 54 = .ok (.iload_n 3, 1) := by decide +kernel
theorem dX3_beginRow_55 : decode cX3_beginRow 55 = .ok (.bipush 16, 2) := by decide +kernel
theorem dX3_beginRow_57 : decode cX3_beginRow 57 = .ok (.if_icmp .ge 65, 3) := by decide +kernel
theorem dX3_beginRow_60 : decode cX3_beginRow 60 = .ok (.aload_n 0, 1) := by decide +kernel
theorem dX3_beginRow_61 : decode cX3_beginRow 61 = .ok (.getfield 27, 3) := by decide +kernel
theorem dX3_beginRow_64 : decode cX3_beginRow 64 = .ok (.iload_n 3, 1) := by decide +kernel
theorem dX3_beginRow_65 : decode cX3_beginRow 65 = .ok (.invokevirtual 80, 3) := by decide +kernel
theorem dX3_beginRow_68 : decode cX3_beginRow 68 = .ok (.istore 4, 2) := by decide +kernel
theorem dX3_beginRow_70 : decode cX3_beginRow 70 = .ok (.iload 4, 2) := by decide +kernel
theorem dX3_beginRow_72 : decode cX3_beginRow 72 = .ok (.ifCond .lt 44, 3) := by decide +kernel
theorem dX3_beginRow_75 : decode cX3_beginRow 75 = .ok (.iload 4, 2) := by decide +kernel
theorem dX3_beginRow_77 : decode cX3_beginRow 77 = .ok (.iload_n 1, 1) := by decide +kernel
theorem dX3_beginRow_78 : decode cX3_beginRow 78 = .ok (.if_icmp .ge 38, 3) := by decide +kernel
theorem dX3_beginRow_81 : decode cX3_beginRow 81 = .ok (.aload_n 0, 1) := by decide +kernel
theorem dX3_beginRow_82 : decode cX3_beginRow 82 = .ok (.getfield 24, 3) := by decide +kernel
theorem dX3_beginRow_85 : decode cX3_beginRow 85 = .ok (.iload_n 2, 1) := by decide +kernel
theorem dX3_beginRow_86 : decode cX3_beginRow 86 = .ok (.iload_n 1, 1) := by decide +kernel
theorem dX3_beginRow_87 : decode cX3_beginRow 87 = .ok (.iadd, 1) := by decide +kernel
theorem dX3_beginRow_88 : decode cX3_beginRow 88 = .ok (.aload_n 0, 1) := by decide +kernel
theorem dX3_beginRow_89 : decode cX3_beginRow 89 = .ok (.getfield 24, 3) := by decide +kernel
theorem dX3_beginRow_92 : decode cX3_beginRow 92 = .ok (.iload_n 2, 1) := by decide +kernel
theorem dX3_beginRow_93 : decode cX3_beginRow 93 = .ok (.iload_n 1, 1) := by decide +kernel
theorem dX3_beginRow_94 : decode cX3_beginRow 94 = .ok (.iadd, 1) := by decide +kernel
theorem dX3_beginRow_95 : decode cX3_beginRow 95 = .ok (.iaload, 1) := by decide +kernel
theorem dX3_beginRow_96 : decode cX3_beginRow 96 = .ok (.aload_n 0, 1) := by decide +kernel
theorem dX3_beginRow_97 : decode cX3_beginRow 97 = .ok (.getfield 24, 3) := by decide +kernel
theorem dX3_beginRow_100 : decode cX3_beginRow 100 = .ok (.iload_n 2, 1) := by decide +kernel
theorem dX3_beginRow_101 : decode cX3_beginRow 101 = .ok (.iload 4, 2) := by decide +kernel
theorem dX3_beginRow_103 : decode cX3_beginRow 103 = .ok (.iadd, 1) := by decide +kernel
theorem dX3_beginRow_104 : decode cX3_beginRow 104 = .ok (.iaload, 1) := by decide +kernel
theorem dX3_beginRow_105 : decode cX3_beginRow 105 = .ok (.aload_n 0, 1) := by decide +kernel
theorem dX3_beginRow_106 : decode cX3_beginRow 106 = .ok (.getfield 21, 3) := by decide +kernel
theorem dX3_beginRow_109 : decode cX3_beginRow 109 = .ok (.iload_n 3, 1) := by decide +kernel
theorem dX3_beginRow_110 : decode cX3_beginRow 110 = .ok (.iaload, 1) := by decide +kernel
theorem dX3_beginRow_111 : decode cX3_beginRow 111 = .ok (.iadd, 1) := by decide +kernel
theorem dX3_beginRow_112 : decode cX3_beginRow 112 = .ok (.invokestatic 106, 3) := by decide +kernel
theorem dX3_beginRow_115 : decode cX3_beginRow 115 = .ok (.iastore, 1) := by decide +kernel
theorem dX3_beginRow_116 : decode cX3_beginRow 116 = .ok (.iinc 3 1, 3) := by decide +kernel
theorem dX3_beginRow_119 : decode cX3_beginRow 119 = .ok (.goto (-74), 3) := by decide +kernel
theorem dX3_beginRow_122 : decode cX3_beginRow 122 = .ok (.return_, 1) := by decide +kernel
set_option maxRecDepth 20000 in
set_option maxHeartbeats 4000000 in
theorem k_Sr_beginRow (l : Launch) (w : WT) (σ : MM) (a : Int) (i_a : inr a) (ha : 0 ≤ a ∧ a < σ 53 0) (hL : 0 < a → LeastS (σ 5) (σ 21) (a - 1) (fun l => σ 22 ((a - 1) * 8 + l))) (hB : ∀ l : Int, 0 ≤ l → l < a → σ 22 ((a - 1) * 8 + l) ≤ 160000 * a) : CT SX l w yX3_beginRow cX3_beginRow 5 none 2 42 [.ref (w.2.2 17), .int (iI a)] σ (PV fun σ1 => Mod [22] σ σ1 ∧ (∀ b : Int, b < a * 8 → σ1 22 b = σ 22 b) ∧ (Row0 (σ 5) (σ 21) a (fun l => σ1 22 (a * 8 + l))) ∧ (∀ l : Int, 0 ≤ l → l ≤ a → σ1 22 (a * 8 + l) ≤ 160000 * a + 1100)) := by
  refine CT.of 3 [some (.ref (w.2.2 17)), some (.int (iI a)), none, none, none] (by decide +kernel) (by simp [lg_sl, Value.category]) rfl sh_X (fun G hX => ?_)
  refine r_bd hX (fun hBd => ?_)
  have b_53 := hBd 53 0 8 rfl 0
  refine r_iload_n hX dX3_beginRow_0 rfl ?_
  refine r_bipush hX dX3_beginRow_1 (by decide) ?_
  refine r_imul hX dX3_beginRow_3 ?_
  refine r_istore_n hX (fun x4 => [some (.ref (w.2.2 17)), some (.int (iI a)), some (.int (iI x4)), none, none]) dX3_beginRow_4 (Nat.le_of_ble_eq_true rfl) rfl rfl (fun _ => rfl) (fun x4 e4 => ?_)
  refine r_iload_n hX dX3_beginRow_5 rfl ?_
  refine r_if_le hX (tgt := 32) dX3_beginRow_6 (by decide) (by omega) (fun c6 => ?_) (fun c6 => ?_)
  · skip
    refine r_aload_n hX dX3_beginRow_32 rfl ?_
    refine fg_X17_24 hX dX3_beginRow_33 ?_
    refine r_iload_n hX dX3_beginRow_36 rfl ?_
    refine r_iload_n hX dX3_beginRow_37 rfl ?_
    refine r_iadd hX dX3_beginRow_38 ?_
    refine r_iconst hX dX3_beginRow_39 ?_
    refine st_X22 hX dX3_beginRow_40 (by omega) (by omega) (by omega) (fun σ40 m40 s40 => ?_)
    have hrow : ∀ l : Int, 0 ≤ l → l < a → σ40 22 (a * 8 + l) = σ 22 ((a - 1) * 8 + l) := by
      first
        | exact fun l l0 l1 => by rw [s40, if_neg (by omega), s29, if_pos (by omega)]; exact congrArg (σ 22) (by omega)
        | exact fun l l0 l1 => by omega
    have hlow : ∀ b : Int, b < a * 8 → σ40 22 b = σ 22 b := by
      first
        | exact fun b b0 => by rw [s40, if_neg (by omega), s29, if_neg (by omega)]
        | exact fun b b0 => by rw [s40, if_neg (by omega)]
    have hz0 : σ40 22 (a * 8 + a) = 0 := by rw [s40, if_pos (by omega)]
    refine r_iconst hX dX3_beginRow_41 ?_
    refine r_iload_n hX dX3_beginRow_42 rfl ?_
    refine r_imul hX dX3_beginRow_43 ?_
    refine r_istore_n hX (fun x44 => [some (.ref (w.2.2 17)), some (.int (iI a)), some (.int (iI x4)), some (.int (iI x44)), none]) dX3_beginRow_44 (Nat.le_of_ble_eq_true rfl) rfl rfl (fun _ => rfl) (fun x44 e44 => ?_)
    have lp45 : ∀ (n : Nat) (p : Int) (σ45 : MM) (m45 : Mod [22] σ40 σ45) (hp : 2 * a ≤ p ∧ p ≤ 2 * a + 2) (hk : ∀ b : Int, b ≠ a * 8 + a → σ45 22 b = σ40 22 b) (hM : IsMax (fun s => 2 * a ≤ s ∧ 0 ≤ σ 5 s ∧ σ 5 s < a) (fun s => σ40 22 (a * 8 + σ 5 s) + σ 21 s) p 0 (σ45 22 (a * 8 + a))) (hb : σ45 22 (a * 8 + a) ≤ 160000 * a + 1100) (hmu : 17 - p < (n : Int)), G 45 [some (.ref (w.2.2 17)), some (.int (iI a)), some (.int (iI x4)), some (.int (iI p)), none] [] σ45 := by
      intro n
      induction n with
      | zero => intro p σ45 m45 hp hk hM hb hmu; omega
      | succ n ih =>
        intro p σ45 m45 hp hk hM hb hmu
        have ih45 := ih
        clear ih
        refine r_iload_n hX dX3_beginRow_45 rfl ?_
        refine r_iconst hX dX3_beginRow_46 ?_
        refine r_iload_n hX dX3_beginRow_47 rfl ?_
        refine r_imul hX dX3_beginRow_48 ?_
        refine r_iconst hX dX3_beginRow_49 ?_
        refine r_iadd hX dX3_beginRow_50 ?_
        refine r_icmp_ge hX (tgt := 122) dX3_beginRow_51 (by decide) (by omega) (by omega) (fun c51 => ?_) (fun c51 => ?_)
        · skip
          exact r_ret hX dX3_beginRow_122 rfl ⟨rfl, ⟨(Mod.tr (L := [22]) m40 m45 rfl rfl), (by intro b b0; rw [hk b (by omega)]; exact hlow b b0), (by exact row0_fin ha.1 hL hrow hk hM (by omega)), (fun l l0 l1 => by
    by_cases e : l = a
    · rw [e]; exact hb
    · rw [hk _ (by omega), hrow l l0 (by omega)]; have := hB l l0 (by omega); omega)⟩⟩
        · skip
          refine r_iload_n hX dX3_beginRow_54 rfl ?_
          refine r_bipush hX dX3_beginRow_55 (by decide) ?_
          refine r_icmp_ge hX (tgt := 122) dX3_beginRow_57 (by decide) (by omega) (by omega) (fun c57 => ?_) (fun c57 => ?_)
          · skip
            exact r_ret hX dX3_beginRow_122 rfl ⟨rfl, ⟨(Mod.tr (L := [22]) m40 m45 rfl rfl), (by intro b b0; rw [hk b (by omega)]; exact hlow b b0), (by exact row0_fin ha.1 hL hrow hk hM (by omega)), (fun l l0 l1 => by
    by_cases e : l = a
    · rw [e]; exact hb
    · rw [hk _ (by omega), hrow l l0 (by omega)]; have := hB l l0 (by omega); omega)⟩⟩
          · skip
            refine r_aload_n hX dX3_beginRow_60 rfl ?_
            refine fg_X17_27 hX dX3_beginRow_61 ?_
            refine r_iload_n hX dX3_beginRow_64 rfl ?_
            refine r_callV hX dX3_beginRow_65 (k_Lp_sourceOf l w σ45 _ (by omega)) mf_X2_sourceOf mv_X2_sourceOf lk_RX3_80 rfl rfl rfl rfl rfl ⟨Nat.le_of_ble_eq_true rfl, Nat.le_of_ble_eq_true rfl⟩ (Nat.le_of_ble_eq_true rfl) (kI fun z65 σ65 hh => ?_)
            obtain ⟨rfl, h65_0, h65_1⟩ := hh
            have q65_1 : σ45 5 = σ 5 := ((m45.at 5 rfl).trans (m40.at 5 rfl))
            have q65_2 : σ45 53 = σ 53 := ((m45.at 53 rfl).trans (m40.at 53 rfl))
            try simp only [q65_1, q65_2] at h65_0
            refine r_istore hX (fun x68 => [some (.ref (w.2.2 17)), some (.int (iI a)), some (.int (iI x4)), some (.int (iI p)), some (.int (iI x68))]) dX3_beginRow_68 (Nat.le_of_ble_eq_true rfl) rfl rfl (fun _ => rfl) (fun x68 e68 => ?_)
            refine r_iload hX dX3_beginRow_70 rfl ?_
            refine r_if_lt hX (tgt := 116) dX3_beginRow_72 (by decide) (by omega) (fun c72 => ?_) (fun c72 => ?_)
            · skip
              refine r_iinc hX (fun x116 => [some (.ref (w.2.2 17)), some (.int (iI a)), some (.int (iI x4)), some (.int (iI x116)), some (.int (iI x68))]) dX3_beginRow_116 rfl rfl rfl (fun _ => rfl) (fun x116 e116 => ?_)
              refine r_goto hX dX3_beginRow_119 (tgt := 45) (by decide) ?_
              refine r_wk hX (lv1 := [some (.ref (w.2.2 17)), some (.int (iI a)), some (.int (iI x4)), some (.int (iI x116)), none]) ⟨rfl, ⟨rfl, ⟨rfl, ⟨rfl, trivial⟩⟩⟩⟩ ?_
              exact ih45 x116 σ45 (m45.w rfl) (by omega) (by first | exact hk | exact fun b b0 => by rw [s115, if_neg (by omega)]; exact hk b b0) (by first | exact hM.skip (fun q => by have q1 := q.2.1; have q2 := q.2.2; omega) e116 | (rw [s115, if_pos (by omega)]; exact hM.take (by omega) ⟨by omega, by omega, by omega⟩ (by omega) e116)) (by first | exact hb | (rw [s115, if_pos (by omega)]; omega)) (by omega)
            · skip
              refine r_iload hX dX3_beginRow_75 rfl ?_
              refine r_iload_n hX dX3_beginRow_77 rfl ?_
              refine r_icmp_ge hX (tgt := 116) dX3_beginRow_78 (by decide) (by omega) (by omega) (fun c78 => ?_) (fun c78 => ?_)
              · skip
                refine r_iinc hX (fun x116 => [some (.ref (w.2.2 17)), some (.int (iI a)), some (.int (iI x4)), some (.int (iI x116)), some (.int (iI x68))]) dX3_beginRow_116 rfl rfl rfl (fun _ => rfl) (fun x116 e116 => ?_)
                refine r_goto hX dX3_beginRow_119 (tgt := 45) (by decide) ?_
                refine r_wk hX (lv1 := [some (.ref (w.2.2 17)), some (.int (iI a)), some (.int (iI x4)), some (.int (iI x116)), none]) ⟨rfl, ⟨rfl, ⟨rfl, ⟨rfl, trivial⟩⟩⟩⟩ ?_
                exact ih45 x116 σ45 (m45.w rfl) (by omega) (by first | exact hk | exact fun b b0 => by rw [s115, if_neg (by omega)]; exact hk b b0) (by first | exact hM.skip (fun q => by have q1 := q.2.1; have q2 := q.2.2; omega) e116 | (rw [s115, if_pos (by omega)]; exact hM.take (by omega) ⟨by omega, by omega, by omega⟩ (by omega) e116)) (by first | exact hb | (rw [s115, if_pos (by omega)]; omega)) (by omega)
              · skip
                have hx1 : σ45 22 (x4 + x68) = σ40 22 (a * 8 + σ 5 p) := by rw [hk _ (by omega)]; exact congrArg (σ40 22) (by omega)
                have hx2 := hrow (σ 5 p) (by omega) (by omega)
                have hx3 := hB (σ 5 p) (by omega) (by omega)
                have hx4 : σ45 22 (x4 + a) = σ45 22 (a * 8 + a) := congrArg (σ45 22) (by omega)
                have hx0 := hM.1
                refine r_aload_n hX dX3_beginRow_81 rfl ?_
                refine fg_X17_24 hX dX3_beginRow_82 ?_
                refine r_iload_n hX dX3_beginRow_85 rfl ?_
                refine r_iload_n hX dX3_beginRow_86 rfl ?_
                refine r_iadd hX dX3_beginRow_87 ?_
                refine r_aload_n hX dX3_beginRow_88 rfl ?_
                refine fg_X17_24 hX dX3_beginRow_89 ?_
                refine r_iload_n hX dX3_beginRow_92 rfl ?_
                refine r_iload_n hX dX3_beginRow_93 rfl ?_
                refine r_iadd hX dX3_beginRow_94 ?_
                refine ld_X22 hX dX3_beginRow_95 (by omega) (by omega) (fun b95l b95u => ?_)
                refine r_aload_n hX dX3_beginRow_96 rfl ?_
                refine fg_X17_24 hX dX3_beginRow_97 ?_
                refine r_iload_n hX dX3_beginRow_100 rfl ?_
                refine r_iload hX dX3_beginRow_101 rfl ?_
                refine r_iadd hX dX3_beginRow_103 ?_
                refine ld_X22 hX dX3_beginRow_104 (by omega) (by omega) (fun b104l b104u => ?_)
                refine r_aload_n hX dX3_beginRow_105 rfl ?_
                refine fg_X17_21 hX dX3_beginRow_106 ?_
                refine r_iload_n hX dX3_beginRow_109 rfl ?_
                refine ld_X21 hX dX3_beginRow_110 (by omega) (by omega) (fun b110l b110u => ?_)
                have q110 : σ45 21 = σ 21 := ((m45.at 21 rfl).trans (m40.at 21 rfl))
                rw [q110]
                rw [q110] at b110l b110u
                refine r_iadd hX dX3_beginRow_111 ?_
                refine r_max hX dX3_beginRow_112 lq_RX3_106 ma_max_s ma_i ma_max_c (Nat.le_of_ble_eq_true rfl) (Nat.le_of_ble_eq_true rfl) (fun z112 h112 => ?_)
                rw [iI_lt (by omega) (by omega)] at h112
                refine st_X22 hX dX3_beginRow_115 (by omega) (by omega) (by omega) (fun σ115 m115 s115 => ?_)
                refine r_iinc hX (fun x116 => [some (.ref (w.2.2 17)), some (.int (iI a)), some (.int (iI x4)), some (.int (iI x116)), some (.int (iI x68))]) dX3_beginRow_116 rfl rfl rfl (fun _ => rfl) (fun x116 e116 => ?_)
                refine r_goto hX dX3_beginRow_119 (tgt := 45) (by decide) ?_
                refine r_wk hX (lv1 := [some (.ref (w.2.2 17)), some (.int (iI a)), some (.int (iI x4)), some (.int (iI x116)), none]) ⟨rfl, ⟨rfl, ⟨rfl, ⟨rfl, trivial⟩⟩⟩⟩ ?_
                exact ih45 x116 σ115 (Mod.tr (L := [22]) m45 m115 rfl rfl) (by omega) (by first | exact hk | exact fun b b0 => by rw [s115, if_neg (by omega)]; exact hk b b0) (by first | exact hM.skip (fun q => by have q1 := q.2.1; have q2 := q.2.2; omega) e116 | (rw [s115, if_pos (by omega)]; exact hM.take (by omega) ⟨by omega, by omega, by omega⟩ (by omega) e116)) (by first | exact hb | (rw [s115, if_pos (by omega)]; omega)) (by omega)
    exact lp45 ((17 - (x44)) + 1).toNat x44 σ40 Mod.rf (by omega) (fun b _ => rfl) (by rw [hz0, e44]; exact IsMax.none (fun s s0 s1 q => by have := q.1; omega)) (by rw [hz0]; omega) (by omega)
  · skip
    refine r_iload_n hX dX3_beginRow_9 rfl ?_
    refine r_bipush hX dX3_beginRow_10 (by decide) ?_
    refine r_icmp_ge hX (tgt := 32) dX3_beginRow_12 (by decide) (by omega) (by omega) (fun c12 => ?_) (fun c12 => ?_)
    · exfalso; omega
    · skip
      refine r_aload_n hX dX3_beginRow_15 rfl ?_
      refine fg_X17_24 hX dX3_beginRow_16 ?_
      refine r_iload_n hX dX3_beginRow_19 rfl ?_
      refine r_bipush hX dX3_beginRow_20 (by decide) ?_
      refine r_isub hX dX3_beginRow_22 ?_
      refine r_aload_n hX dX3_beginRow_23 rfl ?_
      refine fg_X17_24 hX dX3_beginRow_24 ?_
      refine r_iload_n hX dX3_beginRow_27 rfl ?_
      refine r_iload_n hX dX3_beginRow_28 rfl ?_
      refine r_copy hX dX3_beginRow_29 lk_RX3_100 ac_n ac_s ac_i (i := 22) (r := 22) rfl sp_X22 (by omega) (by omega) (by omega) (by omega) (by omega) (Nat.le_of_ble_eq_true rfl) (Nat.le_of_ble_eq_true rfl) (fun σ29 m29 s29 => ?_)
      refine r_aload_n hX dX3_beginRow_32 rfl ?_
      refine fg_X17_24 hX dX3_beginRow_33 ?_
      refine r_iload_n hX dX3_beginRow_36 rfl ?_
      refine r_iload_n hX dX3_beginRow_37 rfl ?_
      refine r_iadd hX dX3_beginRow_38 ?_
      refine r_iconst hX dX3_beginRow_39 ?_
      refine st_X22 hX dX3_beginRow_40 (by omega) (by omega) (by omega) (fun σ40 m40 s40 => ?_)
      have hrow : ∀ l : Int, 0 ≤ l → l < a → σ40 22 (a * 8 + l) = σ 22 ((a - 1) * 8 + l) := by
        first
          | exact fun l l0 l1 => by rw [s40, if_neg (by omega), s29, if_pos (by omega)]; exact congrArg (σ 22) (by omega)
          | exact fun l l0 l1 => by omega
      have hlow : ∀ b : Int, b < a * 8 → σ40 22 b = σ 22 b := by
        first
          | exact fun b b0 => by rw [s40, if_neg (by omega), s29, if_neg (by omega)]
          | exact fun b b0 => by rw [s40, if_neg (by omega)]
      have hz0 : σ40 22 (a * 8 + a) = 0 := by rw [s40, if_pos (by omega)]
      refine r_iconst hX dX3_beginRow_41 ?_
      refine r_iload_n hX dX3_beginRow_42 rfl ?_
      refine r_imul hX dX3_beginRow_43 ?_
      refine r_istore_n hX (fun x44 => [some (.ref (w.2.2 17)), some (.int (iI a)), some (.int (iI x4)), some (.int (iI x44)), none]) dX3_beginRow_44 (Nat.le_of_ble_eq_true rfl) rfl rfl (fun _ => rfl) (fun x44 e44 => ?_)
      have lp45 : ∀ (n : Nat) (p : Int) (σ45 : MM) (m45 : Mod [22] σ40 σ45) (hp : 2 * a ≤ p ∧ p ≤ 2 * a + 2) (hk : ∀ b : Int, b ≠ a * 8 + a → σ45 22 b = σ40 22 b) (hM : IsMax (fun s => 2 * a ≤ s ∧ 0 ≤ σ 5 s ∧ σ 5 s < a) (fun s => σ40 22 (a * 8 + σ 5 s) + σ 21 s) p 0 (σ45 22 (a * 8 + a))) (hb : σ45 22 (a * 8 + a) ≤ 160000 * a + 1100) (hmu : 17 - p < (n : Int)), G 45 [some (.ref (w.2.2 17)), some (.int (iI a)), some (.int (iI x4)), some (.int (iI p)), none] [] σ45 := by
        intro n
        induction n with
        | zero => intro p σ45 m45 hp hk hM hb hmu; omega
        | succ n ih =>
          intro p σ45 m45 hp hk hM hb hmu
          have ih45 := ih
          clear ih
          refine r_iload_n hX dX3_beginRow_45 rfl ?_
          refine r_iconst hX dX3_beginRow_46 ?_
          refine r_iload_n hX dX3_beginRow_47 rfl ?_
          refine r_imul hX dX3_beginRow_48 ?_
          refine r_iconst hX dX3_beginRow_49 ?_
          refine r_iadd hX dX3_beginRow_50 ?_
          refine r_icmp_ge hX (tgt := 122) dX3_beginRow_51 (by decide) (by omega) (by omega) (fun c51 => ?_) (fun c51 => ?_)
          · skip
            exact r_ret hX dX3_beginRow_122 rfl ⟨rfl, ⟨(Mod.tr (L := [22]) (Mod.tr (L := [22]) m29 m40 rfl rfl) m45 rfl rfl), (by intro b b0; rw [hk b (by omega)]; exact hlow b b0), (by exact row0_fin ha.1 hL hrow hk hM (by omega)), (fun l l0 l1 => by
    by_cases e : l = a
    · rw [e]; exact hb
    · rw [hk _ (by omega), hrow l l0 (by omega)]; have := hB l l0 (by omega); omega)⟩⟩
          · skip
            refine r_iload_n hX dX3_beginRow_54 rfl ?_
            refine r_bipush hX dX3_beginRow_55 (by decide) ?_
            refine r_icmp_ge hX (tgt := 122) dX3_beginRow_57 (by decide) (by omega) (by omega) (fun c57 => ?_) (fun c57 => ?_)
            · skip
              exact r_ret hX dX3_beginRow_122 rfl ⟨rfl, ⟨(Mod.tr (L := [22]) (Mod.tr (L := [22]) m29 m40 rfl rfl) m45 rfl rfl), (by intro b b0; rw [hk b (by omega)]; exact hlow b b0), (by exact row0_fin ha.1 hL hrow hk hM (by omega)), (fun l l0 l1 => by
    by_cases e : l = a
    · rw [e]; exact hb
    · rw [hk _ (by omega), hrow l l0 (by omega)]; have := hB l l0 (by omega); omega)⟩⟩
            · skip
              refine r_aload_n hX dX3_beginRow_60 rfl ?_
              refine fg_X17_27 hX dX3_beginRow_61 ?_
              refine r_iload_n hX dX3_beginRow_64 rfl ?_
              refine r_callV hX dX3_beginRow_65 (k_Lp_sourceOf l w σ45 _ (by omega)) mf_X2_sourceOf mv_X2_sourceOf lk_RX3_80 rfl rfl rfl rfl rfl ⟨Nat.le_of_ble_eq_true rfl, Nat.le_of_ble_eq_true rfl⟩ (Nat.le_of_ble_eq_true rfl) (kI fun z65 σ65 hh => ?_)
              obtain ⟨rfl, h65_0, h65_1⟩ := hh
              have q65_3 : σ45 5 = σ 5 := ((m45.at 5 rfl).trans ((m40.at 5 rfl).trans (m29.at 5 rfl)))
              have q65_4 : σ45 53 = σ 53 := ((m45.at 53 rfl).trans ((m40.at 53 rfl).trans (m29.at 53 rfl)))
              try simp only [q65_3, q65_4] at h65_0
              refine r_istore hX (fun x68 => [some (.ref (w.2.2 17)), some (.int (iI a)), some (.int (iI x4)), some (.int (iI p)), some (.int (iI x68))]) dX3_beginRow_68 (Nat.le_of_ble_eq_true rfl) rfl rfl (fun _ => rfl) (fun x68 e68 => ?_)
              refine r_iload hX dX3_beginRow_70 rfl ?_
              refine r_if_lt hX (tgt := 116) dX3_beginRow_72 (by decide) (by omega) (fun c72 => ?_) (fun c72 => ?_)
              · skip
                refine r_iinc hX (fun x116 => [some (.ref (w.2.2 17)), some (.int (iI a)), some (.int (iI x4)), some (.int (iI x116)), some (.int (iI x68))]) dX3_beginRow_116 rfl rfl rfl (fun _ => rfl) (fun x116 e116 => ?_)
                refine r_goto hX dX3_beginRow_119 (tgt := 45) (by decide) ?_
                refine r_wk hX (lv1 := [some (.ref (w.2.2 17)), some (.int (iI a)), some (.int (iI x4)), some (.int (iI x116)), none]) ⟨rfl, ⟨rfl, ⟨rfl, ⟨rfl, trivial⟩⟩⟩⟩ ?_
                exact ih45 x116 σ45 (m45.w rfl) (by omega) (by first | exact hk | exact fun b b0 => by rw [s115, if_neg (by omega)]; exact hk b b0) (by first | exact hM.skip (fun q => by have q1 := q.2.1; have q2 := q.2.2; omega) e116 | (rw [s115, if_pos (by omega)]; exact hM.take (by omega) ⟨by omega, by omega, by omega⟩ (by omega) e116)) (by first | exact hb | (rw [s115, if_pos (by omega)]; omega)) (by omega)
              · skip
                refine r_iload hX dX3_beginRow_75 rfl ?_
                refine r_iload_n hX dX3_beginRow_77 rfl ?_
                refine r_icmp_ge hX (tgt := 116) dX3_beginRow_78 (by decide) (by omega) (by omega) (fun c78 => ?_) (fun c78 => ?_)
                · skip
                  refine r_iinc hX (fun x116 => [some (.ref (w.2.2 17)), some (.int (iI a)), some (.int (iI x4)), some (.int (iI x116)), some (.int (iI x68))]) dX3_beginRow_116 rfl rfl rfl (fun _ => rfl) (fun x116 e116 => ?_)
                  refine r_goto hX dX3_beginRow_119 (tgt := 45) (by decide) ?_
                  refine r_wk hX (lv1 := [some (.ref (w.2.2 17)), some (.int (iI a)), some (.int (iI x4)), some (.int (iI x116)), none]) ⟨rfl, ⟨rfl, ⟨rfl, ⟨rfl, trivial⟩⟩⟩⟩ ?_
                  exact ih45 x116 σ45 (m45.w rfl) (by omega) (by first | exact hk | exact fun b b0 => by rw [s115, if_neg (by omega)]; exact hk b b0) (by first | exact hM.skip (fun q => by have q1 := q.2.1; have q2 := q.2.2; omega) e116 | (rw [s115, if_pos (by omega)]; exact hM.take (by omega) ⟨by omega, by omega, by omega⟩ (by omega) e116)) (by first | exact hb | (rw [s115, if_pos (by omega)]; omega)) (by omega)
                · skip
                  have hx1 : σ45 22 (x4 + x68) = σ40 22 (a * 8 + σ 5 p) := by rw [hk _ (by omega)]; exact congrArg (σ40 22) (by omega)
                  have hx2 := hrow (σ 5 p) (by omega) (by omega)
                  have hx3 := hB (σ 5 p) (by omega) (by omega)
                  have hx4 : σ45 22 (x4 + a) = σ45 22 (a * 8 + a) := congrArg (σ45 22) (by omega)
                  have hx0 := hM.1
                  refine r_aload_n hX dX3_beginRow_81 rfl ?_
                  refine fg_X17_24 hX dX3_beginRow_82 ?_
                  refine r_iload_n hX dX3_beginRow_85 rfl ?_
                  refine r_iload_n hX dX3_beginRow_86 rfl ?_
                  refine r_iadd hX dX3_beginRow_87 ?_
                  refine r_aload_n hX dX3_beginRow_88 rfl ?_
                  refine fg_X17_24 hX dX3_beginRow_89 ?_
                  refine r_iload_n hX dX3_beginRow_92 rfl ?_
                  refine r_iload_n hX dX3_beginRow_93 rfl ?_
                  refine r_iadd hX dX3_beginRow_94 ?_
                  refine ld_X22 hX dX3_beginRow_95 (by omega) (by omega) (fun b95l b95u => ?_)
                  refine r_aload_n hX dX3_beginRow_96 rfl ?_
                  refine fg_X17_24 hX dX3_beginRow_97 ?_
                  refine r_iload_n hX dX3_beginRow_100 rfl ?_
                  refine r_iload hX dX3_beginRow_101 rfl ?_
                  refine r_iadd hX dX3_beginRow_103 ?_
                  refine ld_X22 hX dX3_beginRow_104 (by omega) (by omega) (fun b104l b104u => ?_)
                  refine r_aload_n hX dX3_beginRow_105 rfl ?_
                  refine fg_X17_21 hX dX3_beginRow_106 ?_
                  refine r_iload_n hX dX3_beginRow_109 rfl ?_
                  refine ld_X21 hX dX3_beginRow_110 (by omega) (by omega) (fun b110l b110u => ?_)
                  have q110 : σ45 21 = σ 21 := ((m45.at 21 rfl).trans ((m40.at 21 rfl).trans (m29.at 21 rfl)))
                  rw [q110]
                  rw [q110] at b110l b110u
                  refine r_iadd hX dX3_beginRow_111 ?_
                  refine r_max hX dX3_beginRow_112 lq_RX3_106 ma_max_s ma_i ma_max_c (Nat.le_of_ble_eq_true rfl) (Nat.le_of_ble_eq_true rfl) (fun z112 h112 => ?_)
                  rw [iI_lt (by omega) (by omega)] at h112
                  refine st_X22 hX dX3_beginRow_115 (by omega) (by omega) (by omega) (fun σ115 m115 s115 => ?_)
                  refine r_iinc hX (fun x116 => [some (.ref (w.2.2 17)), some (.int (iI a)), some (.int (iI x4)), some (.int (iI x116)), some (.int (iI x68))]) dX3_beginRow_116 rfl rfl rfl (fun _ => rfl) (fun x116 e116 => ?_)
                  refine r_goto hX dX3_beginRow_119 (tgt := 45) (by decide) ?_
                  refine r_wk hX (lv1 := [some (.ref (w.2.2 17)), some (.int (iI a)), some (.int (iI x4)), some (.int (iI x116)), none]) ⟨rfl, ⟨rfl, ⟨rfl, ⟨rfl, trivial⟩⟩⟩⟩ ?_
                  exact ih45 x116 σ115 (Mod.tr (L := [22]) m45 m115 rfl rfl) (by omega) (by first | exact hk | exact fun b b0 => by rw [s115, if_neg (by omega)]; exact hk b b0) (by first | exact hM.skip (fun q => by have q1 := q.2.1; have q2 := q.2.2; omega) e116 | (rw [s115, if_pos (by omega)]; exact hM.take (by omega) ⟨by omega, by omega, by omega⟩ (by omega) e116)) (by first | exact hb | (rw [s115, if_pos (by omega)]; omega)) (by omega)
      exact lp45 ((17 - (x44)) + 1).toNat x44 σ40 Mod.rf (by omega) (fun b _ => rfl) (by rw [hz0, e44]; exact IsMax.none (fun s s0 s1 q => by have := q.1; omega)) (by rw [hz0]; omega) (by omega)
theorem dX3_turnsSettle_0 : decode cX3_turnsSettle 0 = .ok (.iload_n 1, 1) := by decide +kernel
theorem dX3_turnsSettle_1 : decode cX3_turnsSettle 1 = .ok (.bipush 8, 2) := by decide +kernel
theorem dX3_turnsSettle_3 : decode cX3_turnsSettle 3 = .ok (.imul, 1) := by decide +kernel
theorem dX3_turnsSettle_4 : decode cX3_turnsSettle 4 = .ok (.istore_n 2, 1) := by decide +kernel
theorem dX3_turnsSettle_5 : decode cX3_turnsSettle 5 = .ok (.aload_n 0, 1) := by decide +kernel
theorem dX3_turnsSettle_6 : decode cX3_turnsSettle 6 = .ok (.iload_n 1, 1) := by decide +kernel
theorem dX3_turnsSettle_7 : decode cX3_turnsSettle 7 = .ok (.invokevirtual 96, 3) := by decide +kernel
theorem dX3_turnsSettle_10 : decode cX3_turnsSettle 10 = .ok (.iconst 0, 1) := by decide +kernel
theorem dX3_turnsSettle_11 : decode cX3_turnsSettle 11 = .ok (.istore_n 3, 1) := by decide +kernel
theorem dX3_turnsSettle_12 : decode cX3_turnsSettle 12 = .ok (.iload_n 3, 1) := by decide +kernel
theorem dX3_turnsSettle_13 : decode cX3_turnsSettle 13 = .ok (.iload_n 1, 1) := by decide +kernel
theorem dX3_turnsSettle_14 : decode cX3_turnsSettle 14 = .ok (.iconst 1, 1) := by decide +kernel
theorem dX3_turnsSettle_15 : decode cX3_turnsSettle 15 = .ok (.iadd, 1) := by decide +kernel
theorem dX3_turnsSettle_16 : decode cX3_turnsSettle 16 = .ok (.if_icmp .gt 139, 3) := by decide +kernel
theorem dX3_turnsSettle_19 : decode cX3_turnsSettle 19 = .ok (.iconst 0, 1) := by decide +kernel
theorem dX3_turnsSettle_20 : decode cX3_turnsSettle 20 = .ok (.istore 4, 2) := by decide +kernel
theorem dX3_turnsSettle_22 : decode cX3_turnsSettle 22 = .ok (.iconst 0, 1) := by decide +kernel
theorem dX3_turnsSettle_23 : decode cX3_turnsSettle 23 = .ok (.istore 5, 2) := by decide +kernel
theorem dX3_turnsSettle_25 : decode cX3_turnsSettle 25 = .ok (.iload 5, 2) := by decide +kernel
theorem dX3_turnsSettle_27 : decode cX3_turnsSettle 27 = .ok (.iconst 2, 1) := by decide +kernel
theorem dX3_turnsSettle_28 : decode cX3_turnsSettle 28 = .ok (.iload_n 1, 1) := by decide +kernel
theorem dX3_turnsSettle_29 : decode cX3_turnsSettle 29 = .ok (.imul, 1) := by decide +kernel
theorem dX3_turnsSettle_30 : decode cX3_turnsSettle 30 = .ok (.iconst 2, 1) := by decide +kernel
theorem dX3_turnsSettle_31 : decode cX3_turnsSettle 31 = .ok (.iadd, 1) := by decide +kernel
theorem dX3_turnsSettle_32 : decode cX3_turnsSettle 32 = .ok (.if_icmp .ge 110, 3) := by decide +kernel
theorem dX3_turnsSettle_35 : decode cX3_turnsSettle 35 = .ok (.iload 5, 2) := by decide +kernel
theorem dX3_turnsSettle_37 : decode cX3_turnsSettle 37 = .ok (.bipush 16, 2) := by decide +kernel
theorem dX3_turnsSettle_39 : decode cX3_turnsSettle 39 = .ok (.if_icmp .ge 103, 3) := by decide +kernel
theorem dX3_turnsSettle_42 : decode cX3_turnsSettle 42 = .ok (.aload_n 0, 1) := by decide +kernel
theorem dX3_turnsSettle_43 : decode cX3_turnsSettle 43 = .ok (.getfield 27, 3) := by decide +kernel
theorem dX3_turnsSettle_46 : decode cX3_turnsSettle 46 = .ok (.iload 5, 2) := by decide +kernel
theorem dX3_turnsSettle_48 : decode cX3_turnsSettle 48 = .ok (.invokevirtual 80, 3) := by decide +kernel
theorem dX3_turnsSettle_51 : decode cX3_turnsSettle 51 = .ok (.istore 6, 2) := by decide +kernel
theorem dX3_turnsSettle_53 : decode cX3_turnsSettle 53 = .ok (.iload 5, 2) := by decide +kernel
theorem dX3_turnsSettle_55 : decode cX3_turnsSettle 55 = .ok (.iconst 2, 1) := by decide +kernel
theorem dX3_turnsSettle_56 : decode cX3_turnsSettle 56 = .ok (.idiv, 1) := by decide +kernel
theorem dX3_turnsSettle_57 : decode cX3_turnsSettle 57 = .ok (.istore 7, 2) := by decide +kernel
theorem dX3_turnsSettle_59 : decode cX3_turnsSettle 59 = .ok (.iload 6, 2) := by decide +kernel
theorem dX3_turnsSettle_61 : decode cX3_turnsSettle 61 = .ok (.ifCond .lt 75, 3) := by decide +kernel
theorem dX3_turnsSettle_64 : decode cX3_turnsSettle 64 = .ok (.iload 6, 2) := by decide +kernel
theorem dX3_turnsSettle_66 : decode cX3_turnsSettle 66 = .ok (.iload_n 1, 1) := by decide +kernel
theorem dX3_turnsSettle_67 : decode cX3_turnsSettle 67 = .ok (.if_icmp .gt 69, 3) := by decide +kernel
theorem dX3_turnsSettle_70 : decode cX3_turnsSettle 70 = .ok (.aload_n 0, 1) := by decide +kernel
theorem dX3_turnsSettle_71 : decode cX3_turnsSettle 71 = .ok (.getfield 24, 3) := by decide +kernel
theorem dX3_turnsSettle_74 : decode cX3_turnsSettle 74 = .ok (.iload_n 2, 1) := by decide +kernel
theorem dX3_turnsSettle_75 : decode cX3_turnsSettle 75 = .ok (.iload 6, 2) := by decide +kernel
theorem dX3_turnsSettle_77 : decode cX3_turnsSettle 77 = .ok (.iadd, 1) := by decide +kernel
theorem dX3_turnsSettle_78 : decode cX3_turnsSettle 78 = .ok (.iaload, 1) := by decide +kernel
theorem dX3_turnsSettle_79 : decode cX3_turnsSettle 79 = .ok (.aload_n 0, 1) := by decide +kernel
theorem dX3_turnsSettle_80 : decode cX3_turnsSettle 80 = .ok (.getfield 21, 3) := by decide +kernel
theorem dX3_turnsSettle_83 : decode cX3_turnsSettle 83 = .ok (.iload 5, 2) := by decide +kernel
theorem dX3_turnsSettle_85 : decode cX3_turnsSettle 85 = .ok (.iaload, 1) := by decide +kernel
theorem dX3_turnsSettle_86 : decode cX3_turnsSettle 86 = .ok (.iadd, 1) := by decide +kernel
theorem dX3_turnsSettle_87 : decode cX3_turnsSettle 87 = .ok (.aload_n 0, 1) := by decide +kernel
theorem dX3_turnsSettle_88 : decode cX3_turnsSettle 88 = .ok (.getfield 24, 3) := by decide +kernel
theorem dX3_turnsSettle_91 : decode cX3_turnsSettle 91 = .ok (.iload_n 2, 1) := by decide +kernel
theorem dX3_turnsSettle_92 : decode cX3_turnsSettle 92 = .ok (.iload 7, 2) := by decide +kernel
theorem dX3_turnsSettle_94 : decode cX3_turnsSettle 94 = .ok (.iadd, 1) := by decide +kernel
theorem dX3_turnsSettle_95 : decode cX3_turnsSettle 95 = .ok (.iaload, 1) := by decide +kernel
theorem dX3_turnsSettle_96 : decode cX3_turnsSettle 96 = .ok (.if_icmp .le 40, 3) := by decide +kernel
theorem dX3_turnsSettle_99 : decode cX3_turnsSettle 99 = .ok (.iload 7, 2) := by decide +kernel
theorem dX3_turnsSettle_101 : decode cX3_turnsSettle 101 = .ok (.iload_n 1, 1) := by decide +kernel
theorem dX3_turnsSettle_102 : decode cX3_turnsSettle 102 = .ok (.if_icmp .ne 5, 3) := by decide +kernel
theorem dX3_turnsSettle_105 : decode cX3_turnsSettle 105 = .ok (.iconst 0, 1) := by decide +kernel
theorem dX3_turnsSettle_106 : decode cX3_turnsSettle 106 = .ok (.ireturn, 1) := by decide +kernel
theorem dX3_turnsSettle_107 : decode cX3_turnsSettle 107 = .ok (.aload_n 0, 1) := by decide +kernel
theorem dX3_turnsSettle_108 : decode cX3_turnsSettle 108 = .ok (.getfield 24, 3) := by decide +kernel
theorem dX3_turnsSettle_111 : decode cX3_turnsSettle 111 = .ok (.iload_n 2, 1) := by decide +kernel
theorem dX3_turnsSettle_112 : decode cX3_turnsSettle 112 = .ok (.iload 7, 2) := by decide +kernel
theorem dX3_turnsSettle_114 : decode cX3_turnsSettle 114 = .ok (.iadd, 1) := by decide +kernel
theorem dX3_turnsSettle_115 : decode cX3_turnsSettle 115 = .ok (.aload_n 0, 1) := by decide +kernel
theorem dX3_turnsSettle_116 : decode cX3_turnsSettle 116 = .ok (.getfield 24, 3) := by decide +kernel
theorem dX3_turnsSettle_119 : decode cX3_turnsSettle 119 = .ok (.iload_n 2, 1) := by decide +kernel
theorem dX3_turnsSettle_120 : decode cX3_turnsSettle 120 = .ok (.iload 6, 2) := by decide +kernel
theorem dX3_turnsSettle_122 : decode cX3_turnsSettle 122 = .ok (.iadd, 1) := by decide +kernel
theorem dX3_turnsSettle_123 : decode cX3_turnsSettle 123 = .ok (.iaload, 1) := by decide +kernel
theorem dX3_turnsSettle_124 : decode cX3_turnsSettle 124 = .ok (.aload_n 0, 1) := by decide +kernel
theorem dX3_turnsSettle_125 : decode cX3_turnsSettle 125 = .ok (.getfield 21, 3) := by decide +kernel
theorem dX3_turnsSettle_128 : decode cX3_turnsSettle 128 = .ok (.iload 5, 2) := by decide +kernel
theorem dX3_turnsSettle_130 : decode cX3_turnsSettle 130 = .ok (.iaload, 1) := by decide +kernel
theorem dX3_turnsSettle_131 : decode cX3_turnsSettle 131 = .ok (.iadd, 1) := by decide +kernel
theorem dX3_turnsSettle_132 : decode cX3_turnsSettle 132 = .ok (.iastore, 1) := by decide +kernel
theorem dX3_turnsSettle_133 : decode cX3_turnsSettle 133 = .ok (.iconst 1, 1) := by decide +kernel
theorem dX3_turnsSettle_134 : decode cX3_turnsSettle 134 = .ok (.istore 4, 2) := by decide +kernel
theorem dX3_turnsSettle_136 : decode cX3_turnsSettle 136 = .ok (.iinc 5 1, 3) := by decide +kernel
theorem dX3_turnsSettle_139 : decode cX3_turnsSettle 139 = .ok (.goto (-114), 3) := by decide +kernel
theorem dX3_turnsSettle_142 : decode cX3_turnsSettle 142 = .ok (.iload 4, 2) := by decide +kernel
theorem dX3_turnsSettle_144 : decode cX3_turnsSettle 144 = .ok (.ifCond .ne 5, 3) := by decide +kernel
theorem dX3_turnsSettle_147 : decode cX3_turnsSettle 147 = .ok (.iconst 1, 1) := by decide +kernel
theorem dX3_turnsSettle_148 : decode cX3_turnsSettle 148 = .ok (.ireturn, 1) := by decide +kernel
theorem dX3_turnsSettle_149 : decode cX3_turnsSettle 149 = .ok (.iinc 3 1, 3) := by decide +kernel
theorem dX3_turnsSettle_152 : decode cX3_turnsSettle 152 = .ok (.goto (-140), 3) := by decide +kernel
theorem dX3_turnsSettle_155 : decode cX3_turnsSettle 155 = .ok (.iconst 0, 1) := by decide +kernel
theorem dX3_turnsSettle_156 : decode cX3_turnsSettle 156 = .ok (.ireturn, 1) := by decide +kernel
set_option maxRecDepth 20000 in
set_option maxHeartbeats 4000000 in
theorem k_Sr_turnsSettle (l : Launch) (w : WT) (σ : MM) (a : Int) (i_a : inr a) (ha : 0 ≤ a ∧ a < σ 53 0) (hL : 0 < a → LeastS (σ 5) (σ 21) (a - 1) (fun l => σ 22 ((a - 1) * 8 + l))) (hB : ∀ l : Int, 0 ≤ l → l < a → σ 22 ((a - 1) * 8 + l) ≤ 160000 * a) : CT SX l w yX3_turnsSettle cX3_turnsSettle 8 (some .boolean) 3 66 [.ref (w.2.2 17), .int (iI a)] σ (PI fun z σ1 => Mod [22] σ σ1 ∧ (∀ b : Int, b < a * 8 → σ1 22 b = σ 22 b) ∧ ((z = 1 ∧ LeastS (σ 5) (σ 21) a (fun l => σ1 22 (a * 8 + l)) ∧ ∀ l : Int, 0 ≤ l → l ≤ a → σ1 22 (a * 8 + l) ≤ 160000 * (a + 1)) ∨ (z = 0 ∧ ¬ FeasS (σ 5) (σ 21) a))) := by
  refine CT.of 6 [some (.ref (w.2.2 17)), some (.int (iI a)), none, none, none, none, none, none] (by decide +kernel) (by simp [lg_sl, Value.category]) rfl sh_X (fun G hX => ?_)
  refine r_bd hX (fun hBd => ?_)
  have b_53 := hBd 53 0 8 rfl 0
  refine r_iload_n hX dX3_turnsSettle_0 rfl ?_
  refine r_bipush hX dX3_turnsSettle_1 (by decide) ?_
  refine r_imul hX dX3_turnsSettle_3 ?_
  refine r_istore_n hX (fun x4 => [some (.ref (w.2.2 17)), some (.int (iI a)), some (.int (iI x4)), none, none, none, none, none]) dX3_turnsSettle_4 (Nat.le_of_ble_eq_true rfl) rfl rfl (fun _ => rfl) (fun x4 e4 => ?_)
  refine r_aload_n hX dX3_turnsSettle_5 rfl ?_
  refine r_iload_n hX dX3_turnsSettle_6 rfl ?_
  refine r_callV hX dX3_turnsSettle_7 (k_Sr_beginRow l w σ _ (by omega) (by omega) (by skip; exact hL) (by skip; exact hB)) mf_X3_beginRow mv_X3_beginRow lk_RX3_96 rfl rfl rfl rfl rfl ⟨Nat.le_of_ble_eq_true rfl, Nat.le_of_ble_eq_true rfl⟩ (Nat.le_of_ble_eq_true rfl) (kV fun σ7 hh => ?_)
  obtain ⟨m7, h7_0, h7_1, h7_2⟩ := hh
  refine r_iconst hX dX3_turnsSettle_10 ?_
  refine r_istore_n hX (fun x11 => [some (.ref (w.2.2 17)), some (.int (iI a)), some (.int (iI x4)), some (.int (iI x11)), none, none, none, none]) dX3_turnsSettle_11 (Nat.le_of_ble_eq_true rfl) rfl rfl (fun _ => rfl) (fun x11 e11 => ?_)
  have lp12 : ∀ (n : Nat) (pass : Int) (σ12 : MM) (m12 : Mod [22] σ7 σ12) (hp : 0 ≤ pass ∧ pass ≤ a + 2) (hO : Outer (a + 1) (2 * (a + 1)) (enS (σ 5) a) (σ 5) (σ 21) (fun l => σ7 22 (a * 8 + l)) pass (fun l => σ12 22 (a * 8 + l))) (hk : ∀ b : Int, b < a * 8 → σ12 22 b = σ7 22 b) (hta : σ12 22 (a * 8 + a) = σ7 22 (a * 8 + a)) (hb : ∀ l : Int, 0 ≤ l → l ≤ a → σ12 22 (a * 8 + l) ≤ 160000 * a + 1100 + 17600 * pass) (hmu : 11 - pass < (n : Int)), G 12 [some (.ref (w.2.2 17)), some (.int (iI a)), some (.int (iI x4)), some (.int (iI pass)), none, none, none, none] [] σ12 := by
    intro n
    induction n with
    | zero => intro pass σ12 m12 hp hO hk hta hb hmu; omega
    | succ n ih =>
      intro pass σ12 m12 hp hO hk hta hb hmu
      have ih12 := ih
      clear ih
      refine r_iload_n hX dX3_turnsSettle_12 rfl ?_
      refine r_iload_n hX dX3_turnsSettle_13 rfl ?_
      refine r_iconst hX dX3_turnsSettle_14 ?_
      refine r_iadd hX dX3_turnsSettle_15 ?_
      refine r_icmp_gt hX (tgt := 155) dX3_turnsSettle_16 (by decide) (by omega) (by omega) (fun c16 => ?_) (fun c16 => ?_)
      · skip
        refine r_iconst hX dX3_turnsSettle_155 ?_
        exact r_zret hX dX3_turnsSettle_156 rfl (by omega) ⟨_, rfl, ⟨(Mod.tr (L := [22]) m7 m12 rfl rfl), (by first | exact fun b b0 => (hk2 b b0).trans ((hk b b0).trans (h7_0 b b0)) | exact fun b b0 => (hk b b0).trans (h7_0 b b0)), (by exact Or.inr ⟨rfl, h7_1.no ha.1 hO (by omega)⟩)⟩⟩
      · skip
        refine r_iconst hX dX3_turnsSettle_19 ?_
        refine r_istore hX (fun x20 => [some (.ref (w.2.2 17)), some (.int (iI a)), some (.int (iI x4)), some (.int (iI pass)), some (.int (iI x20)), none, none, none]) dX3_turnsSettle_20 (Nat.le_of_ble_eq_true rfl) rfl rfl (fun _ => rfl) (fun x20 e20 => ?_)
        refine r_iconst hX dX3_turnsSettle_22 ?_
        refine r_istore hX (fun x23 => [some (.ref (w.2.2 17)), some (.int (iI a)), some (.int (iI x4)), some (.int (iI pass)), some (.int (iI x20)), some (.int (iI x23)), none, none]) dX3_turnsSettle_23 (Nat.le_of_ble_eq_true rfl) rfl rfl (fun _ => rfl) (fun x23 e23 => ?_)
        have lp25 : ∀ (n : Nat) (rose : Int) (s : Int) (σ25 : MM) (m25 : Mod [22] σ12 σ25) (hs : 0 ≤ s ∧ s ≤ 2 * a + 2) (hr : rose = 0 ∨ rose = 1) (hP : PassI (a + 1) (2 * (a + 1)) (enS (σ 5) a) (σ 5) (σ 21) (fun l => σ12 22 (a * 8 + l)) s (fun l => σ25 22 (a * 8 + l)) rose) (hk2 : ∀ b : Int, b < a * 8 → σ25 22 b = σ12 22 b) (hta2 : σ25 22 (a * 8 + a) = σ12 22 (a * 8 + a)) (hb2 : ∀ l : Int, 0 ≤ l → l ≤ a → σ25 22 (a * 8 + l) ≤ 160000 * a + 1100 + 17600 * pass + 1100 * s) (hmu : 17 - s < (n : Int)), G 25 [some (.ref (w.2.2 17)), some (.int (iI a)), some (.int (iI x4)), some (.int (iI pass)), some (.int (iI rose)), some (.int (iI s)), none, none] [] σ25 := by
          intro n
          induction n with
          | zero => intro rose s σ25 m25 hs hr hP hk2 hta2 hb2 hmu; omega
          | succ n ih =>
            intro rose s σ25 m25 hs hr hP hk2 hta2 hb2 hmu
            have ih25 := ih
            clear ih
            refine r_iload hX dX3_turnsSettle_25 rfl ?_
            refine r_iconst hX dX3_turnsSettle_27 ?_
            refine r_iload_n hX dX3_turnsSettle_28 rfl ?_
            refine r_imul hX dX3_turnsSettle_29 ?_
            refine r_iconst hX dX3_turnsSettle_30 ?_
            refine r_iadd hX dX3_turnsSettle_31 ?_
            refine r_icmp_ge hX (tgt := 142) dX3_turnsSettle_32 (by decide) (by omega) (by omega) (fun c32 => ?_) (fun c32 => ?_)
            · skip
              refine r_iload hX dX3_turnsSettle_142 rfl ?_
              refine r_if_ne hX (tgt := 149) dX3_turnsSettle_144 (by decide) (by omega) (fun c144 => ?_) (fun c144 => ?_)
              · skip
                refine r_iinc hX (fun x149 => [some (.ref (w.2.2 17)), some (.int (iI a)), some (.int (iI x4)), some (.int (iI x149)), some (.int (iI rose)), some (.int (iI s)), none, none]) dX3_turnsSettle_149 rfl rfl rfl (fun _ => rfl) (fun x149 e149 => ?_)
                refine r_goto hX dX3_turnsSettle_152 (tgt := 12) (by decide) ?_
                refine r_wk hX (lv1 := [some (.ref (w.2.2 17)), some (.int (iI a)), some (.int (iI x4)), some (.int (iI x149)), none, none, none, none]) ⟨rfl, ⟨rfl, ⟨rfl, ⟨rfl, trivial⟩⟩⟩⟩ ?_
                exact ih12 x149 σ25 (Mod.tr (L := [22]) m12 m25 rfl rfl) (by omega) (by rw [e149]; exact hO.next wf_S hP (by omega) (by omega)) (fun b b0 => (hk2 b b0).trans (hk b b0)) (hta2.trans hta) (fun l l0 l1 => by have := hb2 l l0 l1; omega) (by omega)
              · skip
                refine r_iconst hX dX3_turnsSettle_147 ?_
                exact r_zret hX dX3_turnsSettle_148 rfl (by omega) ⟨_, rfl, ⟨(Mod.tr (L := [22]) (Mod.tr (L := [22]) m7 m12 rfl rfl) m25 rfl rfl), (by first | exact fun b b0 => (hk2 b b0).trans ((hk b b0).trans (h7_0 b b0)) | exact fun b b0 => (hk b b0).trans (h7_0 b b0)), (by exact Or.inl ⟨rfl, h7_1.yes ha.1 hO (cf_z hP (by omega)) (by omega), fun l l0 l1 => by have := hb2 l l0 l1; omega⟩)⟩⟩
            · skip
              refine r_iload hX dX3_turnsSettle_35 rfl ?_
              refine r_bipush hX dX3_turnsSettle_37 (by decide) ?_
              refine r_icmp_ge hX (tgt := 142) dX3_turnsSettle_39 (by decide) (by omega) (by omega) (fun c39 => ?_) (fun c39 => ?_)
              · exfalso; omega
              · skip
                refine r_aload_n hX dX3_turnsSettle_42 rfl ?_
                refine fg_X17_27 hX dX3_turnsSettle_43 ?_
                refine r_iload hX dX3_turnsSettle_46 rfl ?_
                refine r_callV hX dX3_turnsSettle_48 (k_Lp_sourceOf l w σ25 _ (by omega)) mf_X2_sourceOf mv_X2_sourceOf lk_RX3_80 rfl rfl rfl rfl rfl ⟨Nat.le_of_ble_eq_true rfl, Nat.le_of_ble_eq_true rfl⟩ (Nat.le_of_ble_eq_true rfl) (kI fun z48 σ48 hh => ?_)
                obtain ⟨rfl, h48_0, h48_1⟩ := hh
                have q48_1 : σ25 5 = σ 5 := ((m25.at 5 rfl).trans ((m12.at 5 rfl).trans (m7.at 5 rfl)))
                have q48_2 : σ25 53 = σ 53 := ((m25.at 53 rfl).trans ((m12.at 53 rfl).trans (m7.at 53 rfl)))
                try simp only [q48_1, q48_2] at h48_0
                refine r_istore hX (fun x51 => [some (.ref (w.2.2 17)), some (.int (iI a)), some (.int (iI x4)), some (.int (iI pass)), some (.int (iI rose)), some (.int (iI s)), some (.int (iI x51)), none]) dX3_turnsSettle_51 (Nat.le_of_ble_eq_true rfl) rfl rfl (fun _ => rfl) (fun x51 e51 => ?_)
                refine r_iload hX dX3_turnsSettle_53 rfl ?_
                refine r_iconst hX dX3_turnsSettle_55 ?_
                refine r_idiv hX dX3_turnsSettle_56 (by omega) (by omega) (by omega) (by omega) ?_
                refine r_istore hX (fun x57 => [some (.ref (w.2.2 17)), some (.int (iI a)), some (.int (iI x4)), some (.int (iI pass)), some (.int (iI rose)), some (.int (iI s)), some (.int (iI x51)), some (.int (iI x57))]) dX3_turnsSettle_57 (Nat.le_of_ble_eq_true rfl) rfl rfl (fun _ => rfl) (fun x57 e57 => ?_)
                refine r_iload hX dX3_turnsSettle_59 rfl ?_
                refine r_if_lt hX (tgt := 136) dX3_turnsSettle_61 (by decide) (by omega) (fun c61 => ?_) (fun c61 => ?_)
                · skip
                  refine r_iinc hX (fun x136 => [some (.ref (w.2.2 17)), some (.int (iI a)), some (.int (iI x4)), some (.int (iI pass)), some (.int (iI rose)), some (.int (iI x136)), some (.int (iI x51)), some (.int (iI x57))]) dX3_turnsSettle_136 rfl rfl rfl (fun _ => rfl) (fun x136 e136 => ?_)
                  refine r_goto hX dX3_turnsSettle_139 (tgt := 25) (by decide) ?_
                  refine r_wk hX (lv1 := [some (.ref (w.2.2 17)), some (.int (iI a)), some (.int (iI x4)), some (.int (iI pass)), some (.int (iI rose)), some (.int (iI x136)), none, none]) ⟨rfl, ⟨rfl, ⟨rfl, ⟨rfl, ⟨rfl, ⟨rfl, trivial⟩⟩⟩⟩⟩⟩ ?_
                  exact ih25 rose x136 σ25 (m25.w rfl) (by omega) (by omega) (by first | exact pass_skip wf_S hP (by omega) (Or.inl fun q => by have q1 := q.1; have q2 := q.2; omega) e136 | exact pass_skip wf_S hP (by omega) (Or.inr (by show σ25 22 (a * 8 + σ 5 s) + σ 21 s ≤ σ25 22 (a * 8 + s / 2); rw [← hy1, ← hy2]; omega)) e136 | (rw [e134]; exact pass_push wf_S hP (by omega) ⟨by omega, by omega⟩ (by rw [← hy1, ← hy2]; omega) (by rw [← hy1]) (fun b => by rw [s132]; exact if_iff _ _ (by omega)) e136)) (by first | exact hk2 | exact fun b b0 => by rw [s132, if_neg (by omega)]; exact hk2 b b0) (by first | exact hta2 | (rw [s132, if_neg (by omega)]; exact hta2)) (fun l l0 l1 => by have h9 := hb2 l l0 l1; first | omega | (rw [s132]; split <;> omega)) (by omega)
                · skip
                  refine r_iload hX dX3_turnsSettle_64 rfl ?_
                  refine r_iload_n hX dX3_turnsSettle_66 rfl ?_
                  refine r_icmp_gt hX (tgt := 136) dX3_turnsSettle_67 (by decide) (by omega) (by omega) (fun c67 => ?_) (fun c67 => ?_)
                  · skip
                    refine r_iinc hX (fun x136 => [some (.ref (w.2.2 17)), some (.int (iI a)), some (.int (iI x4)), some (.int (iI pass)), some (.int (iI rose)), some (.int (iI x136)), some (.int (iI x51)), some (.int (iI x57))]) dX3_turnsSettle_136 rfl rfl rfl (fun _ => rfl) (fun x136 e136 => ?_)
                    refine r_goto hX dX3_turnsSettle_139 (tgt := 25) (by decide) ?_
                    refine r_wk hX (lv1 := [some (.ref (w.2.2 17)), some (.int (iI a)), some (.int (iI x4)), some (.int (iI pass)), some (.int (iI rose)), some (.int (iI x136)), none, none]) ⟨rfl, ⟨rfl, ⟨rfl, ⟨rfl, ⟨rfl, ⟨rfl, trivial⟩⟩⟩⟩⟩⟩ ?_
                    exact ih25 rose x136 σ25 (m25.w rfl) (by omega) (by omega) (by first | exact pass_skip wf_S hP (by omega) (Or.inl fun q => by have q1 := q.1; have q2 := q.2; omega) e136 | exact pass_skip wf_S hP (by omega) (Or.inr (by show σ25 22 (a * 8 + σ 5 s) + σ 21 s ≤ σ25 22 (a * 8 + s / 2); rw [← hy1, ← hy2]; omega)) e136 | (rw [e134]; exact pass_push wf_S hP (by omega) ⟨by omega, by omega⟩ (by rw [← hy1, ← hy2]; omega) (by rw [← hy1]) (fun b => by rw [s132]; exact if_iff _ _ (by omega)) e136)) (by first | exact hk2 | exact fun b b0 => by rw [s132, if_neg (by omega)]; exact hk2 b b0) (by first | exact hta2 | (rw [s132, if_neg (by omega)]; exact hta2)) (fun l l0 l1 => by have h9 := hb2 l l0 l1; first | omega | (rw [s132]; split <;> omega)) (by omega)
                  · skip
                    have hu : x51 = σ 5 s := by omega
                    have hy1 : σ25 22 (x4 + x51) = σ25 22 (a * 8 + σ 5 s) := congrArg (σ25 22) (by omega)
                    have hy2 : σ25 22 (x4 + x57) = σ25 22 (a * 8 + s / 2) := congrArg (σ25 22) (by omega)
                    have hy4 := hb2 (σ 5 s) (by omega) (by omega)
                    refine r_aload_n hX dX3_turnsSettle_70 rfl ?_
                    refine fg_X17_24 hX dX3_turnsSettle_71 ?_
                    refine r_iload_n hX dX3_turnsSettle_74 rfl ?_
                    refine r_iload hX dX3_turnsSettle_75 rfl ?_
                    refine r_iadd hX dX3_turnsSettle_77 ?_
                    refine ld_X22 hX dX3_turnsSettle_78 (by omega) (by omega) (fun b78l b78u => ?_)
                    refine r_aload_n hX dX3_turnsSettle_79 rfl ?_
                    refine fg_X17_21 hX dX3_turnsSettle_80 ?_
                    refine r_iload hX dX3_turnsSettle_83 rfl ?_
                    refine ld_X21 hX dX3_turnsSettle_85 (by omega) (by omega) (fun b85l b85u => ?_)
                    have q85 : σ25 21 = σ 21 := ((m25.at 21 rfl).trans ((m12.at 21 rfl).trans (m7.at 21 rfl)))
                    rw [q85]
                    rw [q85] at b85l b85u
                    refine r_iadd hX dX3_turnsSettle_86 ?_
                    refine r_aload_n hX dX3_turnsSettle_87 rfl ?_
                    refine fg_X17_24 hX dX3_turnsSettle_88 ?_
                    refine r_iload_n hX dX3_turnsSettle_91 rfl ?_
                    refine r_iload hX dX3_turnsSettle_92 rfl ?_
                    refine r_iadd hX dX3_turnsSettle_94 ?_
                    refine ld_X22 hX dX3_turnsSettle_95 (by omega) (by omega) (fun b95l b95u => ?_)
                    refine r_icmp_le hX (tgt := 136) dX3_turnsSettle_96 (by decide) (by omega) (by omega) (fun c96 => ?_) (fun c96 => ?_)
                    · skip
                      refine r_iinc hX (fun x136 => [some (.ref (w.2.2 17)), some (.int (iI a)), some (.int (iI x4)), some (.int (iI pass)), some (.int (iI rose)), some (.int (iI x136)), some (.int (iI x51)), some (.int (iI x57))]) dX3_turnsSettle_136 rfl rfl rfl (fun _ => rfl) (fun x136 e136 => ?_)
                      refine r_goto hX dX3_turnsSettle_139 (tgt := 25) (by decide) ?_
                      refine r_wk hX (lv1 := [some (.ref (w.2.2 17)), some (.int (iI a)), some (.int (iI x4)), some (.int (iI pass)), some (.int (iI rose)), some (.int (iI x136)), none, none]) ⟨rfl, ⟨rfl, ⟨rfl, ⟨rfl, ⟨rfl, ⟨rfl, trivial⟩⟩⟩⟩⟩⟩ ?_
                      exact ih25 rose x136 σ25 (m25.w rfl) (by omega) (by omega) (by first | exact pass_skip wf_S hP (by omega) (Or.inl fun q => by have q1 := q.1; have q2 := q.2; omega) e136 | exact pass_skip wf_S hP (by omega) (Or.inr (by show σ25 22 (a * 8 + σ 5 s) + σ 21 s ≤ σ25 22 (a * 8 + s / 2); rw [← hy1, ← hy2]; omega)) e136 | (rw [e134]; exact pass_push wf_S hP (by omega) ⟨by omega, by omega⟩ (by rw [← hy1, ← hy2]; omega) (by rw [← hy1]) (fun b => by rw [s132]; exact if_iff _ _ (by omega)) e136)) (by first | exact hk2 | exact fun b b0 => by rw [s132, if_neg (by omega)]; exact hk2 b b0) (by first | exact hta2 | (rw [s132, if_neg (by omega)]; exact hta2)) (fun l l0 l1 => by have h9 := hb2 l l0 l1; first | omega | (rw [s132]; split <;> omega)) (by omega)
                    · skip
                      refine r_iload hX dX3_turnsSettle_99 rfl ?_
                      refine r_iload_n hX dX3_turnsSettle_101 rfl ?_
                      refine r_icmp_ne hX (tgt := 107) dX3_turnsSettle_102 (by decide) (by omega) (by omega) (fun c102 => ?_) (fun c102 => ?_)
                      · skip
                        refine r_aload_n hX dX3_turnsSettle_107 rfl ?_
                        refine fg_X17_24 hX dX3_turnsSettle_108 ?_
                        refine r_iload_n hX dX3_turnsSettle_111 rfl ?_
                        refine r_iload hX dX3_turnsSettle_112 rfl ?_
                        refine r_iadd hX dX3_turnsSettle_114 ?_
                        refine r_aload_n hX dX3_turnsSettle_115 rfl ?_
                        refine fg_X17_24 hX dX3_turnsSettle_116 ?_
                        refine r_iload_n hX dX3_turnsSettle_119 rfl ?_
                        refine r_iload hX dX3_turnsSettle_120 rfl ?_
                        refine r_iadd hX dX3_turnsSettle_122 ?_
                        refine ld_X22 hX dX3_turnsSettle_123 (by omega) (by omega) (fun b123l b123u => ?_)
                        refine r_aload_n hX dX3_turnsSettle_124 rfl ?_
                        refine fg_X17_21 hX dX3_turnsSettle_125 ?_
                        refine r_iload hX dX3_turnsSettle_128 rfl ?_
                        refine ld_X21 hX dX3_turnsSettle_130 (by omega) (by omega) (fun b130l b130u => ?_)
                        have q130 : σ25 21 = σ 21 := ((m25.at 21 rfl).trans ((m12.at 21 rfl).trans (m7.at 21 rfl)))
                        rw [q130]
                        rw [q130] at b130l b130u
                        refine r_iadd hX dX3_turnsSettle_131 ?_
                        refine st_X22 hX dX3_turnsSettle_132 (by omega) (by omega) (by omega) (fun σ132 m132 s132 => ?_)
                        refine r_iconst hX dX3_turnsSettle_133 ?_
                        refine r_istore hX (fun x134 => [some (.ref (w.2.2 17)), some (.int (iI a)), some (.int (iI x4)), some (.int (iI pass)), some (.int (iI x134)), some (.int (iI s)), some (.int (iI x51)), some (.int (iI x57))]) dX3_turnsSettle_134 (Nat.le_of_ble_eq_true rfl) rfl rfl (fun _ => rfl) (fun x134 e134 => ?_)
                        refine r_iinc hX (fun x136 => [some (.ref (w.2.2 17)), some (.int (iI a)), some (.int (iI x4)), some (.int (iI pass)), some (.int (iI x134)), some (.int (iI x136)), some (.int (iI x51)), some (.int (iI x57))]) dX3_turnsSettle_136 rfl rfl rfl (fun _ => rfl) (fun x136 e136 => ?_)
                        refine r_goto hX dX3_turnsSettle_139 (tgt := 25) (by decide) ?_
                        refine r_wk hX (lv1 := [some (.ref (w.2.2 17)), some (.int (iI a)), some (.int (iI x4)), some (.int (iI pass)), some (.int (iI x134)), some (.int (iI x136)), none, none]) ⟨rfl, ⟨rfl, ⟨rfl, ⟨rfl, ⟨rfl, ⟨rfl, trivial⟩⟩⟩⟩⟩⟩ ?_
                        exact ih25 x134 x136 σ132 (Mod.tr (L := [22]) m25 m132 rfl rfl) (by omega) (by omega) (by first | exact pass_skip wf_S hP (by omega) (Or.inl fun q => by have q1 := q.1; have q2 := q.2; omega) e136 | exact pass_skip wf_S hP (by omega) (Or.inr (by show σ25 22 (a * 8 + σ 5 s) + σ 21 s ≤ σ25 22 (a * 8 + s / 2); rw [← hy1, ← hy2]; omega)) e136 | (rw [e134]; exact pass_push wf_S hP (by omega) ⟨by omega, by omega⟩ (by rw [← hy1, ← hy2]; omega) (by rw [← hy1]) (fun b => by rw [s132]; exact if_iff _ _ (by omega)) e136)) (by first | exact hk2 | exact fun b b0 => by rw [s132, if_neg (by omega)]; exact hk2 b b0) (by first | exact hta2 | (rw [s132, if_neg (by omega)]; exact hta2)) (fun l l0 l1 => by have h9 := hb2 l l0 l1; first | omega | (rw [s132]; split <;> omega)) (by omega)
                      · skip
                        have hy3 : σ25 22 (x4 + x57) = σ25 22 (a * 8 + a) := congrArg (σ25 22) (by omega)
                        refine r_iconst hX dX3_turnsSettle_105 ?_
                        exact r_zret hX dX3_turnsSettle_106 rfl (by omega) ⟨_, rfl, ⟨(Mod.tr (L := [22]) (Mod.tr (L := [22]) m7 m12 rfl rfl) m25 rfl rfl), (by first | exact fun b b0 => (hk2 b b0).trans ((hk b b0).trans (h7_0 b b0)) | exact fun b b0 => (hk b b0).trans (h7_0 b b0)), (by exact Or.inr ⟨rfl, h7_1.cyc ha.1 hO hP (hta2.trans hta) (s := s) (by omega) (by omega) ⟨by omega, by omega⟩ (by omega) (by show σ25 22 (a * 8 + a) < σ25 22 (a * 8 + σ 5 s) + σ 21 s; rw [← hy1, ← hy3]; omega)⟩)⟩⟩
        exact lp25 ((17 - (x23)) + 1).toNat x20 x23 σ12 Mod.rf (by omega) (by omega) (by rw [e20, e23]; exact PassI.init) (fun b _ => rfl) (rfl) (fun l l0 l1 => by have := hb l l0 l1; omega) (by omega)
  exact lp12 ((11 - (x11)) + 1).toNat x11 σ7 Mod.rf (by omega) (by rw [e11]; exact Outer.init) (fun b _ => rfl) (rfl) (fun l l0 l1 => by have := h7_2 l l0 l1; omega) (by omega)
theorem dX3_goesNext_0 : decode cX3_goesNext 0 = .ok (.aload_n 0, 1) := by decide +kernel
theorem dX3_goesNext_1 : decode cX3_goesNext 1 = .ok (.getfield 27, 3) := by decide +kernel
theorem dX3_goesNext_4 : decode cX3_goesNext 4 = .ok (.iload_n 1, 1) := by decide +kernel
theorem dX3_goesNext_5 : decode cX3_goesNext 5 = .ok (.invokevirtual 39, 3) := by decide +kernel
theorem dX3_goesNext_8 : decode cX3_goesNext 8 = .ok (.ifCond .eq 11, 3) := by decide +kernel
theorem dX3_goesNext_11 : decode cX3_goesNext 11 = .ok (.aload_n 0, 1) := by decide +kernel
theorem dX3_goesNext_12 : decode cX3_goesNext 12 = .ok (.getfield 45, 3) := by decide +kernel
theorem dX3_goesNext_15 : decode cX3_goesNext 15 = .ok (.iconst 1, 1) := by decide +kernel
theorem dX3_goesNext_16 : decode cX3_goesNext 16 = .ok (.if_icmp .ge 5, 3) := by decide +kernel
theorem dX3_goesNext_19 : decode cX3_goesNext 19 = .ok (.iconst 0, 1) := by decide +kernel
theorem dX3_goesNext_20 : decode cX3_goesNext 20 = .ok (.ireturn, 1) := by decide +kernel
theorem dX3_goesNext_21 : decode cX3_goesNext 21 = .ok (.aload_n 0, 1) := by decide +kernel
theorem dX3_goesNext_22 : decode cX3_goesNext 22 = .ok (.dup, 1) := by decide +kernel
theorem dX3_goesNext_23 : decode cX3_goesNext 23 = .ok (.getfield 35, 3) := by decide +kernel
theorem dX3_goesNext_26 : decode cX3_goesNext 26 = .ok (.iconst 1, 1) := by decide +kernel
theorem dX3_goesNext_27 : decode cX3_goesNext 27 = .ok (.iadd, 1) := by decide +kernel
theorem dX3_goesNext_28 : decode cX3_goesNext 28 = .ok (.putfield 35, 3) := by decide +kernel
theorem dX3_goesNext_31 : decode cX3_goesNext 31 = .ok (.aload_n 0, 1) := by decide +kernel
theorem dX3_goesNext_32 : decode cX3_goesNext 32 = .ok (.getfield 9, 3) := by decide +kernel
theorem dX3_goesNext_35 : decode cX3_goesNext 35 = .ok (.iload_n 1, 1) := by decide +kernel
theorem dX3_goesNext_36 : decode cX3_goesNext 36 = .ok (.aload_n 0, 1) := by decide +kernel
theorem dX3_goesNext_37 : decode cX3_goesNext 37 = .ok (.getfield 18, 3) := by decide +kernel
theorem dX3_goesNext_40 : decode cX3_goesNext 40 = .ok (.iload_n 1, 1) := by decide +kernel
theorem dX3_goesNext_41 : decode cX3_goesNext 41 = .ok (.iaload, 1) := by decide +kernel
theorem dX3_goesNext_42 : decode cX3_goesNext 42 = .ok (.aload_n 0, 1) := by decide +kernel
theorem dX3_goesNext_43 : decode cX3_goesNext 43 = .ok (.getfield 45, 3) := by decide +kernel
theorem dX3_goesNext_46 : decode cX3_goesNext 46 = .ok (.idiv, 1) := by decide +kernel
theorem dX3_goesNext_47 : decode cX3_goesNext 47 = .ok (.iastore, 1) := by decide +kernel
theorem dX3_goesNext_48 : decode cX3_goesNext 48 = .ok (.aload_n 0, 1) := by decide +kernel
theorem dX3_goesNext_49 : decode cX3_goesNext 49 = .ok (.getfield 15, 3) := by decide +kernel
theorem dX3_goesNext_52 : decode cX3_goesNext 52 = .ok (.iload_n 1, 1) := by decide +kernel
theorem dX3_goesNext_53 : decode cX3_goesNext 53 = .ok (.aload_n 0, 1) := by decide +kernel
theorem dX3_goesNext_54 : decode cX3_goesNext 54 = .ok (.getfield 18, 3) := by decide +kernel
theorem dX3_goesNext_57 : decode cX3_goesNext 57 = .ok (.iload_n 1, 1) := by decide +kernel
theorem dX3_goesNext_58 : decode cX3_goesNext 58 = .ok (.iaload, 1) := by decide +kernel
theorem dX3_goesNext_59 : decode cX3_goesNext 59 = .ok (.aload_n 0, 1) := by decide +kernel
theorem dX3_goesNext_60 : decode cX3_goesNext 60 = .ok (.getfield 45, 3) := by decide +kernel
theorem dX3_goesNext_63 : decode cX3_goesNext 63 = .ok (.irem, 1) := by decide +kernel
theorem dX3_goesNext_64 : decode cX3_goesNext 64 = .ok (.iastore, 1) := by decide +kernel
theorem dX3_goesNext_65 : decode cX3_goesNext 65 = .ok (.aload_n 0, 1) := by decide +kernel
theorem dX3_goesNext_66 : decode cX3_goesNext 66 = .ok (.getfield 18, 3) := by decide +kernel
theorem dX3_goesNext_69 : decode cX3_goesNext 69 = .ok (.iload_n 1, 1) := by decide +kernel
theorem dX3_goesNext_70 : decode cX3_goesNext 70 = .ok (.dup2, 1) := by decide +kernel
theorem dX3_goesNext_71 : decode cX3_goesNext 71 = .ok (.iaload, 1) := by decide +kernel
theorem dX3_goesNext_72 : decode cX3_goesNext 72 = .ok (.iconst 1, 1) := by decide +kernel
theorem dX3_goesNext_73 : decode cX3_goesNext 73 = .ok (.iadd, 1) := by decide +kernel
theorem dX3_goesNext_74 : decode cX3_goesNext 74 = .ok (.iastore, 1) := by decide +kernel
theorem dX3_goesNext_75 : decode cX3_goesNext 75 = .ok (.aload_n 0, 1) := by decide +kernel
theorem dX3_goesNext_76 : decode cX3_goesNext 76 = .ok (.iload_n 1, 1) := by decide +kernel
theorem dX3_goesNext_77 : decode cX3_goesNext 77 = .ok (.invokevirtual 60, 3) := by decide +kernel
theorem dX3_goesNext_80 : decode cX3_goesNext 80 = .ok (.ifCond .eq 23, 3) := by decide +kernel
theorem dX3_goesNext_83 : decode cX3_goesNext 83 = .ok (.aload_n 0, 1) := by decide +kernel
theorem dX3_goesNext_84 : decode cX3_goesNext 84 = .ok (.iload_n 1, 1) := by decide +kernel
theorem dX3_goesNext_85 : decode cX3_goesNext 85 = .ok (.invokevirtual 63, 3) := by decide +kernel
theorem dX3_goesNext_88 : decode cX3_goesNext 88 = .ok (.ifCond .eq 15, 3) := by decide +kernel
theorem dX3_goesNext_91 : decode cX3_goesNext 91 = .ok (.aload_n 0, 1) := by decide +kernel
theorem dX3_goesNext_92 : decode cX3_goesNext 92 = .ok (.iload_n 1, 1) := by decide +kernel
theorem dX3_goesNext_93 : decode cX3_goesNext 93 = .ok (.invokevirtual 66, 3) := by decide +kernel
theorem dX3_goesNext_96 : decode cX3_goesNext 96 = .ok (.ifCond .eq 7, 3) := by decide +kernel
theorem dX3_goesNext_99 : decode cX3_goesNext 99 = .ok (.iconst 1, 1) := by decide +kernel
theorem dX3_goesNext_100 : decode cX3_goesNext 100 = .ok (.goto 4, 3) := by decide +kernel
theorem dX3_goesNext_103 : decode cX3_goesNext 103 = .ok (.iconst 0, 1) := by decide +kernel
theorem dX3_goesNext_104 : decode cX3_goesNext 104 = .ok (.ireturn, 1) := by decide +kernel
set_option maxRecDepth 20000 in
set_option maxHeartbeats 4000000 in
theorem k_Sr_goesNext (l : Launch) (w : WT) (σ : MM) (a : Int) (i_a : inr a) (ha : 0 ≤ a ∧ a < σ 53 0) (hbt : 1 ≤ σ 59 0) (ht : σ 60 0 < 20000) (hch : 0 ≤ σ 20 a ∧ σ 20 a < σ 56 0 * σ 57 0 * σ 59 0) (hl : ∀ l : Int, 0 ≤ l → l < a → σ 18 l < σ 56 0 * σ 57 0) (hS : STab σ σ (σ 59 0) a) : CT SX l w yX3_goesNext cX3_goesNext 2 (some .boolean) 4 93 [.ref (w.2.2 17), .int (iI a)] σ (PI fun z σ1 => Mod [18, 19, 20, 21, 22, 60] σ σ1 ∧ (GN σ σ σ1 (σ 59 0) a z) ∧ (z = 0 ∨ z = 1)) := by
  refine CT.of 0 [some (.ref (w.2.2 17)), some (.int (iI a))] (by decide +kernel) (by simp [lg_sl, Value.category]) rfl sh_X (fun G hX => ?_)
  refine r_bd hX (fun hBd => ?_)
  have b_53 := hBd 53 0 8 rfl 0
  have b_56 := hBd 56 1 3 rfl 0
  have b_57 := hBd 57 1 3 rfl 0
  have b_59 := hBd 59 0 12 rfl 0
  have b_60 := hBd 60 0 20000 rfl 0
  have hn := mul_bd b_56 b_57
  have hdv : σ 20 a / σ 59 0 < σ 56 0 * σ 57 0 := Int.ediv_lt_of_lt_mul (by omega) hch.2
  have hdv0 : 0 ≤ σ 20 a / σ 59 0 := Int.ediv_nonneg hch.1 (by omega)
  have hmd := Int.emod_nonneg (σ 20 a) (show σ 59 0 ≠ 0 by omega)
  have hmd2 := Int.emod_lt_of_pos (σ 20 a) (show 0 < σ 59 0 by omega)
  have hpm := pm (a := σ 56 0 * σ 57 0) (A := 9) (b := σ 59 0) (B := 12) (by omega) (by omega)
  refine r_aload_n hX dX3_goesNext_0 rfl ?_
  refine fg_X17_27 hX dX3_goesNext_1 ?_
  refine r_iload_n hX dX3_goesNext_4 rfl ?_
  refine r_callV hX dX3_goesNext_5 (k_Lp_isThere l w σ _ (by omega)) mf_X2_isThere mv_X2_isThere lk_RX3_39 rfl rfl rfl rfl rfl ⟨Nat.le_of_ble_eq_true rfl, Nat.le_of_ble_eq_true rfl⟩ (Nat.le_of_ble_eq_true rfl) (kI fun z5 σ5 hh => ?_)
  obtain ⟨rfl, h5_0⟩ := hh
  refine r_if_eq hX (tgt := 19) dX3_goesNext_8 (by decide) (by omega) (fun c8 => ?_) (fun c8 => ?_)
  · exfalso; omega
  · skip
    refine r_aload_n hX dX3_goesNext_11 rfl ?_
    refine fg_X17_45 hX dX3_goesNext_12 (fun b12l b12u => ?_)
    refine r_iconst hX dX3_goesNext_15 ?_
    refine r_icmp_ge hX (tgt := 21) dX3_goesNext_16 (by decide) (by omega) (by omega) (fun c16 => ?_) (fun c16 => ?_)
    · skip
      refine r_aload_n hX dX3_goesNext_21 rfl ?_
      refine r_dup hX dX3_goesNext_22 rfl ?_
      refine fg_X17_35 hX dX3_goesNext_23 (fun b23l b23u => ?_)
      refine r_iconst hX dX3_goesNext_26 ?_
      refine r_iadd hX dX3_goesNext_27 ?_
      refine fp_X17_35 hX dX3_goesNext_28 (by omega) (fun σ28 m28 s28 => ?_)
      refine r_aload_n hX dX3_goesNext_31 rfl ?_
      refine fg_X17_9 hX dX3_goesNext_32 ?_
      refine r_iload_n hX dX3_goesNext_35 rfl ?_
      refine r_aload_n hX dX3_goesNext_36 rfl ?_
      refine fg_X17_18 hX dX3_goesNext_37 ?_
      refine r_iload_n hX dX3_goesNext_40 rfl ?_
      refine ld_X20 hX dX3_goesNext_41 (by omega) (by omega) (fun b41l b41u => ?_)
      have q41 : σ28 20 = σ 20 := (m28.at 20 rfl)
      rw [q41]
      rw [q41] at b41l b41u
      refine r_aload_n hX dX3_goesNext_42 rfl ?_
      refine fg_X17_45 hX dX3_goesNext_43 (fun b43l b43u => ?_)
      have q43 : σ28 59 = σ 59 := (m28.at 59 rfl)
      rw [q43]
      rw [q43] at b43l b43u
      refine r_idiv hX dX3_goesNext_46 (by omega) (by omega) (by omega) (by omega) ?_
      refine st_X18 hX dX3_goesNext_47 (by omega) (by omega) (by omega) (fun σ47 m47 s47 => ?_)
      simp only [show σ28 18 = σ 18 from (m28.at 18 rfl)] at s47
      refine r_aload_n hX dX3_goesNext_48 rfl ?_
      refine fg_X17_15 hX dX3_goesNext_49 ?_
      refine r_iload_n hX dX3_goesNext_52 rfl ?_
      refine r_aload_n hX dX3_goesNext_53 rfl ?_
      refine fg_X17_18 hX dX3_goesNext_54 ?_
      refine r_iload_n hX dX3_goesNext_57 rfl ?_
      refine ld_X20 hX dX3_goesNext_58 (by omega) (by omega) (fun b58l b58u => ?_)
      have q58 : σ47 20 = σ 20 := ((m47.at 20 rfl).trans (m28.at 20 rfl))
      rw [q58]
      rw [q58] at b58l b58u
      refine r_aload_n hX dX3_goesNext_59 rfl ?_
      refine fg_X17_45 hX dX3_goesNext_60 (fun b60l b60u => ?_)
      have q60 : σ47 59 = σ 59 := ((m47.at 59 rfl).trans (m28.at 59 rfl))
      rw [q60]
      rw [q60] at b60l b60u
      refine r_irem hX dX3_goesNext_63 (by omega) (by omega) (by omega) (by omega) ?_
      refine st_X19 hX dX3_goesNext_64 (by omega) (by omega) (by omega) (fun σ64 m64 s64 => ?_)
      simp only [show σ47 19 = σ 19 from ((m47.at 19 rfl).trans (m28.at 19 rfl))] at s64
      refine r_aload_n hX dX3_goesNext_65 rfl ?_
      refine fg_X17_18 hX dX3_goesNext_66 ?_
      refine r_iload_n hX dX3_goesNext_69 rfl ?_
      refine r_dup2 hX dX3_goesNext_70 rfl rfl ?_
      refine ld_X20 hX dX3_goesNext_71 (by omega) (by omega) (fun b71l b71u => ?_)
      have q71 : σ64 20 = σ 20 := ((m64.at 20 rfl).trans ((m47.at 20 rfl).trans (m28.at 20 rfl)))
      rw [q71]
      rw [q71] at b71l b71u
      refine r_iconst hX dX3_goesNext_72 ?_
      refine r_iadd hX dX3_goesNext_73 ?_
      refine st_X20 hX dX3_goesNext_74 (by omega) (by omega) (by omega) (fun σ74 m74 s74 => ?_)
      simp only [show σ64 20 = σ 20 from ((m64.at 20 rfl).trans ((m47.at 20 rfl).trans (m28.at 20 rfl)))] at s74
      refine r_aload_n hX dX3_goesNext_75 rfl ?_
      refine r_iload_n hX dX3_goesNext_76 rfl ?_
      have qp77_53 : σ74 53 = σ 53 := ((m74.at 53 rfl).trans ((m64.at 53 rfl).trans ((m47.at 53 rfl).trans (m28.at 53 rfl))))
      have qp77_18 : σ74 18 = σ47 18 := ((m74.at 18 rfl).trans (m64.at 18 rfl))
      have qp77_56 : σ74 56 = σ 56 := ((m74.at 56 rfl).trans ((m64.at 56 rfl).trans ((m47.at 56 rfl).trans (m28.at 56 rfl))))
      have qp77_57 : σ74 57 = σ 57 := ((m74.at 57 rfl).trans ((m64.at 57 rfl).trans ((m47.at 57 rfl).trans (m28.at 57 rfl))))
      refine r_callV hX dX3_goesNext_77 (k_Sr_isFree l w σ74 _ (by omega) (by simp only [qp77_53]; omega) (by simp only [qp77_18, qp77_56, qp77_57]; intro l l0 l1; rw [s47]; split; omega; exact hl l l0 (by omega))) mf_X3_isFree mv_X3_isFree lk_RX3_60 rfl rfl rfl rfl rfl ⟨Nat.le_of_ble_eq_true rfl, Nat.le_of_ble_eq_true rfl⟩ (Nat.le_of_ble_eq_true rfl) (kI fun z77 σ77 hh => ?_)
      obtain ⟨rfl, h77_0⟩ := hh
      have q77_1 : σ74 2 = σ 2 := ((m74.at 2 rfl).trans ((m64.at 2 rfl).trans ((m47.at 2 rfl).trans (m28.at 2 rfl))))
      have q77_2 : σ74 11 = σ 11 := ((m74.at 11 rfl).trans ((m64.at 11 rfl).trans ((m47.at 11 rfl).trans (m28.at 11 rfl))))
      have q77_3 : σ74 12 = σ 12 := ((m74.at 12 rfl).trans ((m64.at 12 rfl).trans ((m47.at 12 rfl).trans (m28.at 12 rfl))))
      have q77_4 : σ74 18 = σ47 18 := ((m74.at 18 rfl).trans (m64.at 18 rfl))
      have q77_5 : σ74 19 = σ64 19 := (m74.at 19 rfl)
      try simp only [q77_1, q77_2, q77_3, q77_4, q77_5] at h77_0
      refine r_if_eq hX (tgt := 103) dX3_goesNext_80 (by decide) (by omega) (fun c80 => ?_) (fun c80 => ?_)
      · skip
        have hT74 : Try0 σ σ74 (σ 59 0) a := ⟨by rw [m74.at 60 rfl, m64.at 60 rfl, m47.at 60 rfl]; exact s28, fun b => by rw [m74.at 18 rfl, m64.at 18 rfl]; exact s47 b, fun b => by rw [m74.at 19 rfl]; exact s64 b, s74⟩
        refine r_iconst hX dX3_goesNext_103 ?_
        exact r_zret hX dX3_goesNext_104 rfl (by omega) ⟨_, rfl, ⟨(Mod.tr (L := [18, 19, 20, 21, 22, 60]) (Mod.tr (L := [18, 19, 20, 21, 22, 60]) (Mod.tr (L := [18, 19, 20, 21, 22, 60]) m28 m47 rfl rfl) m64 rfl rfl) m74 rfl rfl), (by first | exact gn_yes hT93 hS hg93 (fun b b0 => by first | exact h93_0 b b0) hG93 (by rw [m93.at 18 rfl, m85.at 18 rfl, m74.at 18 rfl, m64.at 18 rfl, m93.at 19 rfl, m85.at 19 rfl, m74.at 19 rfl]; exact cf_yes h77_0 (by omega)) (by rw [m93.at 21 rfl]; rcases h93_1 with q | q; exact q.2.1; omega) (by rcases h93_1 with q | q; exact q.2.2; omega) | exact gn_noF hT93 hS hg93 h93_0 hG93 (by rw [m93.at 21 rfl]; rcases h93_1 with q | q; omega; exact q.2) | exact gn_no hT85 hS h85_0 (fun b b0 => by rw [m85.at 22 rfl, m74.at 22 rfl, m64.at 22 rfl, m47.at 22 rfl, m28.at 22 rfl]) (fun q => by rcases h85_1 with w | ⟨-, s, s0, s1, u0, u1, w⟩; omega; have := q.2.1 s s0 s1 ⟨u0, u1⟩; rw [m85.at 18 rfl, m74.at 18 rfl, m64.at 18 rfl] at this; omega) | exact gn_no hT74 hS (fun s q => by rw [m74.at 21 rfl, m64.at 21 rfl, m47.at 21 rfl, m28.at 21 rfl]) (fun b b0 => by rw [m74.at 22 rfl, m64.at 22 rfl, m47.at 22 rfl, m28.at 22 rfl]) (fun q => cf_no h77_0 (by omega) (by have q1 := q.1; rw [m74.at 18 rfl, m64.at 18 rfl, m74.at 19 rfl] at q1; exact q1))), (by first | omega | (rcases h93_1 with q | q <;> first | omega | (have := q.1; omega)))⟩⟩
      · skip
        have hT74 : Try0 σ σ74 (σ 59 0) a := ⟨by rw [m74.at 60 rfl, m64.at 60 rfl, m47.at 60 rfl]; exact s28, fun b => by rw [m74.at 18 rfl, m64.at 18 rfl]; exact s47 b, fun b => by rw [m74.at 19 rfl]; exact s64 b, s74⟩
        refine r_aload_n hX dX3_goesNext_83 rfl ?_
        refine r_iload_n hX dX3_goesNext_84 rfl ?_
        have qp85_53 : σ74 53 = σ 53 := ((m74.at 53 rfl).trans ((m64.at 53 rfl).trans ((m47.at 53 rfl).trans (m28.at 53 rfl))))
        have qp85_18 : σ74 18 = σ47 18 := ((m74.at 18 rfl).trans (m64.at 18 rfl))
        have qp85_56 : σ74 56 = σ 56 := ((m74.at 56 rfl).trans ((m64.at 56 rfl).trans ((m47.at 56 rfl).trans (m28.at 56 rfl))))
        have qp85_57 : σ74 57 = σ 57 := ((m74.at 57 rfl).trans ((m64.at 57 rfl).trans ((m47.at 57 rfl).trans (m28.at 57 rfl))))
        have qp85_59 : σ74 59 = σ 59 := ((m74.at 59 rfl).trans ((m64.at 59 rfl).trans ((m47.at 59 rfl).trans (m28.at 59 rfl))))
        refine r_callV hX dX3_goesNext_85 (k_Sr_measureGaps l w σ74 _ (by omega) (by simp only [qp85_53]; omega) (by simp only [qp85_18, qp85_56, qp85_57]; intro l l0 l1; rw [s47]; split; omega; exact hl l l0 (by omega)) (by simp only [qp85_59]; omega)) mf_X3_measureGaps mv_X3_measureGaps lk_RX3_63 rfl rfl rfl rfl rfl ⟨Nat.le_of_ble_eq_true rfl, Nat.le_of_ble_eq_true rfl⟩ (Nat.le_of_ble_eq_true rfl) (kI fun z85 σ85 hh => ?_)
        obtain ⟨m85, h85_0, h85_1⟩ := hh
        have q85_6 : σ74 5 = σ 5 := ((m74.at 5 rfl).trans ((m64.at 5 rfl).trans ((m47.at 5 rfl).trans (m28.at 5 rfl))))
        have q85_7 : σ74 21 = σ 21 := ((m74.at 21 rfl).trans ((m64.at 21 rfl).trans ((m47.at 21 rfl).trans (m28.at 21 rfl))))
        try simp only [q85_6, q85_7] at h85_0
        have q85_8 : σ74 2 = σ 2 := ((m74.at 2 rfl).trans ((m64.at 2 rfl).trans ((m47.at 2 rfl).trans (m28.at 2 rfl))))
        have q85_9 : σ74 5 = σ 5 := ((m74.at 5 rfl).trans ((m64.at 5 rfl).trans ((m47.at 5 rfl).trans (m28.at 5 rfl))))
        have q85_10 : σ74 6 = σ 6 := ((m74.at 6 rfl).trans ((m64.at 6 rfl).trans ((m47.at 6 rfl).trans (m28.at 6 rfl))))
        have q85_11 : σ74 13 = σ 13 := ((m74.at 13 rfl).trans ((m64.at 13 rfl).trans ((m47.at 13 rfl).trans (m28.at 13 rfl))))
        have q85_12 : σ74 18 = σ47 18 := ((m74.at 18 rfl).trans (m64.at 18 rfl))
        have q85_13 : σ74 19 = σ64 19 := (m74.at 19 rfl)
        have q85_14 : σ74 59 = σ 59 := ((m74.at 59 rfl).trans ((m64.at 59 rfl).trans ((m47.at 59 rfl).trans (m28.at 59 rfl))))
        try simp only [q85_8, q85_9, q85_10, q85_11, q85_12, q85_13, q85_14] at h85_1
        have hT85 : Try0 σ σ85 (σ 59 0) a := ⟨by rw [m85.at 60 rfl]; exact hT74.1, fun b => by rw [m85.at 18 rfl]; exact hT74.2.1 b, fun b => by rw [m85.at 19 rfl]; exact hT74.2.2.1 b, fun b => by rw [m85.at 20 rfl]; exact hT74.2.2.2 b⟩
        refine r_if_eq hX (tgt := 103) dX3_goesNext_88 (by decide) (by omega) (fun c88 => ?_) (fun c88 => ?_)
        · skip
          refine r_iconst hX dX3_goesNext_103 ?_
          exact r_zret hX dX3_goesNext_104 rfl (by omega) ⟨_, rfl, ⟨(Mod.tr (L := [18, 19, 20, 21, 22, 60]) (Mod.tr (L := [18, 19, 20, 21, 22, 60]) (Mod.tr (L := [18, 19, 20, 21, 22, 60]) (Mod.tr (L := [18, 19, 20, 21, 22, 60]) m28 m47 rfl rfl) m64 rfl rfl) m74 rfl rfl) m85 rfl rfl), (by first | exact gn_yes hT93 hS hg93 (fun b b0 => by first | exact h93_0 b b0) hG93 (by rw [m93.at 18 rfl, m85.at 18 rfl, m74.at 18 rfl, m64.at 18 rfl, m93.at 19 rfl, m85.at 19 rfl, m74.at 19 rfl]; exact cf_yes h77_0 (by omega)) (by rw [m93.at 21 rfl]; rcases h93_1 with q | q; exact q.2.1; omega) (by rcases h93_1 with q | q; exact q.2.2; omega) | exact gn_noF hT93 hS hg93 h93_0 hG93 (by rw [m93.at 21 rfl]; rcases h93_1 with q | q; omega; exact q.2) | exact gn_no hT85 hS h85_0 (fun b b0 => by rw [m85.at 22 rfl, m74.at 22 rfl, m64.at 22 rfl, m47.at 22 rfl, m28.at 22 rfl]) (fun q => by rcases h85_1 with w | ⟨-, s, s0, s1, u0, u1, w⟩; omega; have := q.2.1 s s0 s1 ⟨u0, u1⟩; rw [m85.at 18 rfl, m74.at 18 rfl, m64.at 18 rfl] at this; omega) | exact gn_no hT74 hS (fun s q => by rw [m74.at 21 rfl, m64.at 21 rfl, m47.at 21 rfl, m28.at 21 rfl]) (fun b b0 => by rw [m74.at 22 rfl, m64.at 22 rfl, m47.at 22 rfl, m28.at 22 rfl]) (fun q => cf_no h77_0 (by omega) (by have q1 := q.1; rw [m74.at 18 rfl, m64.at 18 rfl, m74.at 19 rfl] at q1; exact q1))), (by first | omega | (rcases h93_1 with q | q <;> first | omega | (have := q.1; omega)))⟩⟩
        · skip
          refine r_aload_n hX dX3_goesNext_91 rfl ?_
          refine r_iload_n hX dX3_goesNext_92 rfl ?_
          have qp93_53 : σ85 53 = σ 53 := ((m85.at 53 rfl).trans ((m74.at 53 rfl).trans ((m64.at 53 rfl).trans ((m47.at 53 rfl).trans (m28.at 53 rfl)))))
          have qp93_5 : σ85 5 = σ 5 := ((m85.at 5 rfl).trans ((m74.at 5 rfl).trans ((m64.at 5 rfl).trans ((m47.at 5 rfl).trans (m28.at 5 rfl)))))
          have qp93_22 : σ85 22 = σ 22 := ((m85.at 22 rfl).trans ((m74.at 22 rfl).trans ((m64.at 22 rfl).trans ((m47.at 22 rfl).trans (m28.at 22 rfl)))))
          have qp93_22 : σ85 22 = σ 22 := ((m85.at 22 rfl).trans ((m74.at 22 rfl).trans ((m64.at 22 rfl).trans ((m47.at 22 rfl).trans (m28.at 22 rfl)))))
          refine r_callV hX dX3_goesNext_93 (k_Sr_turnsSettle l w σ85 _ (by omega) (by simp only [qp93_53]; omega) (by simp only [qp93_5, qp93_22]; exact fun h0 => hS.row (υ := σ85) h85_0 h0) (by simp only [qp93_22]; exact fun l l0 l1 => hS.rowB l l0 l1)) mf_X3_turnsSettle mv_X3_turnsSettle lk_RX3_66 rfl rfl rfl rfl rfl ⟨Nat.le_of_ble_eq_true rfl, Nat.le_of_ble_eq_true rfl⟩ (Nat.le_of_ble_eq_true rfl) (kI fun z93 σ93 hh => ?_)
          obtain ⟨m93, h93_0, h93_1⟩ := hh
          have q93_15 : σ85 22 = σ 22 := ((m85.at 22 rfl).trans ((m74.at 22 rfl).trans ((m64.at 22 rfl).trans ((m47.at 22 rfl).trans (m28.at 22 rfl)))))
          try simp only [q93_15] at h93_0
          have q93_16 : σ85 5 = σ 5 := ((m85.at 5 rfl).trans ((m74.at 5 rfl).trans ((m64.at 5 rfl).trans ((m47.at 5 rfl).trans (m28.at 5 rfl)))))
          try simp only [q93_16] at h93_1
          have hT93 : Try0 σ σ93 (σ 59 0) a := ⟨by rw [m93.at 60 rfl]; exact hT85.1, fun b => by rw [m93.at 18 rfl]; exact hT85.2.1 b, fun b => by rw [m93.at 19 rfl]; exact hT85.2.2.1 b, fun b => by rw [m93.at 20 rfl]; exact hT85.2.2.2 b⟩
          have hg93 : ∀ s, ¬ inv2 (σ 5) a s → σ93 21 s = σ 21 s := fun s q => by rw [m93.at 21 rfl]; exact h85_0 s q
          have hG93 : ∀ s, inv2 (σ 5) a s → σ 13 (σ93 18 (σ 5 s) * 9 + σ93 18 (s / 2)) < 1000 ∧ σ93 21 s = gapX σ σ93 (σ 59 0) s := fun s q => by
            unfold gapX
            rw [m93.at 18 rfl, m85.at 18 rfl, m74.at 18 rfl, m64.at 18 rfl, m93.at 19 rfl, m85.at 19 rfl, m74.at 19 rfl, m93.at 21 rfl]
            rcases h85_1 with ⟨-, w⟩ | ⟨w, -⟩
            · exact w s q.1 q.2.1 q.2.2.1 q.2.2.2.1 q.2.2.2.2
            · omega
          refine r_if_eq hX (tgt := 103) dX3_goesNext_96 (by decide) (by omega) (fun c96 => ?_) (fun c96 => ?_)
          · skip
            refine r_iconst hX dX3_goesNext_103 ?_
            exact r_zret hX dX3_goesNext_104 rfl (by omega) ⟨_, rfl, ⟨(Mod.tr (L := [18, 19, 20, 21, 22, 60]) (Mod.tr (L := [18, 19, 20, 21, 22, 60]) (Mod.tr (L := [18, 19, 20, 21, 22, 60]) (Mod.tr (L := [18, 19, 20, 21, 22, 60]) (Mod.tr (L := [18, 19, 20, 21, 22, 60]) m28 m47 rfl rfl) m64 rfl rfl) m74 rfl rfl) m85 rfl rfl) m93 rfl rfl), (by first | exact gn_yes hT93 hS hg93 (fun b b0 => by first | exact h93_0 b b0) hG93 (by rw [m93.at 18 rfl, m85.at 18 rfl, m74.at 18 rfl, m64.at 18 rfl, m93.at 19 rfl, m85.at 19 rfl, m74.at 19 rfl]; exact cf_yes h77_0 (by omega)) (by rw [m93.at 21 rfl]; rcases h93_1 with q | q; exact q.2.1; omega) (by rcases h93_1 with q | q; exact q.2.2; omega) | exact gn_noF hT93 hS hg93 h93_0 hG93 (by rw [m93.at 21 rfl]; rcases h93_1 with q | q; omega; exact q.2) | exact gn_no hT85 hS h85_0 (fun b b0 => by rw [m85.at 22 rfl, m74.at 22 rfl, m64.at 22 rfl, m47.at 22 rfl, m28.at 22 rfl]) (fun q => by rcases h85_1 with w | ⟨-, s, s0, s1, u0, u1, w⟩; omega; have := q.2.1 s s0 s1 ⟨u0, u1⟩; rw [m85.at 18 rfl, m74.at 18 rfl, m64.at 18 rfl] at this; omega) | exact gn_no hT74 hS (fun s q => by rw [m74.at 21 rfl, m64.at 21 rfl, m47.at 21 rfl, m28.at 21 rfl]) (fun b b0 => by rw [m74.at 22 rfl, m64.at 22 rfl, m47.at 22 rfl, m28.at 22 rfl]) (fun q => cf_no h77_0 (by omega) (by have q1 := q.1; rw [m74.at 18 rfl, m64.at 18 rfl, m74.at 19 rfl] at q1; exact q1))), (by first | omega | (rcases h93_1 with q | q <;> first | omega | (have := q.1; omega)))⟩⟩
          · skip
            refine r_iconst hX dX3_goesNext_99 ?_
            refine r_goto hX dX3_goesNext_100 (tgt := 104) (by decide) ?_
            exact r_zret hX dX3_goesNext_104 rfl (by omega) ⟨_, rfl, ⟨(Mod.tr (L := [18, 19, 20, 21, 22, 60]) (Mod.tr (L := [18, 19, 20, 21, 22, 60]) (Mod.tr (L := [18, 19, 20, 21, 22, 60]) (Mod.tr (L := [18, 19, 20, 21, 22, 60]) (Mod.tr (L := [18, 19, 20, 21, 22, 60]) m28 m47 rfl rfl) m64 rfl rfl) m74 rfl rfl) m85 rfl rfl) m93 rfl rfl), (by first | exact gn_yes hT93 hS hg93 (fun b b0 => by first | exact h93_0 b b0) hG93 (by rw [m93.at 18 rfl, m85.at 18 rfl, m74.at 18 rfl, m64.at 18 rfl, m93.at 19 rfl, m85.at 19 rfl, m74.at 19 rfl]; exact cf_yes h77_0 (by omega)) (by rw [m93.at 21 rfl]; rcases h93_1 with q | q; exact q.2.1; omega) (by rcases h93_1 with q | q; exact q.2.2; omega) | exact gn_noF hT93 hS hg93 h93_0 hG93 (by rw [m93.at 21 rfl]; rcases h93_1 with q | q; omega; exact q.2) | exact gn_no hT85 hS h85_0 (fun b b0 => by rw [m85.at 22 rfl, m74.at 22 rfl, m64.at 22 rfl, m47.at 22 rfl, m28.at 22 rfl]) (fun q => by rcases h85_1 with w | ⟨-, s, s0, s1, u0, u1, w⟩; omega; have := q.2.1 s s0 s1 ⟨u0, u1⟩; rw [m85.at 18 rfl, m74.at 18 rfl, m64.at 18 rfl] at this; omega) | exact gn_no hT74 hS (fun s q => by rw [m74.at 21 rfl, m64.at 21 rfl, m47.at 21 rfl, m28.at 21 rfl]) (fun b b0 => by rw [m74.at 22 rfl, m64.at 22 rfl, m47.at 22 rfl, m28.at 22 rfl]) (fun q => cf_no h77_0 (by omega) (by have q1 := q.1; rw [m74.at 18 rfl, m64.at 18 rfl, m74.at 19 rfl] at q1; exact q1))), (by first | omega | (rcases h93_1 with q | q <;> first | omega | (have := q.1; omega)))⟩⟩
    · exfalso; omega
theorem dX3_run_0 : decode cX3_run 0 = .ok (.aload_n 0, 1) := by decide +kernel
theorem dX3_run_1 : decode cX3_run 1 = .ok (.iload_n 1, 1) := by decide +kernel
theorem dX3_run_2 : decode cX3_run 2 = .ok (.putfield 45, 3) := by decide +kernel
theorem dX3_run_5 : decode cX3_run 5 = .ok (.aload_n 0, 1) := by decide +kernel
theorem dX3_run_6 : decode cX3_run 6 = .ok (.iconst 0, 1) := by decide +kernel
theorem dX3_run_7 : decode cX3_run 7 = .ok (.putfield 35, 3) := by decide +kernel
theorem dX3_run_10 : decode cX3_run 10 = .ok (.iconst 0, 1) := by decide +kernel
theorem dX3_run_11 : decode cX3_run 11 = .ok (.istore_n 2, 1) := by decide +kernel
theorem dX3_run_12 : decode cX3_run 12 = .ok (.aload_n 0, 1) := by decide +kernel
theorem dX3_run_13 : decode cX3_run 13 = .ok (.getfield 31, 3) := by decide +kernel
theorem dX3_run_16 : decode cX3_run 16 = .ok (.invokevirtual 52, 3) := by decide +kernel
theorem dX3_run_19 : decode cX3_run 19 = .ok (.aload_n 0, 1) := by decide +kernel
theorem dX3_run_20 : decode cX3_run 20 = .ok (.getfield 45, 3) := by decide +kernel
theorem dX3_run_23 : decode cX3_run 23 = .ok (.imul, 1) := by decide +kernel
theorem dX3_run_24 : decode cX3_run 24 = .ok (.istore_n 3, 1) := by decide +kernel
theorem dX3_run_25 : decode cX3_run 25 = .ok (.aload_n 0, 1) := by decide +kernel
theorem dX3_run_26 : decode cX3_run 26 = .ok (.getfield 18, 3) := by decide +kernel
theorem dX3_run_29 : decode cX3_run 29 = .ok (.iconst 0, 1) := by decide +kernel
theorem dX3_run_30 : decode cX3_run 30 = .ok (.iconst 0, 1) := by decide +kernel
theorem dX3_run_31 : decode cX3_run 31 = .ok (.iastore, 1) := by decide +kernel
theorem dX3_run_32 : decode cX3_run 32 = .ok (.iconst 0, 1) := by decide +kernel
theorem dX3_run_33 : decode cX3_run 33 = .ok (.istore 4, 2) := by decide +kernel
theorem dX3_run_35 : decode cX3_run 35 = .ok (.iload 4, 2) := by decide +kernel
theorem dX3_run_37 : decode cX3_run 37 = .ok (.ldc 56, 2) := by decide +kernel
theorem dX3_run_39 : decode cX3_run 39 = .ok (.if_icmp .ge 78, 3) := by decide +kernel
theorem dX3_run_42 : decode cX3_run 42 = .ok (.aload_n 0, 1) := by decide +kernel
theorem dX3_run_43 : decode cX3_run 43 = .ok (.getfield 27, 3) := by decide +kernel
theorem dX3_run_46 : decode cX3_run 46 = .ok (.iload_n 2, 1) := by decide +kernel
theorem dX3_run_47 : decode cX3_run 47 = .ok (.invokevirtual 39, 3) := by decide +kernel
theorem dX3_run_50 : decode cX3_run 50 = .ok (.ifCond .eq 67, 3) := by decide +kernel
theorem dX3_run_53 : decode cX3_run 53 = .ok (.aload_n 0, 1) := by decide +kernel
theorem dX3_run_54 : decode cX3_run 54 = .ok (.getfield 18, 3) := by decide +kernel
theorem dX3_run_57 : decode cX3_run 57 = .ok (.iload_n 2, 1) := by decide +kernel
theorem dX3_run_58 : decode cX3_run 58 = .ok (.iaload, 1) := by decide +kernel
theorem dX3_run_59 : decode cX3_run 59 = .ok (.iload_n 3, 1) := by decide +kernel
theorem dX3_run_60 : decode cX3_run 60 = .ok (.if_icmp .lt 9, 3) := by decide +kernel
theorem dX3_run_63 : decode cX3_run 63 = .ok (.iinc 2 (-1), 3) := by decide +kernel
theorem dX3_run_66 : decode cX3_run 66 = .ok (.goto 45, 3) := by decide +kernel
theorem dX3_run_69 : decode cX3_run 69 = .ok (.aload_n 0, 1) := by decide +kernel
theorem dX3_run_70 : decode cX3_run 70 = .ok (.getfield 35, 3) := by decide +kernel
theorem dX3_run_73 : decode cX3_run 73 = .ok (.sipush 20000, 3) := by decide +kernel
theorem dX3_run_76 : decode cX3_run 76 = .ok (.if_icmp .lt 6, 3) := by decide +kernel
theorem dX3_run_79 : decode cX3_run 79 = .ok (.bipush (-7), 2) := by decide +kernel
theorem dX3_run_81 : decode cX3_run 81 = .ok (.ireturn, 1) := by decide +kernel
theorem dX3_run_82 : decode cX3_run 82 = .ok (.aload_n 0, 1) := by decide +kernel
theorem dX3_run_83 : decode cX3_run 83 = .ok (.iload_n 2, 1) := by decide +kernel
theorem dX3_run_84 : decode cX3_run 84 = .ok (.invokevirtual 57, 3) := by decide +kernel
theorem dX3_run_87 : decode cX3_run 87 = .ok (.ifCond .eq 24, 3) := by decide +kernel
theorem dX3_run_90 : decode cX3_run 90 = .ok (.iinc 2 1, 3) := by decide +kernel
theorem dX3_run_93 : decode cX3_run 93 = .ok (.aload_n 0, 1) := by decide +kernel
theorem dX3_run_94 : decode cX3_run 94 = .ok (.getfield 27, 3) := by decide +kernel
theorem dX3_run_97 : decode cX3_run 97 = .ok (.iload_n 2, 1) := by decide +kernel
theorem dX3_run_98 : decode cX3_run 98 = .ok (.invokevirtual 39, 3) := by decide +kernel
theorem dX3_run_101 : decode cX3_run 101 = .ok (.ifCond .eq 10, 3) := by decide +kernel
theorem dX3_run_104 : decode cX3_run 104 = .ok (.aload_n 0, 1) := by decide +kernel
theorem dX3_run_105 : decode cX3_run 105 = .ok (.getfield 18, 3) := by decide +kernel
theorem dX3_run_108 : decode cX3_run 108 = .ok (.iload_n 2, 1) := by decide +kernel
theorem dX3_run_109 : decode cX3_run 109 = .ok (.iconst 0, 1) := by decide +kernel
theorem dX3_run_110 : decode cX3_run 110 = .ok (.iastore, 1) := by decide +kernel
theorem dX3_run_111 : decode cX3_run 111 = .ok (.iinc 4 1, 3) := by decide +kernel
theorem dX3_run_114 : decode cX3_run 114 = .ok (.goto (-79), 3) := by decide +kernel
theorem dX3_run_117 : decode cX3_run 117 = .ok (.iload_n 2, 1) := by decide +kernel
theorem dX3_run_118 : decode cX3_run 118 = .ok (.ifCond .ge 6, 3) := by decide +kernel
theorem dX3_run_121 : decode cX3_run 121 = .ok (.bipush (-6), 2) := by decide +kernel
theorem dX3_run_123 : decode cX3_run 123 = .ok (.ireturn, 1) := by decide +kernel
theorem dX3_run_124 : decode cX3_run 124 = .ok (.aload_n 0, 1) := by decide +kernel
theorem dX3_run_125 : decode cX3_run 125 = .ok (.getfield 27, 3) := by decide +kernel
theorem dX3_run_128 : decode cX3_run 128 = .ok (.iload_n 2, 1) := by decide +kernel
theorem dX3_run_129 : decode cX3_run 129 = .ok (.invokevirtual 39, 3) := by decide +kernel
theorem dX3_run_132 : decode cX3_run 132 = .ok (.ifCond .eq 8, 3) := by decide +kernel
theorem dX3_run_135 : decode cX3_run 135 = .ok (.bipush (-7), 2) := by decide +kernel
theorem dX3_run_137 : decode cX3_run 137 = .ok (.goto 7, 3) := by decide +kernel
theorem dX3_run_140 : decode cX3_run 140 = .ok (.aload_n 0, 1) := by decide +kernel
theorem dX3_run_141 : decode cX3_run 141 = .ok (.getfield 45, 3) := by decide +kernel
theorem dX3_run_144 : decode cX3_run 144 = .ok (.ireturn, 1) := by decide +kernel
set_option maxRecDepth 20000 in
set_option maxHeartbeats 4000000 in
theorem k_Sr_run (l : Launch) (w : WT) (σ : MM) (bt : Int) (i_bt : inr bt) (hb : 1 ≤ bt ∧ bt ≤ 12) (hc : 1 ≤ σ 53 0) : CT SX l w yX3_run cX3_run 5 (some .int) 5 114 [.ref (w.2.2 17), .int (iI bt)] σ (PI fun z σ1 => Mod [18, 19, 20, 21, 22, 59, 60] σ σ1 ∧ (σ1 59 0 = bt) ∧ (DFin σ σ1 bt z)) := by
  refine CT.of 3 [some (.ref (w.2.2 17)), some (.int (iI bt)), none, none, none] (by decide +kernel) (by simp [lg_sl, Value.category]) rfl sh_X (fun G hX => ?_)
  refine r_bd hX (fun hBd => ?_)
  have b_53 := hBd 53 0 8 rfl 0
  have b_56 := hBd 56 1 3 rfl 0
  have b_57 := hBd 57 1 3 rfl 0
  have hn := mul_bd b_56 b_57
  have hpl := pm (a := σ 56 0 * σ 57 0) (A := 9) (b := bt) (B := 12) (by omega) (by omega)
  refine r_aload_n hX dX3_run_0 rfl ?_
  refine r_iload_n hX dX3_run_1 rfl ?_
  refine fp_X17_45 hX dX3_run_2 (by omega) (fun σ2 m2 s2 => ?_)
  refine r_aload_n hX dX3_run_5 rfl ?_
  refine r_iconst hX dX3_run_6 ?_
  refine fp_X17_35 hX dX3_run_7 (by omega) (fun σ7 m7 s7 => ?_)
  refine r_iconst hX dX3_run_10 ?_
  refine r_istore_n hX (fun x11 => [some (.ref (w.2.2 17)), some (.int (iI bt)), some (.int (iI x11)), none, none]) dX3_run_11 (Nat.le_of_ble_eq_true rfl) rfl rfl (fun _ => rfl) (fun x11 e11 => ?_)
  refine r_aload_n hX dX3_run_12 rfl ?_
  refine fg_X17_31 hX dX3_run_13 ?_
  refine r_callV hX dX3_run_16 (k_Gd_cells l w σ7) mf_X0_cells mv_X0_cells lk_RX3_52 rfl rfl rfl rfl rfl ⟨Nat.le_of_ble_eq_true rfl, Nat.le_of_ble_eq_true rfl⟩ (Nat.le_of_ble_eq_true rfl) (kI fun z16 σ16 hh => ?_)
  obtain ⟨rfl, h16_0, h16_1⟩ := hh
  have q16_1 : σ7 56 = σ 56 := ((m7.at 56 rfl).trans (m2.at 56 rfl))
  have q16_2 : σ7 57 = σ 57 := ((m7.at 57 rfl).trans (m2.at 57 rfl))
  try simp only [q16_1, q16_2] at h16_0
  refine r_aload_n hX dX3_run_19 rfl ?_
  refine fg_X17_45 hX dX3_run_20 (fun b20l b20u => ?_)
  have q20 : σ7 59 = σ2 59 := (m7.at 59 rfl)
  rw [q20]
  rw [q20] at b20l b20u
  refine r_imul hX dX3_run_23 ?_
  refine r_istore_n hX (fun x24 => [some (.ref (w.2.2 17)), some (.int (iI bt)), some (.int (iI x11)), some (.int (iI x24)), none]) dX3_run_24 (Nat.le_of_ble_eq_true rfl) rfl rfl (fun _ => rfl) (fun x24 e24 => ?_)
  have hx24 : x24 = σ 56 0 * σ 57 0 * bt := by rw [e24, h16_0, s2]
  refine r_aload_n hX dX3_run_25 rfl ?_
  refine fg_X17_18 hX dX3_run_26 ?_
  refine r_iconst hX dX3_run_29 ?_
  refine r_iconst hX dX3_run_30 ?_
  refine st_X20 hX dX3_run_31 (by omega) (by omega) (by omega) (fun σ31 m31 s31 => ?_)
  simp only [show σ7 20 = σ 20 from ((m7.at 20 rfl).trans (m2.at 20 rfl))] at s31
  refine r_iconst hX dX3_run_32 ?_
  refine r_istore hX (fun x33 => [some (.ref (w.2.2 17)), some (.int (iI bt)), some (.int (iI x11)), some (.int (iI x24)), some (.int (iI x33))]) dX3_run_33 (Nat.le_of_ble_eq_true rfl) rfl rfl (fun _ => rfl) (fun x33 e33 => ?_)
  have lp35 : ∀ (n : Nat) (act : Int) (move : Int) (σ35 : MM) (m35 : Mod [18, 19, 20, 21, 22, 60] σ31 σ35) (hact : -1 ≤ act ∧ act ≤ σ 53 0) (hmv0 : 0 ≤ move ∧ move ≤ 60000) (hD : DInv σ σ35 bt act move) (hmu : 60001 - move < (n : Int)), G 35 [some (.ref (w.2.2 17)), some (.int (iI bt)), some (.int (iI act)), some (.int (iI x24)), some (.int (iI move))] [] σ35 := by
    intro n
    induction n with
    | zero => intro act move σ35 m35 hact hmv0 hD hmu; omega
    | succ n ih =>
      intro act move σ35 m35 hact hmv0 hD hmu
      have ih35 := ih
      clear ih
      refine r_bd hX (fun hBd2 => ?_)
      have b60 := hBd2 60 0 20000 rfl 0
      have hmv := hD.mv (by omega) b60.2
      have qe : σ35 59 = σ2 59 := (m35.at 59 rfl).trans ((m31.at 59 rfl).trans (m7.at 59 rfl))
      refine r_iload hX dX3_run_35 rfl ?_
      refine r_ldc hX dX3_run_37 lc_RX3_56 ?_
      refine r_icmp_ge hX (tgt := 117) dX3_run_39 (by decide) (by omega) (by omega) (fun c39 => ?_) (fun c39 => ?_)
      · exfalso; omega
      · skip
        refine r_aload_n hX dX3_run_42 rfl ?_
        refine fg_X17_27 hX dX3_run_43 ?_
        refine r_iload_n hX dX3_run_46 rfl ?_
        refine r_callV hX dX3_run_47 (k_Lp_isThere l w σ35 _ (by omega)) mf_X2_isThere mv_X2_isThere lk_RX3_39 rfl rfl rfl rfl rfl ⟨Nat.le_of_ble_eq_true rfl, Nat.le_of_ble_eq_true rfl⟩ (Nat.le_of_ble_eq_true rfl) (kI fun z47 σ47 hh => ?_)
        obtain ⟨rfl, h47_0⟩ := hh
        have q47_3 : σ35 53 = σ 53 := ((m35.at 53 rfl).trans ((m31.at 53 rfl).trans ((m7.at 53 rfl).trans (m2.at 53 rfl))))
        try simp only [q47_3] at h47_0
        refine r_if_eq hX (tgt := 117) dX3_run_50 (by decide) (by omega) (fun c50 => ?_) (fun c50 => ?_)
        · skip
          refine r_iload_n hX dX3_run_117 rfl ?_
          refine r_if_ge hX (tgt := 124) dX3_run_118 (by decide) (by omega) (fun c118 => ?_) (fun c118 => ?_)
          · skip
            refine r_aload_n hX dX3_run_124 rfl ?_
            refine fg_X17_27 hX dX3_run_125 ?_
            refine r_iload_n hX dX3_run_128 rfl ?_
            refine r_callV hX dX3_run_129 (k_Lp_isThere l w σ35 _ (by omega)) mf_X2_isThere mv_X2_isThere lk_RX3_39 rfl rfl rfl rfl rfl ⟨Nat.le_of_ble_eq_true rfl, Nat.le_of_ble_eq_true rfl⟩ (Nat.le_of_ble_eq_true rfl) (kI fun z129 σ129 hh => ?_)
            obtain ⟨rfl, h129_0⟩ := hh
            have q129_4 : σ35 53 = σ 53 := ((m35.at 53 rfl).trans ((m31.at 53 rfl).trans ((m7.at 53 rfl).trans (m2.at 53 rfl))))
            try simp only [q129_4] at h129_0
            refine r_if_eq hX (tgt := 140) dX3_run_132 (by decide) (by omega) (fun c132 => ?_) (fun c132 => ?_)
            · skip
              refine r_aload_n hX dX3_run_140 rfl ?_
              refine fg_X17_45 hX dX3_run_141 (fun b141l b141u => ?_)
              have q141 : σ35 59 = σ2 59 := ((m35.at 59 rfl).trans ((m31.at 59 rfl).trans (m7.at 59 rfl)))
              rw [q141]
              rw [q141] at b141l b141u
              exact r_iret hX dX3_run_144 rfl ⟨_, rfl, ⟨(Mod.tr (L := [18, 19, 20, 21, 22, 59, 60]) (Mod.tr (L := [18, 19, 20, 21, 22, 59, 60]) (Mod.tr (L := [18, 19, 20, 21, 22, 59, 60]) m2 m7 rfl rfl) m31 rfl rfl) m35 rfl rfl), (by rw [show σ35 59 = σ2 59 from qe]; exact s2), (by exact hD.fin (by omega) hc (Or.inl ⟨by omega, s2⟩))⟩⟩
            · exfalso; omega
          · skip
            refine r_bipush hX dX3_run_121 (by decide) ?_
            exact r_iret hX dX3_run_123 rfl ⟨_, rfl, ⟨(Mod.tr (L := [18, 19, 20, 21, 22, 59, 60]) (Mod.tr (L := [18, 19, 20, 21, 22, 59, 60]) (Mod.tr (L := [18, 19, 20, 21, 22, 59, 60]) m2 m7 rfl rfl) m31 rfl rfl) m35 rfl rfl), (by rw [show σ35 59 = σ2 59 from qe]; exact s2), (by exact hD.fin (by omega) hc (Or.inr (Or.inl ⟨by omega, rfl⟩)))⟩⟩
        · skip
          have hnx := hD.next (by omega) (by omega)
          refine r_aload_n hX dX3_run_53 rfl ?_
          refine fg_X17_18 hX dX3_run_54 ?_
          refine r_iload_n hX dX3_run_57 rfl ?_
          refine ld_X20 hX dX3_run_58 (by omega) (by omega) (fun b58l b58u => ?_)
          refine r_iload_n hX dX3_run_59 rfl ?_
          refine r_icmp_lt hX (tgt := 69) dX3_run_60 (by decide) (by omega) (by omega) (fun c60 => ?_) (fun c60 => ?_)
          · skip
            refine r_aload_n hX dX3_run_69 rfl ?_
            refine fg_X17_35 hX dX3_run_70 (fun b70l b70u => ?_)
            refine r_sipush hX dX3_run_73 (by decide) ?_
            refine r_icmp_lt hX (tgt := 82) dX3_run_76 (by decide) (by omega) (by omega) (fun c76 => ?_) (fun c76 => ?_)
            · skip
              have hmm : Mod [18, 19, 20, 21, 22, 59, 60] σ σ35 := (Mod.tr (L := [18, 19, 20, 21, 22, 59, 60]) (Mod.tr (L := [18, 19, 20, 21, 22, 59, 60]) (Mod.tr (L := [18, 19, 20, 21, 22, 59, 60]) m2 m7 rfl rfl) m31 rfl rfl) m35 rfl rfl)
              refine r_aload_n hX dX3_run_82 rfl ?_
              refine r_iload_n hX dX3_run_83 rfl ?_
              have qp84_53 : σ35 53 = σ 53 := ((m35.at 53 rfl).trans ((m31.at 53 rfl).trans ((m7.at 53 rfl).trans (m2.at 53 rfl))))
              have qp84_59 : σ35 59 = σ2 59 := ((m35.at 59 rfl).trans ((m31.at 59 rfl).trans (m7.at 59 rfl)))
              have qp84_56 : σ35 56 = σ 56 := ((m35.at 56 rfl).trans ((m31.at 56 rfl).trans ((m7.at 56 rfl).trans (m2.at 56 rfl))))
              have qp84_57 : σ35 57 = σ 57 := ((m35.at 57 rfl).trans ((m31.at 57 rfl).trans ((m7.at 57 rfl).trans (m2.at 57 rfl))))
              have qp84_59 : σ35 59 = σ2 59 := ((m35.at 59 rfl).trans ((m31.at 59 rfl).trans (m7.at 59 rfl)))
              have qp84_56 : σ35 56 = σ 56 := ((m35.at 56 rfl).trans ((m31.at 56 rfl).trans ((m7.at 56 rfl).trans (m2.at 56 rfl))))
              have qp84_57 : σ35 57 = σ 57 := ((m35.at 57 rfl).trans ((m31.at 57 rfl).trans ((m7.at 57 rfl).trans (m2.at 57 rfl))))
              have qp84_59 : σ35 59 = σ2 59 := ((m35.at 59 rfl).trans ((m31.at 59 rfl).trans (m7.at 59 rfl)))
              refine r_callV hX dX3_run_84 (k_Sr_goesNext l w σ35 _ (by omega) (by simp only [qp84_53]; omega) (by simp only [qp84_59]; rw [s2]; omega) (by omega) (by simp only [qp84_56, qp84_57, qp84_59]; rw [s2, ← hx24]; omega) (by simp only [qp84_56, qp84_57]; exact hD.cells (by omega)) (by simp only [qp84_59]; rw [s2]; exact STab.base hmm rfl hD.stab)) mf_X3_goesNext mv_X3_goesNext lk_RX3_57 rfl rfl rfl rfl rfl ⟨Nat.le_of_ble_eq_true rfl, Nat.le_of_ble_eq_true rfl⟩ (Nat.le_of_ble_eq_true rfl) (kI fun z84 σ84 hh => ?_)
              obtain ⟨m84, h84_0, h84_1⟩ := hh
              have q84_5 : σ35 59 = σ2 59 := ((m35.at 59 rfl).trans ((m31.at 59 rfl).trans (m7.at 59 rfl)))
              try simp only [q84_5] at h84_0
              have hGN : GN σ σ35 σ84 bt act z84 := GN.base hmm rfl (s2 ▸ h84_0)
              refine r_if_eq hX (tgt := 111) dX3_run_87 (by decide) (by omega) (fun c87 => ?_) (fun c87 => ?_)
              · skip
                refine r_iinc hX (fun x111 => [some (.ref (w.2.2 17)), some (.int (iI bt)), some (.int (iI act)), some (.int (iI x24)), some (.int (iI x111))]) dX3_run_111 rfl rfl rfl (fun _ => rfl) (fun x111 e111 => ?_)
                refine r_goto hX dX3_run_114 (tgt := 35) (by decide) ?_
                exact ih35 act x111 σ84 (Mod.tr (L := [18, 19, 20, 21, 22, 60]) m35 m84 rfl rfl) (by omega) (by omega) (by first | exact hD.back (by omega) (by omega) (by rw [← hx24]; omega) e63 e111 | (rw [e111]; exact (hD.goes (by omega) (by omega) (by rw [← hx24]; omega) (by omega) hGN).2 (by omega)) | (rw [e111, e90]; exact (hD.goes (by omega) (by omega) (by rw [← hx24]; omega) (by omega) hGN).1 (by omega) σ110 (fun b b0 b1 => by rw [s110, if_neg (by omega)]) (fun _ => by rw [s110, if_pos (by omega)]) (m110.at 18 rfl) (m110.at 19 rfl) (m110.at 21 rfl) (m110.at 22 rfl) (m110.at 60 rfl)) | (rw [e111, e90]; exact (hD.goes (by omega) (by omega) (by rw [← hx24]; omega) (by omega) hGN).1 (by omega) σ84 (fun _ _ _ => rfl) (fun q => by omega) rfl rfl rfl rfl rfl)) (by omega)
              · skip
                refine r_iinc hX (fun x90 => [some (.ref (w.2.2 17)), some (.int (iI bt)), some (.int (iI x90)), some (.int (iI x24)), some (.int (iI move))]) dX3_run_90 rfl rfl rfl (fun _ => rfl) (fun x90 e90 => ?_)
                refine r_aload_n hX dX3_run_93 rfl ?_
                refine fg_X17_27 hX dX3_run_94 ?_
                refine r_iload_n hX dX3_run_97 rfl ?_
                refine r_callV hX dX3_run_98 (k_Lp_isThere l w σ84 _ (by omega)) mf_X2_isThere mv_X2_isThere lk_RX3_39 rfl rfl rfl rfl rfl ⟨Nat.le_of_ble_eq_true rfl, Nat.le_of_ble_eq_true rfl⟩ (Nat.le_of_ble_eq_true rfl) (kI fun z98 σ98 hh => ?_)
                obtain ⟨rfl, h98_0⟩ := hh
                have q98_6 : σ84 53 = σ 53 := ((m84.at 53 rfl).trans ((m35.at 53 rfl).trans ((m31.at 53 rfl).trans ((m7.at 53 rfl).trans (m2.at 53 rfl)))))
                try simp only [q98_6] at h98_0
                refine r_if_eq hX (tgt := 111) dX3_run_101 (by decide) (by omega) (fun c101 => ?_) (fun c101 => ?_)
                · skip
                  refine r_iinc hX (fun x111 => [some (.ref (w.2.2 17)), some (.int (iI bt)), some (.int (iI x90)), some (.int (iI x24)), some (.int (iI x111))]) dX3_run_111 rfl rfl rfl (fun _ => rfl) (fun x111 e111 => ?_)
                  refine r_goto hX dX3_run_114 (tgt := 35) (by decide) ?_
                  exact ih35 x90 x111 σ84 (Mod.tr (L := [18, 19, 20, 21, 22, 60]) m35 m84 rfl rfl) (by omega) (by omega) (by first | exact hD.back (by omega) (by omega) (by rw [← hx24]; omega) e63 e111 | (rw [e111]; exact (hD.goes (by omega) (by omega) (by rw [← hx24]; omega) (by omega) hGN).2 (by omega)) | (rw [e111, e90]; exact (hD.goes (by omega) (by omega) (by rw [← hx24]; omega) (by omega) hGN).1 (by omega) σ110 (fun b b0 b1 => by rw [s110, if_neg (by omega)]) (fun _ => by rw [s110, if_pos (by omega)]) (m110.at 18 rfl) (m110.at 19 rfl) (m110.at 21 rfl) (m110.at 22 rfl) (m110.at 60 rfl)) | (rw [e111, e90]; exact (hD.goes (by omega) (by omega) (by rw [← hx24]; omega) (by omega) hGN).1 (by omega) σ84 (fun _ _ _ => rfl) (fun q => by omega) rfl rfl rfl rfl rfl)) (by omega)
                · skip
                  refine r_aload_n hX dX3_run_104 rfl ?_
                  refine fg_X17_18 hX dX3_run_105 ?_
                  refine r_iload_n hX dX3_run_108 rfl ?_
                  refine r_iconst hX dX3_run_109 ?_
                  refine st_X20 hX dX3_run_110 (by omega) (by omega) (by omega) (fun σ110 m110 s110 => ?_)
                  refine r_iinc hX (fun x111 => [some (.ref (w.2.2 17)), some (.int (iI bt)), some (.int (iI x90)), some (.int (iI x24)), some (.int (iI x111))]) dX3_run_111 rfl rfl rfl (fun _ => rfl) (fun x111 e111 => ?_)
                  refine r_goto hX dX3_run_114 (tgt := 35) (by decide) ?_
                  exact ih35 x90 x111 σ110 (Mod.tr (L := [18, 19, 20, 21, 22, 60]) (Mod.tr (L := [18, 19, 20, 21, 22, 60]) m35 m84 rfl rfl) m110 rfl rfl) (by omega) (by omega) (by first | exact hD.back (by omega) (by omega) (by rw [← hx24]; omega) e63 e111 | (rw [e111]; exact (hD.goes (by omega) (by omega) (by rw [← hx24]; omega) (by omega) hGN).2 (by omega)) | (rw [e111, e90]; exact (hD.goes (by omega) (by omega) (by rw [← hx24]; omega) (by omega) hGN).1 (by omega) σ110 (fun b b0 b1 => by rw [s110, if_neg (by omega)]) (fun _ => by rw [s110, if_pos (by omega)]) (m110.at 18 rfl) (m110.at 19 rfl) (m110.at 21 rfl) (m110.at 22 rfl) (m110.at 60 rfl)) | (rw [e111, e90]; exact (hD.goes (by omega) (by omega) (by rw [← hx24]; omega) (by omega) hGN).1 (by omega) σ84 (fun _ _ _ => rfl) (fun q => by omega) rfl rfl rfl rfl rfl)) (by omega)
            · skip
              refine r_bipush hX dX3_run_79 (by decide) ?_
              exact r_iret hX dX3_run_81 rfl ⟨_, rfl, ⟨(Mod.tr (L := [18, 19, 20, 21, 22, 59, 60]) (Mod.tr (L := [18, 19, 20, 21, 22, 59, 60]) (Mod.tr (L := [18, 19, 20, 21, 22, 59, 60]) m2 m7 rfl rfl) m31 rfl rfl) m35 rfl rfl), (by rw [show σ35 59 = σ2 59 from qe]; exact s2), (by exact hD.fin (by omega) hc (Or.inr (Or.inr ⟨by omega, by omega, by rw [← hx24]; omega, by omega, rfl⟩)))⟩⟩
          · skip
            refine r_iinc hX (fun x63 => [some (.ref (w.2.2 17)), some (.int (iI bt)), some (.int (iI x63)), some (.int (iI x24)), some (.int (iI move))]) dX3_run_63 rfl rfl rfl (fun _ => rfl) (fun x63 e63 => ?_)
            refine r_goto hX dX3_run_66 (tgt := 111) (by decide) ?_
            refine r_iinc hX (fun x111 => [some (.ref (w.2.2 17)), some (.int (iI bt)), some (.int (iI x63)), some (.int (iI x24)), some (.int (iI x111))]) dX3_run_111 rfl rfl rfl (fun _ => rfl) (fun x111 e111 => ?_)
            refine r_goto hX dX3_run_114 (tgt := 35) (by decide) ?_
            exact ih35 x63 x111 σ35 (m35.w rfl) (by omega) (by omega) (by first | exact hD.back (by omega) (by omega) (by rw [← hx24]; omega) e63 e111 | (rw [e111]; exact (hD.goes (by omega) (by omega) (by rw [← hx24]; omega) (by omega) hGN).2 (by omega)) | (rw [e111, e90]; exact (hD.goes (by omega) (by omega) (by rw [← hx24]; omega) (by omega) hGN).1 (by omega) σ110 (fun b b0 b1 => by rw [s110, if_neg (by omega)]) (fun _ => by rw [s110, if_pos (by omega)]) (m110.at 18 rfl) (m110.at 19 rfl) (m110.at 21 rfl) (m110.at 22 rfl) (m110.at 60 rfl)) | (rw [e111, e90]; exact (hD.goes (by omega) (by omega) (by rw [← hx24]; omega) (by omega) hGN).1 (by omega) σ84 (fun _ _ _ => rfl) (fun q => by omega) rfl rfl rfl rfl rfl)) (by omega)
  exact lp35 ((60001 - (x33)) + 1).toNat x11 x33 σ31 Mod.rf (by omega) (by omega) (by rw [e11, e33]; exact DInv.init (by rw [m31.at 60 rfl]; exact s7) (by rw [s31, if_pos rfl]) hpl.1) (by omega)
end
