section
-- ===== PART A: goes FIRST, ahead of the names: the tables' words, and 'selects' of the private methods out of them =====
/-- a private method of a class that the tables say can be made, by its rows of tables_1 -/
def lw_okq (q : MethodName × Nat) : Prop := (q.1.cls ≠ "java/lang/invoke/MethodHandle" ∧ q.1.cls ≠ "java/lang/invoke/VarHandle") ∧ Cond.instantiable q.1.cls q.2 ∈ tables_1 ∧ Cond.privateMethod q.1 ∈ tables_1 ∧ Cond.instanceMethod q.1 ∈ tables_1
theorem lw_p0 : lw_okq (⟨"LoopBoard$Grid", "measure", "()V"⟩, 5) := ⟨⟨by decide +kernel, by decide +kernel⟩, List.mem_of_getElem? (i := 62) (by decide +kernel), List.mem_of_getElem? (i := 72) (by decide +kernel), List.mem_of_getElem? (i := 73) (by decide +kernel)⟩
theorem lw_p1 : lw_okq (⟨"LoopBoard$Grid", "singleStep", "(II)I"⟩, 5) := ⟨⟨by decide +kernel, by decide +kernel⟩, List.mem_of_getElem? (i := 62) (by decide +kernel), List.mem_of_getElem? (i := 76) (by decide +kernel), List.mem_of_getElem? (i := 77) (by decide +kernel)⟩
theorem lw_p2 : lw_okq (⟨"LoopBoard$Grid", "isOpen", "(I)Z"⟩, 5) := ⟨⟨by decide +kernel, by decide +kernel⟩, List.mem_of_getElem? (i := 62) (by decide +kernel), List.mem_of_getElem? (i := 80) (by decide +kernel), List.mem_of_getElem? (i := 81) (by decide +kernel)⟩
theorem lw_p3 : lw_okq (⟨"LoopBoard$Grid", "areNeighbours", "(II)Z"⟩, 5) := ⟨⟨by decide +kernel, by decide +kernel⟩, List.mem_of_getElem? (i := 62) (by decide +kernel), List.mem_of_getElem? (i := 88) (by decide +kernel), List.mem_of_getElem? (i := 89) (by decide +kernel)⟩
theorem lw_p4 : lw_okq (⟨"LoopBoard$Grid", "shortenThrough", "(I)V"⟩, 5) := ⟨⟨by decide +kernel, by decide +kernel⟩, List.mem_of_getElem? (i := 62) (by decide +kernel), List.mem_of_getElem? (i := 99) (by decide +kernel), List.mem_of_getElem? (i := 100) (by decide +kernel)⟩
theorem lw_p5 : lw_okq (⟨"LoopBoard$Loop", "setOperand", "(III)V"⟩, 11) := ⟨⟨by decide +kernel, by decide +kernel⟩, List.mem_of_getElem? (i := 20) (by decide +kernel), List.mem_of_getElem? (i := 227) (by decide +kernel), List.mem_of_getElem? (i := 228) (by decide +kernel)⟩
theorem lw_p6 : lw_okq (⟨"LoopBoard$Loop", "arrange", "()V"⟩, 11) := ⟨⟨by decide +kernel, by decide +kernel⟩, List.mem_of_getElem? (i := 20) (by decide +kernel), List.mem_of_getElem? (i := 231) (by decide +kernel), List.mem_of_getElem? (i := 232) (by decide +kernel)⟩
theorem lw_p7 : lw_okq (⟨"LoopBoard$Loop", "canFollow", "(I)Z"⟩, 11) := ⟨⟨by decide +kernel, by decide +kernel⟩, List.mem_of_getElem? (i := 20) (by decide +kernel), List.mem_of_getElem? (i := 235) (by decide +kernel), List.mem_of_getElem? (i := 236) (by decide +kernel)⟩
theorem lw_p8 : lw_okq (⟨"LoopBoard$Loop", "isSlot", "(I)Z"⟩, 11) := ⟨⟨by decide +kernel, by decide +kernel⟩, List.mem_of_getElem? (i := 20) (by decide +kernel), List.mem_of_getElem? (i := 243) (by decide +kernel), List.mem_of_getElem? (i := 244) (by decide +kernel)⟩
theorem lw_p9 : lw_okq (⟨"LoopBoard", "actsChanged", "()V"⟩, 9) := ⟨⟨by decide +kernel, by decide +kernel⟩, List.mem_of_getElem? (i := 12) (by decide +kernel), List.mem_of_getElem? (i := 255) (by decide +kernel), List.mem_of_getElem? (i := 256) (by decide +kernel)⟩
theorem lw_p10 : lw_okq (⟨"LoopBoard$Values", "valueOf", "(II)I"⟩, 2) := ⟨⟨by decide +kernel, by decide +kernel⟩, List.mem_of_getElem? (i := 175) (by decide +kernel), List.mem_of_getElem? (i := 329) (by decide +kernel), List.mem_of_getElem? (i := 330) (by decide +kernel)⟩
theorem lw_p11 : lw_okq (⟨"LoopBoard$Values", "operand", "(II)I"⟩, 2) := ⟨⟨by decide +kernel, by decide +kernel⟩, List.mem_of_getElem? (i := 175) (by decide +kernel), List.mem_of_getElem? (i := 345) (by decide +kernel), List.mem_of_getElem? (i := 346) (by decide +kernel)⟩
theorem lw_p12 : lw_okq (⟨"LoopBoard$Layout", "meetsOneAhead", "(I)Z"⟩, 5) := ⟨⟨by decide +kernel, by decide +kernel⟩, List.mem_of_getElem? (i := 119) (by decide +kernel), List.mem_of_getElem? (i := 458) (by decide +kernel), List.mem_of_getElem? (i := 459) (by decide +kernel)⟩
theorem lw_p13 : lw_okq (⟨"LoopBoard$Layout", "isLate", "(I)Z"⟩, 5) := ⟨⟨by decide +kernel, by decide +kernel⟩, List.mem_of_getElem? (i := 119) (by decide +kernel), List.mem_of_getElem? (i := 466) (by decide +kernel), List.mem_of_getElem? (i := 467) (by decide +kernel)⟩
theorem lw_p14 : lw_okq (⟨"LoopBoard$Layout", "usedAt", "(I)I"⟩, 5) := ⟨⟨by decide +kernel, by decide +kernel⟩, List.mem_of_getElem? (i := 119) (by decide +kernel), List.mem_of_getElem? (i := 472) (by decide +kernel), List.mem_of_getElem? (i := 473) (by decide +kernel)⟩
theorem lw_p15 : lw_okq (⟨"LoopBoard$Layout", "madeAt", "(I)I"⟩, 5) := ⟨⟨by decide +kernel, by decide +kernel⟩, List.mem_of_getElem? (i := 119) (by decide +kernel), List.mem_of_getElem? (i := 477) (by decide +kernel), List.mem_of_getElem? (i := 478) (by decide +kernel)⟩
def lw_privs_1 : List (MethodName × Nat) := [(⟨"LoopBoard$Grid", "measure", "()V"⟩, 5), (⟨"LoopBoard$Grid", "singleStep", "(II)I"⟩, 5), (⟨"LoopBoard$Grid", "isOpen", "(I)Z"⟩, 5), (⟨"LoopBoard$Grid", "areNeighbours", "(II)Z"⟩, 5), (⟨"LoopBoard$Grid", "shortenThrough", "(I)V"⟩, 5), (⟨"LoopBoard$Loop", "setOperand", "(III)V"⟩, 11), (⟨"LoopBoard$Loop", "arrange", "()V"⟩, 11), (⟨"LoopBoard$Loop", "canFollow", "(I)Z"⟩, 11), (⟨"LoopBoard$Loop", "isSlot", "(I)Z"⟩, 11), (⟨"LoopBoard", "actsChanged", "()V"⟩, 9), (⟨"LoopBoard$Values", "valueOf", "(II)I"⟩, 2), (⟨"LoopBoard$Values", "operand", "(II)I"⟩, 2), (⟨"LoopBoard$Layout", "meetsOneAhead", "(I)Z"⟩, 5), (⟨"LoopBoard$Layout", "isLate", "(I)Z"⟩, 5), (⟨"LoopBoard$Layout", "usedAt", "(I)I"⟩, 5), (⟨"LoopBoard$Layout", "madeAt", "(I)I"⟩, 5)]
theorem lw_r1 : ∀ q ∈ lw_privs_1, lw_okq q := List.forall_mem_cons.mpr ⟨lw_p0, List.forall_mem_cons.mpr ⟨lw_p1, List.forall_mem_cons.mpr ⟨lw_p2, List.forall_mem_cons.mpr ⟨lw_p3, List.forall_mem_cons.mpr ⟨lw_p4, List.forall_mem_cons.mpr ⟨lw_p5, List.forall_mem_cons.mpr ⟨lw_p6, List.forall_mem_cons.mpr ⟨lw_p7, List.forall_mem_cons.mpr ⟨lw_p8, List.forall_mem_cons.mpr ⟨lw_p9, List.forall_mem_cons.mpr ⟨lw_p10, List.forall_mem_cons.mpr ⟨lw_p11, List.forall_mem_cons.mpr ⟨lw_p12, List.forall_mem_cons.mpr ⟨lw_p13, List.forall_mem_cons.mpr ⟨lw_p14, List.forall_mem_cons.mpr ⟨lw_p15, fun _ h => absurd h List.not_mem_nil⟩⟩⟩⟩⟩⟩⟩⟩⟩⟩⟩⟩⟩⟩⟩⟩
theorem lw_p16 : lw_okq (⟨"LoopBoard", "stepBeat", "(II)V"⟩, 9) := ⟨⟨by decide +kernel, by decide +kernel⟩, List.mem_of_getElem? (i := 12) (by decide +kernel), List.mem_of_getElem? (i := 512) (by decide +kernel), List.mem_of_getElem? (i := 513) (by decide +kernel)⟩
theorem lw_p17 : lw_okq (⟨"LoopBoard", "placesBound", "()I"⟩, 9) := ⟨⟨by decide +kernel, by decide +kernel⟩, List.mem_of_getElem? (i := 12) (by decide +kernel), List.mem_of_getElem? (i := 539) (by decide +kernel), List.mem_of_getElem? (i := 540) (by decide +kernel)⟩
theorem lw_p18 : lw_okq (⟨"LoopBoard$Loop", "ringsAllow", "(I)Z"⟩, 11) := ⟨⟨by decide +kernel, by decide +kernel⟩, List.mem_of_getElem? (i := 20) (by decide +kernel), List.mem_of_getElem? (i := 567) (by decide +kernel), List.mem_of_getElem? (i := 568) (by decide +kernel)⟩
theorem lw_p19 : lw_okq (⟨"LoopBoard$Loop", "delaysGrow", "(I)Z"⟩, 11) := ⟨⟨by decide +kernel, by decide +kernel⟩, List.mem_of_getElem? (i := 20) (by decide +kernel), List.mem_of_getElem? (i := 572) (by decide +kernel), List.mem_of_getElem? (i := 573) (by decide +kernel)⟩
theorem lw_p20 : lw_okq (⟨"LoopBoard$Search", "goesNext", "(I)Z"⟩, 9) := ⟨⟨by decide +kernel, by decide +kernel⟩, List.mem_of_getElem? (i := 141) (by decide +kernel), List.mem_of_getElem? (i := 588) (by decide +kernel), List.mem_of_getElem? (i := 589) (by decide +kernel)⟩
theorem lw_p21 : lw_okq (⟨"LoopBoard$Search", "isFree", "(I)Z"⟩, 9) := ⟨⟨by decide +kernel, by decide +kernel⟩, List.mem_of_getElem? (i := 141) (by decide +kernel), List.mem_of_getElem? (i := 592) (by decide +kernel), List.mem_of_getElem? (i := 593) (by decide +kernel)⟩
theorem lw_p22 : lw_okq (⟨"LoopBoard$Search", "measureGaps", "(I)Z"⟩, 9) := ⟨⟨by decide +kernel, by decide +kernel⟩, List.mem_of_getElem? (i := 141) (by decide +kernel), List.mem_of_getElem? (i := 599) (by decide +kernel), List.mem_of_getElem? (i := 600) (by decide +kernel)⟩
theorem lw_p23 : lw_okq (⟨"LoopBoard$Search", "turnsSettle", "(I)Z"⟩, 9) := ⟨⟨by decide +kernel, by decide +kernel⟩, List.mem_of_getElem? (i := 141) (by decide +kernel), List.mem_of_getElem? (i := 608) (by decide +kernel), List.mem_of_getElem? (i := 609) (by decide +kernel)⟩
theorem lw_p24 : lw_okq (⟨"LoopBoard$Search", "beginRow", "(I)V"⟩, 9) := ⟨⟨by decide +kernel, by decide +kernel⟩, List.mem_of_getElem? (i := 141) (by decide +kernel), List.mem_of_getElem? (i := 612) (by decide +kernel), List.mem_of_getElem? (i := 613) (by decide +kernel)⟩
theorem lw_p25 : lw_okq (⟨"LoopBoard", "takeFound", "(I)V"⟩, 9) := ⟨⟨by decide +kernel, by decide +kernel⟩, List.mem_of_getElem? (i := 12) (by decide +kernel), List.mem_of_getElem? (i := 624) (by decide +kernel), List.mem_of_getElem? (i := 625) (by decide +kernel)⟩
theorem lw_p26 : lw_okq (⟨"LoopBoardModel", "whole", "()V"⟩, 24) := ⟨⟨by decide +kernel, by decide +kernel⟩, List.mem_of_getElem? (i := 657) (by decide +kernel), List.mem_of_getElem? (i := 663) (by decide +kernel), List.mem_of_getElem? (i := 664) (by decide +kernel)⟩
theorem lw_p27 : lw_okq (⟨"LoopBoardModel", "enter", "(I)I"⟩, 24) := ⟨⟨by decide +kernel, by decide +kernel⟩, List.mem_of_getElem? (i := 657) (by decide +kernel), List.mem_of_getElem? (i := 749) (by decide +kernel), List.mem_of_getElem? (i := 750) (by decide +kernel)⟩
theorem lw_p28 : lw_okq (⟨"LoopBoardModel", "isSound", "()Z"⟩, 24) := ⟨⟨by decide +kernel, by decide +kernel⟩, List.mem_of_getElem? (i := 657) (by decide +kernel), List.mem_of_getElem? (i := 772) (by decide +kernel), List.mem_of_getElem? (i := 773) (by decide +kernel)⟩
theorem lw_p29 : lw_okq (⟨"LoopBoardModel", "isAct", "(I)Z"⟩, 24) := ⟨⟨by decide +kernel, by decide +kernel⟩, List.mem_of_getElem? (i := 657) (by decide +kernel), List.mem_of_getElem? (i := 776) (by decide +kernel), List.mem_of_getElem? (i := 777) (by decide +kernel)⟩
theorem lw_p30 : lw_okq (⟨"LoopBoardModel", "isReady", "(I)Z"⟩, 24) := ⟨⟨by decide +kernel, by decide +kernel⟩, List.mem_of_getElem? (i := 657) (by decide +kernel), List.mem_of_getElem? (i := 780) (by decide +kernel), List.mem_of_getElem? (i := 781) (by decide +kernel)⟩
theorem lw_p31 : lw_okq (⟨"LoopBoardModel", "workTo", "(I)V"⟩, 24) := ⟨⟨by decide +kernel, by decide +kernel⟩, List.mem_of_getElem? (i := 657) (by decide +kernel), List.mem_of_getElem? (i := 791) (by decide +kernel), List.mem_of_getElem? (i := 792) (by decide +kernel)⟩
def lw_privs_2 : List (MethodName × Nat) := [(⟨"LoopBoard", "stepBeat", "(II)V"⟩, 9), (⟨"LoopBoard", "placesBound", "()I"⟩, 9), (⟨"LoopBoard$Loop", "ringsAllow", "(I)Z"⟩, 11), (⟨"LoopBoard$Loop", "delaysGrow", "(I)Z"⟩, 11), (⟨"LoopBoard$Search", "goesNext", "(I)Z"⟩, 9), (⟨"LoopBoard$Search", "isFree", "(I)Z"⟩, 9), (⟨"LoopBoard$Search", "measureGaps", "(I)Z"⟩, 9), (⟨"LoopBoard$Search", "turnsSettle", "(I)Z"⟩, 9), (⟨"LoopBoard$Search", "beginRow", "(I)V"⟩, 9), (⟨"LoopBoard", "takeFound", "(I)V"⟩, 9), (⟨"LoopBoardModel", "whole", "()V"⟩, 24), (⟨"LoopBoardModel", "enter", "(I)I"⟩, 24), (⟨"LoopBoardModel", "isSound", "()Z"⟩, 24), (⟨"LoopBoardModel", "isAct", "(I)Z"⟩, 24), (⟨"LoopBoardModel", "isReady", "(I)Z"⟩, 24), (⟨"LoopBoardModel", "workTo", "(I)V"⟩, 24)]
theorem lw_r2 : ∀ q ∈ lw_privs_2, lw_okq q := List.forall_mem_cons.mpr ⟨lw_p16, List.forall_mem_cons.mpr ⟨lw_p17, List.forall_mem_cons.mpr ⟨lw_p18, List.forall_mem_cons.mpr ⟨lw_p19, List.forall_mem_cons.mpr ⟨lw_p20, List.forall_mem_cons.mpr ⟨lw_p21, List.forall_mem_cons.mpr ⟨lw_p22, List.forall_mem_cons.mpr ⟨lw_p23, List.forall_mem_cons.mpr ⟨lw_p24, List.forall_mem_cons.mpr ⟨lw_p25, List.forall_mem_cons.mpr ⟨lw_p26, List.forall_mem_cons.mpr ⟨lw_p27, List.forall_mem_cons.mpr ⟨lw_p28, List.forall_mem_cons.mpr ⟨lw_p29, List.forall_mem_cons.mpr ⟨lw_p30, List.forall_mem_cons.mpr ⟨lw_p31, fun _ h => absurd h List.not_mem_nil⟩⟩⟩⟩⟩⟩⟩⟩⟩⟩⟩⟩⟩⟩⟩⟩
theorem lw_p32 : lw_okq (⟨"LoopBoardModel", "made", "(II)I"⟩, 24) := ⟨⟨by decide +kernel, by decide +kernel⟩, List.mem_of_getElem? (i := 657) (by decide +kernel), List.mem_of_getElem? (i := 795) (by decide +kernel), List.mem_of_getElem? (i := 796) (by decide +kernel)⟩
theorem lw_p33 : lw_okq (⟨"LoopBoardModel", "valueOf", "(II)I"⟩, 24) := ⟨⟨by decide +kernel, by decide +kernel⟩, List.mem_of_getElem? (i := 657) (by decide +kernel), List.mem_of_getElem? (i := 799) (by decide +kernel), List.mem_of_getElem? (i := 800) (by decide +kernel)⟩
theorem lw_p34 : lw_okq (⟨"LoopBoardModel", "lengthOf", "(I)I"⟩, 24) := ⟨⟨by decide +kernel, by decide +kernel⟩, List.mem_of_getElem? (i := 657) (by decide +kernel), List.mem_of_getElem? (i := 807) (by decide +kernel), List.mem_of_getElem? (i := 808) (by decide +kernel)⟩
theorem lw_p35 : lw_okq (⟨"LoopBoardModel", "cells", "()I"⟩, 24) := ⟨⟨by decide +kernel, by decide +kernel⟩, List.mem_of_getElem? (i := 657) (by decide +kernel), List.mem_of_getElem? (i := 815) (by decide +kernel), List.mem_of_getElem? (i := 816) (by decide +kernel)⟩
theorem lw_p36 : lw_okq (⟨"LoopBoardModel", "isCell", "(I)Z"⟩, 24) := ⟨⟨by decide +kernel, by decide +kernel⟩, List.mem_of_getElem? (i := 657) (by decide +kernel), List.mem_of_getElem? (i := 823) (by decide +kernel), List.mem_of_getElem? (i := 824) (by decide +kernel)⟩
theorem lw_p37 : lw_okq (⟨"LoopBoardModel", "wayOf", "(II)I"⟩, 24) := ⟨⟨by decide +kernel, by decide +kernel⟩, List.mem_of_getElem? (i := 657) (by decide +kernel), List.mem_of_getElem? (i := 835) (by decide +kernel), List.mem_of_getElem? (i := 836) (by decide +kernel)⟩
theorem lw_p38 : lw_okq (⟨"LoopBoardModel", "areBeside", "(II)Z"⟩, 24) := ⟨⟨by decide +kernel, by decide +kernel⟩, List.mem_of_getElem? (i := 657) (by decide +kernel), List.mem_of_getElem? (i := 839) (by decide +kernel), List.mem_of_getElem? (i := 840) (by decide +kernel)⟩
theorem lw_p39 : lw_okq (⟨"LoopBoardModel", "lacking", "()I"⟩, 24) := ⟨⟨by decide +kernel, by decide +kernel⟩, List.mem_of_getElem? (i := 657) (by decide +kernel), List.mem_of_getElem? (i := 857) (by decide +kernel), List.mem_of_getElem? (i := 858) (by decide +kernel)⟩
theorem lw_p40 : lw_okq (⟨"LoopBoardModel", "isLate", "(I)Z"⟩, 24) := ⟨⟨by decide +kernel, by decide +kernel⟩, List.mem_of_getElem? (i := 657) (by decide +kernel), List.mem_of_getElem? (i := 861) (by decide +kernel), List.mem_of_getElem? (i := 862) (by decide +kernel)⟩
theorem lw_p41 : lw_okq (⟨"LoopBoardModel", "whyNot", "()I"⟩, 24) := ⟨⟨by decide +kernel, by decide +kernel⟩, List.mem_of_getElem? (i := 657) (by decide +kernel), List.mem_of_getElem? (i := 873) (by decide +kernel), List.mem_of_getElem? (i := 874) (by decide +kernel)⟩
theorem lw_p42 : lw_okq (⟨"LoopBoardModel", "places", "()I"⟩, 24) := ⟨⟨by decide +kernel, by decide +kernel⟩, List.mem_of_getElem? (i := 657) (by decide +kernel), List.mem_of_getElem? (i := 896) (by decide +kernel), List.mem_of_getElem? (i := 897) (by decide +kernel)⟩
theorem lw_p43 : lw_okq (⟨"LoopBoardModel", "rings", "()I"⟩, 24) := ⟨⟨by decide +kernel, by decide +kernel⟩, List.mem_of_getElem? (i := 657) (by decide +kernel), List.mem_of_getElem? (i := 900) (by decide +kernel), List.mem_of_getElem? (i := 901) (by decide +kernel)⟩
theorem lw_p44 : lw_okq (⟨"LoopBoardModel", "ringsHold", "(I)Z"⟩, 24) := ⟨⟨by decide +kernel, by decide +kernel⟩, List.mem_of_getElem? (i := 657) (by decide +kernel), List.mem_of_getElem? (i := 904) (by decide +kernel), List.mem_of_getElem? (i := 905) (by decide +kernel)⟩
theorem lw_p45 : lw_okq (⟨"LoopBoardModel", "search", "(I)I"⟩, 24) := ⟨⟨by decide +kernel, by decide +kernel⟩, List.mem_of_getElem? (i := 657) (by decide +kernel), List.mem_of_getElem? (i := 912) (by decide +kernel), List.mem_of_getElem? (i := 913) (by decide +kernel)⟩
theorem lw_p46 : lw_okq (⟨"LoopBoardModel", "goesAt", "(II)Z"⟩, 24) := ⟨⟨by decide +kernel, by decide +kernel⟩, List.mem_of_getElem? (i := 657) (by decide +kernel), List.mem_of_getElem? (i := 916) (by decide +kernel), List.mem_of_getElem? (i := 917) (by decide +kernel)⟩
theorem lw_p47 : lw_okq (⟨"LoopBoardModel", "canStart", "(II)Z"⟩, 24) := ⟨⟨by decide +kernel, by decide +kernel⟩, List.mem_of_getElem? (i := 657) (by decide +kernel), List.mem_of_getElem? (i := 920) (by decide +kernel), List.mem_of_getElem? (i := 921) (by decide +kernel)⟩
def lw_privs_3 : List (MethodName × Nat) := [(⟨"LoopBoardModel", "made", "(II)I"⟩, 24), (⟨"LoopBoardModel", "valueOf", "(II)I"⟩, 24), (⟨"LoopBoardModel", "lengthOf", "(I)I"⟩, 24), (⟨"LoopBoardModel", "cells", "()I"⟩, 24), (⟨"LoopBoardModel", "isCell", "(I)Z"⟩, 24), (⟨"LoopBoardModel", "wayOf", "(II)I"⟩, 24), (⟨"LoopBoardModel", "areBeside", "(II)Z"⟩, 24), (⟨"LoopBoardModel", "lacking", "()I"⟩, 24), (⟨"LoopBoardModel", "isLate", "(I)Z"⟩, 24), (⟨"LoopBoardModel", "whyNot", "()I"⟩, 24), (⟨"LoopBoardModel", "places", "()I"⟩, 24), (⟨"LoopBoardModel", "rings", "()I"⟩, 24), (⟨"LoopBoardModel", "ringsHold", "(I)Z"⟩, 24), (⟨"LoopBoardModel", "search", "(I)I"⟩, 24), (⟨"LoopBoardModel", "goesAt", "(II)Z"⟩, 24), (⟨"LoopBoardModel", "canStart", "(II)Z"⟩, 24)]
theorem lw_r3 : ∀ q ∈ lw_privs_3, lw_okq q := List.forall_mem_cons.mpr ⟨lw_p32, List.forall_mem_cons.mpr ⟨lw_p33, List.forall_mem_cons.mpr ⟨lw_p34, List.forall_mem_cons.mpr ⟨lw_p35, List.forall_mem_cons.mpr ⟨lw_p36, List.forall_mem_cons.mpr ⟨lw_p37, List.forall_mem_cons.mpr ⟨lw_p38, List.forall_mem_cons.mpr ⟨lw_p39, List.forall_mem_cons.mpr ⟨lw_p40, List.forall_mem_cons.mpr ⟨lw_p41, List.forall_mem_cons.mpr ⟨lw_p42, List.forall_mem_cons.mpr ⟨lw_p43, List.forall_mem_cons.mpr ⟨lw_p44, List.forall_mem_cons.mpr ⟨lw_p45, List.forall_mem_cons.mpr ⟨lw_p46, List.forall_mem_cons.mpr ⟨lw_p47, fun _ h => absurd h List.not_mem_nil⟩⟩⟩⟩⟩⟩⟩⟩⟩⟩⟩⟩⟩⟩⟩⟩
def lw_privs : List (MethodName × Nat) := lw_privs_1 ++ (lw_privs_2 ++ (lw_privs_3))
def lw_tbl : List Cond := k2_sels lw_privs ++ tables_1
theorem lw_privs_ok : ∀ q ∈ lw_privs, lw_okq q := by
  show ∀ q ∈ lw_privs_1 ++ (lw_privs_2 ++ (lw_privs_3)), lw_okq q
  exact List.forall_mem_append.mpr ⟨lw_r1, List.forall_mem_append.mpr ⟨lw_r2, lw_r3⟩⟩
def RX0 : String := "LoopBoard$Grid"
def TX0 : u_T := fun k => match k with
  | 0 => ("LoopBoard$Grid", "broken", "[Z", true)
  | 1 => ("LoopBoard$Grid", "multiplying", "[Z", true)
  | 2 => ("LoopBoard$Grid", "ways", "[I", true)
  | 3 => ("LoopBoard$Grid", "rows", "I", false)
  | _ => ("LoopBoard$Grid", "columns", "I", false)
def tyX0 : Nat → FieldType := fun k => match k with
  | 0 => .array .boolean
  | 1 => .array .boolean
  | 2 => .array .int
  | 3 => .int
  | _ => .int
abbrev wsX00 : List Cond := u_ws RX0 TX0 5
theorem nmX0 : ∀ a, a < 5 → ∀ b, b < 5 → a ≠ b → (TX0 a).2.1 ≠ (TX0 b).2.1 := by decide +kernel
theorem tyX0_ok : ∀ k, k < 5 → parseFieldDescriptor (TX0 k).2.2.1 = some (tyX0 k) := by decide +kernel
abbrev cX0_init : ByteArray := prog_2_method_1_code
def yX0_init : MethodName := ⟨RX0, "<init>", "()V"⟩
abbrev cX0_renew : ByteArray := prog_2_method_2_code
def yX0_renew : MethodName := ⟨RX0, "renew", "(II)V"⟩
abbrev cX0_rows : ByteArray := prog_2_method_3_code
def yX0_rows : MethodName := ⟨RX0, "rows", "()I"⟩
abbrev cX0_columns : ByteArray := prog_2_method_4_code
def yX0_columns : MethodName := ⟨RX0, "columns", "()I"⟩
abbrev cX0_cells : ByteArray := prog_2_method_5_code
def yX0_cells : MethodName := ⟨RX0, "cells", "()I"⟩
abbrev cX0_isThere : ByteArray := prog_2_method_6_code
def yX0_isThere : MethodName := ⟨RX0, "isThere", "(I)Z"⟩
abbrev cX0_isBroken : ByteArray := prog_2_method_7_code
def yX0_isBroken : MethodName := ⟨RX0, "isBroken", "(I)Z"⟩
abbrev cX0_isMultiplying : ByteArray := prog_2_method_8_code
def yX0_isMultiplying : MethodName := ⟨RX0, "isMultiplying", "(I)Z"⟩
abbrev cX0_setBroken : ByteArray := prog_2_method_9_code
def yX0_setBroken : MethodName := ⟨RX0, "setBroken", "(IZ)V"⟩
abbrev cX0_setMultiplying : ByteArray := prog_2_method_10_code
def yX0_setMultiplying : MethodName := ⟨RX0, "setMultiplying", "(IZ)V"⟩
abbrev cX0_isOpen : ByteArray := prog_2_method_11_code
def yX0_isOpen : MethodName := ⟨RX0, "isOpen", "(I)Z"⟩
abbrev cX0_suits : ByteArray := prog_2_method_12_code
def yX0_suits : MethodName := ⟨RX0, "suits", "(II)Z"⟩
abbrev cX0_unbroken : ByteArray := prog_2_method_13_code
def yX0_unbroken : MethodName := ⟨RX0, "unbroken", "()I"⟩
abbrev cX0_unbrokenMultiplying : ByteArray := prog_2_method_14_code
def yX0_unbrokenMultiplying : MethodName := ⟨RX0, "unbrokenMultiplying", "()I"⟩
abbrev cX0_wayBetween : ByteArray := prog_2_method_15_code
def yX0_wayBetween : MethodName := ⟨RX0, "wayBetween", "(II)I"⟩
abbrev cX0_measure : ByteArray := prog_2_method_16_code
def yX0_measure : MethodName := ⟨RX0, "measure", "()V"⟩
abbrev cX0_shortenThrough : ByteArray := prog_2_method_17_code
def yX0_shortenThrough : MethodName := ⟨RX0, "shortenThrough", "(I)V"⟩
abbrev cX0_singleStep : ByteArray := prog_2_method_18_code
def yX0_singleStep : MethodName := ⟨RX0, "singleStep", "(II)I"⟩
abbrev cX0_areNeighbours : ByteArray := prog_2_method_19_code
def yX0_areNeighbours : MethodName := ⟨RX0, "areNeighbours", "(II)Z"⟩
def RX1 : String := "LoopBoard$Layout"
def TX1 : u_T := fun k => match k with
  | 0 => ("LoopBoard$Layout", "loop", "LLoopBoard$Loop;", true)
  | 1 => ("LoopBoard$Layout", "grid", "LLoopBoard$Grid;", true)
  | 2 => ("LoopBoard$Layout", "cells", "[I", true)
  | 3 => ("LoopBoard$Layout", "starts", "[I", true)
  | _ => ("LoopBoard$Layout", "beat", "I", false)
def tyX1 : Nat → FieldType := fun k => match k with
  | 0 => .object "LoopBoard$Loop"
  | 1 => .object "LoopBoard$Grid"
  | 2 => .array .int
  | 3 => .array .int
  | _ => .int
abbrev wsX10 : List Cond := u_ws RX1 TX1 5
theorem nmX1 : ∀ a, a < 5 → ∀ b, b < 5 → a ≠ b → (TX1 a).2.1 ≠ (TX1 b).2.1 := by decide +kernel
theorem tyX1_ok : ∀ k, k < 5 → parseFieldDescriptor (TX1 k).2.2.1 = some (tyX1 k) := by decide +kernel
abbrev cX1_init : ByteArray := prog_3_method_1_code
def yX1_init : MethodName := ⟨RX1, "<init>", "(LLoopBoard$Loop;LLoopBoard$Grid;)V"⟩
abbrev cX1_beat : ByteArray := prog_3_method_2_code
def yX1_beat : MethodName := ⟨RX1, "beat", "()I"⟩
abbrev cX1_stands : ByteArray := prog_3_method_3_code
def yX1_stands : MethodName := ⟨RX1, "stands", "()Z"⟩
abbrev cX1_drop : ByteArray := prog_3_method_4_code
def yX1_drop : MethodName := ⟨RX1, "drop", "()V"⟩
abbrev cX1_begin : ByteArray := prog_3_method_5_code
def yX1_begin : MethodName := ⟨RX1, "begin", "(I)V"⟩
abbrev cX1_put : ByteArray := prog_3_method_6_code
def yX1_put : MethodName := ⟨RX1, "put", "(III)V"⟩
abbrev cX1_cellOf : ByteArray := prog_3_method_7_code
def yX1_cellOf : MethodName := ⟨RX1, "cellOf", "(I)I"⟩
abbrev cX1_startOf : ByteArray := prog_3_method_8_code
def yX1_startOf : MethodName := ⟨RX1, "startOf", "(I)I"⟩
abbrev cX1_madeAt : ByteArray := prog_3_method_9_code
def yX1_madeAt : MethodName := ⟨RX1, "madeAt", "(I)I"⟩
abbrev cX1_isGood : ByteArray := prog_3_method_10_code
def yX1_isGood : MethodName := ⟨RX1, "isGood", "()Z"⟩
abbrev cX1_firstLack : ByteArray := prog_3_method_11_code
def yX1_firstLack : MethodName := ⟨RX1, "firstLack", "()I"⟩
abbrev cX1_meetsOneAhead : ByteArray := prog_3_method_12_code
def yX1_meetsOneAhead : MethodName := ⟨RX1, "meetsOneAhead", "(I)Z"⟩
abbrev cX1_isLate : ByteArray := prog_3_method_13_code
def yX1_isLate : MethodName := ⟨RX1, "isLate", "(I)Z"⟩
abbrev cX1_usedAt : ByteArray := prog_3_method_14_code
def yX1_usedAt : MethodName := ⟨RX1, "usedAt", "(I)I"⟩
abbrev cX1_mostKept : ByteArray := prog_3_method_15_code
def yX1_mostKept : MethodName := ⟨RX1, "mostKept", "(I)I"⟩
abbrev cX1_endOf : ByteArray := prog_3_method_16_code
def yX1_endOf : MethodName := ⟨RX1, "endOf", "(I)I"⟩
abbrev cX1_roundStarting : ByteArray := prog_3_method_17_code
def yX1_roundStarting : MethodName := ⟨RX1, "roundStarting", "(II)I"⟩
abbrev cX1_actStarting : ByteArray := prog_3_method_18_code
def yX1_actStarting : MethodName := ⟨RX1, "actStarting", "(II)I"⟩
def RX2 : String := "LoopBoard$Loop"
def TX2 : u_T := fun k => match k with
  | 0 => ("LoopBoard$Loop", "kinds", "[I", true)
  | 1 => ("LoopBoard$Loop", "factors", "[I", true)
  | 2 => ("LoopBoard$Loop", "addends", "[I", true)
  | 3 => ("LoopBoard$Loop", "sources", "[I", true)
  | 4 => ("LoopBoard$Loop", "distances", "[I", true)
  | 5 => ("LoopBoard$Loop", "order", "[I", true)
  | 6 => ("LoopBoard$Loop", "isOrdered", "[Z", true)
  | 7 => ("LoopBoard$Loop", "delays", "[I", true)
  | 8 => ("LoopBoard$Loop", "count", "I", false)
  | 9 => ("LoopBoard$Loop", "ordered", "I", false)
  | _ => ("LoopBoard$Loop", "firstNumber", "I", false)
def tyX2 : Nat → FieldType := fun k => match k with
  | 0 => .array .int
  | 1 => .array .int
  | 2 => .array .int
  | 3 => .array .int
  | 4 => .array .int
  | 5 => .array .int
  | 6 => .array .boolean
  | 7 => .array .int
  | 8 => .int
  | 9 => .int
  | _ => .int
abbrev wsX20 : List Cond := u_ws RX2 TX2 11
theorem nmX2 : ∀ a, a < 11 → ∀ b, b < 11 → a ≠ b → (TX2 a).2.1 ≠ (TX2 b).2.1 := by decide +kernel
theorem tyX2_ok : ∀ k, k < 11 → parseFieldDescriptor (TX2 k).2.2.1 = some (tyX2 k) := by decide +kernel
abbrev cX2_init : ByteArray := prog_4_method_1_code
def yX2_init : MethodName := ⟨RX2, "<init>", "()V"⟩
abbrev cX2_count : ByteArray := prog_4_method_2_code
def yX2_count : MethodName := ⟨RX2, "count", "()I"⟩
abbrev cX2_firstNumber : ByteArray := prog_4_method_3_code
def yX2_firstNumber : MethodName := ⟨RX2, "firstNumber", "()I"⟩
abbrev cX2_setFirstNumber : ByteArray := prog_4_method_4_code
def yX2_setFirstNumber : MethodName := ⟨RX2, "setFirstNumber", "(I)V"⟩
abbrev cX2_isThere : ByteArray := prog_4_method_5_code
def yX2_isThere : MethodName := ⟨RX2, "isThere", "(I)Z"⟩
abbrev cX2_isSlot : ByteArray := prog_4_method_6_code
def yX2_isSlot : MethodName := ⟨RX2, "isSlot", "(I)Z"⟩
abbrev cX2_isSound : ByteArray := prog_4_method_7_code
def yX2_isSound : MethodName := ⟨RX2, "isSound", "()Z"⟩
abbrev cX2_kindOf : ByteArray := prog_4_method_8_code
def yX2_kindOf : MethodName := ⟨RX2, "kindOf", "(I)I"⟩
abbrev cX2_lengthOf : ByteArray := prog_4_method_9_code
def yX2_lengthOf : MethodName := ⟨RX2, "lengthOf", "(I)I"⟩
abbrev cX2_factorOf : ByteArray := prog_4_method_10_code
def yX2_factorOf : MethodName := ⟨RX2, "factorOf", "(I)I"⟩
abbrev cX2_addendOf : ByteArray := prog_4_method_11_code
def yX2_addendOf : MethodName := ⟨RX2, "addendOf", "(I)I"⟩
abbrev cX2_sourceOf : ByteArray := prog_4_method_12_code
def yX2_sourceOf : MethodName := ⟨RX2, "sourceOf", "(I)I"⟩
abbrev cX2_distanceOf : ByteArray := prog_4_method_13_code
def yX2_distanceOf : MethodName := ⟨RX2, "distanceOf", "(I)I"⟩
abbrev cX2_actInOrder : ByteArray := prog_4_method_14_code
def yX2_actInOrder : MethodName := ⟨RX2, "actInOrder", "(I)I"⟩
abbrev cX2_addInput : ByteArray := prog_4_method_15_code
def yX2_addInput : MethodName := ⟨RX2, "addInput", "(II)I"⟩
abbrev cX2_addWork : ByteArray := prog_4_method_16_code
def yX2_addWork : MethodName := ⟨RX2, "addWork", "(IIIII)I"⟩
abbrev cX2_setOperand : ByteArray := prog_4_method_17_code
def yX2_setOperand : MethodName := ⟨RX2, "setOperand", "(III)V"⟩
abbrev cX2_empty : ByteArray := prog_4_method_18_code
def yX2_empty : MethodName := ⟨RX2, "empty", "()V"⟩
abbrev cX2_arrange : ByteArray := prog_4_method_19_code
def yX2_arrange : MethodName := ⟨RX2, "arrange", "()V"⟩
abbrev cX2_canFollow : ByteArray := prog_4_method_20_code
def yX2_canFollow : MethodName := ⟨RX2, "canFollow", "(I)Z"⟩
abbrev cX2_products : ByteArray := prog_4_method_21_code
def yX2_products : MethodName := ⟨RX2, "products", "()I"⟩
abbrev cX2_ringsBound : ByteArray := prog_4_method_22_code
def yX2_ringsBound : MethodName := ⟨RX2, "ringsBound", "()I"⟩
abbrev cX2_ringsAllow : ByteArray := prog_4_method_23_code
def yX2_ringsAllow : MethodName := ⟨RX2, "ringsAllow", "(I)Z"⟩
abbrev cX2_delaysGrow : ByteArray := prog_4_method_24_code
def yX2_delaysGrow : MethodName := ⟨RX2, "delaysGrow", "(I)Z"⟩
def RX3 : String := "LoopBoard$Search"
def TX3 : u_T := fun k => match k with
  | 0 => ("LoopBoard$Search", "loop", "LLoopBoard$Loop;", true)
  | 1 => ("LoopBoard$Search", "grid", "LLoopBoard$Grid;", true)
  | 2 => ("LoopBoard$Search", "cells", "[I", true)
  | 3 => ("LoopBoard$Search", "leftOvers", "[I", true)
  | 4 => ("LoopBoard$Search", "nextTries", "[I", true)
  | 5 => ("LoopBoard$Search", "gaps", "[I", true)
  | 6 => ("LoopBoard$Search", "turns", "[I", true)
  | 7 => ("LoopBoard$Search", "beat", "I", false)
  | _ => ("LoopBoard$Search", "tries", "I", false)
def tyX3 : Nat → FieldType := fun k => match k with
  | 0 => .object "LoopBoard$Loop"
  | 1 => .object "LoopBoard$Grid"
  | 2 => .array .int
  | 3 => .array .int
  | 4 => .array .int
  | 5 => .array .int
  | 6 => .array .int
  | 7 => .int
  | _ => .int
abbrev wsX30 : List Cond := u_ws RX3 TX3 9
theorem nmX3 : ∀ a, a < 9 → ∀ b, b < 9 → a ≠ b → (TX3 a).2.1 ≠ (TX3 b).2.1 := by decide +kernel
theorem tyX3_ok : ∀ k, k < 9 → parseFieldDescriptor (TX3 k).2.2.1 = some (tyX3 k) := by decide +kernel
abbrev cX3_init : ByteArray := prog_5_method_1_code
def yX3_init : MethodName := ⟨RX3, "<init>", "(LLoopBoard$Loop;LLoopBoard$Grid;)V"⟩
abbrev cX3_triesMade : ByteArray := prog_5_method_2_code
def yX3_triesMade : MethodName := ⟨RX3, "triesMade", "()I"⟩
abbrev cX3_cellOf : ByteArray := prog_5_method_3_code
def yX3_cellOf : MethodName := ⟨RX3, "cellOf", "(I)I"⟩
abbrev cX3_startOf : ByteArray := prog_5_method_4_code
def yX3_startOf : MethodName := ⟨RX3, "startOf", "(I)I"⟩
abbrev cX3_run : ByteArray := prog_5_method_5_code
def yX3_run : MethodName := ⟨RX3, "run", "(I)I"⟩
abbrev cX3_goesNext : ByteArray := prog_5_method_6_code
def yX3_goesNext : MethodName := ⟨RX3, "goesNext", "(I)Z"⟩
abbrev cX3_isFree : ByteArray := prog_5_method_7_code
def yX3_isFree : MethodName := ⟨RX3, "isFree", "(I)Z"⟩
abbrev cX3_measureGaps : ByteArray := prog_5_method_8_code
def yX3_measureGaps : MethodName := ⟨RX3, "measureGaps", "(I)Z"⟩
abbrev cX3_turnsSettle : ByteArray := prog_5_method_9_code
def yX3_turnsSettle : MethodName := ⟨RX3, "turnsSettle", "(I)Z"⟩
abbrev cX3_beginRow : ByteArray := prog_5_method_10_code
def yX3_beginRow : MethodName := ⟨RX3, "beginRow", "(I)V"⟩
def RX4 : String := "LoopBoard$Values"
def TX4 : u_T := fun k => match k with
  | 0 => ("LoopBoard$Values", "loop", "LLoopBoard$Loop;", true)
  | _ => ("LoopBoard$Values", "made", "[I", true)
def tyX4 : Nat → FieldType := fun k => match k with
  | 0 => .object "LoopBoard$Loop"
  | _ => .array .int
abbrev wsX40 : List Cond := u_ws RX4 TX4 2
theorem nmX4 : ∀ a, a < 2 → ∀ b, b < 2 → a ≠ b → (TX4 a).2.1 ≠ (TX4 b).2.1 := by decide +kernel
theorem tyX4_ok : ∀ k, k < 2 → parseFieldDescriptor (TX4 k).2.2.1 = some (tyX4 k) := by decide +kernel
abbrev cX4_init : ByteArray := prog_6_method_1_code
def yX4_init : MethodName := ⟨RX4, "<init>", "(LLoopBoard$Loop;)V"⟩
abbrev cX4_at : ByteArray := prog_6_method_2_code
def yX4_at : MethodName := ⟨RX4, "at", "(II)I"⟩
abbrev cX4_isPlace : ByteArray := prog_6_method_3_code
def yX4_isPlace : MethodName := ⟨RX4, "isPlace", "(II)Z"⟩
abbrev cX4_makeRound : ByteArray := prog_6_method_4_code
def yX4_makeRound : MethodName := ⟨RX4, "makeRound", "(I)V"⟩
abbrev cX4_make : ByteArray := prog_6_method_5_code
def yX4_make : MethodName := ⟨RX4, "make", "(II)V"⟩
abbrev cX4_valueOf : ByteArray := prog_6_method_6_code
def yX4_valueOf : MethodName := ⟨RX4, "valueOf", "(II)I"⟩
abbrev cX4_operand : ByteArray := prog_6_method_7_code
def yX4_operand : MethodName := ⟨RX4, "operand", "(II)I"⟩
def RX5 : String := "LoopBoard"
def TX5 : u_T := fun k => match k with
  | 0 => ("LoopBoard", "loop", "LLoopBoard$Loop;", true)
  | 1 => ("LoopBoard", "grid", "LLoopBoard$Grid;", true)
  | 2 => ("LoopBoard", "layout", "LLoopBoard$Layout;", true)
  | 3 => ("LoopBoard", "search", "LLoopBoard$Search;", true)
  | 4 => ("LoopBoard", "plainValues", "LLoopBoard$Values;", true)
  | 5 => ("LoopBoard", "steppedValues", "LLoopBoard$Values;", true)
  | 6 => ("LoopBoard", "plainRounds", "I", false)
  | 7 => ("LoopBoard", "steppedRounds", "I", false)
  | _ => ("LoopBoard", "latestTries", "I", false)
def tyX5 : Nat → FieldType := fun k => match k with
  | 0 => .object "LoopBoard$Loop"
  | 1 => .object "LoopBoard$Grid"
  | 2 => .object "LoopBoard$Layout"
  | 3 => .object "LoopBoard$Search"
  | 4 => .object "LoopBoard$Values"
  | 5 => .object "LoopBoard$Values"
  | 6 => .int
  | 7 => .int
  | _ => .int
abbrev wsX50 : List Cond := u_ws RX5 TX5 9
theorem nmX5 : ∀ a, a < 9 → ∀ b, b < 9 → a ≠ b → (TX5 a).2.1 ≠ (TX5 b).2.1 := by decide +kernel
theorem tyX5_ok : ∀ k, k < 9 → parseFieldDescriptor (TX5 k).2.2.1 = some (tyX5 k) := by decide +kernel
abbrev cX5_init : ByteArray := prog_1_method_1_code
def yX5_init : MethodName := ⟨RX5, "<init>", "()V"⟩
abbrev cX5_input : ByteArray := prog_1_method_2_code
def yX5_input : MethodName := ⟨RX5, "input", "(II)I"⟩
abbrev cX5_act : ByteArray := prog_1_method_3_code
def yX5_act : MethodName := ⟨RX5, "act", "(IIIII)I"⟩
abbrev cX5_first : ByteArray := prog_1_method_4_code
def yX5_first : MethodName := ⟨RX5, "first", "(I)I"⟩
abbrev cX5_clear : ByteArray := prog_1_method_5_code
def yX5_clear : MethodName := ⟨RX5, "clear", "()I"⟩
abbrev cX5_sound : ByteArray := prog_1_method_6_code
def yX5_sound : MethodName := ⟨RX5, "sound", "()I"⟩
abbrev cX5_plain : ByteArray := prog_1_method_7_code
def yX5_plain : MethodName := ⟨RX5, "plain", "(II)J"⟩
abbrev cX5_about : ByteArray := prog_1_method_8_code
def yX5_about : MethodName := ⟨RX5, "about", "(II)I"⟩
abbrev cX5_board : ByteArray := prog_1_method_9_code
def yX5_board : MethodName := ⟨RX5, "board", "(II)I"⟩
abbrev cX5_breaks : ByteArray := prog_1_method_10_code
def yX5_breaks : MethodName := ⟨RX5, "breaks", "(IZ)I"⟩
abbrev cX5_multiplies : ByteArray := prog_1_method_11_code
def yX5_multiplies : MethodName := ⟨RX5, "multiplies", "(IZ)I"⟩
abbrev cX5_way : ByteArray := prog_1_method_12_code
def yX5_way : MethodName := ⟨RX5, "way", "(II)I"⟩
abbrev cX5_plan : ByteArray := prog_1_method_13_code
def yX5_plan : MethodName := ⟨RX5, "plan", "(I)I"⟩
abbrev cX5_lay : ByteArray := prog_1_method_14_code
def yX5_lay : MethodName := ⟨RX5, "lay", "(III)I"⟩
abbrev cX5_lacks : ByteArray := prog_1_method_15_code
def yX5_lacks : MethodName := ⟨RX5, "lacks", "()I"⟩
abbrev cX5_laid : ByteArray := prog_1_method_16_code
def yX5_laid : MethodName := ⟨RX5, "laid", "(II)I"⟩
abbrev cX5_kept : ByteArray := prog_1_method_17_code
def yX5_kept : MethodName := ⟨RX5, "kept", "(I)I"⟩
abbrev cX5_step : ByteArray := prog_1_method_18_code
def yX5_step : MethodName := ⟨RX5, "step", "(I)I"⟩
abbrev cX5_stepped : ByteArray := prog_1_method_19_code
def yX5_stepped : MethodName := ⟨RX5, "stepped", "(II)J"⟩
abbrev cX5_works : ByteArray := prog_1_method_20_code
def yX5_works : MethodName := ⟨RX5, "works", "(II)I"⟩
abbrev cX5_bound : ByteArray := prog_1_method_21_code
def yX5_bound : MethodName := ⟨RX5, "bound", "(I)I"⟩
abbrev cX5_find : ByteArray := prog_1_method_22_code
def yX5_find : MethodName := ⟨RX5, "find", "()I"⟩
abbrev cX5_tries : ByteArray := prog_1_method_23_code
def yX5_tries : MethodName := ⟨RX5, "tries", "()I"⟩
abbrev cX5_told : ByteArray := prog_1_method_24_code
def yX5_told : MethodName := ⟨RX5, "told", "(I)I"⟩
abbrev cX5_isWithin : ByteArray := prog_1_method_25_code
def yX5_isWithin : MethodName := ⟨RX5, "isWithin", "(III)Z"⟩
abbrev cX5_isOperand : ByteArray := prog_1_method_26_code
def yX5_isOperand : MethodName := ⟨RX5, "isOperand", "(II)Z"⟩
abbrev cX5_cutUp : ByteArray := prog_1_method_27_code
def yX5_cutUp : MethodName := ⟨RX5, "cutUp", "(II)I"⟩
abbrev cX5_actsChanged : ByteArray := prog_1_method_28_code
def yX5_actsChanged : MethodName := ⟨RX5, "actsChanged", "()V"⟩
abbrev cX5_stepBeat : ByteArray := prog_1_method_29_code
def yX5_stepBeat : MethodName := ⟨RX5, "stepBeat", "(II)V"⟩
abbrev cX5_placesBound : ByteArray := prog_1_method_30_code
def yX5_placesBound : MethodName := ⟨RX5, "placesBound", "()I"⟩
abbrev cX5_takeFound : ByteArray := prog_1_method_31_code
def yX5_takeFound : MethodName := ⟨RX5, "takeFound", "(I)V"⟩
def RX6 : String := "LoopBoardModel"
def TX6 : u_T := fun k => match k with
  | 0 => ("LoopBoardModel", "kind", "[I", true)
  | 1 => ("LoopBoardModel", "operand", "[I", true)
  | 2 => ("LoopBoardModel", "distance", "[I", true)
  | 3 => ("LoopBoardModel", "p", "[I", true)
  | 4 => ("LoopBoardModel", "q", "[I", true)
  | 5 => ("LoopBoardModel", "acts", "I", false)
  | 6 => ("LoopBoardModel", "first", "I", false)
  | 7 => ("LoopBoardModel", "beat", "I", false)
  | 8 => ("LoopBoardModel", "rounds", "I", false)
  | 9 => ("LoopBoardModel", "isDone", "[Z", true)
  | 10 => ("LoopBoardModel", "values", "[I", true)
  | 11 => ("LoopBoardModel", "rows", "I", false)
  | 12 => ("LoopBoardModel", "columns", "I", false)
  | 13 => ("LoopBoardModel", "isBroken", "[Z", true)
  | 14 => ("LoopBoardModel", "canMultiply", "[Z", true)
  | 15 => ("LoopBoardModel", "far", "[I", true)
  | 16 => ("LoopBoardModel", "cell", "[I", true)
  | 17 => ("LoopBoardModel", "start", "[I", true)
  | 18 => ("LoopBoardModel", "height", "[I", true)
  | 19 => ("LoopBoardModel", "tries", "I", false)
  | 20 => ("LoopBoardModel", "tryCell", "[I", true)
  | 21 => ("LoopBoardModel", "tryOver", "[I", true)
  | 22 => ("LoopBoardModel", "times", "[I", true)
  | _ => ("LoopBoardModel", "ways", "[I", true)
def tyX6 : Nat → FieldType := fun k => match k with
  | 0 => .array .int
  | 1 => .array .int
  | 2 => .array .int
  | 3 => .array .int
  | 4 => .array .int
  | 5 => .int
  | 6 => .int
  | 7 => .int
  | 8 => .int
  | 9 => .array .boolean
  | 10 => .array .int
  | 11 => .int
  | 12 => .int
  | 13 => .array .boolean
  | 14 => .array .boolean
  | 15 => .array .int
  | 16 => .array .int
  | 17 => .array .int
  | 18 => .array .int
  | 19 => .int
  | 20 => .array .int
  | 21 => .array .int
  | 22 => .array .int
  | _ => .array .int
abbrev wsX60 : List Cond := u_ws RX6 TX6 24
theorem nmX6 : ∀ a, a < 24 → ∀ b, b < 24 → a ≠ b → (TX6 a).2.1 ≠ (TX6 b).2.1 := by decide +kernel
theorem tyX6_ok : ∀ k, k < 24 → parseFieldDescriptor (TX6 k).2.2.1 = some (tyX6 k) := by decide +kernel
abbrev cX6_init : ByteArray := prog_8_method_1_code
def yX6_init : MethodName := ⟨RX6, "<init>", "()V"⟩
abbrev cX6_in : ByteArray := prog_8_method_3_code
def yX6_in : MethodName := ⟨RX6, "in", "(JJJ)Z"⟩
abbrev cX6_isAct : ByteArray := prog_8_method_4_code
def yX6_isAct : MethodName := ⟨RX6, "isAct", "(I)Z"⟩
abbrev cX6_enter : ByteArray := prog_8_method_5_code
def yX6_enter : MethodName := ⟨RX6, "enter", "(I)I"⟩
abbrev cX6_input : ByteArray := prog_8_method_6_code
def yX6_input : MethodName := ⟨RX6, "input", "(II)I"⟩
abbrev cX6_act : ByteArray := prog_8_method_7_code
def yX6_act : MethodName := ⟨RX6, "act", "(IIIII)I"⟩
abbrev cX6_first : ByteArray := prog_8_method_8_code
def yX6_first : MethodName := ⟨RX6, "first", "(I)I"⟩
abbrev cX6_clear : ByteArray := prog_8_method_9_code
def yX6_clear : MethodName := ⟨RX6, "clear", "()I"⟩
abbrev cX6_lengthOf : ByteArray := prog_8_method_10_code
def yX6_lengthOf : MethodName := ⟨RX6, "lengthOf", "(I)I"⟩
abbrev cX6_isReady : ByteArray := prog_8_method_11_code
def yX6_isReady : MethodName := ⟨RX6, "isReady", "(I)Z"⟩
abbrev cX6_isSound : ByteArray := prog_8_method_12_code
def yX6_isSound : MethodName := ⟨RX6, "isSound", "()Z"⟩
abbrev cX6_sound : ByteArray := prog_8_method_13_code
def yX6_sound : MethodName := ⟨RX6, "sound", "()I"⟩
abbrev cX6_valueOf : ByteArray := prog_8_method_14_code
def yX6_valueOf : MethodName := ⟨RX6, "valueOf", "(II)I"⟩
abbrev cX6_made : ByteArray := prog_8_method_15_code
def yX6_made : MethodName := ⟨RX6, "made", "(II)I"⟩
abbrev cX6_workTo : ByteArray := prog_8_method_16_code
def yX6_workTo : MethodName := ⟨RX6, "workTo", "(I)V"⟩
abbrev cX6_plain : ByteArray := prog_8_method_17_code
def yX6_plain : MethodName := ⟨RX6, "plain", "(II)J"⟩
abbrev cX6_about : ByteArray := prog_8_method_18_code
def yX6_about : MethodName := ⟨RX6, "about", "(II)I"⟩
abbrev cX6_whole : ByteArray := prog_8_method_19_code
def yX6_whole : MethodName := ⟨RX6, "whole", "()V"⟩
abbrev cX6_cells : ByteArray := prog_8_method_20_code
def yX6_cells : MethodName := ⟨RX6, "cells", "()I"⟩
abbrev cX6_isCell : ByteArray := prog_8_method_21_code
def yX6_isCell : MethodName := ⟨RX6, "isCell", "(I)Z"⟩
abbrev cX6_board : ByteArray := prog_8_method_22_code
def yX6_board : MethodName := ⟨RX6, "board", "(II)I"⟩
abbrev cX6_breaks : ByteArray := prog_8_method_23_code
def yX6_breaks : MethodName := ⟨RX6, "breaks", "(IZ)I"⟩
abbrev cX6_multiplies : ByteArray := prog_8_method_24_code
def yX6_multiplies : MethodName := ⟨RX6, "multiplies", "(IZ)I"⟩
abbrev cX6_areBeside : ByteArray := prog_8_method_25_code
def yX6_areBeside : MethodName := ⟨RX6, "areBeside", "(II)Z"⟩
abbrev cX6_wayOf : ByteArray := prog_8_method_26_code
def yX6_wayOf : MethodName := ⟨RX6, "wayOf", "(II)I"⟩
abbrev cX6_way : ByteArray := prog_8_method_27_code
def yX6_way : MethodName := ⟨RX6, "way", "(II)I"⟩
abbrev cX6_plan : ByteArray := prog_8_method_28_code
def yX6_plan : MethodName := ⟨RX6, "plan", "(I)I"⟩
abbrev cX6_lay : ByteArray := prog_8_method_29_code
def yX6_lay : MethodName := ⟨RX6, "lay", "(III)I"⟩
abbrev cX6_isLate : ByteArray := prog_8_method_30_code
def yX6_isLate : MethodName := ⟨RX6, "isLate", "(I)Z"⟩
abbrev cX6_lacking : ByteArray := prog_8_method_31_code
def yX6_lacking : MethodName := ⟨RX6, "lacking", "()I"⟩
abbrev cX6_whyNot : ByteArray := prog_8_method_32_code
def yX6_whyNot : MethodName := ⟨RX6, "whyNot", "()I"⟩
abbrev cX6_lacks : ByteArray := prog_8_method_33_code
def yX6_lacks : MethodName := ⟨RX6, "lacks", "()I"⟩
abbrev cX6_laid : ByteArray := prog_8_method_34_code
def yX6_laid : MethodName := ⟨RX6, "laid", "(II)I"⟩
abbrev cX6_kept : ByteArray := prog_8_method_35_code
def yX6_kept : MethodName := ⟨RX6, "kept", "(I)I"⟩
abbrev cX6_step : ByteArray := prog_8_method_36_code
def yX6_step : MethodName := ⟨RX6, "step", "(I)I"⟩
abbrev cX6_stepped : ByteArray := prog_8_method_37_code
def yX6_stepped : MethodName := ⟨RX6, "stepped", "(II)J"⟩
abbrev cX6_works : ByteArray := prog_8_method_38_code
def yX6_works : MethodName := ⟨RX6, "works", "(II)I"⟩
abbrev cX6_places : ByteArray := prog_8_method_39_code
def yX6_places : MethodName := ⟨RX6, "places", "()I"⟩
abbrev cX6_ringsHold : ByteArray := prog_8_method_40_code
def yX6_ringsHold : MethodName := ⟨RX6, "ringsHold", "(I)Z"⟩
abbrev cX6_rings : ByteArray := prog_8_method_41_code
def yX6_rings : MethodName := ⟨RX6, "rings", "()I"⟩
abbrev cX6_bound : ByteArray := prog_8_method_42_code
def yX6_bound : MethodName := ⟨RX6, "bound", "(I)I"⟩
abbrev cX6_up : ByteArray := prog_8_method_43_code
def yX6_up : MethodName := ⟨RX6, "up", "(II)I"⟩
abbrev cX6_canStart : ByteArray := prog_8_method_44_code
def yX6_canStart : MethodName := ⟨RX6, "canStart", "(II)Z"⟩
abbrev cX6_goesAt : ByteArray := prog_8_method_45_code
def yX6_goesAt : MethodName := ⟨RX6, "goesAt", "(II)Z"⟩
abbrev cX6_search : ByteArray := prog_8_method_46_code
def yX6_search : MethodName := ⟨RX6, "search", "(I)I"⟩
abbrev cX6_find : ByteArray := prog_8_method_47_code
def yX6_find : MethodName := ⟨RX6, "find", "()I"⟩
abbrev cX6_tries : ByteArray := prog_8_method_48_code
def yX6_tries : MethodName := ⟨RX6, "tries", "()I"⟩
abbrev cX6_told : ByteArray := prog_8_method_49_code
def yX6_told : MethodName := ⟨RX6, "told", "(I)I"⟩
def RJ9 : String := "java/lang/Math"
def TJ9 : u_T := fun k => match k with
  | _ => ("", "", "", false)
def tyJ9 : Nat → FieldType := fun k => match k with
  | _ => .int
abbrev wsJ90 : List Cond := u_ws RJ9 TJ9 0
abbrev cJ9_floorDiv_7cf53 : ByteArray := prog_9_method_47_code
def yJ9_floorDiv_7cf53 : MethodName := ⟨RJ9, "floorDiv", "(II)I"⟩
abbrev cJ9_abs_0f7a4 : ByteArray := prog_9_method_59_code
def yJ9_abs_0f7a4 : MethodName := ⟨RJ9, "abs", "(I)I"⟩
abbrev cJ9_max_7cf53 : ByteArray := prog_9_method_65_code
def yJ9_max_7cf53 : MethodName := ⟨RJ9, "max", "(II)I"⟩
abbrev cJ9_min_7cf53 : ByteArray := prog_9_method_69_code
def yJ9_min_7cf53 : MethodName := ⟨RJ9, "min", "(II)I"⟩
def RJ10 : String := "java/lang/System"
def TJ10 : u_T := fun k => match k with
  | _ => ("", "", "", false)
def tyJ10 : Nat → FieldType := fun k => match k with
  | _ => .int
abbrev wsJ100 : List Cond := u_ws RJ10 TJ10 0
def RJ7 : String := "java/util/Arrays"
def TJ7 : u_T := fun k => match k with
  | _ => ("", "", "", false)
def tyJ7 : Nat → FieldType := fun k => match k with
  | _ => .int
abbrev wsJ70 : List Cond := u_ws RJ7 TJ7 0
abbrev cJ7_fill_53178 : ByteArray := prog_11_method_103_code
def yJ7_fill_53178 : MethodName := ⟨RJ7, "fill", "([II)V"⟩
def RL : String := "LoopBoardLaw"
abbrev cL_law : ByteArray := code
def yL_law : MethodName := ⟨RL, "law", "([I)Z"⟩
abbrev vwCl : List vw_C := [(RX0, TX0, 5), (RX1, TX1, 5), (RX2, TX2, 11), (RX3, TX3, 9), (RX4, TX4, 2), (RX5, TX5, 9), (RX6, TX6, 24)]
end
section
/-! THE BASE: a judgement G over (pc, locals, stack, memory) for one method's walk, with all of the machine hidden in Cx; a memory of whole numbers by rows; a contract CT over one world. -/
def iI (z : Int) : Int32 := Int32.ofInt z
def lI (z : Int) : Int64 := Int64.ofInt z
abbrev inr (z : Int) : Prop := -2147483648 ≤ z ∧ z ≤ 2147483647
abbrev inr8 (z : Int) : Prop := -9223372036854775808 ≤ z ∧ z ≤ 9223372036854775807
theorem iI_toInt {z : Int} (h : inr z) : (iI z).toInt = z := Int32.toInt_ofInt_of_le (by omega) (by omega)
theorem lI_toInt {z : Int} (h : inr8 z) : (lI z).toInt = z := Int64.toInt_ofInt_of_le (by omega) (by omega)
theorem iI_lt {a b : Int} (ha : inr a) (hb : inr b) : iI a < iI b ↔ a < b := by rw [Int32.lt_iff_toInt_lt, iI_toInt ha, iI_toInt hb]
theorem iI_le {a b : Int} (ha : inr a) (hb : inr b) : iI a ≤ iI b ↔ a ≤ b := by rw [Int32.le_iff_toInt_le, iI_toInt ha, iI_toInt hb]
theorem iI_eq {a b : Int} (ha : inr a) (hb : inr b) : iI a = iI b ↔ a = b := by rw [← Int32.toInt_inj, iI_toInt ha, iI_toInt hb]
theorem lI_lt {a b : Int} (ha : inr8 a) (hb : inr8 b) : lI a < lI b ↔ a < b := by rw [Int64.lt_iff_toInt_lt, lI_toInt ha, lI_toInt hb]
theorem lI_eq {a b : Int} (ha : inr8 a) (hb : inr8 b) : lI a = lI b ↔ a = b := by rw [← Int64.toInt_inj, lI_toInt ha, lI_toInt hb]
theorem iI_self (x : Int32) : iI x.toInt = x := Int32.ofInt_toInt x
theorem iI_add (a b : Int) : iI a + iI b = iI (a + b) := (Int32.ofInt_add a b).symm
theorem iI_sub (a b : Int) : iI a - iI b = iI (a - b) := (Int32.ofInt_sub a b).symm
theorem iI_mul (a b : Int) : iI a * iI b = iI (a * b) := (Int32.ofInt_mul a b).symm
theorem iI_neg (a : Int) : -iI a = iI (-a) := (Int32.ofInt_neg a).symm
theorem iI_clamp {z : Int} (h0 : 0 ≤ z) (h1 : z ≤ 2147483647) : ((iI z).toNatClampNeg : Int) = z := by
  show (((iI z).toInt.toNat : Nat) : Int) = z
  rw [iI_toInt ⟨by omega, h1⟩]
  omega
theorem iI_in {z : Int} {n : Nat} (h0 : 0 ≤ z) (h1 : z < (n : Int)) (hn : n ≤ 1000000) : vp_in (iI z) n := by
  rw [vp_in_iff, iI_toInt ⟨by omega, by omega⟩]
  exact ⟨h0, h1⟩
theorem iI_zero : iI 0 = 0 := by decide
-- memory
abbrev MM : Type := Nat → Int → Int
def up (σ : MM) (r : Nat) (e v : Int) : MM := fun a b => if a = r ∧ b = e then v else σ a b
theorem up_ne {σ : MM} {r a : Nat} {e v : Int} (h : a ≠ r) : up σ r e v a = σ a := by
  funext b
  simp [up, h]
theorem up_at {σ : MM} {r : Nat} {e v b : Int} : up σ r e v r b = if b = e then v else σ r b := by simp [up]
abbrev FS : Type := Nat ⊕ Nat
abbrev SH : Type := (Nat × List FS) ⊕ (Bool × Nat × Nat)
abbrev ST : Type := List vw_C × List SH × List (Option (Int × Int))
abbrev WT : Type := va_G × (Bool → ClassId) × (Nat → Nat)
abbrev GT : Type := Nat → List (Option Value) → List Value → MM → Prop
def fv (ad : Nat → Nat) (σ : MM) (f : FS) : Value := match f with
  | .inl r => .int (iI (σ r 0))
  | .inr j => .ref (ad j)
def ce (w : WT) (σ : MM) (s : SH) : va_E := match s with
  | .inl o => .inr (o.1, o.2.map (fv w.2.2 σ))
  | .inr a => .inl (w.2.1 a.1, a.2.2, .inl (fun k => iI (σ a.2.1 (k : Int))))
def wd (w : WT) (sh : List SH) (σ : MM) : va_W := sh.zipIdx.map (fun q => (w.2.2 q.2, ce w σ q.1))
theorem wd_at (w : WT) (sh : List SH) (σ : MM) (i : Nat) : (wd w sh σ)[i]? = (sh[i]?).map (fun s => (w.2.2 i, ce w σ s)) := by
  simp only [wd, List.getElem?_map, List.getElem?_zipIdx, Option.map_map, Nat.zero_add]
  rfl
theorem wd_get {w : WT} {sh : List SH} {σ : MM} {i : Nat} {s : SH} (h : sh[i]? = some s) : (wd w sh σ)[i]? = some (w.2.2 i, ce w σ s) := by rw [wd_at, h]; rfl
def hasF (r : Nat) (f : FS) : Bool := match f with
  | .inl q => q == r
  | .inr _ => false
def hasR (r : Nat) (s : SH) : Bool := match s with
  | .inl o => o.2.any (hasF r)
  | .inr a => a.2.1 == r
theorem fv_up {ad : Nat → Nat} {σ : MM} {f : FS} {r : Nat} {e v : Int} (h : hasF r f = false) : fv ad (up σ r e v) f = fv ad σ f := by
  cases f with
  | inr j => rfl
  | inl q =>
    have h1 : q ≠ r := by simpa [hasF] using h
    simp [fv, up_ne h1]
theorem ce_up {w : WT} {σ : MM} {s : SH} {r : Nat} {e v : Int} (h : hasR r s = false) : ce w (up σ r e v) s = ce w σ s := by
  cases s with
  | inr a =>
    have h1 : a.2.1 ≠ r := by simpa [hasR] using h
    simp [ce, up_ne h1]
  | inl o =>
    have h1 : ∀ f ∈ o.2, hasF r f = false := by simpa [hasR] using h
    have h2 : o.2.map (fv w.2.2 (up σ r e v)) = o.2.map (fv w.2.2 σ) := List.map_congr_left fun f hf => fv_up (h1 f hf)
    simp [ce, h2]
/-- row r stands in cell i alone -/
def sepR (sh : List SH) (i r : Nat) : Bool := sh.zipIdx.all (fun q => q.2 == i || !(hasR r q.1))
theorem sepR_ne {sh : List SH} {i r j : Nat} {s : SH} (h : sepR sh i r = true) (hj : sh[j]? = some s) (hne : j ≠ i) : hasR r s = false := by
  have h1 := List.all_eq_true.mp h (s, j) (by rw [List.mem_zipIdx_iff_getElem?]; exact hj)
  simpa [hne] using h1
theorem wd_up {w : WT} {sh : List SH} {σ : MM} {i r : Nat} {s : SH} {e v : Int} {x : va_E} (hs : sh[i]? = some s) (ho : sepR sh i r = true) (hx : ce w (up σ r e v) s = x) : (wd w sh σ).set i (w.2.2 i, x) = wd w sh (up σ r e v) := by
  have hl : i < (wd w sh σ).length := (List.getElem?_eq_some_iff.mp (wd_get (w := w) (σ := σ) hs)).1
  apply List.ext_getElem?
  intro j
  by_cases hj : j = i
  · subst hj
    rw [List.getElem?_set_self hl, wd_get hs, hx]
  · rw [List.getElem?_set_ne (Ne.symm hj), wd_at, wd_at]
    cases hsj : sh[j]? with
    | none => rfl
    | some t => simp [ce_up (w := w) (σ := σ) (e := e) (v := v) (sepR_ne ho hsj hj)]
def fsep (fs : List FS) (k r : Nat) : Bool := fs.zipIdx.all (fun q => q.2 == k || !(hasF r q.1))
theorem fs_set {ad : Nat → Nat} {σ : MM} {fs : List FS} {k r : Nat} {v : Int} (hk : fs[k]? = some (.inl r)) (ho : fsep fs k r = true) : fs.map (fv ad (up σ r 0 v)) = (fs.map (fv ad σ)).set k (.int (iI v)) := by
  have hl : k < (fs.map (fv ad σ)).length := by rw [List.length_map]; exact (List.getElem?_eq_some_iff.mp hk).1
  apply List.ext_getElem?
  intro j
  by_cases hj : j = k
  · subst hj
    rw [List.getElem?_set_self hl, List.getElem?_map, hk]
    simp [fv, up_at]
  · rw [List.getElem?_set_ne (Ne.symm hj), List.getElem?_map, List.getElem?_map]
    cases hsj : fs[j]? with
    | none => rfl
    | some t =>
      have h1 := List.all_eq_true.mp ho (t, j) (by rw [List.mem_zipIdx_iff_getElem?]; exact hsj)
      have h2 : hasF r t = false := by simpa [hj] using h1
      simp [fv_up h2]
/-- the range of each row's numbers -/
def Bd (bd : List (Option (Int × Int))) (σ : MM) : Prop := ∀ (r : Nat) (lo hi : Int), bd[r]? = some (some (lo, hi)) → ∀ k : Int, lo ≤ σ r k ∧ σ r k ≤ hi
theorem Bd.up {bd : List (Option (Int × Int))} {σ : MM} {r : Nat} {e v : Int} (h : Bd bd σ) (hv : ∀ lo hi, bd[r]? = some (some (lo, hi)) → lo ≤ v ∧ v ≤ hi) : Bd bd (up σ r e v) := by
  intro q lo hi hq k
  by_cases h1 : q = r
  · subst h1
    rw [up_at]
    split
    · exact hv lo hi hq
    · exact h q lo hi hq k
  · rw [up_ne h1]
    exact h q lo hi hq k
def Mod (L : List Nat) (σ σ1 : MM) : Prop := ∀ r : Nat, r ∉ L → σ1 r = σ r
theorem Mod.rf {σ : MM} {L : List Nat} : Mod L σ σ := fun _ _ => rfl
theorem Mod.up {σ : MM} {r : Nat} {e v : Int} : Mod [r] σ (up σ r e v) := fun q h => up_ne (by simpa using h)
theorem Mod.tr {L1 L2 L : List Nat} {σ σ1 σ2 : MM} (h1 : Mod L1 σ σ1) (h2 : Mod L2 σ1 σ2) (e1 : L1.all (L.contains ·) = true) (e2 : L2.all (L.contains ·) = true) : Mod L σ σ2 := by
  intro r hr
  have f : ∀ K : List Nat, K.all (L.contains ·) = true → r ∉ K := fun K hK hm => hr (by have := List.all_eq_true.mp hK r hm; simpa using this)
  rw [h2 r (f L2 e2), h1 r (f L1 e1)]
theorem Mod.w {L1 L : List Nat} {σ σ1 : MM} (h1 : Mod L1 σ σ1) (e1 : L1.all (L.contains ·) = true) : Mod L σ σ1 := Mod.tr h1 Mod.rf e1 (by rfl : ([] : List Nat).all (L.contains ·) = true)
theorem Mod.at {L : List Nat} {σ σ1 : MM} (h : Mod L σ σ1) (r : Nat) (hr : L.contains r = false) : σ1 r = σ r := h r (by simpa using hr)
-- the words that stay
def gtb : List Cond := lw_tbl.filter goodWord
-- the world
def tysW (w : WT) : List (ClassId × FieldType) := [(w.2.1 false, .int), (w.2.1 true, .boolean)]
def InjW (sh : List SH) (w : WT) : Prop := ∀ i j, i < sh.length → j < sh.length → w.2.2 i = w.2.2 j → i = j
def Aw (S : ST) (w : WT) : Nat → Prop := fun q => ∃ i, i < S.2.1.length ∧ q = w.2.2 i
def WDs (S : ST) (w : WT) (σ : MM) (U : State) : Prop := va_P w.1 S.1 (wd w S.2.1 σ) U.heap ∧ va_K w.1 S.1 (tysW w) U ∧ InjW S.2.1 w ∧ Bd S.2.2 σ
def QQ (S : ST) (w : WT) (P : Option Value → MM → Prop) : Array Value → State → Outcome → State → Prop := fun _ st o t => (∃ (r : Option Value) (σ1 : MM), o = .returned r ∧ P r σ1 ∧ WDs S w σ1 t) ∧ va_F (Aw S w) st t
def CT (S : ST) (l : Launch) (w : WT) (y : MethodName) (cc : ByteArray) (nL : Nat) (ret : Option FieldType) (fr lo : Nat) (as : List Value) (σ : MM) (P : Option Value → MM → Prop) : Prop :=
  Met l y (.code y cc nL ret :: gtb) ({ frames := fr, cells := 0, slots := 0, locals := lo }) (va_Pc as (WDs S w σ)) (QQ S w P) 0 0 (Aw S w)
theorem wd_D {sh : List SH} {w : WT} {A : Nat → Prop} (hI : InjW sh w) (hA : ∀ i, i < sh.length → A (w.2.2 i)) (σ : MM) : va_D A (wd w sh σ) := by
  have key : ∀ (i : Nat) (p : Nat × va_E), (wd w sh σ)[i]? = some p → i < sh.length ∧ p.1 = w.2.2 i := by
    intro i p h
    rw [wd_at] at h
    cases hs : sh[i]? with
    | none => rw [hs] at h; cases h
    | some t => rw [hs] at h; cases h; exact ⟨(List.getElem?_eq_some_iff.mp hs).1, rfl⟩
  refine ⟨fun i j p q hi hj hpq => ?_, fun k q hk => ?_⟩
  · obtain ⟨h1, h2⟩ := key i p hi
    obtain ⟨h3, h4⟩ := key j q hj
    exact hI i j h1 h3 (by rw [← h2, ← h4, hpq])
  · obtain ⟨h1, h2⟩ := key k q hk
    rw [h2]
    exact hA k h1
-- locals
def LH (ls : Array Slot) (nL : Nat) (lv : List (Option Value)) : Prop := ls.size = nL ∧ lv_wf ls ∧ ∀ (i : Nat) (v : Value), lv[i]? = some (some v) → ls[i]? = some (.val v)
def lvE (as : List Value) : List (Option Value) := as.flatMap (fun v => if v.category = 2 then [some v, none] else [some v])
def toA (lv : List (Option Value)) : List (Nat × Value) := lv.zipIdx.filterMap (fun q => q.1.map (fun v => (q.2, v)))
theorem toA_mem {lv : List (Option Value)} {i : Nat} {v : Value} : (i, v) ∈ toA lv ↔ lv[i]? = some (some v) := by
  simp only [toA, List.mem_filterMap, Prod.exists, List.mem_zipIdx_iff_getElem?]
  constructor
  · rintro ⟨o, j, h1, h2⟩
    cases o with
    | none => simp at h2
    | some u =>
      simp at h2
      obtain ⟨rfl, rfl⟩ := h2
      exact h1
  · intro h
    exact ⟨some v, i, h, rfl⟩
theorem LH.has {ls : Array Slot} {nL : Nat} {lv : List (Option Value)} (h : LH ls nL lv) : lv_has ls nL (toA lv) := ⟨h.1, h.2.1, fun q hq => h.2.2 q.1 q.2 (toA_mem.mp hq)⟩
theorem lvE_get (as : List Value) : ∀ (k i : Nat) (v : Value), (lvE as)[i]? = some (some v) → (k + i, v) ∈ lv_args k as := by
  induction as with
  | nil => intro k i v h; simp [lvE] at h
  | cons a t ih =>
    intro k i v h
    have e : lvE (a :: t) = (if a.category = 2 then [some a, none] else [some a]) ++ lvE t := by simp [lvE]
    rw [e] at h
    rw [lv_args]
    by_cases hc : a.category = 2
    · rw [if_pos hc] at h ⊢
      match i, h with
      | 0, h => simp at h; subst h; simp
      | 1, h => simp at h
      | j + 2, h =>
        have h1 := ih (k + 2) j v (by simpa using h)
        rw [show k + (j + 2) = k + 2 + j by omega]
        exact List.mem_cons_of_mem _ h1
    · rw [if_neg hc] at h ⊢
      match i, h with
      | 0, h => simp at h; subst h; simp
      | j + 1, h =>
        have h1 := ih (k + 1) j v (by simpa using h)
        rw [show k + (j + 1) = k + 1 + j by omega]
        exact List.mem_cons_of_mem _ h1
theorem LH.entry {ls : Array Slot} {nL : Nat} {as : List Value} {m : Nat} (h : lv_has ls nL (lv_args 0 as)) : LH ls nL (lvE as ++ List.replicate m none) := by
  refine ⟨h.1, h.2.1, fun i v hi => ?_⟩
  by_cases hl : i < (lvE as).length
  · rw [List.getElem?_append_left hl] at hi
    have h1 := lvE_get as 0 i v hi
    rw [Nat.zero_add] at h1
    exact h.2.2 (i, v) h1
  · rw [List.getElem?_append_right (by omega)] at hi
    have := List.mem_of_getElem? hi
    simp at this
def leL : List (Option Value) → List (Option Value) → Prop
  | [], _ => True
  | none :: t, [] => leL t []
  | none :: t, _ :: u => leL t u
  | some _ :: _, [] => False
  | some v :: t, o :: u => o = some v ∧ leL t u
theorem leL_get : ∀ (a b : List (Option Value)), leL a b → ∀ (i : Nat) (v : Value), a[i]? = some (some v) → b[i]? = some (some v)
  | [], _, _, i, v, h => by simp at h
  | none :: t, [], hl, i, v, h => by
    match i, h with
    | 0, h => simp at h
    | j + 1, h =>
      have h1 := leL_get t [] hl j v (by simpa using h)
      simp at h1
  | none :: t, _ :: u, hl, i, v, h => by
    match i, h with
    | 0, h => simp at h
    | j + 1, h => simpa using leL_get t u hl j v (by simpa using h)
  | some a :: t, o :: u, hl, i, v, h => by
    match i, h with
    | 0, h =>
      simp at h
      subst h
      simp [hl.1]
    | j + 1, h => simpa using leL_get t u hl.2 j v (by simpa using h)
theorem LH.wk {ls : Array Slot} {nL : Nat} {lv lv1 : List (Option Value)} (h : LH ls nL lv) (hl : leL lv1 lv) : LH ls nL lv1 := ⟨h.1, h.2.1, fun i v hi => h.2.2 i v (leL_get _ _ hl i v hi)⟩
def cat1 (lv : List (Option Value)) : Bool := lv.all (fun o => match o with
  | some v => v.category == 1
  | none => true)
theorem LH.set {ls1 : Array Slot} {nL i : Nat} {lv : List (Option Value)} {v : Value} (hi : i < lv.length) (h1 : cat1 lv = true) (h : lv_has ls1 nL ((i, v) :: (toA lv).filter (fun q => !(q.1 == i) && !(q.1 + 1 == i && q.2.category == 2)))) : LH ls1 nL (lv.set i (some v)) := by
  refine ⟨h.1, h.2.1, fun j u hj => ?_⟩
  by_cases hji : j = i
  · subst hji
    rw [List.getElem?_set_self hi] at hj
    cases hj
    exact h.2.2 (j, v) List.mem_cons_self
  · rw [List.getElem?_set_ne (Ne.symm hji)] at hj
    have hc : u.category = 1 := by
      have := List.all_eq_true.mp h1 (some u) (List.mem_of_getElem? hj)
      simpa using this
    refine h.2.2 (j, u) (List.mem_cons_of_mem _ (List.mem_filter.mpr ⟨toA_mem.mpr hj, ?_⟩))
    simp [hji, hc]
-- the judgement
def retOK (cc : ByteArray) (pc : Nat) (ret : Option FieldType) (v : Option Value) : Prop := match v with
  | some (.int x) => decode cc pc = .ok (.ireturn, 1) ∧ ∃ ty, ret = some ty ∧ (ty = .int ∨ ty = .boolean) ∧ narrow ty (.int x) = .int x
  | some (.long _) => decode cc pc = .ok (.lreturn, 1) ∧ ret = some .long
  | none => decode cc pc = .ok (.return_, 1) ∧ ret = none
  | _ => False
def shOK (s : SH) : Bool := match s with
  | .inl _ => true
  | .inr a => Nat.ble a.2.2 1000000
def Cx (S : ST) (l : Launch) (w : WT) (cc : ByteArray) (nL : Nat) (ret : Option FieldType) (own : String) (R : Room) (P : Option Value → MM → Prop) (G : GT) : Prop :=
  ∃ (p : Program) (e : Env) (s : State) (m : MethodId) (args : Array Value) (below : List Frame) (meth : Method) (c : Code) (A : Nat → Prop) (cells slots : Nat) (Q : State → Prop),
    (p.tables.exec = Jvm.exec ∧ c.code = cc ∧ c.maxLocals = nL ∧ s.vm.findClass own = some m.cls ∧ (∀ x ∈ gtb, x.before args s = true) ∧ va_K w.1 S.1 (tysW w) s ∧ InjW S.2.1 w ∧ (∀ i, i < S.2.1.length → A (w.2.2 i)) ∧ cells ≤ R.cells ∧ slots ≤ R.slots ∧ S.2.1.all shOK = true) ∧
    (G = fun pc lv st σ => Bd S.2.2 σ → ∀ (H : Heap) (locs : List Loc) (ls : Array Slot), va_P w.1 S.1 (wd w S.2.1 σ) H → va_S A s.heap H locs → LH ls nL lv → W p l e R s m args below meth c H locs cells slots Q (F0 m pc ls st)) ∧
    (∀ (pc : Nat) (lv : List (Option Value)) (v : Option Value) (σ : MM), retOK cc pc ret v → P v σ → G pc lv v.toList σ)
theorem gtb_in {c : Cond} (h : c ∈ lw_tbl) (hg : goodWord c = true) : c ∈ gtb := List.mem_filter.mpr ⟨h, hg⟩
theorem good_tbl {c : Cond} (hc : c ∈ gtb) : GoodIn gtb (c :: gtb) := by
  have h : ∀ w ∈ gtb, w ∈ gtb ∧ ((w.onTables && w.keeps) = true ∨ ∃ ty, w = .arrayClass ty) := fun w hw => ⟨hw, good_of_word (List.mem_filter.mp hw).2⟩
  intro w hw
  rcases List.mem_cons.mp hw with rfl | hw
  · exact h _ hc
  · exact h w hw
theorem WDs.blind {S : ST} {w : WT} {σ : MM} {as : List Value} : FrameBlind (va_Pc as (WDs S w σ)) := fun a U g mk q => by
  obtain ⟨q0, qP, qK, qI, qB⟩ := q
  exact ⟨q0, qP, va_K.moved (u := U) (U := U.calling g mk a) (Vm.Alike.refl U.vm) qK, qI, qB⟩
set_option maxHeartbeats 4000000 in
theorem CT.of {S : ST} {l : Launch} {w : WT} {y : MethodName} {cc : ByteArray} {nL : Nat} {ret : Option FieldType} {fr lo : Nat} {as : List Value} {σ : MM} {P : Option Value → MM → Prop} (n : Nat) (lv0 : List (Option Value)) (hy : plainName y.cls = true) (hn : (lg_sl as).length ≤ nL) (h0 : lvE as ++ List.replicate n none = lv0) (hsh : S.2.1.all shOK = true)
    (body : ∀ G : GT, Cx S l w cc nL ret y.cls ({ frames := fr, cells := 0, slots := 0, locals := lo }) P G → G 0 lv0 [] σ) : CT S l w y cc nL ret fr lo as σ P := by
  refine Met.ofW (cc := cc) (maxL := nL) (ret := ret) hy rfl ?_
  intro p e s m args below meth c s₁ B hml hv
  obtain ⟨rfl, hP, hK, hI, hB⟩ := hv
  have hx := B.exec
  have hb := B.bytes
  have hr := B.returns
  have hts : ∀ x ∈ gtb, x.before as.toArray s = true := fun x hx => atoms_spec (ws := .code y cc nL ret :: gtb) B.pre x (List.mem_cons_of_mem _ hx)
  have hown : s.vm.findClass y.cls = some m.cls := findClass_of_methodNamed B.named
  have hlocks : meth.locks = false := B.notSynchronized
  have hAw : ∀ i, i < S.2.1.length → Aw S w (w.2.2 i) := fun i hi => ⟨i, hi, rfl⟩
  have hS : va_S (Aw S w) s.heap s.heap [] := va_S.rf
  have hl := lv_entry as (n := nL) hn
  rw [lg_entry_eq]
  generalize (lg_sl as ++ List.replicate (nL - (lg_sl as).length) Slot.unset).toArray = ls at hl ⊢
  have hl : LH ls nL lv0 := by rw [← h0]; exact LH.entry hl
  refine body (fun pc lv st σ1 => Bd S.2.2 σ1 → ∀ (H : Heap) (locs : List Loc) (ls : Array Slot), va_P w.1 S.1 (wd w S.2.1 σ1) H → va_S (Aw S w) s.heap H locs → LH ls nL lv → W p l e ({ frames := fr, cells := 0, slots := 0, locals := lo }) s m as.toArray below meth c H locs 0 0 (MQ below (QQ S w P) as.toArray s 0 0 (Aw S w)) (F0 m pc ls st)) ?_ hB s.heap [] ls hP hS hl
  refine ⟨p, e, s, m, as.toArray, below, meth, c, Aw S w, 0, 0, _, ⟨hx, hb, hml, hown, hts, hK, hI, hAw, Nat.le_refl 0, Nat.le_refl 0, hsh⟩, rfl, ?_⟩
  intro pc lv v σ1 hret hp hB1 H locs ls hP1 hS1 _
  have fin : ∀ t : State, t.heap = H → s.WarmedH t.vm → QQ S w P as.toArray s (.returned v) t := fun t ht hW => ⟨⟨v, σ1, rfl, hp, by rw [ht]; exact hP1, va_K.moved hW.alike hK, hI, hB1⟩, hS1.F ht⟩
  match v, hret, fin with
  | none, hret, fin => exact W.vret hx hb (hr.trans hret.2) fin hS1.2.2 hret.1
  | some (.long x), hret, fin => exact W.lret hx hb (hr.trans hret.2) fin hS1.2.2 hret.1
  | some (.int x), hret, fin =>
    obtain ⟨hd, ty, h1, h2, h3⟩ := hret
    exact W.zret hx hb (hr.trans h1) h3 fin hS1.2.2 hd
end
section
/-! THE RULES: one an instruction, over the judgement G of Cx -/
section RULES
variable {S : ST} {l : Launch} {w : WT} {cc : ByteArray} {nL : Nat} {ret : Option FieldType} {own : String} {R : Room} {P : Option Value → MM → Prop} {G : GT} {pc : Nat} {lv : List (Option Value)} {st : List Value} {σ : MM}
theorem r_bd (hX : Cx S l w cc nL ret own R P G) (k : Bd S.2.2 σ → G pc lv st σ) : G pc lv st σ := by
  obtain ⟨p, e, s, m, args, below, meth, c, A, cells, slots, Q, -, rfl, -⟩ := hX
  exact fun hB => k hB hB
theorem r_wk (hX : Cx S l w cc nL ret own R P G) {lv1 : List (Option Value)} (hl : leL lv1 lv) (k : G pc lv1 st σ) : G pc lv st σ := by
  obtain ⟨p, e, s, m, args, below, meth, c, A, cells, slots, Q, -, rfl, -⟩ := hX
  exact fun hB H locs ls hP hS h => k hB H locs ls hP hS (h.wk hl)
theorem r_iconst (hX : Cx S l w cc nL ret own R P G) {n : Int} (hd : decode cc pc = .ok (.iconst n, 1)) (k : G (pc + 1) lv (.int (iI n) :: st) σ) : G pc lv st σ := by
  obtain ⟨p, e, s, m, args, below, meth, c, A, cells, slots, Q, ⟨hx, hb, -⟩, rfl, -⟩ := hX
  exact fun hB H locs ls hP hS h => lv_iconst hx hb hd rfl (k hB H locs ls hP hS h)
theorem r_bipush (hX : Cx S l w cc nL ret own R P G) {n : Int} (hd : decode cc pc = .ok (.bipush n, 2)) (hv : (Int8.ofInt n).toInt32 = iI n) (k : G (pc + 2) lv (.int (iI n) :: st) σ) : G pc lv st σ := by
  obtain ⟨p, e, s, m, args, below, meth, c, A, cells, slots, Q, ⟨hx, hb, -⟩, rfl, -⟩ := hX
  exact fun hB H locs ls hP hS h => lv_bipush hx hb hd hv (k hB H locs ls hP hS h)
theorem r_sipush (hX : Cx S l w cc nL ret own R P G) {n : Int} (hd : decode cc pc = .ok (.sipush n, 3)) (hv : (Int16.ofInt n).toInt32 = iI n) (k : G (pc + 3) lv (.int (iI n) :: st) σ) : G pc lv st σ := by
  obtain ⟨p, e, s, m, args, below, meth, c, A, cells, slots, Q, ⟨hx, hb, -⟩, rfl, -⟩ := hX
  exact fun hB H locs ls hP hS h => lv_sipush hx hb hd hv (k hB H locs ls hP hS h)
theorem r_ldc (hX : Cx S l w cc nL ret own R P G) {idx : Nat} {n : Int} (hd : decode cc pc = .ok (.ldc idx, 2)) (hc : Cond.constant own idx (iI n) ∈ gtb) (k : G (pc + 2) lv (.int (iI n) :: st) σ) : G pc lv st σ := by
  obtain ⟨p, e, s, m, args, below, meth, c, A, cells, slots, Q, ⟨hx, hb, hml, hown, hts, -⟩, rfl, -⟩ := hX
  exact fun hB H locs ls hP hS h => lv_ldc hx hb hown (hts _ hc) hd (k hB H locs ls hP hS h)
theorem r_ldc2 (hX : Cx S l w cc nL ret own R P G) {idx : Nat} {n : Int} (hd : decode cc pc = .ok (.ldc2_w idx, 3)) (hc : Cond.constantLong own idx (lI n) ∈ gtb) (k : G (pc + 3) lv (.long (lI n) :: st) σ) : G pc lv st σ := by
  obtain ⟨p, e, s, m, args, below, meth, c, A, cells, slots, Q, ⟨hx, hb, hml, hown, hts, -⟩, rfl, -⟩ := hX
  exact fun hB H locs ls hP hS h => lv_ldc2 hx hb hown (hts _ hc) hd (k hB H locs ls hP hS h)
theorem r_lconst (hX : Cx S l w cc nL ret own R P G) {n : Fin 2} {z : Int} (hd : decode cc pc = .ok (.lconst n, 1)) (hz : Int64.ofNat (n : Nat) = lI z) (k : G (pc + 1) lv (.long (lI z) :: st) σ) : G pc lv st σ := by
  obtain ⟨p, e, s, m, args, below, meth, c, A, cells, slots, Q, ⟨hx, hb, -⟩, rfl, -⟩ := hX
  exact fun hB H locs ls hP hS h => lv_lconst hx hb hd hz (k hB H locs ls hP hS h)
theorem r_iload_n (hX : Cx S l w cc nL ret own R P G) {i : Fin 4} {x : Int32} (hd : decode cc pc = .ok (.iload_n i, 1)) (hl : lv[(i : Nat)]? = some (some (.int x))) (k : G (pc + 1) lv (.int x :: st) σ) : G pc lv st σ := by
  obtain ⟨p, e, s, m, args, below, meth, c, A, cells, slots, Q, ⟨hx, hb, -⟩, rfl, -⟩ := hX
  exact fun hB H locs ls hP hS h => lv_iload_n hx hb hd rfl (h.2.2 _ _ hl) (k hB H locs ls hP hS h)
theorem r_iload (hX : Cx S l w cc nL ret own R P G) {i : Nat} {x : Int32} (hd : decode cc pc = .ok (.iload i, 2)) (hl : lv[i]? = some (some (.int x))) (k : G (pc + 2) lv (.int x :: st) σ) : G pc lv st σ := by
  obtain ⟨p, e, s, m, args, below, meth, c, A, cells, slots, Q, ⟨hx, hb, -⟩, rfl, -⟩ := hX
  exact fun hB H locs ls hP hS h => lv_iload hx hb hd (h.2.2 _ _ hl) (k hB H locs ls hP hS h)
theorem r_aload_n (hX : Cx S l w cc nL ret own R P G) {i : Fin 4} {x : Nat} (hd : decode cc pc = .ok (.aload_n i, 1)) (hl : lv[(i : Nat)]? = some (some (.ref x))) (k : G (pc + 1) lv (.ref x :: st) σ) : G pc lv st σ := by
  obtain ⟨p, e, s, m, args, below, meth, c, A, cells, slots, Q, ⟨hx, hb, -⟩, rfl, -⟩ := hX
  exact fun hB H locs ls hP hS h => lv_aload_n hx hb hd rfl (h.2.2 _ _ hl) (k hB H locs ls hP hS h)
theorem r_aload (hX : Cx S l w cc nL ret own R P G) {i x : Nat} (hd : decode cc pc = .ok (.aload i, 2)) (hl : lv[i]? = some (some (.ref x))) (k : G (pc + 2) lv (.ref x :: st) σ) : G pc lv st σ := by
  obtain ⟨p, e, s, m, args, below, meth, c, A, cells, slots, Q, ⟨hx, hb, -⟩, rfl, -⟩ := hX
  exact fun hB H locs ls hP hS h => lv_aload hx hb hd (h.2.2 _ _ hl) (k hB H locs ls hP hS h)
theorem r_lload_n (hX : Cx S l w cc nL ret own R P G) {i : Fin 4} {x : Int64} (hd : decode cc pc = .ok (.lload_n i, 1)) (hl : lv[(i : Nat)]? = some (some (.long x))) (k : G (pc + 1) lv (.long x :: st) σ) : G pc lv st σ := by
  obtain ⟨p, e, s, m, args, below, meth, c, A, cells, slots, Q, ⟨hx, hb, -⟩, rfl, -⟩ := hX
  exact fun hB H locs ls hP hS h => lv_lload_n hx hb hd rfl (h.2.2 _ _ hl) (k hB H locs ls hP hS h)
theorem r_lload (hX : Cx S l w cc nL ret own R P G) {i : Nat} {x : Int64} (hd : decode cc pc = .ok (.lload i, 2)) (hl : lv[i]? = some (some (.long x))) (k : G (pc + 2) lv (.long x :: st) σ) : G pc lv st σ := by
  obtain ⟨p, e, s, m, args, below, meth, c, A, cells, slots, Q, ⟨hx, hb, -⟩, rfl, -⟩ := hX
  exact fun hB H locs ls hP hS h => lv_lload hx hb hd (h.2.2 _ _ hl) (k hB H locs ls hP hS h)
/-- a store names what it stores -/
theorem r_istore_n (hX : Cx S l w cc nL ret own R P G) {i : Fin 4} {z : Int} (lv1 : Int → List (Option Value)) (hd : decode cc pc = .ok (.istore_n i, 1)) (hi : (i : Nat) < lv.length) (hln : lv.length = nL) (hc : cat1 lv = true) (hl : ∀ x : Int, lv.set (i : Nat) (some (.int (iI x))) = lv1 x) (k : ∀ x : Int, x = z → G (pc + 1) (lv1 x) st σ) : G pc lv (.int (iI z) :: st) σ := by
  obtain ⟨p, e, s, m, args, below, meth, c, A, cells, slots, Q, ⟨hx, hb, -⟩, rfl, -⟩ := hX
  exact fun hB H locs ls hP hS h => lv_istore_n hx hb hd rfl h.has (by omega) rfl fun ls1 h1 => k z rfl hB H locs ls1 hP hS (by rw [← hl]; exact LH.set hi hc h1)
theorem r_istore (hX : Cx S l w cc nL ret own R P G) {i : Nat} {z : Int} (lv1 : Int → List (Option Value)) (hd : decode cc pc = .ok (.istore i, 2)) (hi : i < lv.length) (hln : lv.length = nL) (hc : cat1 lv = true) (hl : ∀ x : Int, lv.set i (some (.int (iI x))) = lv1 x) (k : ∀ x : Int, x = z → G (pc + 2) (lv1 x) st σ) : G pc lv (.int (iI z) :: st) σ := by
  obtain ⟨p, e, s, m, args, below, meth, c, A, cells, slots, Q, ⟨hx, hb, -⟩, rfl, -⟩ := hX
  exact fun hB H locs ls hP hS h => lv_istore hx hb hd h.has (by omega) rfl fun ls1 h1 => k z rfl hB H locs ls1 hP hS (by rw [← hl]; exact LH.set hi hc h1)
theorem r_iinc (hX : Cx S l w cc nL ret own R P G) {i : Nat} {n z : Int} (lv1 : Int → List (Option Value)) (hd : decode cc pc = .ok (.iinc i n, 3)) (hz : lv[i]? = some (some (.int (iI z)))) (hln : lv.length = nL) (hc : cat1 lv = true) (hl : ∀ x : Int, lv.set i (some (.int (iI x))) = lv1 x) (k : ∀ x : Int, x = z + n → G (pc + 3) (lv1 x) st σ) : G pc lv st σ := by
  obtain ⟨p, e, s, m, args, below, meth, c, A, cells, slots, Q, ⟨hx, hb, -⟩, rfl, -⟩ := hX
  intro hB H locs ls hP hS h
  have hi : i < lv.length := (List.getElem?_eq_some_iff.mp hz).1
  obtain ⟨j, hj⟩ := List.getElem?_of_mem (toA_mem.mpr hz)
  exact lv_iinc hx hb hd h.has hj (show iI z + Int32.ofInt n = iI (z + n) from iI_add z n) (by omega) rfl fun ls1 h1 => k (z + n) rfl hB H locs ls1 hP hS (by rw [← hl]; exact LH.set hi hc h1)
theorem r_iadd (hX : Cx S l w cc nL ret own R P G) {a b : Int} (hd : decode cc pc = .ok (.iadd, 1)) (k : G (pc + 1) lv (.int (iI (a + b)) :: st) σ) : G pc lv (.int (iI b) :: .int (iI a) :: st) σ := by
  obtain ⟨p, e, s, m, args, below, meth, c, A, cells, slots, Q, ⟨hx, hb, -⟩, rfl, -⟩ := hX
  exact fun hB H locs ls hP hS h => lv_iadd hx hb hd (by rw [iI_add]; exact k hB H locs ls hP hS h)
theorem r_isub (hX : Cx S l w cc nL ret own R P G) {a b : Int} (hd : decode cc pc = .ok (.isub, 1)) (k : G (pc + 1) lv (.int (iI (a - b)) :: st) σ) : G pc lv (.int (iI b) :: .int (iI a) :: st) σ := by
  obtain ⟨p, e, s, m, args, below, meth, c, A, cells, slots, Q, ⟨hx, hb, -⟩, rfl, -⟩ := hX
  exact fun hB H locs ls hP hS h => lv_isub hx hb hd (by rw [iI_sub]; exact k hB H locs ls hP hS h)
theorem r_imul (hX : Cx S l w cc nL ret own R P G) {a b : Int} (hd : decode cc pc = .ok (.imul, 1)) (k : G (pc + 1) lv (.int (iI (a * b)) :: st) σ) : G pc lv (.int (iI b) :: .int (iI a) :: st) σ := by
  obtain ⟨p, e, s, m, args, below, meth, c, A, cells, slots, Q, ⟨hx, hb, -⟩, rfl, -⟩ := hX
  exact fun hB H locs ls hP hS h => lv_imul hx hb hd (by rw [iI_mul]; exact k hB H locs ls hP hS h)
theorem r_ineg (hX : Cx S l w cc nL ret own R P G) {a : Int} (hd : decode cc pc = .ok (.ineg, 1)) (k : G (pc + 1) lv (.int (iI (-a)) :: st) σ) : G pc lv (.int (iI a) :: st) σ := by
  obtain ⟨p, e, s, m, args, below, meth, c, A, cells, slots, Q, ⟨hx, hb, -⟩, rfl, -⟩ := hX
  exact fun hB H locs ls hP hS h => lv_ineg hx hb hd (by rw [iI_neg]; exact k hB H locs ls hP hS h)
theorem iI_div {a b : Int} (ha : inr a) (hb : inr b) (hn : a ≠ -2147483648 ∨ b ≠ -1) : iI a / iI b = iI (a.tdiv b) :=
  (Int32.ofInt_tdiv (show Int32.minValue.toInt ≤ a by have : Int32.minValue.toInt = -2147483648 := by decide
                                                      omega) (show a ≤ Int32.maxValue.toInt by have : Int32.maxValue.toInt = 2147483647 := by decide
                                                                                               omega) (show Int32.minValue.toInt ≤ b by have : Int32.minValue.toInt = -2147483648 := by decide
                                                                                                                                        omega) (show b ≤ Int32.maxValue.toInt by have : Int32.maxValue.toInt = 2147483647 := by decide
                                                                                                                                                                                 omega)).symm
/-- division of what isn't below 0 by what is above 0 -/
theorem r_idiv (hX : Cx S l w cc nL ret own R P G) {a b : Int} (hd : decode cc pc = .ok (.idiv, 1)) (h0 : 0 ≤ a) (h1 : a ≤ 2147483647) (h2 : 0 < b) (h3 : b ≤ 2147483647) (k : G (pc + 1) lv (.int (iI (a / b)) :: st) σ) : G pc lv (.int (iI b) :: .int (iI a) :: st) σ := by
  obtain ⟨p, e, s, m, args, below, meth, c, A, cells, slots, Q, ⟨hx, hb, -⟩, rfl, -⟩ := hX
  intro hB H locs ls hP hS h
  refine lv_idiv hx hb hd (fun hz => ?_) ?_
  · have := (iI_eq (a := b) (b := 0) ⟨by omega, by omega⟩ ⟨by omega, by omega⟩).mp (by rw [hz]; exact iI_zero.symm)
    omega
  · rw [iI_div ⟨by omega, by omega⟩ ⟨by omega, by omega⟩ (Or.inl (by omega)), Int.tdiv_eq_ediv_of_nonneg h0]
    exact k hB H locs ls hP hS h
/-- division of any number by what is above 0: cut towards 0 -/
theorem r_idivT (hX : Cx S l w cc nL ret own R P G) {a b : Int} (hd : decode cc pc = .ok (.idiv, 1)) (h0 : inr a) (h2 : 0 < b) (h3 : b ≤ 2147483647) (k : G (pc + 1) lv (.int (iI (a.tdiv b)) :: st) σ) : G pc lv (.int (iI b) :: .int (iI a) :: st) σ := by
  obtain ⟨p, e, s, m, args, below, meth, c, A, cells, slots, Q, ⟨hx, hb, -⟩, rfl, -⟩ := hX
  intro hB H locs ls hP hS h
  refine lv_idiv hx hb hd (fun hz => ?_) ?_
  · have := (iI_eq (a := b) (b := 0) ⟨by omega, by omega⟩ ⟨by omega, by omega⟩).mp (by rw [hz]; exact iI_zero.symm)
    omega
  · rw [iI_div h0 ⟨by omega, by omega⟩ (Or.inr (by omega))]
    exact k hB H locs ls hP hS h
theorem iI_rem {a b : Int} (ha : inr a) (hb : 0 < b) (hb2 : b ≤ 2147483647) : iI a - iI a / iI b * iI b = iI (a.tmod b) := by
  rw [iI_div ha ⟨by omega, by omega⟩ (Or.inr (by omega)), iI_mul, iI_sub]
  congr 1
  have := Int.mul_tdiv_add_tmod a b
  rw [Int.mul_comm] at this
  omega
theorem r_irem (hX : Cx S l w cc nL ret own R P G) {a b : Int} (hd : decode cc pc = .ok (.irem, 1)) (h0 : 0 ≤ a) (h1 : a ≤ 2147483647) (h2 : 0 < b) (h3 : b ≤ 2147483647) (k : G (pc + 1) lv (.int (iI (a % b)) :: st) σ) : G pc lv (.int (iI b) :: .int (iI a) :: st) σ := by
  obtain ⟨p, e, s, m, args, below, meth, c, A, cells, slots, Q, ⟨hx, hb, -⟩, rfl, -⟩ := hX
  intro hB H locs ls hP hS h
  refine lv_irem hx hb hd (fun hz => ?_) ?_
  · have := (iI_eq (a := b) (b := 0) ⟨by omega, by omega⟩ ⟨by omega, by omega⟩).mp (by rw [hz]; exact iI_zero.symm)
    omega
  · rw [iI_rem ⟨by omega, by omega⟩ h2 h3, Int.tmod_eq_emod_of_nonneg h0]
    exact k hB H locs ls hP hS h
theorem r_iremT (hX : Cx S l w cc nL ret own R P G) {a b : Int} (hd : decode cc pc = .ok (.irem, 1)) (h0 : inr a) (h2 : 0 < b) (h3 : b ≤ 2147483647) (k : G (pc + 1) lv (.int (iI (a.tmod b)) :: st) σ) : G pc lv (.int (iI b) :: .int (iI a) :: st) σ := by
  obtain ⟨p, e, s, m, args, below, meth, c, A, cells, slots, Q, ⟨hx, hb, -⟩, rfl, -⟩ := hX
  intro hB H locs ls hP hS h
  refine lv_irem hx hb hd (fun hz => ?_) ?_
  · have := (iI_eq (a := b) (b := 0) ⟨by omega, by omega⟩ ⟨by omega, by omega⟩).mp (by rw [hz]; exact iI_zero.symm)
    omega
  · rw [iI_rem h0 h2 h3]
    exact k hB H locs ls hP hS h
theorem r_i2l (hX : Cx S l w cc nL ret own R P G) {a : Int} (hd : decode cc pc = .ok (.i2l, 1)) (ha : inr a) (k : G (pc + 1) lv (.long (lI a) :: st) σ) : G pc lv (.int (iI a) :: st) σ := by
  obtain ⟨p, e, s, m, args, below, meth, c, A, cells, slots, Q, ⟨hx, hb, -⟩, rfl, -⟩ := hX
  exact fun hB H locs ls hP hS h => lv_i2l hx hb hd (by rw [← Int64.toInt_inj, Int32.toInt_toInt64, iI_toInt ha, lI_toInt ⟨by omega, by omega⟩]) (k hB H locs ls hP hS h)
theorem r_lcmp (hX : Cx S l w cc nL ret own R P G) {a b : Int} (hd : decode cc pc = .ok (.lcmp, 1)) (ha : inr8 a) (hb8 : inr8 b) (k : ∀ z : Int, (z = -1 ∧ a < b) ∨ (z = 0 ∧ a = b) ∨ (z = 1 ∧ b < a) → G (pc + 1) lv (.int (iI z) :: st) σ) : G pc lv (.long (lI b) :: .long (lI a) :: st) σ := by
  obtain ⟨p, e, s, m, args, below, meth, c, A, cells, slots, Q, ⟨hx, hb, -⟩, rfl, -⟩ := hX
  intro hB H locs ls hP hS h
  refine W.lcmp hx hb hd ?_
  have e1 : ∃ z : Int, lg_cmp (lI a) (lI b) = iI z ∧ ((z = -1 ∧ a < b) ∨ (z = 0 ∧ a = b) ∨ (z = 1 ∧ b < a)) := by
    rcases Int.lt_trichotomy a b with q | q | q
    · exact ⟨-1, by simp only [lg_cmp, lI_lt hb8 ha, lI_eq ha hb8]; rw [if_neg (by omega), if_neg (by omega)]; decide, Or.inl ⟨rfl, q⟩⟩
    · exact ⟨0, by simp only [lg_cmp, lI_lt hb8 ha, lI_eq ha hb8]; rw [if_neg (by omega), if_pos (by omega)]; decide, Or.inr (Or.inl ⟨rfl, q⟩)⟩
    · exact ⟨1, by simp only [lg_cmp, lI_lt hb8 ha, lI_eq ha hb8]; rw [if_pos (by omega)]; decide, Or.inr (Or.inr ⟨rfl, q⟩)⟩
  obtain ⟨z, e2, e3⟩ := e1
  rw [e2]
  exact k z e3 hB H locs ls hP hS h
theorem r_dup (hX : Cx S l w cc nL ret own R P G) {v : Value} (hd : decode cc pc = .ok (.dup, 1)) (hv : v.category = 1) (k : G (pc + 1) lv (v :: v :: st) σ) : G pc lv (v :: st) σ := by
  obtain ⟨p, e, s, m, args, below, meth, c, A, cells, slots, Q, ⟨hx, hb, -⟩, rfl, -⟩ := hX
  exact fun hB H locs ls hP hS h => lv_dup hx hb hd hv (k hB H locs ls hP hS h)
theorem r_dup2 (hX : Cx S l w cc nL ret own R P G) {v u : Value} (hd : decode cc pc = .ok (.dup2, 1)) (hv : v.category = 1) (hu : u.category = 1) (k : G (pc + 1) lv (v :: u :: v :: u :: st) σ) : G pc lv (v :: u :: st) σ := by
  obtain ⟨p, e, s, m, args, below, meth, c, A, cells, slots, Q, ⟨hx, hb, -⟩, rfl, -⟩ := hX
  exact fun hB H locs ls hP hS h => lv_dup2_11 hx hb hd hv hu (k hB H locs ls hP hS h)
theorem r_goto (hX : Cx S l w cc nL ret own R P G) {off : Int} {tgt : Nat} (hd : decode cc pc = .ok (.goto off, 3)) (ht : (pc : Int) + off = (tgt : Int)) (k : G tgt lv st σ) : G pc lv st σ := by
  obtain ⟨p, e, s, m, args, below, meth, c, A, cells, slots, Q, ⟨hx, hb, -⟩, rfl, -⟩ := hX
  exact fun hB H locs ls hP hS h => lv_goto hx hb hd ht (k hB H locs ls hP hS h)
theorem r_tblOut (hX : Cx S l w cc nL ret own R P G) {dflt lo hi : Int} {offs : Array Int} {len : Nat} {a : Int} {tgt : Nat} (hd : decode cc pc = .ok (.tableswitch dflt lo hi offs, len)) (ha : inr a) (hq : a < lo ∨ hi < a) (ht : (pc : Int) + dflt = (tgt : Int)) (k : G tgt lv st σ) : G pc lv (.int (iI a) :: st) σ := by
  obtain ⟨p, e, s, m, args, below, meth, c, A, cells, slots, Q, ⟨hx, hb, -⟩, rfl, -⟩ := hX
  exact fun hB H locs ls hP hS h => lv_tableOut hx hb hd (by rw [iI_toInt ha]; exact hq) ht (k hB H locs ls hP hS h)
theorem r_tblIn (hX : Cx S l w cc nL ret own R P G) {dflt lo hi : Int} {offs : Array Int} {len : Nat} {a off : Int} {tgt : Nat} (z : Int) (hd : decode cc pc = .ok (.tableswitch dflt lo hi offs, len)) (ha : a = z) (hz : inr z ∧ lo ≤ z ∧ z ≤ hi) (ho : offs[(z - lo).toNat]? = some off) (ht : (pc : Int) + off = (tgt : Int)) (k : G tgt lv st σ) : G pc lv (.int (iI a) :: st) σ := by
  obtain ⟨p, e, s, m, args, below, meth, c, A, cells, slots, Q, ⟨hx, hb, -⟩, rfl, -⟩ := hX
  subst ha
  exact fun hB H locs ls hP hS h => lv_tableIn hx hb hd (by rw [iI_toInt hz.1]; omega) (by rw [iI_toInt hz.1]; omega) (by rw [iI_toInt hz.1]; exact ho) ht (k hB H locs ls hP hS h)
theorem r_icmp_eq (hX : Cx S l w cc nL ret own R P G) {a b off : Int} {tgt : Nat} (hd : decode cc pc = .ok (.if_icmp .eq off, 3)) (ht : (pc : Int) + off = (tgt : Int)) (ha : inr a) (hb2 : inr b) (kt : a = b → G tgt lv st σ) (kf : ¬ a = b → G (pc + 3) lv st σ) : G pc lv (.int (iI b) :: .int (iI a) :: st) σ := by
  obtain ⟨p, e, s, m, args, below, meth, c, A, cells, slots, Q, ⟨hx, hb, -⟩, rfl, -⟩ := hX
  exact fun hB H locs ls hP hS h => lv_icmp_eq hx hb hd ht (fun q => kt (by rw [iI_eq ha hb2] at q; omega) hB H locs ls hP hS h) (fun q => kf (by rw [iI_eq ha hb2] at q; omega) hB H locs ls hP hS h)
theorem r_if_eq (hX : Cx S l w cc nL ret own R P G) {a off : Int} {tgt : Nat} (hd : decode cc pc = .ok (.ifCond .eq off, 3)) (ht : (pc : Int) + off = (tgt : Int)) (ha : inr a) (kt : a = 0 → G tgt lv st σ) (kf : ¬ a = 0 → G (pc + 3) lv st σ) : G pc lv (.int (iI a) :: st) σ := by
  obtain ⟨p, e, s, m, args, below, meth, c, A, cells, slots, Q, ⟨hx, hb, -⟩, rfl, -⟩ := hX
  have hb2 : inr 0 := ⟨by omega, by omega⟩
  exact fun hB H locs ls hP hS h => lv_if_eq hx hb hd ht (fun q => kt (by rw [← iI_zero, iI_eq ha hb2] at q; omega) hB H locs ls hP hS h) (fun q => kf (by rw [← iI_zero, iI_eq ha hb2] at q; omega) hB H locs ls hP hS h)
theorem r_icmpR_eq (hX : Cx S l w cc nL ret own R P G) {a b off : Int} {tgt : Nat} (hd : decode cc pc = .ok (.if_icmp .eq off, 3)) (ht : (pc : Int) + off = (tgt : Int)) (kt : iI a = iI b → G tgt lv st σ) (kf : ¬ iI a = iI b → G (pc + 3) lv st σ) : G pc lv (.int (iI b) :: .int (iI a) :: st) σ := by
  obtain ⟨p, e, s, m, args, below, meth, c, A, cells, slots, Q, ⟨hx, hb, -⟩, rfl, -⟩ := hX
  exact fun hB H locs ls hP hS h => lv_icmp_eq hx hb hd ht (fun q => kt q hB H locs ls hP hS h) (fun q => kf q hB H locs ls hP hS h)
theorem r_icmp_ne (hX : Cx S l w cc nL ret own R P G) {a b off : Int} {tgt : Nat} (hd : decode cc pc = .ok (.if_icmp .ne off, 3)) (ht : (pc : Int) + off = (tgt : Int)) (ha : inr a) (hb2 : inr b) (kt : ¬ a = b → G tgt lv st σ) (kf : a = b → G (pc + 3) lv st σ) : G pc lv (.int (iI b) :: .int (iI a) :: st) σ := by
  obtain ⟨p, e, s, m, args, below, meth, c, A, cells, slots, Q, ⟨hx, hb, -⟩, rfl, -⟩ := hX
  exact fun hB H locs ls hP hS h => lv_icmp_ne hx hb hd ht (fun q => kt (by rw [iI_eq ha hb2] at q; omega) hB H locs ls hP hS h) (fun q => kf (by rw [iI_eq ha hb2] at q; omega) hB H locs ls hP hS h)
theorem r_if_ne (hX : Cx S l w cc nL ret own R P G) {a off : Int} {tgt : Nat} (hd : decode cc pc = .ok (.ifCond .ne off, 3)) (ht : (pc : Int) + off = (tgt : Int)) (ha : inr a) (kt : ¬ a = 0 → G tgt lv st σ) (kf : a = 0 → G (pc + 3) lv st σ) : G pc lv (.int (iI a) :: st) σ := by
  obtain ⟨p, e, s, m, args, below, meth, c, A, cells, slots, Q, ⟨hx, hb, -⟩, rfl, -⟩ := hX
  have hb2 : inr 0 := ⟨by omega, by omega⟩
  exact fun hB H locs ls hP hS h => lv_if_ne hx hb hd ht (fun q => kt (by rw [← iI_zero, iI_eq ha hb2] at q; omega) hB H locs ls hP hS h) (fun q => kf (by rw [← iI_zero, iI_eq ha hb2] at q; omega) hB H locs ls hP hS h)
theorem r_icmpR_ne (hX : Cx S l w cc nL ret own R P G) {a b off : Int} {tgt : Nat} (hd : decode cc pc = .ok (.if_icmp .ne off, 3)) (ht : (pc : Int) + off = (tgt : Int)) (kt : ¬ iI a = iI b → G tgt lv st σ) (kf : iI a = iI b → G (pc + 3) lv st σ) : G pc lv (.int (iI b) :: .int (iI a) :: st) σ := by
  obtain ⟨p, e, s, m, args, below, meth, c, A, cells, slots, Q, ⟨hx, hb, -⟩, rfl, -⟩ := hX
  exact fun hB H locs ls hP hS h => lv_icmp_ne hx hb hd ht (fun q => kt q hB H locs ls hP hS h) (fun q => kf q hB H locs ls hP hS h)
theorem r_icmp_lt (hX : Cx S l w cc nL ret own R P G) {a b off : Int} {tgt : Nat} (hd : decode cc pc = .ok (.if_icmp .lt off, 3)) (ht : (pc : Int) + off = (tgt : Int)) (ha : inr a) (hb2 : inr b) (kt : a < b → G tgt lv st σ) (kf : b ≤ a → G (pc + 3) lv st σ) : G pc lv (.int (iI b) :: .int (iI a) :: st) σ := by
  obtain ⟨p, e, s, m, args, below, meth, c, A, cells, slots, Q, ⟨hx, hb, -⟩, rfl, -⟩ := hX
  exact fun hB H locs ls hP hS h => lv_icmp_lt hx hb hd ht (fun q => kt (by rw [iI_lt ha hb2] at q; omega) hB H locs ls hP hS h) (fun q => kf (by rw [iI_lt ha hb2] at q; omega) hB H locs ls hP hS h)
theorem r_if_lt (hX : Cx S l w cc nL ret own R P G) {a off : Int} {tgt : Nat} (hd : decode cc pc = .ok (.ifCond .lt off, 3)) (ht : (pc : Int) + off = (tgt : Int)) (ha : inr a) (kt : a < 0 → G tgt lv st σ) (kf : 0 ≤ a → G (pc + 3) lv st σ) : G pc lv (.int (iI a) :: st) σ := by
  obtain ⟨p, e, s, m, args, below, meth, c, A, cells, slots, Q, ⟨hx, hb, -⟩, rfl, -⟩ := hX
  have hb2 : inr 0 := ⟨by omega, by omega⟩
  exact fun hB H locs ls hP hS h => lv_if_lt hx hb hd ht (fun q => kt (by rw [← iI_zero, iI_lt ha hb2] at q; omega) hB H locs ls hP hS h) (fun q => kf (by rw [← iI_zero, iI_lt ha hb2] at q; omega) hB H locs ls hP hS h)
theorem r_icmpR_lt (hX : Cx S l w cc nL ret own R P G) {a b off : Int} {tgt : Nat} (hd : decode cc pc = .ok (.if_icmp .lt off, 3)) (ht : (pc : Int) + off = (tgt : Int)) (kt : iI a < iI b → G tgt lv st σ) (kf : ¬ iI a < iI b → G (pc + 3) lv st σ) : G pc lv (.int (iI b) :: .int (iI a) :: st) σ := by
  obtain ⟨p, e, s, m, args, below, meth, c, A, cells, slots, Q, ⟨hx, hb, -⟩, rfl, -⟩ := hX
  exact fun hB H locs ls hP hS h => lv_icmp_lt hx hb hd ht (fun q => kt q hB H locs ls hP hS h) (fun q => kf q hB H locs ls hP hS h)
theorem r_icmp_ge (hX : Cx S l w cc nL ret own R P G) {a b off : Int} {tgt : Nat} (hd : decode cc pc = .ok (.if_icmp .ge off, 3)) (ht : (pc : Int) + off = (tgt : Int)) (ha : inr a) (hb2 : inr b) (kt : b ≤ a → G tgt lv st σ) (kf : a < b → G (pc + 3) lv st σ) : G pc lv (.int (iI b) :: .int (iI a) :: st) σ := by
  obtain ⟨p, e, s, m, args, below, meth, c, A, cells, slots, Q, ⟨hx, hb, -⟩, rfl, -⟩ := hX
  exact fun hB H locs ls hP hS h => lv_icmp_ge hx hb hd ht (fun q => kt (by rw [iI_le hb2 ha] at q; omega) hB H locs ls hP hS h) (fun q => kf (by rw [iI_le hb2 ha] at q; omega) hB H locs ls hP hS h)
theorem r_if_ge (hX : Cx S l w cc nL ret own R P G) {a off : Int} {tgt : Nat} (hd : decode cc pc = .ok (.ifCond .ge off, 3)) (ht : (pc : Int) + off = (tgt : Int)) (ha : inr a) (kt : 0 ≤ a → G tgt lv st σ) (kf : a < 0 → G (pc + 3) lv st σ) : G pc lv (.int (iI a) :: st) σ := by
  obtain ⟨p, e, s, m, args, below, meth, c, A, cells, slots, Q, ⟨hx, hb, -⟩, rfl, -⟩ := hX
  have hb2 : inr 0 := ⟨by omega, by omega⟩
  exact fun hB H locs ls hP hS h => lv_if_ge hx hb hd ht (fun q => kt (by rw [← iI_zero, iI_le hb2 ha] at q; omega) hB H locs ls hP hS h) (fun q => kf (by rw [← iI_zero, iI_le hb2 ha] at q; omega) hB H locs ls hP hS h)
theorem r_icmpR_ge (hX : Cx S l w cc nL ret own R P G) {a b off : Int} {tgt : Nat} (hd : decode cc pc = .ok (.if_icmp .ge off, 3)) (ht : (pc : Int) + off = (tgt : Int)) (kt : iI b ≤ iI a → G tgt lv st σ) (kf : ¬ iI b ≤ iI a → G (pc + 3) lv st σ) : G pc lv (.int (iI b) :: .int (iI a) :: st) σ := by
  obtain ⟨p, e, s, m, args, below, meth, c, A, cells, slots, Q, ⟨hx, hb, -⟩, rfl, -⟩ := hX
  exact fun hB H locs ls hP hS h => lv_icmp_ge hx hb hd ht (fun q => kt q hB H locs ls hP hS h) (fun q => kf q hB H locs ls hP hS h)
theorem r_icmp_gt (hX : Cx S l w cc nL ret own R P G) {a b off : Int} {tgt : Nat} (hd : decode cc pc = .ok (.if_icmp .gt off, 3)) (ht : (pc : Int) + off = (tgt : Int)) (ha : inr a) (hb2 : inr b) (kt : b < a → G tgt lv st σ) (kf : a ≤ b → G (pc + 3) lv st σ) : G pc lv (.int (iI b) :: .int (iI a) :: st) σ := by
  obtain ⟨p, e, s, m, args, below, meth, c, A, cells, slots, Q, ⟨hx, hb, -⟩, rfl, -⟩ := hX
  exact fun hB H locs ls hP hS h => lv_icmp_gt hx hb hd ht (fun q => kt (by rw [iI_lt hb2 ha] at q; omega) hB H locs ls hP hS h) (fun q => kf (by rw [iI_lt hb2 ha] at q; omega) hB H locs ls hP hS h)
theorem r_if_gt (hX : Cx S l w cc nL ret own R P G) {a off : Int} {tgt : Nat} (hd : decode cc pc = .ok (.ifCond .gt off, 3)) (ht : (pc : Int) + off = (tgt : Int)) (ha : inr a) (kt : 0 < a → G tgt lv st σ) (kf : a ≤ 0 → G (pc + 3) lv st σ) : G pc lv (.int (iI a) :: st) σ := by
  obtain ⟨p, e, s, m, args, below, meth, c, A, cells, slots, Q, ⟨hx, hb, -⟩, rfl, -⟩ := hX
  have hb2 : inr 0 := ⟨by omega, by omega⟩
  exact fun hB H locs ls hP hS h => lv_if_gt hx hb hd ht (fun q => kt (by rw [← iI_zero, iI_lt hb2 ha] at q; omega) hB H locs ls hP hS h) (fun q => kf (by rw [← iI_zero, iI_lt hb2 ha] at q; omega) hB H locs ls hP hS h)
theorem r_icmpR_gt (hX : Cx S l w cc nL ret own R P G) {a b off : Int} {tgt : Nat} (hd : decode cc pc = .ok (.if_icmp .gt off, 3)) (ht : (pc : Int) + off = (tgt : Int)) (kt : iI b < iI a → G tgt lv st σ) (kf : ¬ iI b < iI a → G (pc + 3) lv st σ) : G pc lv (.int (iI b) :: .int (iI a) :: st) σ := by
  obtain ⟨p, e, s, m, args, below, meth, c, A, cells, slots, Q, ⟨hx, hb, -⟩, rfl, -⟩ := hX
  exact fun hB H locs ls hP hS h => lv_icmp_gt hx hb hd ht (fun q => kt q hB H locs ls hP hS h) (fun q => kf q hB H locs ls hP hS h)
theorem r_icmp_le (hX : Cx S l w cc nL ret own R P G) {a b off : Int} {tgt : Nat} (hd : decode cc pc = .ok (.if_icmp .le off, 3)) (ht : (pc : Int) + off = (tgt : Int)) (ha : inr a) (hb2 : inr b) (kt : a ≤ b → G tgt lv st σ) (kf : b < a → G (pc + 3) lv st σ) : G pc lv (.int (iI b) :: .int (iI a) :: st) σ := by
  obtain ⟨p, e, s, m, args, below, meth, c, A, cells, slots, Q, ⟨hx, hb, -⟩, rfl, -⟩ := hX
  exact fun hB H locs ls hP hS h => lv_icmp_le hx hb hd ht (fun q => kt (by rw [iI_le ha hb2] at q; omega) hB H locs ls hP hS h) (fun q => kf (by rw [iI_le ha hb2] at q; omega) hB H locs ls hP hS h)
theorem r_if_le (hX : Cx S l w cc nL ret own R P G) {a off : Int} {tgt : Nat} (hd : decode cc pc = .ok (.ifCond .le off, 3)) (ht : (pc : Int) + off = (tgt : Int)) (ha : inr a) (kt : a ≤ 0 → G tgt lv st σ) (kf : 0 < a → G (pc + 3) lv st σ) : G pc lv (.int (iI a) :: st) σ := by
  obtain ⟨p, e, s, m, args, below, meth, c, A, cells, slots, Q, ⟨hx, hb, -⟩, rfl, -⟩ := hX
  have hb2 : inr 0 := ⟨by omega, by omega⟩
  exact fun hB H locs ls hP hS h => lv_if_le hx hb hd ht (fun q => kt (by rw [← iI_zero, iI_le ha hb2] at q; omega) hB H locs ls hP hS h) (fun q => kf (by rw [← iI_zero, iI_le ha hb2] at q; omega) hB H locs ls hP hS h)
theorem r_icmpR_le (hX : Cx S l w cc nL ret own R P G) {a b off : Int} {tgt : Nat} (hd : decode cc pc = .ok (.if_icmp .le off, 3)) (ht : (pc : Int) + off = (tgt : Int)) (kt : iI a ≤ iI b → G tgt lv st σ) (kf : ¬ iI a ≤ iI b → G (pc + 3) lv st σ) : G pc lv (.int (iI b) :: .int (iI a) :: st) σ := by
  obtain ⟨p, e, s, m, args, below, meth, c, A, cells, slots, Q, ⟨hx, hb, -⟩, rfl, -⟩ := hX
  exact fun hB H locs ls hP hS h => lv_icmp_le hx hb hd ht (fun q => kt q hB H locs ls hP hS h) (fun q => kf q hB H locs ls hP hS h)
theorem r_getI (hX : Cx S l w cc nL ret own R P G) {C : String} {T : u_T} {N ci i k r idx : Nat} {fs : List FS} (hd : decode cc pc = .ok (.getfield idx, 3)) (hs : S.2.1[i]? = some (.inl (ci, fs))) (hc : S.1[ci]? = some (C, T, N)) (hin : ∀ x ∈ u_ws C T N, x ∈ gtb) (hk : k < N) (hf : fs[k]? = some (.inl r)) (hl : Cond.fieldLink own idx (T k).1 (T k).2.1 (T k).2.2.1 ∈ gtb) (kk : G (pc + 3) lv (.int (iI (σ r 0)) :: st) σ) : G pc lv (.ref (w.2.2 i) :: st) σ := by
  obtain ⟨p, e, s, m, args, below, meth, c, A, cells, slots, Q, ⟨hx, hb, hml, hown, hts, hK, -⟩, rfl, -⟩ := hX
  exact fun hB H locs ls hP hS h => va_get (fs := fs.map (fv w.2.2 σ)) hx hb hts hin hown hK hP i (wd_get hs) hc k hk (hts _ hl) (fun _ z => z) (by rw [List.getElem?_map, hf]; rfl) hd (kk hB H locs ls hP hS h)
theorem r_getR (hX : Cx S l w cc nL ret own R P G) {C : String} {T : u_T} {N ci i k j idx : Nat} {fs : List FS} (hd : decode cc pc = .ok (.getfield idx, 3)) (hs : S.2.1[i]? = some (.inl (ci, fs))) (hc : S.1[ci]? = some (C, T, N)) (hin : ∀ x ∈ u_ws C T N, x ∈ gtb) (hk : k < N) (hf : fs[k]? = some (.inr j)) (hl : Cond.fieldLink own idx (T k).1 (T k).2.1 (T k).2.2.1 ∈ gtb) (kk : G (pc + 3) lv (.ref (w.2.2 j) :: st) σ) : G pc lv (.ref (w.2.2 i) :: st) σ := by
  obtain ⟨p, e, s, m, args, below, meth, c, A, cells, slots, Q, ⟨hx, hb, hml, hown, hts, hK, -⟩, rfl, -⟩ := hX
  exact fun hB H locs ls hP hS h => va_get (fs := fs.map (fv w.2.2 σ)) hx hb hts hin hown hK hP i (wd_get hs) hc k hk (hts _ hl) (fun _ z => z) (by rw [List.getElem?_map, hf]; rfl) hd (kk hB H locs ls hP hS h)
theorem r_putI (hX : Cx S l w cc nL ret own R P G) {C : String} {T : u_T} {N ci i k r idx : Nat} {fs : List FS} {z : Int} (hd : decode cc pc = .ok (.putfield idx, 3)) (hs : S.2.1[i]? = some (.inl (ci, fs))) (hc : S.1[ci]? = some (C, T, N)) (hin : ∀ x ∈ u_ws C T N, x ∈ gtb) (ty0 : Nat → FieldType) (hty : ∀ k, k < N → parseFieldDescriptor (T k).2.2.1 = some (ty0 k)) (hnm : ∀ a, a < N → ∀ b, b < N → a ≠ b → (T a).2.1 ≠ (T b).2.1) (hk : k < N) (hf : fs[k]? = some (.inl r)) (hl : Cond.fieldLink own idx (T k).1 (T k).2.1 (T k).2.2.1 ∈ gtb) (hfin : (T k).2.2.2 = false) (hpd : parseFieldDescriptor (T k).2.2.1 = some .int) (ho : sepR S.2.1 i r = true) (ho2 : fsep fs k r = true)
    (hbd : ∀ lo hi, S.2.2[r]? = some (some (lo, hi)) → lo ≤ z ∧ z ≤ hi) (kk : G (pc + 3) lv st (up σ r 0 z)) : G pc lv (.int (iI z) :: .ref (w.2.2 i) :: st) σ := by
  obtain ⟨p, e, s, m, args, below, meth, c, A, cells, slots, Q, ⟨hx, hb, hml, hown, hts, hK, hI, hA, -⟩, rfl, -⟩ := hX
  intro hB H locs ls hP hS h
  refine va_put (fs := fs.map (fv w.2.2 σ)) (ty := .int) hx hb hts hin ty0 hty hnm hown hK hP (wd_D hI hA σ) hS i (wd_get hs) hc k hk (hts _ hl) (fun _ z => z) hfin hpd rfl rfl (by rw [List.length_map]; exact (List.getElem?_eq_some_iff.mp hf).1) hd fun H1 locs1 hP1 hD1 hS1 => kk (hB.up hbd) H1 locs1 ls ?_ hS1 h
  rw [wd_up (e := 0) (v := z) hs ho (show ce w (up σ r 0 z) (.inl (ci, fs)) = _ by simp only [ce]; rw [fs_set hf ho2])] at hP1
  exact hP1
theorem sh_len {sh : List SH} {i r n : Nat} {b : Bool} (h : sh.all shOK = true) (hs : sh[i]? = some (.inr (b, r, n))) : n ≤ 1000000 := by
  have h1 := List.all_eq_true.mp h _ (List.mem_of_getElem? hs)
  exact Nat.le_of_ble_eq_true h1
theorem r_iald (hX : Cx S l w cc nL ret own R P G) {i r n : Nat} {a : Int} (hd : decode cc pc = .ok (.iaload, 1)) (hs : S.2.1[i]? = some (.inr (false, r, n))) (h0 : 0 ≤ a) (h1 : a < (n : Int)) (kk : G (pc + 1) lv (.int (iI (σ r a)) :: st) σ) : G pc lv (.int (iI a) :: .ref (w.2.2 i) :: st) σ := by
  obtain ⟨p, e, s, m, args, below, meth, c, A, cells, slots, Q, ⟨hx, hb, hml, hown, hts, hK, hI, hA, -, -, hsh⟩, rfl, -⟩ := hX
  intro hB H locs ls hP hS h
  have hn := sh_len hsh hs
  refine va_iald hx hb hK hP i 0 (wd_get hs) rfl (iI_in h0 h1 hn) hd ?_
  rw [iI_clamp h0 (by omega)]
  exact kk hB H locs ls hP hS h
theorem r_zald (hX : Cx S l w cc nL ret own R P G) {i r n : Nat} {a : Int} (hd : decode cc pc = .ok (.baload, 1)) (hs : S.2.1[i]? = some (.inr (true, r, n))) (h0 : 0 ≤ a) (h1 : a < (n : Int)) (kk : G (pc + 1) lv (.int (iI (σ r a)) :: st) σ) : G pc lv (.int (iI a) :: .ref (w.2.2 i) :: st) σ := by
  obtain ⟨p, e, s, m, args, below, meth, c, A, cells, slots, Q, ⟨hx, hb, hml, hown, hts, hK, hI, hA, -, -, hsh⟩, rfl, -⟩ := hX
  intro hB H locs ls hP hS h
  have hn := sh_len hsh hs
  refine va_zald hx hb hK hP i 1 (wd_get hs) rfl (iI_in h0 h1 hn) hd ?_
  rw [iI_clamp h0 (by omega)]
  exact kk hB H locs ls hP hS h
theorem upd_up {σ : MM} {r : Nat} {a z : Int} (h0 : 0 ≤ a) (h1 : a ≤ 2147483647) : upd (fun k => iI (σ r (k : Int))) (iI a).toNatClampNeg (iI z) = fun k : Nat => iI (up σ r a z r (k : Int)) := by
  funext k
  have h2 := iI_clamp h0 h1
  simp only [upd, up_at]
  by_cases hk : k = (iI a).toNatClampNeg
  · rw [if_pos hk, if_pos (by omega)]
  · rw [if_neg hk, if_neg (by omega)]
theorem r_iast (hX : Cx S l w cc nL ret own R P G) {i r n : Nat} {a z : Int} (hd : decode cc pc = .ok (.iastore, 1)) (hs : S.2.1[i]? = some (.inr (false, r, n))) (ho : sepR S.2.1 i r = true) (h0 : 0 ≤ a) (h1 : a < (n : Int)) (hbd : ∀ lo hi, S.2.2[r]? = some (some (lo, hi)) → lo ≤ z ∧ z ≤ hi) (kk : G (pc + 1) lv st (up σ r a z)) : G pc lv (.int (iI z) :: .int (iI a) :: .ref (w.2.2 i) :: st) σ := by
  obtain ⟨p, e, s, m, args, below, meth, c, A, cells, slots, Q, ⟨hx, hb, hml, hown, hts, hK, hI, hA, -, -, hsh⟩, rfl, -⟩ := hX
  intro hB H locs ls hP hS h
  have hn := sh_len hsh hs
  refine va_iast hx hb hK hP (wd_D hI hA σ) hS i 0 (wd_get hs) rfl (iI_in h0 h1 hn) hd fun H1 locs1 hP1 hD1 hS1 => kk (hB.up hbd) H1 locs1 ls ?_ hS1 h
  rw [wd_up (e := a) (v := z) hs ho (show ce w (up σ r a z) (.inr (false, r, n)) = _ by simp only [ce]; rw [← upd_up h0 (by omega)])] at hP1
  exact hP1
theorem zn (z : Int) (hz : z = 0 ∨ z = 1) : vp_nar .boolean (iI z) = iI z := by
  rcases hz with rfl | rfl <;> decide
theorem r_zast (hX : Cx S l w cc nL ret own R P G) {i r n : Nat} {a z : Int} (hd : decode cc pc = .ok (.bastore, 1)) (hs : S.2.1[i]? = some (.inr (true, r, n))) (ho : sepR S.2.1 i r = true) (h0 : 0 ≤ a) (h1 : a < (n : Int)) (hz : z = 0 ∨ z = 1) (hbd : ∀ lo hi, S.2.2[r]? = some (some (lo, hi)) → lo ≤ z ∧ z ≤ hi) (kk : G (pc + 1) lv st (up σ r a z)) : G pc lv (.int (iI z) :: .int (iI a) :: .ref (w.2.2 i) :: st) σ := by
  obtain ⟨p, e, s, m, args, below, meth, c, A, cells, slots, Q, ⟨hx, hb, hml, hown, hts, hK, hI, hA, -, -, hsh⟩, rfl, -⟩ := hX
  intro hB H locs ls hP hS h
  have hn := sh_len hsh hs
  refine va_zast hx hb hK hP (wd_D hI hA σ) hS i 1 (wd_get hs) rfl (iI_in h0 h1 hn) hd fun H1 locs1 hP1 hD1 hS1 => kk (hB.up hbd) H1 locs1 ls ?_ hS1 h
  rw [zn z hz] at hP1
  rw [wd_up (e := a) (v := z) hs ho (show ce w (up σ r a z) (.inr (true, r, n)) = _ by simp only [ce]; rw [← upd_up h0 (by omega)])] at hP1
  exact hP1
theorem r_alen (hX : Cx S l w cc nL ret own R P G) {i r n : Nat} (hd : decode cc pc = .ok (.arraylength, 1)) (hs : S.2.1[i]? = some (.inr (false, r, n))) (kk : G (pc + 1) lv (.int (iI (n : Int)) :: st) σ) : G pc lv (.ref (w.2.2 i) :: st) σ := by
  obtain ⟨p, e, s, m, args, below, meth, c, A, cells, slots, Q, ⟨hx, hb, hml, hown, hts, hK, hI, hA, -, -, hsh⟩, rfl, -⟩ := hX
  intro hB H locs ls hP hS h
  exact va_alen hx hb hK hP i 0 (wd_get hs) rfl (show Int32.ofNat n = iI (n : Int) from Int32.ofInt_eq_ofNat.symm) hd (kk hB H locs ls hP hS h)
theorem r_ret (hX : Cx S l w cc nL ret own R P G) (hd : decode cc pc = .ok (.return_, 1)) (hr : ret = none) (hp : P none σ) : G pc lv [] σ := by
  obtain ⟨p, e, s, m, args, below, meth, c, A, cells, slots, Q, -, -, hR⟩ := hX
  exact hR pc lv none σ ⟨hd, hr⟩ hp
theorem r_iret (hX : Cx S l w cc nL ret own R P G) {z : Int} (hd : decode cc pc = .ok (.ireturn, 1)) (hr : ret = some .int) (hp : P (some (.int (iI z))) σ) : G pc lv [.int (iI z)] σ := by
  obtain ⟨p, e, s, m, args, below, meth, c, A, cells, slots, Q, -, -, hR⟩ := hX
  exact hR pc lv (some (.int (iI z))) σ ⟨hd, .int, hr, Or.inl rfl, rfl⟩ hp
theorem nar_z (z : Int) (hz : z = 0 ∨ z = 1) : narrow .boolean (.int (iI z)) = .int (iI z) := by
  rcases hz with rfl | rfl <;> decide
theorem r_zret (hX : Cx S l w cc nL ret own R P G) {z : Int} (hd : decode cc pc = .ok (.ireturn, 1)) (hr : ret = some .boolean) (hz : z = 0 ∨ z = 1) (hp : P (some (.int (iI z))) σ) : G pc lv [.int (iI z)] σ := by
  obtain ⟨p, e, s, m, args, below, meth, c, A, cells, slots, Q, -, -, hR⟩ := hX
  exact hR pc lv (some (.int (iI z))) σ ⟨hd, .boolean, hr, Or.inr rfl, nar_z z hz⟩ hp
theorem r_lret (hX : Cx S l w cc nL ret own R P G) {z : Int} (hd : decode cc pc = .ok (.lreturn, 1)) (hr : ret = some .long) (hp : P (some (.long (lI z))) σ) : G pc lv [.long (lI z)] σ := by
  obtain ⟨p, e, s, m, args, below, meth, c, A, cells, slots, Q, -, -, hR⟩ := hX
  exact hR pc lv (some (.long (lI z))) σ ⟨hd, hr⟩ hp
end RULES
end
