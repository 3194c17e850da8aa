def bdL : List (Option (Int × Int)) := [none, none, some (0, 5), none, none, some ((-6), 7), some (0, 3), some (0, 7), some (0, 1), none, none, some (0, 1), some (0, 1), some (0, 1000), none, some (0, 8), some (0, 20000000), none, some (0, 8), some (0, 11), some (0, 108), some ((-1100), 1100), some (0, 1300000), none, none, none, none, none, some (0, 5), some (0, 7), some (0, 3), none, none, some (0, 1), none, some (0, 1), some (0, 1), some (0, 1000), some (0, 8), some (0, 20000000), none, some (0, 8), some (0, 11), some (0, 200000), some (0, 1000), none, none, none, none, none, some (0, 61), some (0, 60), none, some (0, 8), some (0, 8), none, some (1, 3), some (1, 3), some (0, 12), some (0, 12), some (0, 20000), some (0, 8), none, some (0, 12), some (0, 60), some (1, 3), some (1, 3), none]
def bdG : List (Option (Int × Int)) := [none, none, some (0, 5), none, none, some ((-6), 7), some (0, 3), some (0, 7), some (0, 1), none, none, some (0, 1), some (0, 1), some (0, 1000), none, some (0, 8), some (0, 20000000), none, some (0, 8), some (0, 11), some (0, 108), some ((-1100), 1100), some (0, 1300000), none, none, none, none, none, some (0, 5), some (0, 7), some (0, 3), none, none, some (0, 1), none, some (0, 1), some (0, 1), some (0, 1000), some (0, 8), some (0, 20000000), none, some (0, 8), some (0, 11), some (0, 200000), some (0, 1000), none, none, none, none, none, some (0, 61), some (0, 60), none, some (0, 8), some (0, 8), none, none, none, some (0, 12), some (0, 12), some (0, 20000), some (0, 8), none, some (0, 12), some (0, 60), some (1, 3), some (1, 3), none]
def SX : ST := (vwCl, [.inl (5, [.inr 1, .inr 10, .inr 14, .inr 17, .inr 23, .inr 25, .inl 50, .inl 51, .inl 52]), .inl (2, [.inr 2, .inr 3, .inr 4, .inr 5, .inr 6, .inr 7, .inr 8, .inr 9, .inl 53, .inl 54, .inl 55]), .inr (false, 2, 8), .inr (false, 3, 8), .inr (false, 4, 8), .inr (false, 5, 16), .inr (false, 6, 16), .inr (false, 7, 8), .inr (true, 8, 8), .inr (false, 9, 8), .inl (0, [.inr 11, .inr 12, .inr 13, .inl 56, .inl 57]), .inr (true, 11, 9), .inr (true, 12, 9), .inr (false, 13, 81), .inl (1, [.inr 1, .inr 10, .inr 15, .inr 16, .inl 58]), .inr (false, 15, 8), .inr (false, 16, 8), .inl (3, [.inr 1, .inr 10, .inr 18, .inr 19, .inr 20, .inr 21, .inr 22, .inl 59, .inl 60]), .inr (false, 18, 8), .inr (false, 19, 8), .inr (false, 20, 8), .inr (false, 21, 16), .inr (false, 22, 64), .inl (4, [.inr 1, .inr 24]), .inr (false, 24, 488), .inl (4, [.inr 1, .inr 26]), .inr (false, 26, 488), .inl (6, [.inr 28, .inr 29, .inr 30, .inr 31, .inr 32, .inl 61, .inl 62, .inl 63, .inl 64, .inr 33, .inr 34, .inl 65, .inl 66, .inr 35, .inr 36, .inr 37, .inr 38, .inr 39, .inr 40, .inl 67, .inr 41, .inr 42, .inr 43, .inr 44]), .inr (false, 28, 8), .inr (false, 29, 16), .inr (false, 30, 16), .inr (false, 31, 8), .inr (false, 32, 8), .inr (true, 33, 8), .inr (false, 34, 488), .inr (true, 35, 9), .inr (true, 36, 9), .inr (false, 37, 9), .inr (false, 38, 8), .inr (false, 39, 8), .inr (false, 40, 8), .inr (false, 41, 8), .inr (false, 42, 8), .inr (false, 43, 8), .inr (false, 44, 81)], bdL)
theorem sh_X : SX.2.1.all shOK = true := by decide +kernel
theorem sp_X50 : sepR SX.2.1 0 50 = true := by decide +kernel
theorem sp_X51 : sepR SX.2.1 0 51 = true := by decide +kernel
theorem sp_X52 : sepR SX.2.1 0 52 = true := by decide +kernel
theorem sp_X53 : sepR SX.2.1 1 53 = true := by decide +kernel
theorem sp_X54 : sepR SX.2.1 1 54 = true := by decide +kernel
theorem sp_X55 : sepR SX.2.1 1 55 = true := by decide +kernel
theorem sp_X2 : sepR SX.2.1 2 2 = true := by decide +kernel
theorem sp_X3 : sepR SX.2.1 3 3 = true := by decide +kernel
theorem sp_X4 : sepR SX.2.1 4 4 = true := by decide +kernel
theorem sp_X5 : sepR SX.2.1 5 5 = true := by decide +kernel
theorem sp_X6 : sepR SX.2.1 6 6 = true := by decide +kernel
theorem sp_X7 : sepR SX.2.1 7 7 = true := by decide +kernel
theorem sp_X8 : sepR SX.2.1 8 8 = true := by decide +kernel
theorem sp_X9 : sepR SX.2.1 9 9 = true := by decide +kernel
theorem sp_X56 : sepR SX.2.1 10 56 = true := by decide +kernel
theorem sp_X57 : sepR SX.2.1 10 57 = true := by decide +kernel
theorem sp_X11 : sepR SX.2.1 11 11 = true := by decide +kernel
theorem sp_X12 : sepR SX.2.1 12 12 = true := by decide +kernel
theorem sp_X13 : sepR SX.2.1 13 13 = true := by decide +kernel
theorem sp_X58 : sepR SX.2.1 14 58 = true := by decide +kernel
theorem sp_X15 : sepR SX.2.1 15 15 = true := by decide +kernel
theorem sp_X16 : sepR SX.2.1 16 16 = true := by decide +kernel
theorem sp_X59 : sepR SX.2.1 17 59 = true := by decide +kernel
theorem sp_X60 : sepR SX.2.1 17 60 = true := by decide +kernel
theorem sp_X18 : sepR SX.2.1 18 18 = true := by decide +kernel
theorem sp_X19 : sepR SX.2.1 19 19 = true := by decide +kernel
theorem sp_X20 : sepR SX.2.1 20 20 = true := by decide +kernel
theorem sp_X21 : sepR SX.2.1 21 21 = true := by decide +kernel
theorem sp_X22 : sepR SX.2.1 22 22 = true := by decide +kernel
theorem sp_X24 : sepR SX.2.1 24 24 = true := by decide +kernel
theorem sp_X26 : sepR SX.2.1 26 26 = true := by decide +kernel
theorem sp_X61 : sepR SX.2.1 27 61 = true := by decide +kernel
theorem sp_X62 : sepR SX.2.1 27 62 = true := by decide +kernel
theorem sp_X63 : sepR SX.2.1 27 63 = true := by decide +kernel
theorem sp_X64 : sepR SX.2.1 27 64 = true := by decide +kernel
theorem sp_X65 : sepR SX.2.1 27 65 = true := by decide +kernel
theorem sp_X66 : sepR SX.2.1 27 66 = true := by decide +kernel
theorem sp_X67 : sepR SX.2.1 27 67 = true := by decide +kernel
theorem sp_X28 : sepR SX.2.1 28 28 = true := by decide +kernel
theorem sp_X29 : sepR SX.2.1 29 29 = true := by decide +kernel
theorem sp_X30 : sepR SX.2.1 30 30 = true := by decide +kernel
theorem sp_X31 : sepR SX.2.1 31 31 = true := by decide +kernel
theorem sp_X32 : sepR SX.2.1 32 32 = true := by decide +kernel
theorem sp_X33 : sepR SX.2.1 33 33 = true := by decide +kernel
theorem sp_X34 : sepR SX.2.1 34 34 = true := by decide +kernel
theorem sp_X35 : sepR SX.2.1 35 35 = true := by decide +kernel
theorem sp_X36 : sepR SX.2.1 36 36 = true := by decide +kernel
theorem sp_X37 : sepR SX.2.1 37 37 = true := by decide +kernel
theorem sp_X38 : sepR SX.2.1 38 38 = true := by decide +kernel
theorem sp_X39 : sepR SX.2.1 39 39 = true := by decide +kernel
theorem sp_X40 : sepR SX.2.1 40 40 = true := by decide +kernel
theorem sp_X41 : sepR SX.2.1 41 41 = true := by decide +kernel
theorem sp_X42 : sepR SX.2.1 42 42 = true := by decide +kernel
theorem sp_X43 : sepR SX.2.1 43 43 = true := by decide +kernel
theorem sp_X44 : sepR SX.2.1 44 44 = true := by decide +kernel
def SG : ST := (vwCl, [.inl (0, [.inr 1, .inr 2, .inr 3, .inl 56, .inl 57]), .inr (true, 11, 9), .inr (true, 12, 9), .inr (false, 13, 81)], bdG)
theorem sh_G : SG.2.1.all shOK = true := by decide +kernel
theorem sp_G56 : sepR SG.2.1 0 56 = true := by decide +kernel
theorem sp_G57 : sepR SG.2.1 0 57 = true := by decide +kernel
theorem sp_G11 : sepR SG.2.1 1 11 = true := by decide +kernel
theorem sp_G12 : sepR SG.2.1 2 12 = true := by decide +kernel
theorem sp_G13 : sepR SG.2.1 3 13 = true := by decide +kernel
def SM : ST := (vwCl, [.inl (6, [.inr 1, .inr 2, .inr 3, .inr 4, .inr 5, .inl 61, .inl 62, .inl 63, .inl 64, .inr 6, .inr 7, .inl 65, .inl 66, .inr 8, .inr 9, .inr 10, .inr 11, .inr 12, .inr 13, .inl 67, .inr 14, .inr 15, .inr 16, .inr 17]), .inr (false, 28, 8), .inr (false, 29, 16), .inr (false, 30, 16), .inr (false, 31, 8), .inr (false, 32, 8), .inr (true, 33, 8), .inr (false, 34, 488), .inr (true, 35, 9), .inr (true, 36, 9), .inr (false, 37, 9), .inr (false, 38, 8), .inr (false, 39, 8), .inr (false, 40, 8), .inr (false, 41, 8), .inr (false, 42, 8), .inr (false, 43, 8), .inr (false, 44, 81)], bdL)
theorem sh_M : SM.2.1.all shOK = true := by decide +kernel
theorem sp_M61 : sepR SM.2.1 0 61 = true := by decide +kernel
theorem sp_M62 : sepR SM.2.1 0 62 = true := by decide +kernel
theorem sp_M63 : sepR SM.2.1 0 63 = true := by decide +kernel
theorem sp_M64 : sepR SM.2.1 0 64 = true := by decide +kernel
theorem sp_M65 : sepR SM.2.1 0 65 = true := by decide +kernel
theorem sp_M66 : sepR SM.2.1 0 66 = true := by decide +kernel
theorem sp_M67 : sepR SM.2.1 0 67 = true := by decide +kernel
theorem sp_M28 : sepR SM.2.1 1 28 = true := by decide +kernel
theorem sp_M29 : sepR SM.2.1 2 29 = true := by decide +kernel
theorem sp_M30 : sepR SM.2.1 3 30 = true := by decide +kernel
theorem sp_M31 : sepR SM.2.1 4 31 = true := by decide +kernel
theorem sp_M32 : sepR SM.2.1 5 32 = true := by decide +kernel
theorem sp_M33 : sepR SM.2.1 6 33 = true := by decide +kernel
theorem sp_M34 : sepR SM.2.1 7 34 = true := by decide +kernel
theorem sp_M35 : sepR SM.2.1 8 35 = true := by decide +kernel
theorem sp_M36 : sepR SM.2.1 9 36 = true := by decide +kernel
theorem sp_M37 : sepR SM.2.1 10 37 = true := by decide +kernel
theorem sp_M38 : sepR SM.2.1 11 38 = true := by decide +kernel
theorem sp_M39 : sepR SM.2.1 12 39 = true := by decide +kernel
theorem sp_M40 : sepR SM.2.1 13 40 = true := by decide +kernel
theorem sp_M41 : sepR SM.2.1 14 41 = true := by decide +kernel
theorem sp_M42 : sepR SM.2.1 15 42 = true := by decide +kernel
theorem sp_M43 : sepR SM.2.1 16 43 = true := by decide +kernel
theorem sp_M44 : sepR SM.2.1 17 44 = true := by decide +kernel
theorem lk_RX2_9 : Cond.fieldLink RX2 9 "LoopBoard$Loop" "kinds" "[I" ∈ gtb := gtb_in (tb1 (List.mem_of_getElem? (i := 25) rfl)) rfl
theorem lk_RX2_15 : Cond.fieldLink RX2 15 "LoopBoard$Loop" "factors" "[I" ∈ gtb := gtb_in (tb1 (List.mem_of_getElem? (i := 26) rfl)) rfl
theorem lk_RX2_18 : Cond.fieldLink RX2 18 "LoopBoard$Loop" "addends" "[I" ∈ gtb := gtb_in (tb1 (List.mem_of_getElem? (i := 27) rfl)) rfl
theorem lk_RX2_21 : Cond.fieldLink RX2 21 "LoopBoard$Loop" "sources" "[I" ∈ gtb := gtb_in (tb1 (List.mem_of_getElem? (i := 28) rfl)) rfl
theorem lk_RX2_24 : Cond.fieldLink RX2 24 "LoopBoard$Loop" "distances" "[I" ∈ gtb := gtb_in (tb1 (List.mem_of_getElem? (i := 29) rfl)) rfl
theorem lk_RX2_27 : Cond.fieldLink RX2 27 "LoopBoard$Loop" "order" "[I" ∈ gtb := gtb_in (tb1 (List.mem_of_getElem? (i := 30) rfl)) rfl
theorem lk_RX2_30 : Cond.fieldLink RX2 30 "LoopBoard$Loop" "isOrdered" "[Z" ∈ gtb := gtb_in (tb1 (List.mem_of_getElem? (i := 31) rfl)) rfl
theorem lk_RX2_34 : Cond.fieldLink RX2 34 "LoopBoard$Loop" "delays" "[I" ∈ gtb := gtb_in (tb1 (List.mem_of_getElem? (i := 32) rfl)) rfl
theorem lk_RX2_37 : Cond.fieldLink RX2 37 "LoopBoard$Loop" "count" "I" ∈ gtb := gtb_in (tb1 (List.mem_of_getElem? (i := 33) rfl)) rfl
theorem lk_RX2_44 : Cond.fieldLink RX2 44 "LoopBoard$Loop" "ordered" "I" ∈ gtb := gtb_in (tb1 (List.mem_of_getElem? (i := 34) rfl)) rfl
theorem lk_RX2_41 : Cond.fieldLink RX2 41 "LoopBoard$Loop" "firstNumber" "I" ∈ gtb := gtb_in (tb1 (List.mem_of_getElem? (i := 35) rfl)) rfl
theorem lk_RX0_9 : Cond.fieldLink RX0 9 "LoopBoard$Grid" "broken" "[Z" ∈ gtb := gtb_in (tb1 (List.mem_of_getElem? (i := 102) rfl)) rfl
theorem lk_RX0_15 : Cond.fieldLink RX0 15 "LoopBoard$Grid" "multiplying" "[Z" ∈ gtb := gtb_in (tb1 (List.mem_of_getElem? (i := 103) rfl)) rfl
theorem lk_RX0_18 : Cond.fieldLink RX0 18 "LoopBoard$Grid" "ways" "[I" ∈ gtb := gtb_in (tb1 (List.mem_of_getElem? (i := 104) rfl)) rfl
theorem lk_RX0_26 : Cond.fieldLink RX0 26 "LoopBoard$Grid" "rows" "I" ∈ gtb := gtb_in (tb1 (List.mem_of_getElem? (i := 105) rfl)) rfl
theorem lk_RX0_30 : Cond.fieldLink RX0 30 "LoopBoard$Grid" "columns" "I" ∈ gtb := gtb_in (tb1 (List.mem_of_getElem? (i := 106) rfl)) rfl
theorem lk_RX1_18 : Cond.fieldLink RX1 18 "LoopBoard$Layout" "loop" "LLoopBoard$Loop;" ∈ gtb := gtb_in (tb1 (List.mem_of_getElem? (i := 124) rfl)) rfl
theorem lk_RX1_22 : Cond.fieldLink RX1 22 "LoopBoard$Layout" "grid" "LLoopBoard$Grid;" ∈ gtb := gtb_in (tb1 (List.mem_of_getElem? (i := 125) rfl)) rfl
theorem lk_RX1_9 : Cond.fieldLink RX1 9 "LoopBoard$Layout" "cells" "[I" ∈ gtb := gtb_in (tb1 (List.mem_of_getElem? (i := 126) rfl)) rfl
theorem lk_RX1_15 : Cond.fieldLink RX1 15 "LoopBoard$Layout" "starts" "[I" ∈ gtb := gtb_in (tb1 (List.mem_of_getElem? (i := 127) rfl)) rfl
theorem lk_RX1_26 : Cond.fieldLink RX1 26 "LoopBoard$Layout" "beat" "I" ∈ gtb := gtb_in (tb1 (List.mem_of_getElem? (i := 128) rfl)) rfl
theorem lk_RX3_27 : Cond.fieldLink RX3 27 "LoopBoard$Search" "loop" "LLoopBoard$Loop;" ∈ gtb := gtb_in (tb1 (List.mem_of_getElem? (i := 146) rfl)) rfl
theorem lk_RX3_31 : Cond.fieldLink RX3 31 "LoopBoard$Search" "grid" "LLoopBoard$Grid;" ∈ gtb := gtb_in (tb1 (List.mem_of_getElem? (i := 147) rfl)) rfl
theorem lk_RX3_9 : Cond.fieldLink RX3 9 "LoopBoard$Search" "cells" "[I" ∈ gtb := gtb_in (tb1 (List.mem_of_getElem? (i := 148) rfl)) rfl
theorem lk_RX3_15 : Cond.fieldLink RX3 15 "LoopBoard$Search" "leftOvers" "[I" ∈ gtb := gtb_in (tb1 (List.mem_of_getElem? (i := 149) rfl)) rfl
theorem lk_RX3_18 : Cond.fieldLink RX3 18 "LoopBoard$Search" "nextTries" "[I" ∈ gtb := gtb_in (tb1 (List.mem_of_getElem? (i := 150) rfl)) rfl
theorem lk_RX3_21 : Cond.fieldLink RX3 21 "LoopBoard$Search" "gaps" "[I" ∈ gtb := gtb_in (tb1 (List.mem_of_getElem? (i := 151) rfl)) rfl
theorem lk_RX3_24 : Cond.fieldLink RX3 24 "LoopBoard$Search" "turns" "[I" ∈ gtb := gtb_in (tb1 (List.mem_of_getElem? (i := 152) rfl)) rfl
theorem lk_RX3_45 : Cond.fieldLink RX3 45 "LoopBoard$Search" "beat" "I" ∈ gtb := gtb_in (tb1 (List.mem_of_getElem? (i := 153) rfl)) rfl
theorem lk_RX3_35 : Cond.fieldLink RX3 35 "LoopBoard$Search" "tries" "I" ∈ gtb := gtb_in (tb1 (List.mem_of_getElem? (i := 154) rfl)) rfl
theorem lk_RX4_15 : Cond.fieldLink RX4 15 "LoopBoard$Values" "loop" "LLoopBoard$Loop;" ∈ gtb := gtb_in (tb1 (List.mem_of_getElem? (i := 180) rfl)) rfl
theorem lk_RX4_9 : Cond.fieldLink RX4 9 "LoopBoard$Values" "made" "[I" ∈ gtb := gtb_in (tb1 (List.mem_of_getElem? (i := 181) rfl)) rfl
theorem lk_RX5_12 : Cond.fieldLink RX5 12 "LoopBoard" "loop" "LLoopBoard$Loop;" ∈ gtb := gtb_in (tb1 (List.mem_of_getElem? (i := 187) rfl)) rfl
theorem lk_RX5_19 : Cond.fieldLink RX5 19 "LoopBoard" "grid" "LLoopBoard$Grid;" ∈ gtb := gtb_in (tb1 (List.mem_of_getElem? (i := 188) rfl)) rfl
theorem lk_RX5_28 : Cond.fieldLink RX5 28 "LoopBoard" "layout" "LLoopBoard$Layout;" ∈ gtb := gtb_in (tb1 (List.mem_of_getElem? (i := 189) rfl)) rfl
theorem lk_RX5_35 : Cond.fieldLink RX5 35 "LoopBoard" "search" "LLoopBoard$Search;" ∈ gtb := gtb_in (tb1 (List.mem_of_getElem? (i := 190) rfl)) rfl
theorem lk_RX5_44 : Cond.fieldLink RX5 44 "LoopBoard" "plainValues" "LLoopBoard$Values;" ∈ gtb := gtb_in (tb1 (List.mem_of_getElem? (i := 191) rfl)) rfl
theorem lk_RX5_48 : Cond.fieldLink RX5 48 "LoopBoard" "steppedValues" "LLoopBoard$Values;" ∈ gtb := gtb_in (tb1 (List.mem_of_getElem? (i := 192) rfl)) rfl
theorem lk_RX5_78 : Cond.fieldLink RX5 78 "LoopBoard" "plainRounds" "I" ∈ gtb := gtb_in (tb1 (List.mem_of_getElem? (i := 193) rfl)) rfl
theorem lk_RX5_82 : Cond.fieldLink RX5 82 "LoopBoard" "steppedRounds" "I" ∈ gtb := gtb_in (tb1 (List.mem_of_getElem? (i := 194) rfl)) rfl
theorem lk_RX5_211 : Cond.fieldLink RX5 211 "LoopBoard" "latestTries" "I" ∈ gtb := gtb_in (tb1 (List.mem_of_getElem? (i := 195) rfl)) rfl
theorem lk_RX6_7 : Cond.fieldLink RX6 7 "LoopBoardModel" "kind" "[I" ∈ gtb := gtb_in (tb3 (List.mem_of_getElem? (i := 186) rfl)) rfl
theorem lk_RX6_13 : Cond.fieldLink RX6 13 "LoopBoardModel" "operand" "[I" ∈ gtb := gtb_in (tb3 (List.mem_of_getElem? (i := 187) rfl)) rfl
theorem lk_RX6_16 : Cond.fieldLink RX6 16 "LoopBoardModel" "distance" "[I" ∈ gtb := gtb_in (tb3 (List.mem_of_getElem? (i := 188) rfl)) rfl
theorem lk_RX6_19 : Cond.fieldLink RX6 19 "LoopBoardModel" "p" "[I" ∈ gtb := gtb_in (tb3 (List.mem_of_getElem? (i := 189) rfl)) rfl
theorem lk_RX6_22 : Cond.fieldLink RX6 22 "LoopBoardModel" "q" "[I" ∈ gtb := gtb_in (tb3 (List.mem_of_getElem? (i := 190) rfl)) rfl
theorem lk_RX6_72 : Cond.fieldLink RX6 72 "LoopBoardModel" "acts" "I" ∈ gtb := gtb_in (tb3 (List.mem_of_getElem? (i := 191) rfl)) rfl
theorem lk_RX6_99 : Cond.fieldLink RX6 99 "LoopBoardModel" "first" "I" ∈ gtb := gtb_in (tb3 (List.mem_of_getElem? (i := 192) rfl)) rfl
theorem lk_RX6_79 : Cond.fieldLink RX6 79 "LoopBoardModel" "beat" "I" ∈ gtb := gtb_in (tb3 (List.mem_of_getElem? (i := 193) rfl)) rfl
theorem lk_RX6_82 : Cond.fieldLink RX6 82 "LoopBoardModel" "rounds" "I" ∈ gtb := gtb_in (tb3 (List.mem_of_getElem? (i := 194) rfl)) rfl
theorem lk_RX6_25 : Cond.fieldLink RX6 25 "LoopBoardModel" "isDone" "[Z" ∈ gtb := gtb_in (tb3 (List.mem_of_getElem? (i := 195) rfl)) rfl
theorem lk_RX6_29 : Cond.fieldLink RX6 29 "LoopBoardModel" "values" "[I" ∈ gtb := gtb_in (tb3 (List.mem_of_getElem? (i := 196) rfl)) rfl
theorem lk_RX6_32 : Cond.fieldLink RX6 32 "LoopBoardModel" "rows" "I" ∈ gtb := gtb_in (tb3 (List.mem_of_getElem? (i := 197) rfl)) rfl
theorem lk_RX6_36 : Cond.fieldLink RX6 36 "LoopBoardModel" "columns" "I" ∈ gtb := gtb_in (tb3 (List.mem_of_getElem? (i := 198) rfl)) rfl
theorem lk_RX6_39 : Cond.fieldLink RX6 39 "LoopBoardModel" "isBroken" "[Z" ∈ gtb := gtb_in (tb3 (List.mem_of_getElem? (i := 199) rfl)) rfl
theorem lk_RX6_42 : Cond.fieldLink RX6 42 "LoopBoardModel" "canMultiply" "[Z" ∈ gtb := gtb_in (tb3 (List.mem_of_getElem? (i := 200) rfl)) rfl
theorem lk_RX6_45 : Cond.fieldLink RX6 45 "LoopBoardModel" "far" "[I" ∈ gtb := gtb_in (tb3 (List.mem_of_getElem? (i := 201) rfl)) rfl
theorem lk_RX6_48 : Cond.fieldLink RX6 48 "LoopBoardModel" "cell" "[I" ∈ gtb := gtb_in (tb3 (List.mem_of_getElem? (i := 202) rfl)) rfl
theorem lk_RX6_51 : Cond.fieldLink RX6 51 "LoopBoardModel" "start" "[I" ∈ gtb := gtb_in (tb3 (List.mem_of_getElem? (i := 203) rfl)) rfl
theorem lk_RX6_54 : Cond.fieldLink RX6 54 "LoopBoardModel" "height" "[I" ∈ gtb := gtb_in (tb3 (List.mem_of_getElem? (i := 204) rfl)) rfl
theorem lk_RX6_183 : Cond.fieldLink RX6 183 "LoopBoardModel" "tries" "I" ∈ gtb := gtb_in (tb3 (List.mem_of_getElem? (i := 205) rfl)) rfl
theorem lk_RX6_57 : Cond.fieldLink RX6 57 "LoopBoardModel" "tryCell" "[I" ∈ gtb := gtb_in (tb3 (List.mem_of_getElem? (i := 206) rfl)) rfl
theorem lk_RX6_60 : Cond.fieldLink RX6 60 "LoopBoardModel" "tryOver" "[I" ∈ gtb := gtb_in (tb3 (List.mem_of_getElem? (i := 207) rfl)) rfl
theorem lk_RX6_63 : Cond.fieldLink RX6 63 "LoopBoardModel" "times" "[I" ∈ gtb := gtb_in (tb3 (List.mem_of_getElem? (i := 208) rfl)) rfl
theorem lk_RX6_66 : Cond.fieldLink RX6 66 "LoopBoardModel" "ways" "[I" ∈ gtb := gtb_in (tb3 (List.mem_of_getElem? (i := 209) rfl)) rfl
theorem lk_RL_9 : Cond.methodLink RL 9 yX5_init ∈ gtb := gtb_in (tb1 (List.mem_of_getElem? (i := 13) rfl)) rfl
theorem lk_RX5_18 : Cond.methodLink RX5 18 yX0_init ∈ gtb := gtb_in (tb1 (List.mem_of_getElem? (i := 63) rfl)) rfl
theorem lk_RX0_22 : Cond.methodLink RX0 22 yX0_renew ∈ gtb := gtb_in (tb1 (List.mem_of_getElem? (i := 67) rfl)) rfl
theorem lk_RX0_33 : Cond.methodLink RX0 33 yX0_measure ∈ gtb := gtb_in (tb1 (List.mem_of_getElem? (i := 71) rfl)) rfl
theorem lk_RX0_50 : Cond.methodLink RX0 50 yX0_singleStep ∈ gtb := gtb_in (tb1 (List.mem_of_getElem? (i := 75) rfl)) rfl
theorem lk_RX0_44 : Cond.methodLink RX0 44 yX0_isOpen ∈ gtb := gtb_in (tb1 (List.mem_of_getElem? (i := 79) rfl)) rfl
theorem lk_RX0_36 : Cond.methodLink RX0 36 yX0_isThere ∈ gtb := gtb_in (tb1 (List.mem_of_getElem? (i := 83) rfl)) rfl
theorem lk_RX0_58 : Cond.methodLink RX0 58 yX0_areNeighbours ∈ gtb := gtb_in (tb1 (List.mem_of_getElem? (i := 87) rfl)) rfl
theorem lk_RX0_62 : Cond.methodLink RX0 62 yJ9_abs_0f7a4 ∈ gtb := gtb_in (tb1 (List.mem_of_getElem? (i := 91) rfl)) rfl
theorem lk_RX0_40 : Cond.methodLink RX0 40 yX0_cells ∈ gtb := gtb_in (tb1 (List.mem_of_getElem? (i := 94) rfl)) rfl
theorem lk_RX0_54 : Cond.methodLink RX0 54 yX0_shortenThrough ∈ gtb := gtb_in (tb1 (List.mem_of_getElem? (i := 98) rfl)) rfl
theorem lk_RX5_25 : Cond.methodLink RX5 25 yX1_init ∈ gtb := gtb_in (tb1 (List.mem_of_getElem? (i := 120) rfl)) rfl
theorem lk_RX5_34 : Cond.methodLink RX5 34 yX3_init ∈ gtb := gtb_in (tb1 (List.mem_of_getElem? (i := 142) rfl)) rfl
theorem lk_RX5_41 : Cond.methodLink RX5 41 yX4_init ∈ gtb := gtb_in (tb1 (List.mem_of_getElem? (i := 176) rfl)) rfl
theorem lk_RL_13 : Cond.methodLink RL 13 yX5_input ∈ gtb := gtb_in (tb1 (List.mem_of_getElem? (i := 215) rfl)) rfl
theorem lk_RX5_51 : Cond.methodLink RX5 51 yX5_isWithin ∈ gtb := gtb_in (tb1 (List.mem_of_getElem? (i := 219) rfl)) rfl
theorem lk_RX5_55 : Cond.methodLink RX5 55 yX2_addInput ∈ gtb := gtb_in (tb1 (List.mem_of_getElem? (i := 222) rfl)) rfl
theorem lk_RX2_54 : Cond.methodLink RX2 54 yX2_setOperand ∈ gtb := gtb_in (tb1 (List.mem_of_getElem? (i := 226) rfl)) rfl
theorem lk_RX2_58 : Cond.methodLink RX2 58 yX2_arrange ∈ gtb := gtb_in (tb1 (List.mem_of_getElem? (i := 230) rfl)) rfl
theorem lk_RX2_61 : Cond.methodLink RX2 61 yX2_canFollow ∈ gtb := gtb_in (tb1 (List.mem_of_getElem? (i := 234) rfl)) rfl
theorem lk_RX2_64 : Cond.methodLink RX2 64 yX2_sourceOf ∈ gtb := gtb_in (tb1 (List.mem_of_getElem? (i := 238) rfl)) rfl
theorem lk_RX2_51 : Cond.methodLink RX2 51 yX2_isSlot ∈ gtb := gtb_in (tb2 (List.mem_of_getElem? (i := 2) rfl)) rfl
theorem lk_RX2_47 : Cond.methodLink RX2 47 yX2_isThere ∈ gtb := gtb_in (tb2 (List.mem_of_getElem? (i := 6) rfl)) rfl
theorem lk_RX2_68 : Cond.methodLink RX2 68 yX2_distanceOf ∈ gtb := gtb_in (tb2 (List.mem_of_getElem? (i := 10) rfl)) rfl
theorem lk_RX5_59 : Cond.methodLink RX5 59 yX5_actsChanged ∈ gtb := gtb_in (tb2 (List.mem_of_getElem? (i := 14) rfl)) rfl
theorem lk_RX5_132 : Cond.methodLink RX5 132 yX1_drop ∈ gtb := gtb_in (tb2 (List.mem_of_getElem? (i := 18) rfl)) rfl
theorem lk_RL_18 : Cond.methodLink RL 18 yX5_act ∈ gtb := gtb_in (tb2 (List.mem_of_getElem? (i := 22) rfl)) rfl
theorem lk_RX5_62 : Cond.methodLink RX5 62 yX5_isOperand ∈ gtb := gtb_in (tb2 (List.mem_of_getElem? (i := 26) rfl)) rfl
theorem lk_RX5_66 : Cond.methodLink RX5 66 yX2_addWork ∈ gtb := gtb_in (tb2 (List.mem_of_getElem? (i := 29) rfl)) rfl
theorem lk_RL_23 : Cond.methodLink RL 23 yX5_first ∈ gtb := gtb_in (tb2 (List.mem_of_getElem? (i := 33) rfl)) rfl
theorem lk_RX5_70 : Cond.methodLink RX5 70 yX2_firstNumber ∈ gtb := gtb_in (tb2 (List.mem_of_getElem? (i := 37) rfl)) rfl
theorem lk_RX5_74 : Cond.methodLink RX5 74 yX2_setFirstNumber ∈ gtb := gtb_in (tb2 (List.mem_of_getElem? (i := 41) rfl)) rfl
theorem lk_RL_28 : Cond.methodLink RL 28 yX5_clear ∈ gtb := gtb_in (tb2 (List.mem_of_getElem? (i := 45) rfl)) rfl
theorem lk_RX5_85 : Cond.methodLink RX5 85 yX2_count ∈ gtb := gtb_in (tb2 (List.mem_of_getElem? (i := 49) rfl)) rfl
theorem lk_RX5_88 : Cond.methodLink RX5 88 yX2_empty ∈ gtb := gtb_in (tb2 (List.mem_of_getElem? (i := 53) rfl)) rfl
theorem lk_RL_33 : Cond.methodLink RL 33 yX5_sound ∈ gtb := gtb_in (tb2 (List.mem_of_getElem? (i := 57) rfl)) rfl
theorem lk_RX5_91 : Cond.methodLink RX5 91 yX2_isSound ∈ gtb := gtb_in (tb2 (List.mem_of_getElem? (i := 61) rfl)) rfl
theorem lk_RL_37 : Cond.methodLink RL 37 yX5_plain ∈ gtb := gtb_in (tb2 (List.mem_of_getElem? (i := 65) rfl)) rfl
theorem lk_RX5_95 : Cond.methodLink RX5 95 yX2_isThere ∈ gtb := gtb_in (tb2 (List.mem_of_getElem? (i := 69) rfl)) rfl
theorem lk_RX5_103 : Cond.methodLink RX5 103 yX4_makeRound ∈ gtb := gtb_in (tb2 (List.mem_of_getElem? (i := 72) rfl)) rfl
theorem lk_RX4_23 : Cond.methodLink RX4 23 yX2_count ∈ gtb := gtb_in (tb2 (List.mem_of_getElem? (i := 76) rfl)) rfl
theorem lk_RX4_29 : Cond.methodLink RX4 29 yX2_actInOrder ∈ gtb := gtb_in (tb2 (List.mem_of_getElem? (i := 77) rfl)) rfl
theorem lk_RX4_33 : Cond.methodLink RX4 33 yX4_make ∈ gtb := gtb_in (tb2 (List.mem_of_getElem? (i := 81) rfl)) rfl
theorem lk_RX4_19 : Cond.methodLink RX4 19 yX4_isPlace ∈ gtb := gtb_in (tb2 (List.mem_of_getElem? (i := 85) rfl)) rfl
theorem lk_RX4_37 : Cond.methodLink RX4 37 yX4_valueOf ∈ gtb := gtb_in (tb2 (List.mem_of_getElem? (i := 88) rfl)) rfl
theorem lk_RX4_41 : Cond.methodLink RX4 41 yX2_kindOf ∈ gtb := gtb_in (tb2 (List.mem_of_getElem? (i := 92) rfl)) rfl
theorem lk_RX4_44 : Cond.methodLink RX4 44 yX2_factorOf ∈ gtb := gtb_in (tb2 (List.mem_of_getElem? (i := 96) rfl)) rfl
theorem lk_RX4_47 : Cond.methodLink RX4 47 yX2_addendOf ∈ gtb := gtb_in (tb2 (List.mem_of_getElem? (i := 100) rfl)) rfl
theorem lk_RX4_50 : Cond.methodLink RX4 50 yX4_operand ∈ gtb := gtb_in (tb2 (List.mem_of_getElem? (i := 104) rfl)) rfl
theorem lk_RX4_61 : Cond.methodLink RX4 61 yX2_distanceOf ∈ gtb := gtb_in (tb2 (List.mem_of_getElem? (i := 108) rfl)) rfl
theorem lk_RX4_64 : Cond.methodLink RX4 64 yX2_firstNumber ∈ gtb := gtb_in (tb2 (List.mem_of_getElem? (i := 109) rfl)) rfl
theorem lk_RX4_67 : Cond.methodLink RX4 67 yX2_sourceOf ∈ gtb := gtb_in (tb2 (List.mem_of_getElem? (i := 110) rfl)) rfl
theorem lk_RX4_70 : Cond.methodLink RX4 70 yX4_at ∈ gtb := gtb_in (tb2 (List.mem_of_getElem? (i := 111) rfl)) rfl
theorem lk_RX4_53 : Cond.methodLink RX4 53 yJ9_min_7cf53 ∈ gtb := gtb_in (tb2 (List.mem_of_getElem? (i := 115) rfl)) rfl
theorem lk_RX4_58 : Cond.methodLink RX4 58 yJ9_max_7cf53 ∈ gtb := gtb_in (tb2 (List.mem_of_getElem? (i := 118) rfl)) rfl
theorem lk_RX5_106 : Cond.methodLink RX5 106 yX4_at ∈ gtb := gtb_in (tb2 (List.mem_of_getElem? (i := 121) rfl)) rfl
theorem lk_RL_42 : Cond.methodLink RL 42 yX5_about ∈ gtb := gtb_in (tb2 (List.mem_of_getElem? (i := 122) rfl)) rfl
theorem lk_RX5_109 : Cond.methodLink RX5 109 yX2_kindOf ∈ gtb := gtb_in (tb2 (List.mem_of_getElem? (i := 126) rfl)) rfl
theorem lk_RX5_113 : Cond.methodLink RX5 113 yX2_lengthOf ∈ gtb := gtb_in (tb2 (List.mem_of_getElem? (i := 127) rfl)) rfl
theorem lk_RX5_116 : Cond.methodLink RX5 116 yX2_sourceOf ∈ gtb := gtb_in (tb2 (List.mem_of_getElem? (i := 131) rfl)) rfl
theorem lk_RX5_119 : Cond.methodLink RX5 119 yX2_distanceOf ∈ gtb := gtb_in (tb2 (List.mem_of_getElem? (i := 132) rfl)) rfl
theorem lk_RX5_122 : Cond.methodLink RX5 122 yX2_factorOf ∈ gtb := gtb_in (tb2 (List.mem_of_getElem? (i := 133) rfl)) rfl
theorem lk_RX5_125 : Cond.methodLink RX5 125 yX2_addendOf ∈ gtb := gtb_in (tb2 (List.mem_of_getElem? (i := 134) rfl)) rfl
theorem lk_RL_46 : Cond.methodLink RL 46 yX5_board ∈ gtb := gtb_in (tb2 (List.mem_of_getElem? (i := 135) rfl)) rfl
theorem lk_RX5_128 : Cond.methodLink RX5 128 yX0_renew ∈ gtb := gtb_in (tb2 (List.mem_of_getElem? (i := 139) rfl)) rfl
theorem lk_RX5_135 : Cond.methodLink RX5 135 yX0_cells ∈ gtb := gtb_in (tb2 (List.mem_of_getElem? (i := 140) rfl)) rfl
theorem lk_RL_50 : Cond.methodLink RL 50 yX5_breaks ∈ gtb := gtb_in (tb2 (List.mem_of_getElem? (i := 141) rfl)) rfl
theorem lk_RX5_138 : Cond.methodLink RX5 138 yX0_isThere ∈ gtb := gtb_in (tb2 (List.mem_of_getElem? (i := 145) rfl)) rfl
theorem lk_RX5_139 : Cond.methodLink RX5 139 yX0_isBroken ∈ gtb := gtb_in (tb2 (List.mem_of_getElem? (i := 146) rfl)) rfl
theorem lk_RX5_142 : Cond.methodLink RX5 142 yX0_setBroken ∈ gtb := gtb_in (tb2 (List.mem_of_getElem? (i := 150) rfl)) rfl
theorem lk_RL_55 : Cond.methodLink RL 55 yX5_multiplies ∈ gtb := gtb_in (tb2 (List.mem_of_getElem? (i := 154) rfl)) rfl
theorem lk_RX5_146 : Cond.methodLink RX5 146 yX0_isMultiplying ∈ gtb := gtb_in (tb2 (List.mem_of_getElem? (i := 158) rfl)) rfl
theorem lk_RX5_149 : Cond.methodLink RX5 149 yX0_setMultiplying ∈ gtb := gtb_in (tb2 (List.mem_of_getElem? (i := 162) rfl)) rfl
theorem lk_RL_59 : Cond.methodLink RL 59 yX5_way ∈ gtb := gtb_in (tb2 (List.mem_of_getElem? (i := 166) rfl)) rfl
theorem lk_RX5_152 : Cond.methodLink RX5 152 yX0_wayBetween ∈ gtb := gtb_in (tb2 (List.mem_of_getElem? (i := 170) rfl)) rfl
theorem lk_RL_63 : Cond.methodLink RL 63 yX5_plan ∈ gtb := gtb_in (tb2 (List.mem_of_getElem? (i := 174) rfl)) rfl
theorem lk_RX5_155 : Cond.methodLink RX5 155 yX1_begin ∈ gtb := gtb_in (tb2 (List.mem_of_getElem? (i := 178) rfl)) rfl
theorem lk_RX1_30 : Cond.methodLink RX1 30 yJ7_fill_53178 ∈ gtb := gtb_in (tb2 (List.mem_of_getElem? (i := 182) rfl)) rfl
theorem lk_RL_67 : Cond.methodLink RL 67 yX5_lay ∈ gtb := gtb_in (tb2 (List.mem_of_getElem? (i := 185) rfl)) rfl
theorem lk_RX5_158 : Cond.methodLink RX5 158 yX1_stands ∈ gtb := gtb_in (tb2 (List.mem_of_getElem? (i := 189) rfl)) rfl
theorem lk_RX5_161 : Cond.methodLink RX5 161 yX1_put ∈ gtb := gtb_in (tb2 (List.mem_of_getElem? (i := 193) rfl)) rfl
theorem lk_RX1_36 : Cond.methodLink RX1 36 yX2_isThere ∈ gtb := gtb_in (tb2 (List.mem_of_getElem? (i := 197) rfl)) rfl
theorem lk_RL_72 : Cond.methodLink RL 72 yX5_lacks ∈ gtb := gtb_in (tb2 (List.mem_of_getElem? (i := 198) rfl)) rfl
theorem lk_RX5_165 : Cond.methodLink RX5 165 yX1_firstLack ∈ gtb := gtb_in (tb2 (List.mem_of_getElem? (i := 202) rfl)) rfl
theorem lk_RX1_60 : Cond.methodLink RX1 60 yX2_count ∈ gtb := gtb_in (tb2 (List.mem_of_getElem? (i := 206) rfl)) rfl
theorem lk_RX1_63 : Cond.methodLink RX1 63 yX1_cellOf ∈ gtb := gtb_in (tb2 (List.mem_of_getElem? (i := 207) rfl)) rfl
theorem lk_RX1_66 : Cond.methodLink RX1 66 yX0_isBroken ∈ gtb := gtb_in (tb2 (List.mem_of_getElem? (i := 211) rfl)) rfl
theorem lk_RX1_71 : Cond.methodLink RX1 71 yX2_kindOf ∈ gtb := gtb_in (tb2 (List.mem_of_getElem? (i := 212) rfl)) rfl
theorem lk_RX1_74 : Cond.methodLink RX1 74 yX0_suits ∈ gtb := gtb_in (tb2 (List.mem_of_getElem? (i := 213) rfl)) rfl
theorem lk_RX1_78 : Cond.methodLink RX1 78 yX1_meetsOneAhead ∈ gtb := gtb_in (tb2 (List.mem_of_getElem? (i := 217) rfl)) rfl
theorem lk_RX1_42 : Cond.methodLink RX1 42 yX1_startOf ∈ gtb := gtb_in (tb2 (List.mem_of_getElem? (i := 221) rfl)) rfl
theorem lk_RX1_81 : Cond.methodLink RX1 81 yX1_isLate ∈ gtb := gtb_in (tb2 (List.mem_of_getElem? (i := 225) rfl)) rfl
theorem lk_RX1_84 : Cond.methodLink RX1 84 yX2_sourceOf ∈ gtb := gtb_in (tb2 (List.mem_of_getElem? (i := 229) rfl)) rfl
theorem lk_RX1_87 : Cond.methodLink RX1 87 yX0_wayBetween ∈ gtb := gtb_in (tb2 (List.mem_of_getElem? (i := 230) rfl)) rfl
theorem lk_RX1_91 : Cond.methodLink RX1 91 yX1_usedAt ∈ gtb := gtb_in (tb2 (List.mem_of_getElem? (i := 231) rfl)) rfl
theorem lk_RX1_97 : Cond.methodLink RX1 97 yX2_distanceOf ∈ gtb := gtb_in (tb2 (List.mem_of_getElem? (i := 235) rfl)) rfl
theorem lk_RX1_94 : Cond.methodLink RX1 94 yX1_madeAt ∈ gtb := gtb_in (tb2 (List.mem_of_getElem? (i := 236) rfl)) rfl
theorem lk_RX1_46 : Cond.methodLink RX1 46 yX2_lengthOf ∈ gtb := gtb_in (tb3 (List.mem_of_getElem? (i := 0) rfl)) rfl
theorem lk_RL_76 : Cond.methodLink RL 76 yX5_laid ∈ gtb := gtb_in (tb3 (List.mem_of_getElem? (i := 1) rfl)) rfl
theorem lk_RX5_168 : Cond.methodLink RX5 168 yX1_cellOf ∈ gtb := gtb_in (tb3 (List.mem_of_getElem? (i := 5) rfl)) rfl
theorem lk_RX5_171 : Cond.methodLink RX5 171 yX1_startOf ∈ gtb := gtb_in (tb3 (List.mem_of_getElem? (i := 6) rfl)) rfl
theorem lk_RL_80 : Cond.methodLink RL 80 yX5_kept ∈ gtb := gtb_in (tb3 (List.mem_of_getElem? (i := 7) rfl)) rfl
theorem lk_RX5_174 : Cond.methodLink RX5 174 yX1_isGood ∈ gtb := gtb_in (tb3 (List.mem_of_getElem? (i := 11) rfl)) rfl
theorem lk_RX1_49 : Cond.methodLink RX1 49 yX1_stands ∈ gtb := gtb_in (tb3 (List.mem_of_getElem? (i := 15) rfl)) rfl
theorem lk_RX1_53 : Cond.methodLink RX1 53 yX2_isSound ∈ gtb := gtb_in (tb3 (List.mem_of_getElem? (i := 16) rfl)) rfl
theorem lk_RX1_56 : Cond.methodLink RX1 56 yX1_firstLack ∈ gtb := gtb_in (tb3 (List.mem_of_getElem? (i := 17) rfl)) rfl
theorem lk_RX5_177 : Cond.methodLink RX5 177 yX1_mostKept ∈ gtb := gtb_in (tb3 (List.mem_of_getElem? (i := 18) rfl)) rfl
theorem lk_RX1_100 : Cond.methodLink RX1 100 yJ9_max_7cf53 ∈ gtb := gtb_in (tb3 (List.mem_of_getElem? (i := 22) rfl)) rfl
theorem lk_RL_84 : Cond.methodLink RL 84 yX5_step ∈ gtb := gtb_in (tb3 (List.mem_of_getElem? (i := 23) rfl)) rfl
theorem lk_RX5_180 : Cond.methodLink RX5 180 yX1_endOf ∈ gtb := gtb_in (tb3 (List.mem_of_getElem? (i := 27) rfl)) rfl
theorem lk_RX5_183 : Cond.methodLink RX5 183 yX5_stepBeat ∈ gtb := gtb_in (tb3 (List.mem_of_getElem? (i := 31) rfl)) rfl
theorem lk_RX5_229 : Cond.methodLink RX5 229 yX1_roundStarting ∈ gtb := gtb_in (tb3 (List.mem_of_getElem? (i := 35) rfl)) rfl
theorem lk_RX5_232 : Cond.methodLink RX5 232 yX4_make ∈ gtb := gtb_in (tb3 (List.mem_of_getElem? (i := 39) rfl)) rfl
theorem lk_RL_88 : Cond.methodLink RL 88 yX5_stepped ∈ gtb := gtb_in (tb3 (List.mem_of_getElem? (i := 40) rfl)) rfl
theorem lk_RL_92 : Cond.methodLink RL 92 yX5_works ∈ gtb := gtb_in (tb3 (List.mem_of_getElem? (i := 45) rfl)) rfl
theorem lk_RX5_188 : Cond.methodLink RX5 188 yX1_actStarting ∈ gtb := gtb_in (tb3 (List.mem_of_getElem? (i := 49) rfl)) rfl
theorem lk_RX1_105 : Cond.methodLink RX1 105 yX1_roundStarting ∈ gtb := gtb_in (tb3 (List.mem_of_getElem? (i := 53) rfl)) rfl
theorem lk_RL_96 : Cond.methodLink RL 96 yX5_bound ∈ gtb := gtb_in (tb3 (List.mem_of_getElem? (i := 54) rfl)) rfl
theorem lk_RX5_191 : Cond.methodLink RX5 191 yX5_placesBound ∈ gtb := gtb_in (tb3 (List.mem_of_getElem? (i := 58) rfl)) rfl
theorem lk_RX5_235 : Cond.methodLink RX5 235 yX2_products ∈ gtb := gtb_in (tb3 (List.mem_of_getElem? (i := 62) rfl)) rfl
theorem lk_RX5_220 : Cond.methodLink RX5 220 yX0_unbroken ∈ gtb := gtb_in (tb3 (List.mem_of_getElem? (i := 66) rfl)) rfl
theorem lk_RX5_238 : Cond.methodLink RX5 238 yX0_unbrokenMultiplying ∈ gtb := gtb_in (tb3 (List.mem_of_getElem? (i := 70) rfl)) rfl
theorem lk_RX0_47 : Cond.methodLink RX0 47 yX0_isMultiplying ∈ gtb := gtb_in (tb3 (List.mem_of_getElem? (i := 74) rfl)) rfl
theorem lk_RX5_241 : Cond.methodLink RX5 241 yX5_cutUp ∈ gtb := gtb_in (tb3 (List.mem_of_getElem? (i := 75) rfl)) rfl
theorem lk_RX5_226 : Cond.methodLink RX5 226 yJ9_floorDiv_7cf53 ∈ gtb := gtb_in (tb3 (List.mem_of_getElem? (i := 78) rfl)) rfl
theorem lk_RX5_197 : Cond.methodLink RX5 197 yJ9_max_7cf53 ∈ gtb := gtb_in (tb3 (List.mem_of_getElem? (i := 81) rfl)) rfl
theorem lk_RX5_194 : Cond.methodLink RX5 194 yX2_ringsBound ∈ gtb := gtb_in (tb3 (List.mem_of_getElem? (i := 82) rfl)) rfl
theorem lk_RX2_71 : Cond.methodLink RX2 71 yX2_ringsAllow ∈ gtb := gtb_in (tb3 (List.mem_of_getElem? (i := 86) rfl)) rfl
theorem lk_RX2_74 : Cond.methodLink RX2 74 yJ7_fill_53178 ∈ gtb := gtb_in (tb3 (List.mem_of_getElem? (i := 90) rfl)) rfl
theorem lk_RX2_80 : Cond.methodLink RX2 80 yX2_delaysGrow ∈ gtb := gtb_in (tb3 (List.mem_of_getElem? (i := 91) rfl)) rfl
theorem lk_RX2_83 : Cond.methodLink RX2 83 yX2_lengthOf ∈ gtb := gtb_in (tb3 (List.mem_of_getElem? (i := 95) rfl)) rfl
theorem lk_RL_100 : Cond.methodLink RL 100 yX5_find ∈ gtb := gtb_in (tb3 (List.mem_of_getElem? (i := 96) rfl)) rfl
theorem lk_RX5_202 : Cond.methodLink RX5 202 yX3_run ∈ gtb := gtb_in (tb3 (List.mem_of_getElem? (i := 100) rfl)) rfl
theorem lk_RX3_52 : Cond.methodLink RX3 52 yX0_cells ∈ gtb := gtb_in (tb3 (List.mem_of_getElem? (i := 104) rfl)) rfl
theorem lk_RX3_39 : Cond.methodLink RX3 39 yX2_isThere ∈ gtb := gtb_in (tb3 (List.mem_of_getElem? (i := 106) rfl)) rfl
theorem lk_RX3_57 : Cond.methodLink RX3 57 yX3_goesNext ∈ gtb := gtb_in (tb3 (List.mem_of_getElem? (i := 107) rfl)) rfl
theorem lk_RX3_60 : Cond.methodLink RX3 60 yX3_isFree ∈ gtb := gtb_in (tb3 (List.mem_of_getElem? (i := 111) rfl)) rfl
theorem lk_RX3_69 : Cond.methodLink RX3 69 yX0_isBroken ∈ gtb := gtb_in (tb3 (List.mem_of_getElem? (i := 115) rfl)) rfl
theorem lk_RX3_72 : Cond.methodLink RX3 72 yX2_kindOf ∈ gtb := gtb_in (tb3 (List.mem_of_getElem? (i := 116) rfl)) rfl
theorem lk_RX3_76 : Cond.methodLink RX3 76 yX0_suits ∈ gtb := gtb_in (tb3 (List.mem_of_getElem? (i := 117) rfl)) rfl
theorem lk_RX3_63 : Cond.methodLink RX3 63 yX3_measureGaps ∈ gtb := gtb_in (tb3 (List.mem_of_getElem? (i := 118) rfl)) rfl
theorem lk_RX3_80 : Cond.methodLink RX3 80 yX2_sourceOf ∈ gtb := gtb_in (tb3 (List.mem_of_getElem? (i := 122) rfl)) rfl
theorem lk_RX3_83 : Cond.methodLink RX3 83 yX0_wayBetween ∈ gtb := gtb_in (tb3 (List.mem_of_getElem? (i := 123) rfl)) rfl
theorem lk_RX3_87 : Cond.methodLink RX3 87 yX2_distanceOf ∈ gtb := gtb_in (tb3 (List.mem_of_getElem? (i := 124) rfl)) rfl
theorem lk_RX3_90 : Cond.methodLink RX3 90 yX2_lengthOf ∈ gtb := gtb_in (tb3 (List.mem_of_getElem? (i := 125) rfl)) rfl
theorem lk_RX3_66 : Cond.methodLink RX3 66 yX3_turnsSettle ∈ gtb := gtb_in (tb3 (List.mem_of_getElem? (i := 127) rfl)) rfl
theorem lk_RX3_96 : Cond.methodLink RX3 96 yX3_beginRow ∈ gtb := gtb_in (tb3 (List.mem_of_getElem? (i := 131) rfl)) rfl
theorem lk_RX3_106 : Cond.methodLink RX3 106 yJ9_max_7cf53 ∈ gtb := gtb_in (tb3 (List.mem_of_getElem? (i := 138) rfl)) rfl
theorem lk_RX5_205 : Cond.methodLink RX5 205 yX3_triesMade ∈ gtb := gtb_in (tb3 (List.mem_of_getElem? (i := 139) rfl)) rfl
theorem lk_RX5_208 : Cond.methodLink RX5 208 yX5_takeFound ∈ gtb := gtb_in (tb3 (List.mem_of_getElem? (i := 143) rfl)) rfl
theorem lk_RX5_244 : Cond.methodLink RX5 244 yX3_cellOf ∈ gtb := gtb_in (tb3 (List.mem_of_getElem? (i := 147) rfl)) rfl
theorem lk_RX5_245 : Cond.methodLink RX5 245 yX3_startOf ∈ gtb := gtb_in (tb3 (List.mem_of_getElem? (i := 151) rfl)) rfl
theorem lk_RX3_48 : Cond.methodLink RX3 48 yX2_count ∈ gtb := gtb_in (tb3 (List.mem_of_getElem? (i := 155) rfl)) rfl
theorem lk_RL_104 : Cond.methodLink RL 104 yX5_tries ∈ gtb := gtb_in (tb3 (List.mem_of_getElem? (i := 156) rfl)) rfl
theorem lk_RL_108 : Cond.methodLink RL 108 yX5_told ∈ gtb := gtb_in (tb3 (List.mem_of_getElem? (i := 160) rfl)) rfl
theorem lk_RX5_214 : Cond.methodLink RX5 214 yX0_rows ∈ gtb := gtb_in (tb3 (List.mem_of_getElem? (i := 164) rfl)) rfl
theorem lk_RX5_217 : Cond.methodLink RX5 217 yX0_columns ∈ gtb := gtb_in (tb3 (List.mem_of_getElem? (i := 168) rfl)) rfl
theorem lk_RX5_223 : Cond.methodLink RX5 223 yX1_beat ∈ gtb := gtb_in (tb3 (List.mem_of_getElem? (i := 172) rfl)) rfl
theorem lk_RL_12 : Cond.methodLink RL 12 yX6_init ∈ gtb := gtb_in (tb3 (List.mem_of_getElem? (i := 178) rfl)) rfl
theorem lk_RX6_69 : Cond.methodLink RX6 69 yX6_whole ∈ gtb := gtb_in (tb3 (List.mem_of_getElem? (i := 182) rfl)) rfl
theorem lk_RL_17 : Cond.methodLink RL 17 yX6_input ∈ gtb := gtb_in (tb4 (List.mem_of_getElem? (i := 19) rfl)) rfl
theorem lk_RX6_75 : Cond.methodLink RX6 75 yX6_in ∈ gtb := gtb_in (tb4 (List.mem_of_getElem? (i := 25) rfl)) rfl
theorem lk_RX6_89 : Cond.methodLink RX6 89 yX6_enter ∈ gtb := gtb_in (tb4 (List.mem_of_getElem? (i := 28) rfl)) rfl
theorem lk_RL_22 : Cond.methodLink RL 22 yX6_act ∈ gtb := gtb_in (tb4 (List.mem_of_getElem? (i := 32) rfl)) rfl
theorem lk_RL_27 : Cond.methodLink RL 27 yX6_first ∈ gtb := gtb_in (tb4 (List.mem_of_getElem? (i := 39) rfl)) rfl
theorem lk_RL_32 : Cond.methodLink RL 32 yX6_clear ∈ gtb := gtb_in (tb4 (List.mem_of_getElem? (i := 43) rfl)) rfl
theorem lk_RL_36 : Cond.methodLink RL 36 yX6_sound ∈ gtb := gtb_in (tb4 (List.mem_of_getElem? (i := 47) rfl)) rfl
theorem lk_RX6_109 : Cond.methodLink RX6 109 yX6_isSound ∈ gtb := gtb_in (tb4 (List.mem_of_getElem? (i := 51) rfl)) rfl
theorem lk_RX6_102 : Cond.methodLink RX6 102 yX6_isAct ∈ gtb := gtb_in (tb4 (List.mem_of_getElem? (i := 55) rfl)) rfl
theorem lk_RX6_106 : Cond.methodLink RX6 106 yX6_isReady ∈ gtb := gtb_in (tb4 (List.mem_of_getElem? (i := 59) rfl)) rfl
theorem lk_RL_41 : Cond.methodLink RL 41 yX6_plain ∈ gtb := gtb_in (tb4 (List.mem_of_getElem? (i := 63) rfl)) rfl
theorem lk_RX6_126 : Cond.methodLink RX6 126 yX6_workTo ∈ gtb := gtb_in (tb4 (List.mem_of_getElem? (i := 70) rfl)) rfl
theorem lk_RX6_117 : Cond.methodLink RX6 117 yX6_made ∈ gtb := gtb_in (tb4 (List.mem_of_getElem? (i := 74) rfl)) rfl
theorem lk_RX6_113 : Cond.methodLink RX6 113 yX6_valueOf ∈ gtb := gtb_in (tb4 (List.mem_of_getElem? (i := 78) rfl)) rfl
theorem lk_RL_45 : Cond.methodLink RL 45 yX6_about ∈ gtb := gtb_in (tb4 (List.mem_of_getElem? (i := 82) rfl)) rfl
theorem lk_RX6_130 : Cond.methodLink RX6 130 yX6_lengthOf ∈ gtb := gtb_in (tb4 (List.mem_of_getElem? (i := 86) rfl)) rfl
theorem lk_RL_49 : Cond.methodLink RL 49 yX6_board ∈ gtb := gtb_in (tb4 (List.mem_of_getElem? (i := 90) rfl)) rfl
theorem lk_RX6_133 : Cond.methodLink RX6 133 yX6_cells ∈ gtb := gtb_in (tb4 (List.mem_of_getElem? (i := 94) rfl)) rfl
theorem lk_RL_54 : Cond.methodLink RL 54 yX6_breaks ∈ gtb := gtb_in (tb4 (List.mem_of_getElem? (i := 98) rfl)) rfl
theorem lk_RX6_137 : Cond.methodLink RX6 137 yX6_isCell ∈ gtb := gtb_in (tb4 (List.mem_of_getElem? (i := 102) rfl)) rfl
theorem lk_RL_58 : Cond.methodLink RL 58 yX6_multiplies ∈ gtb := gtb_in (tb4 (List.mem_of_getElem? (i := 106) rfl)) rfl
theorem lk_RL_62 : Cond.methodLink RL 62 yX6_way ∈ gtb := gtb_in (tb4 (List.mem_of_getElem? (i := 110) rfl)) rfl
theorem lk_RX6_144 : Cond.methodLink RX6 144 yX6_wayOf ∈ gtb := gtb_in (tb4 (List.mem_of_getElem? (i := 114) rfl)) rfl
theorem lk_RX6_140 : Cond.methodLink RX6 140 yX6_areBeside ∈ gtb := gtb_in (tb4 (List.mem_of_getElem? (i := 118) rfl)) rfl
theorem lk_RL_66 : Cond.methodLink RL 66 yX6_plan ∈ gtb := gtb_in (tb4 (List.mem_of_getElem? (i := 122) rfl)) rfl
theorem lk_RL_71 : Cond.methodLink RL 71 yX6_lay ∈ gtb := gtb_in (tb4 (List.mem_of_getElem? (i := 127) rfl)) rfl
theorem lk_RL_75 : Cond.methodLink RL 75 yX6_lacks ∈ gtb := gtb_in (tb4 (List.mem_of_getElem? (i := 132) rfl)) rfl
theorem lk_RX6_154 : Cond.methodLink RX6 154 yX6_lacking ∈ gtb := gtb_in (tb4 (List.mem_of_getElem? (i := 136) rfl)) rfl
theorem lk_RX6_151 : Cond.methodLink RX6 151 yX6_isLate ∈ gtb := gtb_in (tb4 (List.mem_of_getElem? (i := 140) rfl)) rfl
theorem lk_RL_79 : Cond.methodLink RL 79 yX6_laid ∈ gtb := gtb_in (tb4 (List.mem_of_getElem? (i := 144) rfl)) rfl
theorem lk_RL_83 : Cond.methodLink RL 83 yX6_kept ∈ gtb := gtb_in (tb4 (List.mem_of_getElem? (i := 148) rfl)) rfl
theorem lk_RX6_157 : Cond.methodLink RX6 157 yX6_whyNot ∈ gtb := gtb_in (tb4 (List.mem_of_getElem? (i := 152) rfl)) rfl
theorem lk_RL_87 : Cond.methodLink RL 87 yX6_step ∈ gtb := gtb_in (tb4 (List.mem_of_getElem? (i := 156) rfl)) rfl
theorem lk_RL_91 : Cond.methodLink RL 91 yX6_stepped ∈ gtb := gtb_in (tb4 (List.mem_of_getElem? (i := 160) rfl)) rfl
theorem lk_RX6_162 : Cond.methodLink RX6 162 yX6_plain ∈ gtb := gtb_in (tb4 (List.mem_of_getElem? (i := 165) rfl)) rfl
theorem lk_RL_95 : Cond.methodLink RL 95 yX6_works ∈ gtb := gtb_in (tb4 (List.mem_of_getElem? (i := 166) rfl)) rfl
theorem lk_RL_99 : Cond.methodLink RL 99 yX6_bound ∈ gtb := gtb_in (tb4 (List.mem_of_getElem? (i := 171) rfl)) rfl
theorem lk_RX6_171 : Cond.methodLink RX6 171 yX6_places ∈ gtb := gtb_in (tb4 (List.mem_of_getElem? (i := 175) rfl)) rfl
theorem lk_RX6_174 : Cond.methodLink RX6 174 yX6_rings ∈ gtb := gtb_in (tb4 (List.mem_of_getElem? (i := 179) rfl)) rfl
theorem lk_RX6_168 : Cond.methodLink RX6 168 yX6_ringsHold ∈ gtb := gtb_in (tb4 (List.mem_of_getElem? (i := 183) rfl)) rfl
theorem lk_RL_103 : Cond.methodLink RL 103 yX6_find ∈ gtb := gtb_in (tb4 (List.mem_of_getElem? (i := 187) rfl)) rfl
theorem lk_RX6_189 : Cond.methodLink RX6 189 yX6_search ∈ gtb := gtb_in (tb4 (List.mem_of_getElem? (i := 191) rfl)) rfl
theorem lk_RX6_186 : Cond.methodLink RX6 186 yX6_goesAt ∈ gtb := gtb_in (tb4 (List.mem_of_getElem? (i := 195) rfl)) rfl
theorem lk_RX6_180 : Cond.methodLink RX6 180 yX6_canStart ∈ gtb := gtb_in (tb4 (List.mem_of_getElem? (i := 199) rfl)) rfl
theorem lk_RX6_177 : Cond.methodLink RX6 177 yX6_up ∈ gtb := gtb_in (tb4 (List.mem_of_getElem? (i := 203) rfl)) rfl
theorem lk_RL_107 : Cond.methodLink RL 107 yX6_tries ∈ gtb := gtb_in (tb4 (List.mem_of_getElem? (i := 206) rfl)) rfl
theorem lk_RL_111 : Cond.methodLink RL 111 yX6_told ∈ gtb := gtb_in (tb4 (List.mem_of_getElem? (i := 210) rfl)) rfl
theorem in_X0 : ∀ x ∈ u_ws RX0 TX0 5, x ∈ gtb := by
  intro x hx
  have e : u_ws RX0 TX0 5 = [155, 157, 159, 161, 163].filterMap (fun i => lw_tbl[i]?) := by decide +kernel
  rw [e] at hx
  obtain ⟨i, -, hi⟩ := List.mem_filterMap.mp hx
  have hg : (u_ws RX0 TX0 5).all goodWord = true := by decide +kernel
  exact gtb_in (List.mem_of_getElem? hi) (List.all_eq_true.mp hg x (by rw [e]; exact hx))
theorem in_X1 : ∀ x ∈ u_ws RX1 TX1 5, x ∈ gtb := by
  intro x hx
  have e : u_ws RX1 TX1 5 = [177, 179, 181, 183, 185].filterMap (fun i => lw_tbl[i]?) := by decide +kernel
  rw [e] at hx
  obtain ⟨i, -, hi⟩ := List.mem_filterMap.mp hx
  have hg : (u_ws RX1 TX1 5).all goodWord = true := by decide +kernel
  exact gtb_in (List.mem_of_getElem? hi) (List.all_eq_true.mp hg x (by rw [e]; exact hx))
theorem in_X2 : ∀ x ∈ u_ws RX2 TX2 11, x ∈ gtb := by
  intro x hx
  have e : u_ws RX2 TX2 11 = [84, 86, 88, 90, 92, 94, 96, 98, 100, 102, 104].filterMap (fun i => lw_tbl[i]?) := by decide +kernel
  rw [e] at hx
  obtain ⟨i, -, hi⟩ := List.mem_filterMap.mp hx
  have hg : (u_ws RX2 TX2 11).all goodWord = true := by decide +kernel
  exact gtb_in (List.mem_of_getElem? hi) (List.all_eq_true.mp hg x (by rw [e]; exact hx))
theorem in_X3 : ∀ x ∈ u_ws RX3 TX3 9, x ∈ gtb := by
  intro x hx
  have e : u_ws RX3 TX3 9 = [203, 205, 207, 209, 211, 213, 215, 217, 219].filterMap (fun i => lw_tbl[i]?) := by decide +kernel
  rw [e] at hx
  obtain ⟨i, -, hi⟩ := List.mem_filterMap.mp hx
  have hg : (u_ws RX3 TX3 9).all goodWord = true := by decide +kernel
  exact gtb_in (List.mem_of_getElem? hi) (List.all_eq_true.mp hg x (by rw [e]; exact hx))
theorem in_X4 : ∀ x ∈ u_ws RX4 TX4 2, x ∈ gtb := by
  intro x hx
  have e : u_ws RX4 TX4 2 = [230, 232].filterMap (fun i => lw_tbl[i]?) := by decide +kernel
  rw [e] at hx
  obtain ⟨i, -, hi⟩ := List.mem_filterMap.mp hx
  have hg : (u_ws RX4 TX4 2).all goodWord = true := by decide +kernel
  exact gtb_in (List.mem_of_getElem? hi) (List.all_eq_true.mp hg x (by rw [e]; exact hx))
theorem in_X5 : ∀ x ∈ u_ws RX5 TX5 9, x ∈ gtb := by
  intro x hx
  have e : u_ws RX5 TX5 9 = [244, 246, 248, 250, 252, 254, 256, 258, 260].filterMap (fun i => lw_tbl[i]?) := by decide +kernel
  rw [e] at hx
  obtain ⟨i, -, hi⟩ := List.mem_filterMap.mp hx
  have hg : (u_ws RX5 TX5 9).all goodWord = true := by decide +kernel
  exact gtb_in (List.mem_of_getElem? hi) (List.all_eq_true.mp hg x (by rw [e]; exact hx))
theorem in_X6 : ∀ x ∈ u_ws RX6 TX6 24, x ∈ gtb := by
  intro x hx
  have e : u_ws RX6 TX6 24 = [738, 740, 742, 744, 746, 748, 750, 752, 754, 756, 758, 760, 762, 764, 766, 768, 770, 772, 774, 776, 778, 780, 782, 784].filterMap (fun i => lw_tbl[i]?) := by decide +kernel
  rw [e] at hx
  obtain ⟨i, -, hi⟩ := List.mem_filterMap.mp hx
  have hg : (u_ws RX6 TX6 24).all goodWord = true := by decide +kernel
  exact gtb_in (List.mem_of_getElem? hi) (List.all_eq_true.mp hg x (by rw [e]; exact hx))
theorem mf_X5_init : MFs yX5_init cX5_init 1 none 0 := ⟨gtb_in (tb1 (List.mem_of_getElem? (i := 15) rfl)) rfl, gtb_in (tb1 (List.mem_of_getElem? (i := 1) rfl)) rfl, ⟨by decide +kernel, by decide +kernel⟩, by decide +kernel⟩
theorem mi_X5_init : Cond.instanceMethod yX5_init ∈ gtb := gtb_in (tb1 (List.mem_of_getElem? (i := 14) rfl)) rfl
theorem mf_X2_init : MFs yX2_init cX2_init 1 none 0 := ⟨gtb_in (tb1 (List.mem_of_getElem? (i := 23) rfl)) rfl, gtb_in (tb1 (List.mem_of_getElem? (i := 2) rfl)) rfl, ⟨by decide +kernel, by decide +kernel⟩, by decide +kernel⟩
theorem mi_X2_init : Cond.instanceMethod yX2_init ∈ gtb := gtb_in (tb1 (List.mem_of_getElem? (i := 22) rfl)) rfl
theorem mf_X0_init : MFs yX0_init cX0_init 1 none 0 := ⟨gtb_in (tb1 (List.mem_of_getElem? (i := 65) rfl)) rfl, gtb_in (tb1 (List.mem_of_getElem? (i := 3) rfl)) rfl, ⟨by decide +kernel, by decide +kernel⟩, by decide +kernel⟩
theorem mi_X0_init : Cond.instanceMethod yX0_init ∈ gtb := gtb_in (tb1 (List.mem_of_getElem? (i := 64) rfl)) rfl
theorem mf_X0_renew : MFs yX0_renew cX0_renew 4 none 2 := ⟨gtb_in (tb1 (List.mem_of_getElem? (i := 70) rfl)) rfl, gtb_in (tb1 (List.mem_of_getElem? (i := 3) rfl)) rfl, ⟨by decide +kernel, by decide +kernel⟩, by decide +kernel⟩
theorem mv_X0_renew : MFv yX0_renew := ⟨gtb_in (tb1 (List.mem_of_getElem? (i := 68) rfl)) rfl, gtb_in (tb1 (List.mem_of_getElem? (i := 69) rfl)) rfl⟩
theorem mf_X0_measure : MFs yX0_measure cX0_measure 3 none 0 := ⟨gtb_in (tb1 (List.mem_of_getElem? (i := 74) rfl)) rfl, gtb_in (tb1 (List.mem_of_getElem? (i := 3) rfl)) rfl, ⟨by decide +kernel, by decide +kernel⟩, by decide +kernel⟩
theorem mv_X0_measure : MFv yX0_measure := ⟨gtb_in (tb1 (List.mem_of_getElem? (i := 73) rfl)) rfl, gtb_in (List.mem_append_left _ (List.mem_of_getElem? (i := 0) rfl)) rfl⟩
theorem mf_X0_singleStep : MFs yX0_singleStep cX0_singleStep 3 (some .int) 2 := ⟨gtb_in (tb1 (List.mem_of_getElem? (i := 78) rfl)) rfl, gtb_in (tb1 (List.mem_of_getElem? (i := 3) rfl)) rfl, ⟨by decide +kernel, by decide +kernel⟩, by decide +kernel⟩
theorem mv_X0_singleStep : MFv yX0_singleStep := ⟨gtb_in (tb1 (List.mem_of_getElem? (i := 77) rfl)) rfl, gtb_in (List.mem_append_left _ (List.mem_of_getElem? (i := 1) rfl)) rfl⟩
theorem mf_X0_isOpen : MFs yX0_isOpen cX0_isOpen 2 (some .boolean) 1 := ⟨gtb_in (tb1 (List.mem_of_getElem? (i := 82) rfl)) rfl, gtb_in (tb1 (List.mem_of_getElem? (i := 3) rfl)) rfl, ⟨by decide +kernel, by decide +kernel⟩, by decide +kernel⟩
theorem mv_X0_isOpen : MFv yX0_isOpen := ⟨gtb_in (tb1 (List.mem_of_getElem? (i := 81) rfl)) rfl, gtb_in (List.mem_append_left _ (List.mem_of_getElem? (i := 2) rfl)) rfl⟩
theorem mf_X0_isThere : MFs yX0_isThere cX0_isThere 2 (some .boolean) 1 := ⟨gtb_in (tb1 (List.mem_of_getElem? (i := 86) rfl)) rfl, gtb_in (tb1 (List.mem_of_getElem? (i := 3) rfl)) rfl, ⟨by decide +kernel, by decide +kernel⟩, by decide +kernel⟩
theorem mv_X0_isThere : MFv yX0_isThere := ⟨gtb_in (tb1 (List.mem_of_getElem? (i := 84) rfl)) rfl, gtb_in (tb1 (List.mem_of_getElem? (i := 85) rfl)) rfl⟩
theorem mf_X0_areNeighbours : MFs yX0_areNeighbours cX0_areNeighbours 5 (some .boolean) 2 := ⟨gtb_in (tb1 (List.mem_of_getElem? (i := 90) rfl)) rfl, gtb_in (tb1 (List.mem_of_getElem? (i := 3) rfl)) rfl, ⟨by decide +kernel, by decide +kernel⟩, by decide +kernel⟩
theorem mv_X0_areNeighbours : MFv yX0_areNeighbours := ⟨gtb_in (tb1 (List.mem_of_getElem? (i := 89) rfl)) rfl, gtb_in (List.mem_append_left _ (List.mem_of_getElem? (i := 3) rfl)) rfl⟩
theorem mf_J9_abs_0f7a4 : MFs yJ9_abs_0f7a4 cJ9_abs_0f7a4 1 (some .int) 1 := ⟨gtb_in (tb1 (List.mem_of_getElem? (i := 93) rfl)) rfl, gtb_in (tb1 (List.mem_of_getElem? (i := 4) rfl)) rfl, ⟨by decide +kernel, by decide +kernel⟩, by decide +kernel⟩
theorem ms_J9_abs_0f7a4 : Cond.static yJ9_abs_0f7a4 ∈ gtb := gtb_in (tb1 (List.mem_of_getElem? (i := 92) rfl)) rfl
theorem mf_X0_cells : MFs yX0_cells cX0_cells 1 (some .int) 0 := ⟨gtb_in (tb1 (List.mem_of_getElem? (i := 97) rfl)) rfl, gtb_in (tb1 (List.mem_of_getElem? (i := 3) rfl)) rfl, ⟨by decide +kernel, by decide +kernel⟩, by decide +kernel⟩
theorem mv_X0_cells : MFv yX0_cells := ⟨gtb_in (tb1 (List.mem_of_getElem? (i := 95) rfl)) rfl, gtb_in (tb1 (List.mem_of_getElem? (i := 96) rfl)) rfl⟩
theorem mf_X0_shortenThrough : MFs yX0_shortenThrough cX0_shortenThrough 5 none 1 := ⟨gtb_in (tb1 (List.mem_of_getElem? (i := 101) rfl)) rfl, gtb_in (tb1 (List.mem_of_getElem? (i := 3) rfl)) rfl, ⟨by decide +kernel, by decide +kernel⟩, by decide +kernel⟩
theorem mv_X0_shortenThrough : MFv yX0_shortenThrough := ⟨gtb_in (tb1 (List.mem_of_getElem? (i := 100) rfl)) rfl, gtb_in (List.mem_append_left _ (List.mem_of_getElem? (i := 4) rfl)) rfl⟩
theorem mf_X1_init : MFs yX1_init cX1_init 3 none 2 := ⟨gtb_in (tb1 (List.mem_of_getElem? (i := 122) rfl)) rfl, gtb_in (tb1 (List.mem_of_getElem? (i := 5) rfl)) rfl, ⟨by decide +kernel, by decide +kernel⟩, by decide +kernel⟩
theorem mi_X1_init : Cond.instanceMethod yX1_init ∈ gtb := gtb_in (tb1 (List.mem_of_getElem? (i := 121) rfl)) rfl
theorem mf_X3_init : MFs yX3_init cX3_init 3 none 2 := ⟨gtb_in (tb1 (List.mem_of_getElem? (i := 144) rfl)) rfl, gtb_in (tb1 (List.mem_of_getElem? (i := 6) rfl)) rfl, ⟨by decide +kernel, by decide +kernel⟩, by decide +kernel⟩
theorem mi_X3_init : Cond.instanceMethod yX3_init ∈ gtb := gtb_in (tb1 (List.mem_of_getElem? (i := 143) rfl)) rfl
theorem mf_X4_init : MFs yX4_init cX4_init 2 none 1 := ⟨gtb_in (tb1 (List.mem_of_getElem? (i := 178) rfl)) rfl, gtb_in (tb1 (List.mem_of_getElem? (i := 7) rfl)) rfl, ⟨by decide +kernel, by decide +kernel⟩, by decide +kernel⟩
theorem mi_X4_init : Cond.instanceMethod yX4_init ∈ gtb := gtb_in (tb1 (List.mem_of_getElem? (i := 177) rfl)) rfl
theorem mf_X5_input : MFs yX5_input cX5_input 4 (some .int) 2 := ⟨gtb_in (tb1 (List.mem_of_getElem? (i := 218) rfl)) rfl, gtb_in (tb1 (List.mem_of_getElem? (i := 1) rfl)) rfl, ⟨by decide +kernel, by decide +kernel⟩, by decide +kernel⟩
theorem mv_X5_input : MFv yX5_input := ⟨gtb_in (tb1 (List.mem_of_getElem? (i := 216) rfl)) rfl, gtb_in (tb1 (List.mem_of_getElem? (i := 217) rfl)) rfl⟩
theorem mf_X5_isWithin : MFs yX5_isWithin cX5_isWithin 3 (some .boolean) 3 := ⟨gtb_in (tb1 (List.mem_of_getElem? (i := 221) rfl)) rfl, gtb_in (tb1 (List.mem_of_getElem? (i := 1) rfl)) rfl, ⟨by decide +kernel, by decide +kernel⟩, by decide +kernel⟩
theorem ms_X5_isWithin : Cond.static yX5_isWithin ∈ gtb := gtb_in (tb1 (List.mem_of_getElem? (i := 220) rfl)) rfl
theorem mf_X2_addInput : MFs yX2_addInput cX2_addInput 4 (some .int) 2 := ⟨gtb_in (tb1 (List.mem_of_getElem? (i := 225) rfl)) rfl, gtb_in (tb1 (List.mem_of_getElem? (i := 2) rfl)) rfl, ⟨by decide +kernel, by decide +kernel⟩, by decide +kernel⟩
theorem mv_X2_addInput : MFv yX2_addInput := ⟨gtb_in (tb1 (List.mem_of_getElem? (i := 223) rfl)) rfl, gtb_in (tb1 (List.mem_of_getElem? (i := 224) rfl)) rfl⟩
theorem mf_X2_setOperand : MFs yX2_setOperand cX2_setOperand 4 none 3 := ⟨gtb_in (tb1 (List.mem_of_getElem? (i := 229) rfl)) rfl, gtb_in (tb1 (List.mem_of_getElem? (i := 2) rfl)) rfl, ⟨by decide +kernel, by decide +kernel⟩, by decide +kernel⟩
theorem mv_X2_setOperand : MFv yX2_setOperand := ⟨gtb_in (tb1 (List.mem_of_getElem? (i := 228) rfl)) rfl, gtb_in (List.mem_append_left _ (List.mem_of_getElem? (i := 5) rfl)) rfl⟩
theorem mf_X2_arrange : MFs yX2_arrange cX2_arrange 4 none 0 := ⟨gtb_in (tb1 (List.mem_of_getElem? (i := 233) rfl)) rfl, gtb_in (tb1 (List.mem_of_getElem? (i := 2) rfl)) rfl, ⟨by decide +kernel, by decide +kernel⟩, by decide +kernel⟩
theorem mv_X2_arrange : MFv yX2_arrange := ⟨gtb_in (tb1 (List.mem_of_getElem? (i := 232) rfl)) rfl, gtb_in (List.mem_append_left _ (List.mem_of_getElem? (i := 6) rfl)) rfl⟩
theorem mf_X2_canFollow : MFs yX2_canFollow cX2_canFollow 3 (some .boolean) 1 := ⟨gtb_in (tb1 (List.mem_of_getElem? (i := 237) rfl)) rfl, gtb_in (tb1 (List.mem_of_getElem? (i := 2) rfl)) rfl, ⟨by decide +kernel, by decide +kernel⟩, by decide +kernel⟩
theorem mv_X2_canFollow : MFv yX2_canFollow := ⟨gtb_in (tb1 (List.mem_of_getElem? (i := 236) rfl)) rfl, gtb_in (List.mem_append_left _ (List.mem_of_getElem? (i := 7) rfl)) rfl⟩
theorem mf_X2_sourceOf : MFs yX2_sourceOf cX2_sourceOf 2 (some .int) 1 := ⟨gtb_in (tb2 (List.mem_of_getElem? (i := 1) rfl)) rfl, gtb_in (tb1 (List.mem_of_getElem? (i := 2) rfl)) rfl, ⟨by decide +kernel, by decide +kernel⟩, by decide +kernel⟩
theorem mv_X2_sourceOf : MFv yX2_sourceOf := ⟨gtb_in (tb1 (List.mem_of_getElem? (i := 239) rfl)) rfl, gtb_in (tb2 (List.mem_of_getElem? (i := 0) rfl)) rfl⟩
theorem mf_X2_isSlot : MFs yX2_isSlot cX2_isSlot 2 (some .boolean) 1 := ⟨gtb_in (tb2 (List.mem_of_getElem? (i := 5) rfl)) rfl, gtb_in (tb1 (List.mem_of_getElem? (i := 2) rfl)) rfl, ⟨by decide +kernel, by decide +kernel⟩, by decide +kernel⟩
theorem mv_X2_isSlot : MFv yX2_isSlot := ⟨gtb_in (tb2 (List.mem_of_getElem? (i := 4) rfl)) rfl, gtb_in (List.mem_append_left _ (List.mem_of_getElem? (i := 8) rfl)) rfl⟩
theorem mf_X2_isThere : MFs yX2_isThere cX2_isThere 2 (some .boolean) 1 := ⟨gtb_in (tb2 (List.mem_of_getElem? (i := 9) rfl)) rfl, gtb_in (tb1 (List.mem_of_getElem? (i := 2) rfl)) rfl, ⟨by decide +kernel, by decide +kernel⟩, by decide +kernel⟩
theorem mv_X2_isThere : MFv yX2_isThere := ⟨gtb_in (tb2 (List.mem_of_getElem? (i := 7) rfl)) rfl, gtb_in (tb2 (List.mem_of_getElem? (i := 8) rfl)) rfl⟩
theorem mf_X2_distanceOf : MFs yX2_distanceOf cX2_distanceOf 2 (some .int) 1 := ⟨gtb_in (tb2 (List.mem_of_getElem? (i := 13) rfl)) rfl, gtb_in (tb1 (List.mem_of_getElem? (i := 2) rfl)) rfl, ⟨by decide +kernel, by decide +kernel⟩, by decide +kernel⟩
theorem mv_X2_distanceOf : MFv yX2_distanceOf := ⟨gtb_in (tb2 (List.mem_of_getElem? (i := 11) rfl)) rfl, gtb_in (tb2 (List.mem_of_getElem? (i := 12) rfl)) rfl⟩
theorem mf_X5_actsChanged : MFs yX5_actsChanged cX5_actsChanged 1 none 0 := ⟨gtb_in (tb2 (List.mem_of_getElem? (i := 17) rfl)) rfl, gtb_in (tb1 (List.mem_of_getElem? (i := 1) rfl)) rfl, ⟨by decide +kernel, by decide +kernel⟩, by decide +kernel⟩
theorem mv_X5_actsChanged : MFv yX5_actsChanged := ⟨gtb_in (tb2 (List.mem_of_getElem? (i := 16) rfl)) rfl, gtb_in (List.mem_append_left _ (List.mem_of_getElem? (i := 9) rfl)) rfl⟩
theorem mf_X1_drop : MFs yX1_drop cX1_drop 1 none 0 := ⟨gtb_in (tb2 (List.mem_of_getElem? (i := 21) rfl)) rfl, gtb_in (tb1 (List.mem_of_getElem? (i := 5) rfl)) rfl, ⟨by decide +kernel, by decide +kernel⟩, by decide +kernel⟩
theorem mv_X1_drop : MFv yX1_drop := ⟨gtb_in (tb2 (List.mem_of_getElem? (i := 19) rfl)) rfl, gtb_in (tb2 (List.mem_of_getElem? (i := 20) rfl)) rfl⟩
theorem mf_X5_act : MFs yX5_act cX5_act 8 (some .int) 5 := ⟨gtb_in (tb2 (List.mem_of_getElem? (i := 25) rfl)) rfl, gtb_in (tb1 (List.mem_of_getElem? (i := 1) rfl)) rfl, ⟨by decide +kernel, by decide +kernel⟩, by decide +kernel⟩
theorem mv_X5_act : MFv yX5_act := ⟨gtb_in (tb2 (List.mem_of_getElem? (i := 23) rfl)) rfl, gtb_in (tb2 (List.mem_of_getElem? (i := 24) rfl)) rfl⟩
theorem mf_X5_isOperand : MFs yX5_isOperand cX5_isOperand 2 (some .boolean) 2 := ⟨gtb_in (tb2 (List.mem_of_getElem? (i := 28) rfl)) rfl, gtb_in (tb1 (List.mem_of_getElem? (i := 1) rfl)) rfl, ⟨by decide +kernel, by decide +kernel⟩, by decide +kernel⟩
theorem ms_X5_isOperand : Cond.static yX5_isOperand ∈ gtb := gtb_in (tb2 (List.mem_of_getElem? (i := 27) rfl)) rfl
theorem mf_X2_addWork : MFs yX2_addWork cX2_addWork 7 (some .int) 5 := ⟨gtb_in (tb2 (List.mem_of_getElem? (i := 32) rfl)) rfl, gtb_in (tb1 (List.mem_of_getElem? (i := 2) rfl)) rfl, ⟨by decide +kernel, by decide +kernel⟩, by decide +kernel⟩
theorem mv_X2_addWork : MFv yX2_addWork := ⟨gtb_in (tb2 (List.mem_of_getElem? (i := 30) rfl)) rfl, gtb_in (tb2 (List.mem_of_getElem? (i := 31) rfl)) rfl⟩
theorem mf_X5_first : MFs yX5_first cX5_first 3 (some .int) 1 := ⟨gtb_in (tb2 (List.mem_of_getElem? (i := 36) rfl)) rfl, gtb_in (tb1 (List.mem_of_getElem? (i := 1) rfl)) rfl, ⟨by decide +kernel, by decide +kernel⟩, by decide +kernel⟩
theorem mv_X5_first : MFv yX5_first := ⟨gtb_in (tb2 (List.mem_of_getElem? (i := 34) rfl)) rfl, gtb_in (tb2 (List.mem_of_getElem? (i := 35) rfl)) rfl⟩
theorem mf_X2_firstNumber : MFs yX2_firstNumber cX2_firstNumber 1 (some .int) 0 := ⟨gtb_in (tb2 (List.mem_of_getElem? (i := 40) rfl)) rfl, gtb_in (tb1 (List.mem_of_getElem? (i := 2) rfl)) rfl, ⟨by decide +kernel, by decide +kernel⟩, by decide +kernel⟩
theorem mv_X2_firstNumber : MFv yX2_firstNumber := ⟨gtb_in (tb2 (List.mem_of_getElem? (i := 38) rfl)) rfl, gtb_in (tb2 (List.mem_of_getElem? (i := 39) rfl)) rfl⟩
theorem mf_X2_setFirstNumber : MFs yX2_setFirstNumber cX2_setFirstNumber 2 none 1 := ⟨gtb_in (tb2 (List.mem_of_getElem? (i := 44) rfl)) rfl, gtb_in (tb1 (List.mem_of_getElem? (i := 2) rfl)) rfl, ⟨by decide +kernel, by decide +kernel⟩, by decide +kernel⟩
theorem mv_X2_setFirstNumber : MFv yX2_setFirstNumber := ⟨gtb_in (tb2 (List.mem_of_getElem? (i := 42) rfl)) rfl, gtb_in (tb2 (List.mem_of_getElem? (i := 43) rfl)) rfl⟩
theorem mf_X5_clear : MFs yX5_clear cX5_clear 2 (some .int) 0 := ⟨gtb_in (tb2 (List.mem_of_getElem? (i := 48) rfl)) rfl, gtb_in (tb1 (List.mem_of_getElem? (i := 1) rfl)) rfl, ⟨by decide +kernel, by decide +kernel⟩, by decide +kernel⟩
theorem mv_X5_clear : MFv yX5_clear := ⟨gtb_in (tb2 (List.mem_of_getElem? (i := 46) rfl)) rfl, gtb_in (tb2 (List.mem_of_getElem? (i := 47) rfl)) rfl⟩
theorem mf_X2_count : MFs yX2_count cX2_count 1 (some .int) 0 := ⟨gtb_in (tb2 (List.mem_of_getElem? (i := 52) rfl)) rfl, gtb_in (tb1 (List.mem_of_getElem? (i := 2) rfl)) rfl, ⟨by decide +kernel, by decide +kernel⟩, by decide +kernel⟩
theorem mv_X2_count : MFv yX2_count := ⟨gtb_in (tb2 (List.mem_of_getElem? (i := 50) rfl)) rfl, gtb_in (tb2 (List.mem_of_getElem? (i := 51) rfl)) rfl⟩
theorem mf_X2_empty : MFs yX2_empty cX2_empty 1 none 0 := ⟨gtb_in (tb2 (List.mem_of_getElem? (i := 56) rfl)) rfl, gtb_in (tb1 (List.mem_of_getElem? (i := 2) rfl)) rfl, ⟨by decide +kernel, by decide +kernel⟩, by decide +kernel⟩
theorem mv_X2_empty : MFv yX2_empty := ⟨gtb_in (tb2 (List.mem_of_getElem? (i := 54) rfl)) rfl, gtb_in (tb2 (List.mem_of_getElem? (i := 55) rfl)) rfl⟩
theorem mf_X5_sound : MFs yX5_sound cX5_sound 1 (some .int) 0 := ⟨gtb_in (tb2 (List.mem_of_getElem? (i := 60) rfl)) rfl, gtb_in (tb1 (List.mem_of_getElem? (i := 1) rfl)) rfl, ⟨by decide +kernel, by decide +kernel⟩, by decide +kernel⟩
theorem mv_X5_sound : MFv yX5_sound := ⟨gtb_in (tb2 (List.mem_of_getElem? (i := 58) rfl)) rfl, gtb_in (tb2 (List.mem_of_getElem? (i := 59) rfl)) rfl⟩
theorem mf_X2_isSound : MFs yX2_isSound cX2_isSound 1 (some .boolean) 0 := ⟨gtb_in (tb2 (List.mem_of_getElem? (i := 64) rfl)) rfl, gtb_in (tb1 (List.mem_of_getElem? (i := 2) rfl)) rfl, ⟨by decide +kernel, by decide +kernel⟩, by decide +kernel⟩
theorem mv_X2_isSound : MFv yX2_isSound := ⟨gtb_in (tb2 (List.mem_of_getElem? (i := 62) rfl)) rfl, gtb_in (tb2 (List.mem_of_getElem? (i := 63) rfl)) rfl⟩
theorem mf_X5_plain : MFs yX5_plain cX5_plain 3 (some .long) 2 := ⟨gtb_in (tb2 (List.mem_of_getElem? (i := 68) rfl)) rfl, gtb_in (tb1 (List.mem_of_getElem? (i := 1) rfl)) rfl, ⟨by decide +kernel, by decide +kernel⟩, by decide +kernel⟩
theorem mv_X5_plain : MFv yX5_plain := ⟨gtb_in (tb2 (List.mem_of_getElem? (i := 66) rfl)) rfl, gtb_in (tb2 (List.mem_of_getElem? (i := 67) rfl)) rfl⟩
theorem mf_X4_makeRound : MFs yX4_makeRound cX4_makeRound 3 none 1 := ⟨gtb_in (tb2 (List.mem_of_getElem? (i := 75) rfl)) rfl, gtb_in (tb1 (List.mem_of_getElem? (i := 7) rfl)) rfl, ⟨by decide +kernel, by decide +kernel⟩, by decide +kernel⟩
theorem mv_X4_makeRound : MFv yX4_makeRound := ⟨gtb_in (tb2 (List.mem_of_getElem? (i := 73) rfl)) rfl, gtb_in (tb2 (List.mem_of_getElem? (i := 74) rfl)) rfl⟩
theorem mf_X2_actInOrder : MFs yX2_actInOrder cX2_actInOrder 2 (some .int) 1 := ⟨gtb_in (tb2 (List.mem_of_getElem? (i := 80) rfl)) rfl, gtb_in (tb1 (List.mem_of_getElem? (i := 2) rfl)) rfl, ⟨by decide +kernel, by decide +kernel⟩, by decide +kernel⟩
theorem mv_X2_actInOrder : MFv yX2_actInOrder := ⟨gtb_in (tb2 (List.mem_of_getElem? (i := 78) rfl)) rfl, gtb_in (tb2 (List.mem_of_getElem? (i := 79) rfl)) rfl⟩
theorem mf_X4_make : MFs yX4_make cX4_make 3 none 2 := ⟨gtb_in (tb2 (List.mem_of_getElem? (i := 84) rfl)) rfl, gtb_in (tb1 (List.mem_of_getElem? (i := 7) rfl)) rfl, ⟨by decide +kernel, by decide +kernel⟩, by decide +kernel⟩
theorem mv_X4_make : MFv yX4_make := ⟨gtb_in (tb2 (List.mem_of_getElem? (i := 82) rfl)) rfl, gtb_in (tb2 (List.mem_of_getElem? (i := 83) rfl)) rfl⟩
theorem mf_X4_isPlace : MFs yX4_isPlace cX4_isPlace 2 (some .boolean) 2 := ⟨gtb_in (tb2 (List.mem_of_getElem? (i := 87) rfl)) rfl, gtb_in (tb1 (List.mem_of_getElem? (i := 7) rfl)) rfl, ⟨by decide +kernel, by decide +kernel⟩, by decide +kernel⟩
theorem ms_X4_isPlace : Cond.static yX4_isPlace ∈ gtb := gtb_in (tb2 (List.mem_of_getElem? (i := 86) rfl)) rfl
theorem mf_X4_valueOf : MFs yX4_valueOf cX4_valueOf 5 (some .int) 2 := ⟨gtb_in (tb2 (List.mem_of_getElem? (i := 91) rfl)) rfl, gtb_in (tb1 (List.mem_of_getElem? (i := 7) rfl)) rfl, ⟨by decide +kernel, by decide +kernel⟩, by decide +kernel⟩
theorem mv_X4_valueOf : MFv yX4_valueOf := ⟨gtb_in (tb2 (List.mem_of_getElem? (i := 90) rfl)) rfl, gtb_in (List.mem_append_left _ (List.mem_of_getElem? (i := 10) rfl)) rfl⟩
theorem mf_X2_kindOf : MFs yX2_kindOf cX2_kindOf 2 (some .int) 1 := ⟨gtb_in (tb2 (List.mem_of_getElem? (i := 95) rfl)) rfl, gtb_in (tb1 (List.mem_of_getElem? (i := 2) rfl)) rfl, ⟨by decide +kernel, by decide +kernel⟩, by decide +kernel⟩
theorem mv_X2_kindOf : MFv yX2_kindOf := ⟨gtb_in (tb2 (List.mem_of_getElem? (i := 93) rfl)) rfl, gtb_in (tb2 (List.mem_of_getElem? (i := 94) rfl)) rfl⟩
theorem mf_X2_factorOf : MFs yX2_factorOf cX2_factorOf 2 (some .int) 1 := ⟨gtb_in (tb2 (List.mem_of_getElem? (i := 99) rfl)) rfl, gtb_in (tb1 (List.mem_of_getElem? (i := 2) rfl)) rfl, ⟨by decide +kernel, by decide +kernel⟩, by decide +kernel⟩
theorem mv_X2_factorOf : MFv yX2_factorOf := ⟨gtb_in (tb2 (List.mem_of_getElem? (i := 97) rfl)) rfl, gtb_in (tb2 (List.mem_of_getElem? (i := 98) rfl)) rfl⟩
theorem mf_X2_addendOf : MFs yX2_addendOf cX2_addendOf 2 (some .int) 1 := ⟨gtb_in (tb2 (List.mem_of_getElem? (i := 103) rfl)) rfl, gtb_in (tb1 (List.mem_of_getElem? (i := 2) rfl)) rfl, ⟨by decide +kernel, by decide +kernel⟩, by decide +kernel⟩
theorem mv_X2_addendOf : MFv yX2_addendOf := ⟨gtb_in (tb2 (List.mem_of_getElem? (i := 101) rfl)) rfl, gtb_in (tb2 (List.mem_of_getElem? (i := 102) rfl)) rfl⟩
theorem mf_X4_operand : MFs yX4_operand cX4_operand 4 (some .int) 2 := ⟨gtb_in (tb2 (List.mem_of_getElem? (i := 107) rfl)) rfl, gtb_in (tb1 (List.mem_of_getElem? (i := 7) rfl)) rfl, ⟨by decide +kernel, by decide +kernel⟩, by decide +kernel⟩
theorem mv_X4_operand : MFv yX4_operand := ⟨gtb_in (tb2 (List.mem_of_getElem? (i := 106) rfl)) rfl, gtb_in (List.mem_append_left _ (List.mem_of_getElem? (i := 11) rfl)) rfl⟩
theorem mf_X4_at : MFs yX4_at cX4_at 3 (some .int) 2 := ⟨gtb_in (tb2 (List.mem_of_getElem? (i := 114) rfl)) rfl, gtb_in (tb1 (List.mem_of_getElem? (i := 7) rfl)) rfl, ⟨by decide +kernel, by decide +kernel⟩, by decide +kernel⟩
theorem mv_X4_at : MFv yX4_at := ⟨gtb_in (tb2 (List.mem_of_getElem? (i := 112) rfl)) rfl, gtb_in (tb2 (List.mem_of_getElem? (i := 113) rfl)) rfl⟩
theorem mf_J9_min_7cf53 : MFs yJ9_min_7cf53 cJ9_min_7cf53 2 (some .int) 2 := ⟨gtb_in (tb2 (List.mem_of_getElem? (i := 117) rfl)) rfl, gtb_in (tb1 (List.mem_of_getElem? (i := 4) rfl)) rfl, ⟨by decide +kernel, by decide +kernel⟩, by decide +kernel⟩
theorem ms_J9_min_7cf53 : Cond.static yJ9_min_7cf53 ∈ gtb := gtb_in (tb2 (List.mem_of_getElem? (i := 116) rfl)) rfl
theorem mf_J9_max_7cf53 : MFs yJ9_max_7cf53 cJ9_max_7cf53 2 (some .int) 2 := ⟨gtb_in (tb2 (List.mem_of_getElem? (i := 120) rfl)) rfl, gtb_in (tb1 (List.mem_of_getElem? (i := 4) rfl)) rfl, ⟨by decide +kernel, by decide +kernel⟩, by decide +kernel⟩
theorem ms_J9_max_7cf53 : Cond.static yJ9_max_7cf53 ∈ gtb := gtb_in (tb2 (List.mem_of_getElem? (i := 119) rfl)) rfl
theorem mf_X5_about : MFs yX5_about cX5_about 3 (some .int) 2 := ⟨gtb_in (tb2 (List.mem_of_getElem? (i := 125) rfl)) rfl, gtb_in (tb1 (List.mem_of_getElem? (i := 1) rfl)) rfl, ⟨by decide +kernel, by decide +kernel⟩, by decide +kernel⟩
theorem mv_X5_about : MFv yX5_about := ⟨gtb_in (tb2 (List.mem_of_getElem? (i := 123) rfl)) rfl, gtb_in (tb2 (List.mem_of_getElem? (i := 124) rfl)) rfl⟩
theorem mf_X2_lengthOf : MFs yX2_lengthOf cX2_lengthOf 2 (some .int) 1 := ⟨gtb_in (tb2 (List.mem_of_getElem? (i := 130) rfl)) rfl, gtb_in (tb1 (List.mem_of_getElem? (i := 2) rfl)) rfl, ⟨by decide +kernel, by decide +kernel⟩, by decide +kernel⟩
theorem mv_X2_lengthOf : MFv yX2_lengthOf := ⟨gtb_in (tb2 (List.mem_of_getElem? (i := 128) rfl)) rfl, gtb_in (tb2 (List.mem_of_getElem? (i := 129) rfl)) rfl⟩
theorem mf_X5_board : MFs yX5_board cX5_board 3 (some .int) 2 := ⟨gtb_in (tb2 (List.mem_of_getElem? (i := 138) rfl)) rfl, gtb_in (tb1 (List.mem_of_getElem? (i := 1) rfl)) rfl, ⟨by decide +kernel, by decide +kernel⟩, by decide +kernel⟩
theorem mv_X5_board : MFv yX5_board := ⟨gtb_in (tb2 (List.mem_of_getElem? (i := 136) rfl)) rfl, gtb_in (tb2 (List.mem_of_getElem? (i := 137) rfl)) rfl⟩
theorem mf_X5_breaks : MFs yX5_breaks cX5_breaks 4 (some .int) 2 := ⟨gtb_in (tb2 (List.mem_of_getElem? (i := 144) rfl)) rfl, gtb_in (tb1 (List.mem_of_getElem? (i := 1) rfl)) rfl, ⟨by decide +kernel, by decide +kernel⟩, by decide +kernel⟩
theorem mv_X5_breaks : MFv yX5_breaks := ⟨gtb_in (tb2 (List.mem_of_getElem? (i := 142) rfl)) rfl, gtb_in (tb2 (List.mem_of_getElem? (i := 143) rfl)) rfl⟩
theorem mf_X0_isBroken : MFs yX0_isBroken cX0_isBroken 2 (some .boolean) 1 := ⟨gtb_in (tb2 (List.mem_of_getElem? (i := 149) rfl)) rfl, gtb_in (tb1 (List.mem_of_getElem? (i := 3) rfl)) rfl, ⟨by decide +kernel, by decide +kernel⟩, by decide +kernel⟩
theorem mv_X0_isBroken : MFv yX0_isBroken := ⟨gtb_in (tb2 (List.mem_of_getElem? (i := 147) rfl)) rfl, gtb_in (tb2 (List.mem_of_getElem? (i := 148) rfl)) rfl⟩
theorem mf_X0_setBroken : MFs yX0_setBroken cX0_setBroken 3 none 2 := ⟨gtb_in (tb2 (List.mem_of_getElem? (i := 153) rfl)) rfl, gtb_in (tb1 (List.mem_of_getElem? (i := 3) rfl)) rfl, ⟨by decide +kernel, by decide +kernel⟩, by decide +kernel⟩
theorem mv_X0_setBroken : MFv yX0_setBroken := ⟨gtb_in (tb2 (List.mem_of_getElem? (i := 151) rfl)) rfl, gtb_in (tb2 (List.mem_of_getElem? (i := 152) rfl)) rfl⟩
theorem mf_X5_multiplies : MFs yX5_multiplies cX5_multiplies 4 (some .int) 2 := ⟨gtb_in (tb2 (List.mem_of_getElem? (i := 157) rfl)) rfl, gtb_in (tb1 (List.mem_of_getElem? (i := 1) rfl)) rfl, ⟨by decide +kernel, by decide +kernel⟩, by decide +kernel⟩
theorem mv_X5_multiplies : MFv yX5_multiplies := ⟨gtb_in (tb2 (List.mem_of_getElem? (i := 155) rfl)) rfl, gtb_in (tb2 (List.mem_of_getElem? (i := 156) rfl)) rfl⟩
theorem mf_X0_isMultiplying : MFs yX0_isMultiplying cX0_isMultiplying 2 (some .boolean) 1 := ⟨gtb_in (tb2 (List.mem_of_getElem? (i := 161) rfl)) rfl, gtb_in (tb1 (List.mem_of_getElem? (i := 3) rfl)) rfl, ⟨by decide +kernel, by decide +kernel⟩, by decide +kernel⟩
theorem mv_X0_isMultiplying : MFv yX0_isMultiplying := ⟨gtb_in (tb2 (List.mem_of_getElem? (i := 159) rfl)) rfl, gtb_in (tb2 (List.mem_of_getElem? (i := 160) rfl)) rfl⟩
theorem mf_X0_setMultiplying : MFs yX0_setMultiplying cX0_setMultiplying 3 none 2 := ⟨gtb_in (tb2 (List.mem_of_getElem? (i := 165) rfl)) rfl, gtb_in (tb1 (List.mem_of_getElem? (i := 3) rfl)) rfl, ⟨by decide +kernel, by decide +kernel⟩, by decide +kernel⟩
theorem mv_X0_setMultiplying : MFv yX0_setMultiplying := ⟨gtb_in (tb2 (List.mem_of_getElem? (i := 163) rfl)) rfl, gtb_in (tb2 (List.mem_of_getElem? (i := 164) rfl)) rfl⟩
theorem mf_X5_way : MFs yX5_way cX5_way 3 (some .int) 2 := ⟨gtb_in (tb2 (List.mem_of_getElem? (i := 169) rfl)) rfl, gtb_in (tb1 (List.mem_of_getElem? (i := 1) rfl)) rfl, ⟨by decide +kernel, by decide +kernel⟩, by decide +kernel⟩
theorem mv_X5_way : MFv yX5_way := ⟨gtb_in (tb2 (List.mem_of_getElem? (i := 167) rfl)) rfl, gtb_in (tb2 (List.mem_of_getElem? (i := 168) rfl)) rfl⟩
theorem mf_X0_wayBetween : MFs yX0_wayBetween cX0_wayBetween 4 (some .int) 2 := ⟨gtb_in (tb2 (List.mem_of_getElem? (i := 173) rfl)) rfl, gtb_in (tb1 (List.mem_of_getElem? (i := 3) rfl)) rfl, ⟨by decide +kernel, by decide +kernel⟩, by decide +kernel⟩
theorem mv_X0_wayBetween : MFv yX0_wayBetween := ⟨gtb_in (tb2 (List.mem_of_getElem? (i := 171) rfl)) rfl, gtb_in (tb2 (List.mem_of_getElem? (i := 172) rfl)) rfl⟩
theorem mf_X5_plan : MFs yX5_plan cX5_plan 2 (some .int) 1 := ⟨gtb_in (tb2 (List.mem_of_getElem? (i := 177) rfl)) rfl, gtb_in (tb1 (List.mem_of_getElem? (i := 1) rfl)) rfl, ⟨by decide +kernel, by decide +kernel⟩, by decide +kernel⟩
theorem mv_X5_plan : MFv yX5_plan := ⟨gtb_in (tb2 (List.mem_of_getElem? (i := 175) rfl)) rfl, gtb_in (tb2 (List.mem_of_getElem? (i := 176) rfl)) rfl⟩
theorem mf_X1_begin : MFs yX1_begin cX1_begin 2 none 1 := ⟨gtb_in (tb2 (List.mem_of_getElem? (i := 181) rfl)) rfl, gtb_in (tb1 (List.mem_of_getElem? (i := 5) rfl)) rfl, ⟨by decide +kernel, by decide +kernel⟩, by decide +kernel⟩
theorem mv_X1_begin : MFv yX1_begin := ⟨gtb_in (tb2 (List.mem_of_getElem? (i := 179) rfl)) rfl, gtb_in (tb2 (List.mem_of_getElem? (i := 180) rfl)) rfl⟩
theorem mf_J7_fill_53178 : MFs yJ7_fill_53178 cJ7_fill_53178 4 none 2 := ⟨gtb_in (tb2 (List.mem_of_getElem? (i := 184) rfl)) rfl, gtb_in (tb1 (List.mem_of_getElem? (i := 9) rfl)) rfl, ⟨by decide +kernel, by decide +kernel⟩, by decide +kernel⟩
theorem ms_J7_fill_53178 : Cond.static yJ7_fill_53178 ∈ gtb := gtb_in (tb2 (List.mem_of_getElem? (i := 183) rfl)) rfl
theorem mf_X5_lay : MFs yX5_lay cX5_lay 4 (some .int) 3 := ⟨gtb_in (tb2 (List.mem_of_getElem? (i := 188) rfl)) rfl, gtb_in (tb1 (List.mem_of_getElem? (i := 1) rfl)) rfl, ⟨by decide +kernel, by decide +kernel⟩, by decide +kernel⟩
theorem mv_X5_lay : MFv yX5_lay := ⟨gtb_in (tb2 (List.mem_of_getElem? (i := 186) rfl)) rfl, gtb_in (tb2 (List.mem_of_getElem? (i := 187) rfl)) rfl⟩
theorem mf_X1_stands : MFs yX1_stands cX1_stands 1 (some .boolean) 0 := ⟨gtb_in (tb2 (List.mem_of_getElem? (i := 192) rfl)) rfl, gtb_in (tb1 (List.mem_of_getElem? (i := 5) rfl)) rfl, ⟨by decide +kernel, by decide +kernel⟩, by decide +kernel⟩
theorem mv_X1_stands : MFv yX1_stands := ⟨gtb_in (tb2 (List.mem_of_getElem? (i := 190) rfl)) rfl, gtb_in (tb2 (List.mem_of_getElem? (i := 191) rfl)) rfl⟩
theorem mf_X1_put : MFs yX1_put cX1_put 4 none 3 := ⟨gtb_in (tb2 (List.mem_of_getElem? (i := 196) rfl)) rfl, gtb_in (tb1 (List.mem_of_getElem? (i := 5) rfl)) rfl, ⟨by decide +kernel, by decide +kernel⟩, by decide +kernel⟩
theorem mv_X1_put : MFv yX1_put := ⟨gtb_in (tb2 (List.mem_of_getElem? (i := 194) rfl)) rfl, gtb_in (tb2 (List.mem_of_getElem? (i := 195) rfl)) rfl⟩
theorem mf_X5_lacks : MFs yX5_lacks cX5_lacks 1 (some .int) 0 := ⟨gtb_in (tb2 (List.mem_of_getElem? (i := 201) rfl)) rfl, gtb_in (tb1 (List.mem_of_getElem? (i := 1) rfl)) rfl, ⟨by decide +kernel, by decide +kernel⟩, by decide +kernel⟩
theorem mv_X5_lacks : MFv yX5_lacks := ⟨gtb_in (tb2 (List.mem_of_getElem? (i := 199) rfl)) rfl, gtb_in (tb2 (List.mem_of_getElem? (i := 200) rfl)) rfl⟩
theorem mf_X1_firstLack : MFs yX1_firstLack cX1_firstLack 3 (some .int) 0 := ⟨gtb_in (tb2 (List.mem_of_getElem? (i := 205) rfl)) rfl, gtb_in (tb1 (List.mem_of_getElem? (i := 5) rfl)) rfl, ⟨by decide +kernel, by decide +kernel⟩, by decide +kernel⟩
theorem mv_X1_firstLack : MFv yX1_firstLack := ⟨gtb_in (tb2 (List.mem_of_getElem? (i := 203) rfl)) rfl, gtb_in (tb2 (List.mem_of_getElem? (i := 204) rfl)) rfl⟩
theorem mf_X1_cellOf : MFs yX1_cellOf cX1_cellOf 2 (some .int) 1 := ⟨gtb_in (tb2 (List.mem_of_getElem? (i := 210) rfl)) rfl, gtb_in (tb1 (List.mem_of_getElem? (i := 5) rfl)) rfl, ⟨by decide +kernel, by decide +kernel⟩, by decide +kernel⟩
theorem mv_X1_cellOf : MFv yX1_cellOf := ⟨gtb_in (tb2 (List.mem_of_getElem? (i := 208) rfl)) rfl, gtb_in (tb2 (List.mem_of_getElem? (i := 209) rfl)) rfl⟩
theorem mf_X0_suits : MFs yX0_suits cX0_suits 3 (some .boolean) 2 := ⟨gtb_in (tb2 (List.mem_of_getElem? (i := 216) rfl)) rfl, gtb_in (tb1 (List.mem_of_getElem? (i := 3) rfl)) rfl, ⟨by decide +kernel, by decide +kernel⟩, by decide +kernel⟩
theorem mv_X0_suits : MFv yX0_suits := ⟨gtb_in (tb2 (List.mem_of_getElem? (i := 214) rfl)) rfl, gtb_in (tb2 (List.mem_of_getElem? (i := 215) rfl)) rfl⟩
theorem mf_X1_meetsOneAhead : MFs yX1_meetsOneAhead cX1_meetsOneAhead 4 (some .boolean) 1 := ⟨gtb_in (tb2 (List.mem_of_getElem? (i := 220) rfl)) rfl, gtb_in (tb1 (List.mem_of_getElem? (i := 5) rfl)) rfl, ⟨by decide +kernel, by decide +kernel⟩, by decide +kernel⟩
theorem mv_X1_meetsOneAhead : MFv yX1_meetsOneAhead := ⟨gtb_in (tb2 (List.mem_of_getElem? (i := 219) rfl)) rfl, gtb_in (List.mem_append_left _ (List.mem_of_getElem? (i := 12) rfl)) rfl⟩
theorem mf_X1_startOf : MFs yX1_startOf cX1_startOf 2 (some .int) 1 := ⟨gtb_in (tb2 (List.mem_of_getElem? (i := 224) rfl)) rfl, gtb_in (tb1 (List.mem_of_getElem? (i := 5) rfl)) rfl, ⟨by decide +kernel, by decide +kernel⟩, by decide +kernel⟩
theorem mv_X1_startOf : MFv yX1_startOf := ⟨gtb_in (tb2 (List.mem_of_getElem? (i := 222) rfl)) rfl, gtb_in (tb2 (List.mem_of_getElem? (i := 223) rfl)) rfl⟩
theorem mf_X1_isLate : MFs yX1_isLate cX1_isLate 4 (some .boolean) 1 := ⟨gtb_in (tb2 (List.mem_of_getElem? (i := 228) rfl)) rfl, gtb_in (tb1 (List.mem_of_getElem? (i := 5) rfl)) rfl, ⟨by decide +kernel, by decide +kernel⟩, by decide +kernel⟩
theorem mv_X1_isLate : MFv yX1_isLate := ⟨gtb_in (tb2 (List.mem_of_getElem? (i := 227) rfl)) rfl, gtb_in (List.mem_append_left _ (List.mem_of_getElem? (i := 13) rfl)) rfl⟩
theorem mf_X1_usedAt : MFs yX1_usedAt cX1_usedAt 2 (some .int) 1 := ⟨gtb_in (tb2 (List.mem_of_getElem? (i := 234) rfl)) rfl, gtb_in (tb1 (List.mem_of_getElem? (i := 5) rfl)) rfl, ⟨by decide +kernel, by decide +kernel⟩, by decide +kernel⟩
theorem mv_X1_usedAt : MFv yX1_usedAt := ⟨gtb_in (tb2 (List.mem_of_getElem? (i := 233) rfl)) rfl, gtb_in (List.mem_append_left _ (List.mem_of_getElem? (i := 14) rfl)) rfl⟩
theorem mf_X1_madeAt : MFs yX1_madeAt cX1_madeAt 2 (some .int) 1 := ⟨gtb_in (tb2 (List.mem_of_getElem? (i := 239) rfl)) rfl, gtb_in (tb1 (List.mem_of_getElem? (i := 5) rfl)) rfl, ⟨by decide +kernel, by decide +kernel⟩, by decide +kernel⟩
theorem mv_X1_madeAt : MFv yX1_madeAt := ⟨gtb_in (tb2 (List.mem_of_getElem? (i := 238) rfl)) rfl, gtb_in (List.mem_append_left _ (List.mem_of_getElem? (i := 15) rfl)) rfl⟩
theorem mf_X5_laid : MFs yX5_laid cX5_laid 3 (some .int) 2 := ⟨gtb_in (tb3 (List.mem_of_getElem? (i := 4) rfl)) rfl, gtb_in (tb1 (List.mem_of_getElem? (i := 1) rfl)) rfl, ⟨by decide +kernel, by decide +kernel⟩, by decide +kernel⟩
theorem mv_X5_laid : MFv yX5_laid := ⟨gtb_in (tb3 (List.mem_of_getElem? (i := 2) rfl)) rfl, gtb_in (tb3 (List.mem_of_getElem? (i := 3) rfl)) rfl⟩
theorem mf_X5_kept : MFs yX5_kept cX5_kept 2 (some .int) 1 := ⟨gtb_in (tb3 (List.mem_of_getElem? (i := 10) rfl)) rfl, gtb_in (tb1 (List.mem_of_getElem? (i := 1) rfl)) rfl, ⟨by decide +kernel, by decide +kernel⟩, by decide +kernel⟩
theorem mv_X5_kept : MFv yX5_kept := ⟨gtb_in (tb3 (List.mem_of_getElem? (i := 8) rfl)) rfl, gtb_in (tb3 (List.mem_of_getElem? (i := 9) rfl)) rfl⟩
theorem mf_X1_isGood : MFs yX1_isGood cX1_isGood 1 (some .boolean) 0 := ⟨gtb_in (tb3 (List.mem_of_getElem? (i := 14) rfl)) rfl, gtb_in (tb1 (List.mem_of_getElem? (i := 5) rfl)) rfl, ⟨by decide +kernel, by decide +kernel⟩, by decide +kernel⟩
theorem mv_X1_isGood : MFv yX1_isGood := ⟨gtb_in (tb3 (List.mem_of_getElem? (i := 12) rfl)) rfl, gtb_in (tb3 (List.mem_of_getElem? (i := 13) rfl)) rfl⟩
theorem mf_X1_mostKept : MFs yX1_mostKept cX1_mostKept 5 (some .int) 1 := ⟨gtb_in (tb3 (List.mem_of_getElem? (i := 21) rfl)) rfl, gtb_in (tb1 (List.mem_of_getElem? (i := 5) rfl)) rfl, ⟨by decide +kernel, by decide +kernel⟩, by decide +kernel⟩
theorem mv_X1_mostKept : MFv yX1_mostKept := ⟨gtb_in (tb3 (List.mem_of_getElem? (i := 19) rfl)) rfl, gtb_in (tb3 (List.mem_of_getElem? (i := 20) rfl)) rfl⟩
theorem mf_X5_step : MFs yX5_step cX5_step 4 (some .int) 1 := ⟨gtb_in (tb3 (List.mem_of_getElem? (i := 26) rfl)) rfl, gtb_in (tb1 (List.mem_of_getElem? (i := 1) rfl)) rfl, ⟨by decide +kernel, by decide +kernel⟩, by decide +kernel⟩
theorem mv_X5_step : MFv yX5_step := ⟨gtb_in (tb3 (List.mem_of_getElem? (i := 24) rfl)) rfl, gtb_in (tb3 (List.mem_of_getElem? (i := 25) rfl)) rfl⟩
theorem mf_X1_endOf : MFs yX1_endOf cX1_endOf 4 (some .int) 1 := ⟨gtb_in (tb3 (List.mem_of_getElem? (i := 30) rfl)) rfl, gtb_in (tb1 (List.mem_of_getElem? (i := 5) rfl)) rfl, ⟨by decide +kernel, by decide +kernel⟩, by decide +kernel⟩
theorem mv_X1_endOf : MFv yX1_endOf := ⟨gtb_in (tb3 (List.mem_of_getElem? (i := 28) rfl)) rfl, gtb_in (tb3 (List.mem_of_getElem? (i := 29) rfl)) rfl⟩
theorem mf_X5_stepBeat : MFs yX5_stepBeat cX5_stepBeat 5 none 2 := ⟨gtb_in (tb3 (List.mem_of_getElem? (i := 34) rfl)) rfl, gtb_in (tb1 (List.mem_of_getElem? (i := 1) rfl)) rfl, ⟨by decide +kernel, by decide +kernel⟩, by decide +kernel⟩
theorem mv_X5_stepBeat : MFv yX5_stepBeat := ⟨gtb_in (tb3 (List.mem_of_getElem? (i := 33) rfl)) rfl, gtb_in (List.mem_append_left _ (List.mem_of_getElem? (i := 16) rfl)) rfl⟩
theorem mf_X1_roundStarting : MFs yX1_roundStarting cX1_roundStarting 4 (some .int) 2 := ⟨gtb_in (tb3 (List.mem_of_getElem? (i := 38) rfl)) rfl, gtb_in (tb1 (List.mem_of_getElem? (i := 5) rfl)) rfl, ⟨by decide +kernel, by decide +kernel⟩, by decide +kernel⟩
theorem mv_X1_roundStarting : MFv yX1_roundStarting := ⟨gtb_in (tb3 (List.mem_of_getElem? (i := 36) rfl)) rfl, gtb_in (tb3 (List.mem_of_getElem? (i := 37) rfl)) rfl⟩
theorem mf_X5_stepped : MFs yX5_stepped cX5_stepped 3 (some .long) 2 := ⟨gtb_in (tb3 (List.mem_of_getElem? (i := 43) rfl)) rfl, gtb_in (tb1 (List.mem_of_getElem? (i := 1) rfl)) rfl, ⟨by decide +kernel, by decide +kernel⟩, by decide +kernel⟩
theorem mv_X5_stepped : MFv yX5_stepped := ⟨gtb_in (tb3 (List.mem_of_getElem? (i := 41) rfl)) rfl, gtb_in (tb3 (List.mem_of_getElem? (i := 42) rfl)) rfl⟩
theorem mf_X5_works : MFs yX5_works cX5_works 3 (some .int) 2 := ⟨gtb_in (tb3 (List.mem_of_getElem? (i := 48) rfl)) rfl, gtb_in (tb1 (List.mem_of_getElem? (i := 1) rfl)) rfl, ⟨by decide +kernel, by decide +kernel⟩, by decide +kernel⟩
theorem mv_X5_works : MFv yX5_works := ⟨gtb_in (tb3 (List.mem_of_getElem? (i := 46) rfl)) rfl, gtb_in (tb3 (List.mem_of_getElem? (i := 47) rfl)) rfl⟩
theorem mf_X1_actStarting : MFs yX1_actStarting cX1_actStarting 4 (some .int) 2 := ⟨gtb_in (tb3 (List.mem_of_getElem? (i := 52) rfl)) rfl, gtb_in (tb1 (List.mem_of_getElem? (i := 5) rfl)) rfl, ⟨by decide +kernel, by decide +kernel⟩, by decide +kernel⟩
theorem mv_X1_actStarting : MFv yX1_actStarting := ⟨gtb_in (tb3 (List.mem_of_getElem? (i := 50) rfl)) rfl, gtb_in (tb3 (List.mem_of_getElem? (i := 51) rfl)) rfl⟩
theorem mf_X5_bound : MFs yX5_bound cX5_bound 2 (some .int) 1 := ⟨gtb_in (tb3 (List.mem_of_getElem? (i := 57) rfl)) rfl, gtb_in (tb1 (List.mem_of_getElem? (i := 1) rfl)) rfl, ⟨by decide +kernel, by decide +kernel⟩, by decide +kernel⟩
theorem mv_X5_bound : MFv yX5_bound := ⟨gtb_in (tb3 (List.mem_of_getElem? (i := 55) rfl)) rfl, gtb_in (tb3 (List.mem_of_getElem? (i := 56) rfl)) rfl⟩
theorem mf_X5_placesBound : MFs yX5_placesBound cX5_placesBound 5 (some .int) 0 := ⟨gtb_in (tb3 (List.mem_of_getElem? (i := 61) rfl)) rfl, gtb_in (tb1 (List.mem_of_getElem? (i := 1) rfl)) rfl, ⟨by decide +kernel, by decide +kernel⟩, by decide +kernel⟩
theorem mv_X5_placesBound : MFv yX5_placesBound := ⟨gtb_in (tb3 (List.mem_of_getElem? (i := 60) rfl)) rfl, gtb_in (List.mem_append_left _ (List.mem_of_getElem? (i := 17) rfl)) rfl⟩
theorem mf_X2_products : MFs yX2_products cX2_products 3 (some .int) 0 := ⟨gtb_in (tb3 (List.mem_of_getElem? (i := 65) rfl)) rfl, gtb_in (tb1 (List.mem_of_getElem? (i := 2) rfl)) rfl, ⟨by decide +kernel, by decide +kernel⟩, by decide +kernel⟩
theorem mv_X2_products : MFv yX2_products := ⟨gtb_in (tb3 (List.mem_of_getElem? (i := 63) rfl)) rfl, gtb_in (tb3 (List.mem_of_getElem? (i := 64) rfl)) rfl⟩
theorem mf_X0_unbroken : MFs yX0_unbroken cX0_unbroken 3 (some .int) 0 := ⟨gtb_in (tb3 (List.mem_of_getElem? (i := 69) rfl)) rfl, gtb_in (tb1 (List.mem_of_getElem? (i := 3) rfl)) rfl, ⟨by decide +kernel, by decide +kernel⟩, by decide +kernel⟩
theorem mv_X0_unbroken : MFv yX0_unbroken := ⟨gtb_in (tb3 (List.mem_of_getElem? (i := 67) rfl)) rfl, gtb_in (tb3 (List.mem_of_getElem? (i := 68) rfl)) rfl⟩
theorem mf_X0_unbrokenMultiplying : MFs yX0_unbrokenMultiplying cX0_unbrokenMultiplying 3 (some .int) 0 := ⟨gtb_in (tb3 (List.mem_of_getElem? (i := 73) rfl)) rfl, gtb_in (tb1 (List.mem_of_getElem? (i := 3) rfl)) rfl, ⟨by decide +kernel, by decide +kernel⟩, by decide +kernel⟩
theorem mv_X0_unbrokenMultiplying : MFv yX0_unbrokenMultiplying := ⟨gtb_in (tb3 (List.mem_of_getElem? (i := 71) rfl)) rfl, gtb_in (tb3 (List.mem_of_getElem? (i := 72) rfl)) rfl⟩
theorem mf_X5_cutUp : MFs yX5_cutUp cX5_cutUp 2 (some .int) 2 := ⟨gtb_in (tb3 (List.mem_of_getElem? (i := 77) rfl)) rfl, gtb_in (tb1 (List.mem_of_getElem? (i := 1) rfl)) rfl, ⟨by decide +kernel, by decide +kernel⟩, by decide +kernel⟩
theorem ms_X5_cutUp : Cond.static yX5_cutUp ∈ gtb := gtb_in (tb3 (List.mem_of_getElem? (i := 76) rfl)) rfl
theorem mf_J9_floorDiv_7cf53 : MFs yJ9_floorDiv_7cf53 cJ9_floorDiv_7cf53 3 (some .int) 2 := ⟨gtb_in (tb3 (List.mem_of_getElem? (i := 80) rfl)) rfl, gtb_in (tb1 (List.mem_of_getElem? (i := 4) rfl)) rfl, ⟨by decide +kernel, by decide +kernel⟩, by decide +kernel⟩
theorem ms_J9_floorDiv_7cf53 : Cond.static yJ9_floorDiv_7cf53 ∈ gtb := gtb_in (tb3 (List.mem_of_getElem? (i := 79) rfl)) rfl
theorem mf_X2_ringsBound : MFs yX2_ringsBound cX2_ringsBound 2 (some .int) 0 := ⟨gtb_in (tb3 (List.mem_of_getElem? (i := 85) rfl)) rfl, gtb_in (tb1 (List.mem_of_getElem? (i := 2) rfl)) rfl, ⟨by decide +kernel, by decide +kernel⟩, by decide +kernel⟩
theorem mv_X2_ringsBound : MFv yX2_ringsBound := ⟨gtb_in (tb3 (List.mem_of_getElem? (i := 83) rfl)) rfl, gtb_in (tb3 (List.mem_of_getElem? (i := 84) rfl)) rfl⟩
theorem mf_X2_ringsAllow : MFs yX2_ringsAllow cX2_ringsAllow 3 (some .boolean) 1 := ⟨gtb_in (tb3 (List.mem_of_getElem? (i := 89) rfl)) rfl, gtb_in (tb1 (List.mem_of_getElem? (i := 2) rfl)) rfl, ⟨by decide +kernel, by decide +kernel⟩, by decide +kernel⟩
theorem mv_X2_ringsAllow : MFv yX2_ringsAllow := ⟨gtb_in (tb3 (List.mem_of_getElem? (i := 88) rfl)) rfl, gtb_in (List.mem_append_left _ (List.mem_of_getElem? (i := 18) rfl)) rfl⟩
theorem mf_X2_delaysGrow : MFs yX2_delaysGrow cX2_delaysGrow 7 (some .boolean) 1 := ⟨gtb_in (tb3 (List.mem_of_getElem? (i := 94) rfl)) rfl, gtb_in (tb1 (List.mem_of_getElem? (i := 2) rfl)) rfl, ⟨by decide +kernel, by decide +kernel⟩, by decide +kernel⟩
theorem mv_X2_delaysGrow : MFv yX2_delaysGrow := ⟨gtb_in (tb3 (List.mem_of_getElem? (i := 93) rfl)) rfl, gtb_in (List.mem_append_left _ (List.mem_of_getElem? (i := 19) rfl)) rfl⟩
theorem mf_X5_find : MFs yX5_find cX5_find 6 (some .int) 0 := ⟨gtb_in (tb3 (List.mem_of_getElem? (i := 99) rfl)) rfl, gtb_in (tb1 (List.mem_of_getElem? (i := 1) rfl)) rfl, ⟨by decide +kernel, by decide +kernel⟩, by decide +kernel⟩
theorem mv_X5_find : MFv yX5_find := ⟨gtb_in (tb3 (List.mem_of_getElem? (i := 97) rfl)) rfl, gtb_in (tb3 (List.mem_of_getElem? (i := 98) rfl)) rfl⟩
theorem mf_X3_run : MFs yX3_run cX3_run 5 (some .int) 1 := ⟨gtb_in (tb3 (List.mem_of_getElem? (i := 103) rfl)) rfl, gtb_in (tb1 (List.mem_of_getElem? (i := 6) rfl)) rfl, ⟨by decide +kernel, by decide +kernel⟩, by decide +kernel⟩
theorem mv_X3_run : MFv yX3_run := ⟨gtb_in (tb3 (List.mem_of_getElem? (i := 101) rfl)) rfl, gtb_in (tb3 (List.mem_of_getElem? (i := 102) rfl)) rfl⟩
theorem mf_X3_goesNext : MFs yX3_goesNext cX3_goesNext 2 (some .boolean) 1 := ⟨gtb_in (tb3 (List.mem_of_getElem? (i := 110) rfl)) rfl, gtb_in (tb1 (List.mem_of_getElem? (i := 6) rfl)) rfl, ⟨by decide +kernel, by decide +kernel⟩, by decide +kernel⟩
theorem mv_X3_goesNext : MFv yX3_goesNext := ⟨gtb_in (tb3 (List.mem_of_getElem? (i := 109) rfl)) rfl, gtb_in (List.mem_append_left _ (List.mem_of_getElem? (i := 20) rfl)) rfl⟩
theorem mf_X3_isFree : MFs yX3_isFree cX3_isFree 3 (some .boolean) 1 := ⟨gtb_in (tb3 (List.mem_of_getElem? (i := 114) rfl)) rfl, gtb_in (tb1 (List.mem_of_getElem? (i := 6) rfl)) rfl, ⟨by decide +kernel, by decide +kernel⟩, by decide +kernel⟩
theorem mv_X3_isFree : MFv yX3_isFree := ⟨gtb_in (tb3 (List.mem_of_getElem? (i := 113) rfl)) rfl, gtb_in (List.mem_append_left _ (List.mem_of_getElem? (i := 21) rfl)) rfl⟩
theorem mf_X3_measureGaps : MFs yX3_measureGaps cX3_measureGaps 7 (some .boolean) 1 := ⟨gtb_in (tb3 (List.mem_of_getElem? (i := 121) rfl)) rfl, gtb_in (tb1 (List.mem_of_getElem? (i := 6) rfl)) rfl, ⟨by decide +kernel, by decide +kernel⟩, by decide +kernel⟩
theorem mv_X3_measureGaps : MFv yX3_measureGaps := ⟨gtb_in (tb3 (List.mem_of_getElem? (i := 120) rfl)) rfl, gtb_in (List.mem_append_left _ (List.mem_of_getElem? (i := 22) rfl)) rfl⟩
theorem mf_X3_turnsSettle : MFs yX3_turnsSettle cX3_turnsSettle 8 (some .boolean) 1 := ⟨gtb_in (tb3 (List.mem_of_getElem? (i := 130) rfl)) rfl, gtb_in (tb1 (List.mem_of_getElem? (i := 6) rfl)) rfl, ⟨by decide +kernel, by decide +kernel⟩, by decide +kernel⟩
theorem mv_X3_turnsSettle : MFv yX3_turnsSettle := ⟨gtb_in (tb3 (List.mem_of_getElem? (i := 129) rfl)) rfl, gtb_in (List.mem_append_left _ (List.mem_of_getElem? (i := 23) rfl)) rfl⟩
theorem mf_X3_beginRow : MFs yX3_beginRow cX3_beginRow 5 none 1 := ⟨gtb_in (tb3 (List.mem_of_getElem? (i := 134) rfl)) rfl, gtb_in (tb1 (List.mem_of_getElem? (i := 6) rfl)) rfl, ⟨by decide +kernel, by decide +kernel⟩, by decide +kernel⟩
theorem mv_X3_beginRow : MFv yX3_beginRow := ⟨gtb_in (tb3 (List.mem_of_getElem? (i := 133) rfl)) rfl, gtb_in (List.mem_append_left _ (List.mem_of_getElem? (i := 24) rfl)) rfl⟩
theorem mf_X3_triesMade : MFs yX3_triesMade cX3_triesMade 1 (some .int) 0 := ⟨gtb_in (tb3 (List.mem_of_getElem? (i := 142) rfl)) rfl, gtb_in (tb1 (List.mem_of_getElem? (i := 6) rfl)) rfl, ⟨by decide +kernel, by decide +kernel⟩, by decide +kernel⟩
theorem mv_X3_triesMade : MFv yX3_triesMade := ⟨gtb_in (tb3 (List.mem_of_getElem? (i := 140) rfl)) rfl, gtb_in (tb3 (List.mem_of_getElem? (i := 141) rfl)) rfl⟩
theorem mf_X5_takeFound : MFs yX5_takeFound cX5_takeFound 3 none 1 := ⟨gtb_in (tb3 (List.mem_of_getElem? (i := 146) rfl)) rfl, gtb_in (tb1 (List.mem_of_getElem? (i := 1) rfl)) rfl, ⟨by decide +kernel, by decide +kernel⟩, by decide +kernel⟩
theorem mv_X5_takeFound : MFv yX5_takeFound := ⟨gtb_in (tb3 (List.mem_of_getElem? (i := 145) rfl)) rfl, gtb_in (List.mem_append_left _ (List.mem_of_getElem? (i := 25) rfl)) rfl⟩
theorem mf_X3_cellOf : MFs yX3_cellOf cX3_cellOf 2 (some .int) 1 := ⟨gtb_in (tb3 (List.mem_of_getElem? (i := 150) rfl)) rfl, gtb_in (tb1 (List.mem_of_getElem? (i := 6) rfl)) rfl, ⟨by decide +kernel, by decide +kernel⟩, by decide +kernel⟩
theorem mv_X3_cellOf : MFv yX3_cellOf := ⟨gtb_in (tb3 (List.mem_of_getElem? (i := 148) rfl)) rfl, gtb_in (tb3 (List.mem_of_getElem? (i := 149) rfl)) rfl⟩
theorem mf_X3_startOf : MFs yX3_startOf cX3_startOf 2 (some .int) 1 := ⟨gtb_in (tb3 (List.mem_of_getElem? (i := 154) rfl)) rfl, gtb_in (tb1 (List.mem_of_getElem? (i := 6) rfl)) rfl, ⟨by decide +kernel, by decide +kernel⟩, by decide +kernel⟩
theorem mv_X3_startOf : MFv yX3_startOf := ⟨gtb_in (tb3 (List.mem_of_getElem? (i := 152) rfl)) rfl, gtb_in (tb3 (List.mem_of_getElem? (i := 153) rfl)) rfl⟩
theorem mf_X5_tries : MFs yX5_tries cX5_tries 1 (some .int) 0 := ⟨gtb_in (tb3 (List.mem_of_getElem? (i := 159) rfl)) rfl, gtb_in (tb1 (List.mem_of_getElem? (i := 1) rfl)) rfl, ⟨by decide +kernel, by decide +kernel⟩, by decide +kernel⟩
theorem mv_X5_tries : MFv yX5_tries := ⟨gtb_in (tb3 (List.mem_of_getElem? (i := 157) rfl)) rfl, gtb_in (tb3 (List.mem_of_getElem? (i := 158) rfl)) rfl⟩
theorem mf_X5_told : MFs yX5_told cX5_told 2 (some .int) 1 := ⟨gtb_in (tb3 (List.mem_of_getElem? (i := 163) rfl)) rfl, gtb_in (tb1 (List.mem_of_getElem? (i := 1) rfl)) rfl, ⟨by decide +kernel, by decide +kernel⟩, by decide +kernel⟩
theorem mv_X5_told : MFv yX5_told := ⟨gtb_in (tb3 (List.mem_of_getElem? (i := 161) rfl)) rfl, gtb_in (tb3 (List.mem_of_getElem? (i := 162) rfl)) rfl⟩
theorem mf_X0_rows : MFs yX0_rows cX0_rows 1 (some .int) 0 := ⟨gtb_in (tb3 (List.mem_of_getElem? (i := 167) rfl)) rfl, gtb_in (tb1 (List.mem_of_getElem? (i := 3) rfl)) rfl, ⟨by decide +kernel, by decide +kernel⟩, by decide +kernel⟩
theorem mv_X0_rows : MFv yX0_rows := ⟨gtb_in (tb3 (List.mem_of_getElem? (i := 165) rfl)) rfl, gtb_in (tb3 (List.mem_of_getElem? (i := 166) rfl)) rfl⟩
theorem mf_X0_columns : MFs yX0_columns cX0_columns 1 (some .int) 0 := ⟨gtb_in (tb3 (List.mem_of_getElem? (i := 171) rfl)) rfl, gtb_in (tb1 (List.mem_of_getElem? (i := 3) rfl)) rfl, ⟨by decide +kernel, by decide +kernel⟩, by decide +kernel⟩
theorem mv_X0_columns : MFv yX0_columns := ⟨gtb_in (tb3 (List.mem_of_getElem? (i := 169) rfl)) rfl, gtb_in (tb3 (List.mem_of_getElem? (i := 170) rfl)) rfl⟩
theorem mf_X1_beat : MFs yX1_beat cX1_beat 1 (some .int) 0 := ⟨gtb_in (tb3 (List.mem_of_getElem? (i := 175) rfl)) rfl, gtb_in (tb1 (List.mem_of_getElem? (i := 5) rfl)) rfl, ⟨by decide +kernel, by decide +kernel⟩, by decide +kernel⟩
theorem mv_X1_beat : MFv yX1_beat := ⟨gtb_in (tb3 (List.mem_of_getElem? (i := 173) rfl)) rfl, gtb_in (tb3 (List.mem_of_getElem? (i := 174) rfl)) rfl⟩
theorem mf_X6_init : MFs yX6_init cX6_init 1 none 0 := ⟨gtb_in (tb3 (List.mem_of_getElem? (i := 180) rfl)) rfl, gtb_in (tb1 (List.mem_of_getElem? (i := 8) rfl)) rfl, ⟨by decide +kernel, by decide +kernel⟩, by decide +kernel⟩
theorem mi_X6_init : Cond.instanceMethod yX6_init ∈ gtb := gtb_in (tb3 (List.mem_of_getElem? (i := 179) rfl)) rfl
theorem mf_X6_whole : MFs yX6_whole cX6_whole 2 none 0 := ⟨gtb_in (tb3 (List.mem_of_getElem? (i := 185) rfl)) rfl, gtb_in (tb1 (List.mem_of_getElem? (i := 8) rfl)) rfl, ⟨by decide +kernel, by decide +kernel⟩, by decide +kernel⟩
theorem mv_X6_whole : MFv yX6_whole := ⟨gtb_in (tb3 (List.mem_of_getElem? (i := 184) rfl)) rfl, gtb_in (List.mem_append_left _ (List.mem_of_getElem? (i := 26) rfl)) rfl⟩
theorem mf_X6_input : MFs yX6_input cX6_input 3 (some .int) 2 := ⟨gtb_in (tb4 (List.mem_of_getElem? (i := 22) rfl)) rfl, gtb_in (tb1 (List.mem_of_getElem? (i := 8) rfl)) rfl, ⟨by decide +kernel, by decide +kernel⟩, by decide +kernel⟩
theorem mv_X6_input : MFv yX6_input := ⟨gtb_in (tb4 (List.mem_of_getElem? (i := 20) rfl)) rfl, gtb_in (tb4 (List.mem_of_getElem? (i := 21) rfl)) rfl⟩
theorem mf_X6_in : MFs yX6_in cX6_in 6 (some .boolean) 3 := ⟨gtb_in (tb4 (List.mem_of_getElem? (i := 27) rfl)) rfl, gtb_in (tb1 (List.mem_of_getElem? (i := 8) rfl)) rfl, ⟨by decide +kernel, by decide +kernel⟩, by decide +kernel⟩
theorem ms_X6_in : Cond.static yX6_in ∈ gtb := gtb_in (tb4 (List.mem_of_getElem? (i := 26) rfl)) rfl
theorem mf_X6_enter : MFs yX6_enter cX6_enter 2 (some .int) 1 := ⟨gtb_in (tb4 (List.mem_of_getElem? (i := 31) rfl)) rfl, gtb_in (tb1 (List.mem_of_getElem? (i := 8) rfl)) rfl, ⟨by decide +kernel, by decide +kernel⟩, by decide +kernel⟩
theorem mv_X6_enter : MFv yX6_enter := ⟨gtb_in (tb4 (List.mem_of_getElem? (i := 30) rfl)) rfl, gtb_in (List.mem_append_left _ (List.mem_of_getElem? (i := 27) rfl)) rfl⟩
theorem mf_X6_act : MFs yX6_act cX6_act 6 (some .int) 5 := ⟨gtb_in (tb4 (List.mem_of_getElem? (i := 35) rfl)) rfl, gtb_in (tb1 (List.mem_of_getElem? (i := 8) rfl)) rfl, ⟨by decide +kernel, by decide +kernel⟩, by decide +kernel⟩
theorem mv_X6_act : MFv yX6_act := ⟨gtb_in (tb4 (List.mem_of_getElem? (i := 33) rfl)) rfl, gtb_in (tb4 (List.mem_of_getElem? (i := 34) rfl)) rfl⟩
theorem mf_X6_first : MFs yX6_first cX6_first 3 (some .int) 1 := ⟨gtb_in (tb4 (List.mem_of_getElem? (i := 42) rfl)) rfl, gtb_in (tb1 (List.mem_of_getElem? (i := 8) rfl)) rfl, ⟨by decide +kernel, by decide +kernel⟩, by decide +kernel⟩
theorem mv_X6_first : MFv yX6_first := ⟨gtb_in (tb4 (List.mem_of_getElem? (i := 40) rfl)) rfl, gtb_in (tb4 (List.mem_of_getElem? (i := 41) rfl)) rfl⟩
theorem mf_X6_clear : MFs yX6_clear cX6_clear 2 (some .int) 0 := ⟨gtb_in (tb4 (List.mem_of_getElem? (i := 46) rfl)) rfl, gtb_in (tb1 (List.mem_of_getElem? (i := 8) rfl)) rfl, ⟨by decide +kernel, by decide +kernel⟩, by decide +kernel⟩
theorem mv_X6_clear : MFv yX6_clear := ⟨gtb_in (tb4 (List.mem_of_getElem? (i := 44) rfl)) rfl, gtb_in (tb4 (List.mem_of_getElem? (i := 45) rfl)) rfl⟩
theorem mf_X6_sound : MFs yX6_sound cX6_sound 1 (some .int) 0 := ⟨gtb_in (tb4 (List.mem_of_getElem? (i := 50) rfl)) rfl, gtb_in (tb1 (List.mem_of_getElem? (i := 8) rfl)) rfl, ⟨by decide +kernel, by decide +kernel⟩, by decide +kernel⟩
theorem mv_X6_sound : MFv yX6_sound := ⟨gtb_in (tb4 (List.mem_of_getElem? (i := 48) rfl)) rfl, gtb_in (tb4 (List.mem_of_getElem? (i := 49) rfl)) rfl⟩
theorem mf_X6_isSound : MFs yX6_isSound cX6_isSound 4 (some .boolean) 0 := ⟨gtb_in (tb4 (List.mem_of_getElem? (i := 54) rfl)) rfl, gtb_in (tb1 (List.mem_of_getElem? (i := 8) rfl)) rfl, ⟨by decide +kernel, by decide +kernel⟩, by decide +kernel⟩
theorem mv_X6_isSound : MFv yX6_isSound := ⟨gtb_in (tb4 (List.mem_of_getElem? (i := 53) rfl)) rfl, gtb_in (List.mem_append_left _ (List.mem_of_getElem? (i := 28) rfl)) rfl⟩
theorem mf_X6_isAct : MFs yX6_isAct cX6_isAct 2 (some .boolean) 1 := ⟨gtb_in (tb4 (List.mem_of_getElem? (i := 58) rfl)) rfl, gtb_in (tb1 (List.mem_of_getElem? (i := 8) rfl)) rfl, ⟨by decide +kernel, by decide +kernel⟩, by decide +kernel⟩
theorem mv_X6_isAct : MFv yX6_isAct := ⟨gtb_in (tb4 (List.mem_of_getElem? (i := 57) rfl)) rfl, gtb_in (List.mem_append_left _ (List.mem_of_getElem? (i := 29) rfl)) rfl⟩
theorem mf_X6_isReady : MFs yX6_isReady cX6_isReady 4 (some .boolean) 1 := ⟨gtb_in (tb4 (List.mem_of_getElem? (i := 62) rfl)) rfl, gtb_in (tb1 (List.mem_of_getElem? (i := 8) rfl)) rfl, ⟨by decide +kernel, by decide +kernel⟩, by decide +kernel⟩
theorem mv_X6_isReady : MFv yX6_isReady := ⟨gtb_in (tb4 (List.mem_of_getElem? (i := 61) rfl)) rfl, gtb_in (List.mem_append_left _ (List.mem_of_getElem? (i := 30) rfl)) rfl⟩
theorem mf_X6_plain : MFs yX6_plain cX6_plain 3 (some .long) 2 := ⟨gtb_in (tb4 (List.mem_of_getElem? (i := 66) rfl)) rfl, gtb_in (tb1 (List.mem_of_getElem? (i := 8) rfl)) rfl, ⟨by decide +kernel, by decide +kernel⟩, by decide +kernel⟩
theorem mv_X6_plain : MFv yX6_plain := ⟨gtb_in (tb4 (List.mem_of_getElem? (i := 64) rfl)) rfl, gtb_in (tb4 (List.mem_of_getElem? (i := 65) rfl)) rfl⟩
theorem mf_X6_workTo : MFs yX6_workTo cX6_workTo 5 none 1 := ⟨gtb_in (tb4 (List.mem_of_getElem? (i := 73) rfl)) rfl, gtb_in (tb1 (List.mem_of_getElem? (i := 8) rfl)) rfl, ⟨by decide +kernel, by decide +kernel⟩, by decide +kernel⟩
theorem mv_X6_workTo : MFv yX6_workTo := ⟨gtb_in (tb4 (List.mem_of_getElem? (i := 72) rfl)) rfl, gtb_in (List.mem_append_left _ (List.mem_of_getElem? (i := 31) rfl)) rfl⟩
theorem mf_X6_made : MFs yX6_made cX6_made 5 (some .int) 2 := ⟨gtb_in (tb4 (List.mem_of_getElem? (i := 77) rfl)) rfl, gtb_in (tb1 (List.mem_of_getElem? (i := 8) rfl)) rfl, ⟨by decide +kernel, by decide +kernel⟩, by decide +kernel⟩
theorem mv_X6_made : MFv yX6_made := ⟨gtb_in (tb4 (List.mem_of_getElem? (i := 76) rfl)) rfl, gtb_in (List.mem_append_left _ (List.mem_of_getElem? (i := 32) rfl)) rfl⟩
theorem mf_X6_valueOf : MFs yX6_valueOf cX6_valueOf 4 (some .int) 2 := ⟨gtb_in (tb4 (List.mem_of_getElem? (i := 81) rfl)) rfl, gtb_in (tb1 (List.mem_of_getElem? (i := 8) rfl)) rfl, ⟨by decide +kernel, by decide +kernel⟩, by decide +kernel⟩
theorem mv_X6_valueOf : MFv yX6_valueOf := ⟨gtb_in (tb4 (List.mem_of_getElem? (i := 80) rfl)) rfl, gtb_in (List.mem_append_left _ (List.mem_of_getElem? (i := 33) rfl)) rfl⟩
theorem mf_X6_about : MFs yX6_about cX6_about 4 (some .int) 2 := ⟨gtb_in (tb4 (List.mem_of_getElem? (i := 85) rfl)) rfl, gtb_in (tb1 (List.mem_of_getElem? (i := 8) rfl)) rfl, ⟨by decide +kernel, by decide +kernel⟩, by decide +kernel⟩
theorem mv_X6_about : MFv yX6_about := ⟨gtb_in (tb4 (List.mem_of_getElem? (i := 83) rfl)) rfl, gtb_in (tb4 (List.mem_of_getElem? (i := 84) rfl)) rfl⟩
theorem mf_X6_lengthOf : MFs yX6_lengthOf cX6_lengthOf 2 (some .int) 1 := ⟨gtb_in (tb4 (List.mem_of_getElem? (i := 89) rfl)) rfl, gtb_in (tb1 (List.mem_of_getElem? (i := 8) rfl)) rfl, ⟨by decide +kernel, by decide +kernel⟩, by decide +kernel⟩
theorem mv_X6_lengthOf : MFv yX6_lengthOf := ⟨gtb_in (tb4 (List.mem_of_getElem? (i := 88) rfl)) rfl, gtb_in (List.mem_append_left _ (List.mem_of_getElem? (i := 34) rfl)) rfl⟩
theorem mf_X6_board : MFs yX6_board cX6_board 3 (some .int) 2 := ⟨gtb_in (tb4 (List.mem_of_getElem? (i := 93) rfl)) rfl, gtb_in (tb1 (List.mem_of_getElem? (i := 8) rfl)) rfl, ⟨by decide +kernel, by decide +kernel⟩, by decide +kernel⟩
theorem mv_X6_board : MFv yX6_board := ⟨gtb_in (tb4 (List.mem_of_getElem? (i := 91) rfl)) rfl, gtb_in (tb4 (List.mem_of_getElem? (i := 92) rfl)) rfl⟩
theorem mf_X6_cells : MFs yX6_cells cX6_cells 1 (some .int) 0 := ⟨gtb_in (tb4 (List.mem_of_getElem? (i := 97) rfl)) rfl, gtb_in (tb1 (List.mem_of_getElem? (i := 8) rfl)) rfl, ⟨by decide +kernel, by decide +kernel⟩, by decide +kernel⟩
theorem mv_X6_cells : MFv yX6_cells := ⟨gtb_in (tb4 (List.mem_of_getElem? (i := 96) rfl)) rfl, gtb_in (List.mem_append_left _ (List.mem_of_getElem? (i := 35) rfl)) rfl⟩
theorem mf_X6_breaks : MFs yX6_breaks cX6_breaks 4 (some .int) 2 := ⟨gtb_in (tb4 (List.mem_of_getElem? (i := 101) rfl)) rfl, gtb_in (tb1 (List.mem_of_getElem? (i := 8) rfl)) rfl, ⟨by decide +kernel, by decide +kernel⟩, by decide +kernel⟩
theorem mv_X6_breaks : MFv yX6_breaks := ⟨gtb_in (tb4 (List.mem_of_getElem? (i := 99) rfl)) rfl, gtb_in (tb4 (List.mem_of_getElem? (i := 100) rfl)) rfl⟩
theorem mf_X6_isCell : MFs yX6_isCell cX6_isCell 2 (some .boolean) 1 := ⟨gtb_in (tb4 (List.mem_of_getElem? (i := 105) rfl)) rfl, gtb_in (tb1 (List.mem_of_getElem? (i := 8) rfl)) rfl, ⟨by decide +kernel, by decide +kernel⟩, by decide +kernel⟩
theorem mv_X6_isCell : MFv yX6_isCell := ⟨gtb_in (tb4 (List.mem_of_getElem? (i := 104) rfl)) rfl, gtb_in (List.mem_append_left _ (List.mem_of_getElem? (i := 36) rfl)) rfl⟩
theorem mf_X6_multiplies : MFs yX6_multiplies cX6_multiplies 4 (some .int) 2 := ⟨gtb_in (tb4 (List.mem_of_getElem? (i := 109) rfl)) rfl, gtb_in (tb1 (List.mem_of_getElem? (i := 8) rfl)) rfl, ⟨by decide +kernel, by decide +kernel⟩, by decide +kernel⟩
theorem mv_X6_multiplies : MFv yX6_multiplies := ⟨gtb_in (tb4 (List.mem_of_getElem? (i := 107) rfl)) rfl, gtb_in (tb4 (List.mem_of_getElem? (i := 108) rfl)) rfl⟩
theorem mf_X6_way : MFs yX6_way cX6_way 4 (some .int) 2 := ⟨gtb_in (tb4 (List.mem_of_getElem? (i := 113) rfl)) rfl, gtb_in (tb1 (List.mem_of_getElem? (i := 8) rfl)) rfl, ⟨by decide +kernel, by decide +kernel⟩, by decide +kernel⟩
theorem mv_X6_way : MFv yX6_way := ⟨gtb_in (tb4 (List.mem_of_getElem? (i := 111) rfl)) rfl, gtb_in (tb4 (List.mem_of_getElem? (i := 112) rfl)) rfl⟩
theorem mf_X6_wayOf : MFs yX6_wayOf cX6_wayOf 6 (some .int) 2 := ⟨gtb_in (tb4 (List.mem_of_getElem? (i := 117) rfl)) rfl, gtb_in (tb1 (List.mem_of_getElem? (i := 8) rfl)) rfl, ⟨by decide +kernel, by decide +kernel⟩, by decide +kernel⟩
theorem mv_X6_wayOf : MFv yX6_wayOf := ⟨gtb_in (tb4 (List.mem_of_getElem? (i := 116) rfl)) rfl, gtb_in (List.mem_append_left _ (List.mem_of_getElem? (i := 37) rfl)) rfl⟩
theorem mf_X6_areBeside : MFs yX6_areBeside cX6_areBeside 5 (some .boolean) 2 := ⟨gtb_in (tb4 (List.mem_of_getElem? (i := 121) rfl)) rfl, gtb_in (tb1 (List.mem_of_getElem? (i := 8) rfl)) rfl, ⟨by decide +kernel, by decide +kernel⟩, by decide +kernel⟩
theorem mv_X6_areBeside : MFv yX6_areBeside := ⟨gtb_in (tb4 (List.mem_of_getElem? (i := 120) rfl)) rfl, gtb_in (List.mem_append_left _ (List.mem_of_getElem? (i := 38) rfl)) rfl⟩
theorem mf_X6_plan : MFs yX6_plan cX6_plan 3 (some .int) 1 := ⟨gtb_in (tb4 (List.mem_of_getElem? (i := 125) rfl)) rfl, gtb_in (tb1 (List.mem_of_getElem? (i := 8) rfl)) rfl, ⟨by decide +kernel, by decide +kernel⟩, by decide +kernel⟩
theorem mv_X6_plan : MFv yX6_plan := ⟨gtb_in (tb4 (List.mem_of_getElem? (i := 123) rfl)) rfl, gtb_in (tb4 (List.mem_of_getElem? (i := 124) rfl)) rfl⟩
theorem mf_X6_lay : MFs yX6_lay cX6_lay 4 (some .int) 3 := ⟨gtb_in (tb4 (List.mem_of_getElem? (i := 130) rfl)) rfl, gtb_in (tb1 (List.mem_of_getElem? (i := 8) rfl)) rfl, ⟨by decide +kernel, by decide +kernel⟩, by decide +kernel⟩
theorem mv_X6_lay : MFv yX6_lay := ⟨gtb_in (tb4 (List.mem_of_getElem? (i := 128) rfl)) rfl, gtb_in (tb4 (List.mem_of_getElem? (i := 129) rfl)) rfl⟩
theorem mf_X6_lacks : MFs yX6_lacks cX6_lacks 1 (some .int) 0 := ⟨gtb_in (tb4 (List.mem_of_getElem? (i := 135) rfl)) rfl, gtb_in (tb1 (List.mem_of_getElem? (i := 8) rfl)) rfl, ⟨by decide +kernel, by decide +kernel⟩, by decide +kernel⟩
theorem mv_X6_lacks : MFv yX6_lacks := ⟨gtb_in (tb4 (List.mem_of_getElem? (i := 133) rfl)) rfl, gtb_in (tb4 (List.mem_of_getElem? (i := 134) rfl)) rfl⟩
theorem mf_X6_lacking : MFs yX6_lacking cX6_lacking 3 (some .int) 0 := ⟨gtb_in (tb4 (List.mem_of_getElem? (i := 139) rfl)) rfl, gtb_in (tb1 (List.mem_of_getElem? (i := 8) rfl)) rfl, ⟨by decide +kernel, by decide +kernel⟩, by decide +kernel⟩
theorem mv_X6_lacking : MFv yX6_lacking := ⟨gtb_in (tb4 (List.mem_of_getElem? (i := 138) rfl)) rfl, gtb_in (List.mem_append_left _ (List.mem_of_getElem? (i := 39) rfl)) rfl⟩
theorem mf_X6_isLate : MFs yX6_isLate cX6_isLate 5 (some .boolean) 1 := ⟨gtb_in (tb4 (List.mem_of_getElem? (i := 143) rfl)) rfl, gtb_in (tb1 (List.mem_of_getElem? (i := 8) rfl)) rfl, ⟨by decide +kernel, by decide +kernel⟩, by decide +kernel⟩
theorem mv_X6_isLate : MFv yX6_isLate := ⟨gtb_in (tb4 (List.mem_of_getElem? (i := 142) rfl)) rfl, gtb_in (List.mem_append_left _ (List.mem_of_getElem? (i := 40) rfl)) rfl⟩
theorem mf_X6_laid : MFs yX6_laid cX6_laid 3 (some .int) 2 := ⟨gtb_in (tb4 (List.mem_of_getElem? (i := 147) rfl)) rfl, gtb_in (tb1 (List.mem_of_getElem? (i := 8) rfl)) rfl, ⟨by decide +kernel, by decide +kernel⟩, by decide +kernel⟩
theorem mv_X6_laid : MFv yX6_laid := ⟨gtb_in (tb4 (List.mem_of_getElem? (i := 145) rfl)) rfl, gtb_in (tb4 (List.mem_of_getElem? (i := 146) rfl)) rfl⟩
theorem mf_X6_kept : MFs yX6_kept cX6_kept 7 (some .int) 1 := ⟨gtb_in (tb4 (List.mem_of_getElem? (i := 151) rfl)) rfl, gtb_in (tb1 (List.mem_of_getElem? (i := 8) rfl)) rfl, ⟨by decide +kernel, by decide +kernel⟩, by decide +kernel⟩
theorem mv_X6_kept : MFv yX6_kept := ⟨gtb_in (tb4 (List.mem_of_getElem? (i := 149) rfl)) rfl, gtb_in (tb4 (List.mem_of_getElem? (i := 150) rfl)) rfl⟩
theorem mf_X6_whyNot : MFs yX6_whyNot cX6_whyNot 1 (some .int) 0 := ⟨gtb_in (tb4 (List.mem_of_getElem? (i := 155) rfl)) rfl, gtb_in (tb1 (List.mem_of_getElem? (i := 8) rfl)) rfl, ⟨by decide +kernel, by decide +kernel⟩, by decide +kernel⟩
theorem mv_X6_whyNot : MFv yX6_whyNot := ⟨gtb_in (tb4 (List.mem_of_getElem? (i := 154) rfl)) rfl, gtb_in (List.mem_append_left _ (List.mem_of_getElem? (i := 41) rfl)) rfl⟩
theorem mf_X6_step : MFs yX6_step cX6_step 6 (some .int) 1 := ⟨gtb_in (tb4 (List.mem_of_getElem? (i := 159) rfl)) rfl, gtb_in (tb1 (List.mem_of_getElem? (i := 8) rfl)) rfl, ⟨by decide +kernel, by decide +kernel⟩, by decide +kernel⟩
theorem mv_X6_step : MFv yX6_step := ⟨gtb_in (tb4 (List.mem_of_getElem? (i := 157) rfl)) rfl, gtb_in (tb4 (List.mem_of_getElem? (i := 158) rfl)) rfl⟩
theorem mf_X6_stepped : MFs yX6_stepped cX6_stepped 3 (some .long) 2 := ⟨gtb_in (tb4 (List.mem_of_getElem? (i := 163) rfl)) rfl, gtb_in (tb1 (List.mem_of_getElem? (i := 8) rfl)) rfl, ⟨by decide +kernel, by decide +kernel⟩, by decide +kernel⟩
theorem mv_X6_stepped : MFv yX6_stepped := ⟨gtb_in (tb4 (List.mem_of_getElem? (i := 161) rfl)) rfl, gtb_in (tb4 (List.mem_of_getElem? (i := 162) rfl)) rfl⟩
theorem mf_X6_works : MFs yX6_works cX6_works 5 (some .int) 2 := ⟨gtb_in (tb4 (List.mem_of_getElem? (i := 169) rfl)) rfl, gtb_in (tb1 (List.mem_of_getElem? (i := 8) rfl)) rfl, ⟨by decide +kernel, by decide +kernel⟩, by decide +kernel⟩
theorem mv_X6_works : MFv yX6_works := ⟨gtb_in (tb4 (List.mem_of_getElem? (i := 167) rfl)) rfl, gtb_in (tb4 (List.mem_of_getElem? (i := 168) rfl)) rfl⟩
theorem mf_X6_bound : MFs yX6_bound cX6_bound 2 (some .int) 1 := ⟨gtb_in (tb4 (List.mem_of_getElem? (i := 174) rfl)) rfl, gtb_in (tb1 (List.mem_of_getElem? (i := 8) rfl)) rfl, ⟨by decide +kernel, by decide +kernel⟩, by decide +kernel⟩
theorem mv_X6_bound : MFv yX6_bound := ⟨gtb_in (tb4 (List.mem_of_getElem? (i := 172) rfl)) rfl, gtb_in (tb4 (List.mem_of_getElem? (i := 173) rfl)) rfl⟩
theorem mf_X6_places : MFs yX6_places cX6_places 6 (some .int) 0 := ⟨gtb_in (tb4 (List.mem_of_getElem? (i := 178) rfl)) rfl, gtb_in (tb1 (List.mem_of_getElem? (i := 8) rfl)) rfl, ⟨by decide +kernel, by decide +kernel⟩, by decide +kernel⟩
theorem mv_X6_places : MFv yX6_places := ⟨gtb_in (tb4 (List.mem_of_getElem? (i := 177) rfl)) rfl, gtb_in (List.mem_append_left _ (List.mem_of_getElem? (i := 42) rfl)) rfl⟩
theorem mf_X6_rings : MFs yX6_rings cX6_rings 2 (some .int) 0 := ⟨gtb_in (tb4 (List.mem_of_getElem? (i := 182) rfl)) rfl, gtb_in (tb1 (List.mem_of_getElem? (i := 8) rfl)) rfl, ⟨by decide +kernel, by decide +kernel⟩, by decide +kernel⟩
theorem mv_X6_rings : MFv yX6_rings := ⟨gtb_in (tb4 (List.mem_of_getElem? (i := 181) rfl)) rfl, gtb_in (List.mem_append_left _ (List.mem_of_getElem? (i := 43) rfl)) rfl⟩
theorem mf_X6_ringsHold : MFs yX6_ringsHold cX6_ringsHold 6 (some .boolean) 1 := ⟨gtb_in (tb4 (List.mem_of_getElem? (i := 186) rfl)) rfl, gtb_in (tb1 (List.mem_of_getElem? (i := 8) rfl)) rfl, ⟨by decide +kernel, by decide +kernel⟩, by decide +kernel⟩
theorem mv_X6_ringsHold : MFv yX6_ringsHold := ⟨gtb_in (tb4 (List.mem_of_getElem? (i := 185) rfl)) rfl, gtb_in (List.mem_append_left _ (List.mem_of_getElem? (i := 44) rfl)) rfl⟩
theorem mf_X6_find : MFs yX6_find cX6_find 7 (some .int) 0 := ⟨gtb_in (tb4 (List.mem_of_getElem? (i := 190) rfl)) rfl, gtb_in (tb1 (List.mem_of_getElem? (i := 8) rfl)) rfl, ⟨by decide +kernel, by decide +kernel⟩, by decide +kernel⟩
theorem mv_X6_find : MFv yX6_find := ⟨gtb_in (tb4 (List.mem_of_getElem? (i := 188) rfl)) rfl, gtb_in (tb4 (List.mem_of_getElem? (i := 189) rfl)) rfl⟩
theorem mf_X6_search : MFs yX6_search cX6_search 6 (some .int) 1 := ⟨gtb_in (tb4 (List.mem_of_getElem? (i := 194) rfl)) rfl, gtb_in (tb1 (List.mem_of_getElem? (i := 8) rfl)) rfl, ⟨by decide +kernel, by decide +kernel⟩, by decide +kernel⟩
theorem mv_X6_search : MFv yX6_search := ⟨gtb_in (tb4 (List.mem_of_getElem? (i := 193) rfl)) rfl, gtb_in (List.mem_append_left _ (List.mem_of_getElem? (i := 45) rfl)) rfl⟩
theorem mf_X6_goesAt : MFs yX6_goesAt cX6_goesAt 4 (some .boolean) 2 := ⟨gtb_in (tb4 (List.mem_of_getElem? (i := 198) rfl)) rfl, gtb_in (tb1 (List.mem_of_getElem? (i := 8) rfl)) rfl, ⟨by decide +kernel, by decide +kernel⟩, by decide +kernel⟩
theorem mv_X6_goesAt : MFv yX6_goesAt := ⟨gtb_in (tb4 (List.mem_of_getElem? (i := 197) rfl)) rfl, gtb_in (List.mem_append_left _ (List.mem_of_getElem? (i := 46) rfl)) rfl⟩
theorem mf_X6_canStart : MFs yX6_canStart cX6_canStart 10 (some .boolean) 2 := ⟨gtb_in (tb4 (List.mem_of_getElem? (i := 202) rfl)) rfl, gtb_in (tb1 (List.mem_of_getElem? (i := 8) rfl)) rfl, ⟨by decide +kernel, by decide +kernel⟩, by decide +kernel⟩
theorem mv_X6_canStart : MFv yX6_canStart := ⟨gtb_in (tb4 (List.mem_of_getElem? (i := 201) rfl)) rfl, gtb_in (List.mem_append_left _ (List.mem_of_getElem? (i := 47) rfl)) rfl⟩
theorem mf_X6_up : MFs yX6_up cX6_up 3 (some .int) 2 := ⟨gtb_in (tb4 (List.mem_of_getElem? (i := 205) rfl)) rfl, gtb_in (tb1 (List.mem_of_getElem? (i := 8) rfl)) rfl, ⟨by decide +kernel, by decide +kernel⟩, by decide +kernel⟩
theorem ms_X6_up : Cond.static yX6_up ∈ gtb := gtb_in (tb4 (List.mem_of_getElem? (i := 204) rfl)) rfl
theorem mf_X6_tries : MFs yX6_tries cX6_tries 1 (some .int) 0 := ⟨gtb_in (tb4 (List.mem_of_getElem? (i := 209) rfl)) rfl, gtb_in (tb1 (List.mem_of_getElem? (i := 8) rfl)) rfl, ⟨by decide +kernel, by decide +kernel⟩, by decide +kernel⟩
theorem mv_X6_tries : MFv yX6_tries := ⟨gtb_in (tb4 (List.mem_of_getElem? (i := 207) rfl)) rfl, gtb_in (tb4 (List.mem_of_getElem? (i := 208) rfl)) rfl⟩
theorem mf_X6_told : MFs yX6_told cX6_told 4 (some .int) 1 := ⟨gtb_in (tb4 (List.mem_of_getElem? (i := 213) rfl)) rfl, gtb_in (tb1 (List.mem_of_getElem? (i := 8) rfl)) rfl, ⟨by decide +kernel, by decide +kernel⟩, by decide +kernel⟩
theorem mv_X6_told : MFv yX6_told := ⟨gtb_in (tb4 (List.mem_of_getElem? (i := 211) rfl)) rfl, gtb_in (tb4 (List.mem_of_getElem? (i := 212) rfl)) rfl⟩
theorem lc_RX5_99 : Cond.constantLong RX5 99 (lI (-10000000001)) ∈ gtb := gtb_in (tb2 (List.mem_of_getElem? (i := 70) rfl)) rfl
theorem lc_RX5_101 : Cond.constantLong RX5 101 (lI (-10000000005)) ∈ gtb := gtb_in (tb2 (List.mem_of_getElem? (i := 71) rfl)) rfl
theorem lc_RX5_186 : Cond.constantLong RX5 186 (lI (-10000000003)) ∈ gtb := gtb_in (tb3 (List.mem_of_getElem? (i := 44) rfl)) rfl
theorem lc_RX6_85 : Cond.constantLong RX6 85 (lI (-1000)) ∈ gtb := gtb_in (tb4 (List.mem_of_getElem? (i := 23) rfl)) rfl
theorem lc_RX6_87 : Cond.constantLong RX6 87 (lI 1000) ∈ gtb := gtb_in (tb4 (List.mem_of_getElem? (i := 24) rfl)) rfl
theorem lc_RX6_93 : Cond.constantLong RX6 93 (lI 5) ∈ gtb := gtb_in (tb4 (List.mem_of_getElem? (i := 36) rfl)) rfl
theorem lc_RX6_95 : Cond.constantLong RX6 95 (lI 7) ∈ gtb := gtb_in (tb4 (List.mem_of_getElem? (i := 37) rfl)) rfl
theorem lc_RX6_97 : Cond.constantLong RX6 97 (lI 3) ∈ gtb := gtb_in (tb4 (List.mem_of_getElem? (i := 38) rfl)) rfl
theorem lc_RX6_120 : Cond.constantLong RX6 120 (lI 60) ∈ gtb := gtb_in (tb4 (List.mem_of_getElem? (i := 67) rfl)) rfl
theorem lc_RX6_122 : Cond.constantLong RX6 122 (lI (-10000000001)) ∈ gtb := gtb_in (tb4 (List.mem_of_getElem? (i := 68) rfl)) rfl
theorem lc_RX6_124 : Cond.constantLong RX6 124 (lI (-10000000005)) ∈ gtb := gtb_in (tb4 (List.mem_of_getElem? (i := 69) rfl)) rfl
theorem lc_RX6_147 : Cond.constantLong RX6 147 (lI 12) ∈ gtb := gtb_in (tb4 (List.mem_of_getElem? (i := 126) rfl)) rfl
theorem lc_RX6_149 : Cond.constantLong RX6 149 (lI 299) ∈ gtb := gtb_in (tb4 (List.mem_of_getElem? (i := 131) rfl)) rfl
theorem lc_RX6_160 : Cond.constantLong RX6 160 (lI (-10000000003)) ∈ gtb := gtb_in (tb4 (List.mem_of_getElem? (i := 164) rfl)) rfl
theorem lc_RX6_166 : Cond.constantLong RX6 166 (lI 10000) ∈ gtb := gtb_in (tb4 (List.mem_of_getElem? (i := 170) rfl)) rfl
theorem lc_RX3_56 : Cond.constant RX3 56 (iI 60000) ∈ gtb := gtb_in (tb3 (List.mem_of_getElem? (i := 105) rfl)) rfl
theorem ac_n : Cond.native arraycopyName ∈ gtb := gtb_in (tb3 (List.mem_of_getElem? (i := 137) rfl)) rfl
theorem ac_s : Cond.static arraycopyName ∈ gtb := gtb_in (tb3 (List.mem_of_getElem? (i := 136) rfl)) rfl
theorem ac_i : Cond.initialized "java/lang/System" ∈ gtb := gtb_in (tb1 (List.mem_of_getElem? (i := 10) rfl)) rfl
theorem ma_i : Cond.initialized "java/lang/Math" ∈ gtb := gtb_in (tb1 (List.mem_of_getElem? (i := 4) rfl)) rfl
theorem lq_RX0_62 : Cond.methodLink RX0 62 Lib.Math.abs.name ∈ gtb := gtb_in (tb1 (List.mem_of_getElem? (i := 91) rfl)) rfl
theorem lq_RX4_53 : Cond.methodLink RX4 53 Lib.Math.min.name ∈ gtb := gtb_in (tb2 (List.mem_of_getElem? (i := 115) rfl)) rfl
theorem lq_RX4_58 : Cond.methodLink RX4 58 Lib.Math.max.name ∈ gtb := gtb_in (tb2 (List.mem_of_getElem? (i := 118) rfl)) rfl
theorem lq_RX1_100 : Cond.methodLink RX1 100 Lib.Math.max.name ∈ gtb := gtb_in (tb3 (List.mem_of_getElem? (i := 22) rfl)) rfl
theorem lq_RX5_197 : Cond.methodLink RX5 197 Lib.Math.max.name ∈ gtb := gtb_in (tb3 (List.mem_of_getElem? (i := 81) rfl)) rfl
theorem lk_RX3_100 : Cond.methodLink RX3 100 arraycopyName ∈ gtb := gtb_in (tb3 (List.mem_of_getElem? (i := 135) rfl)) rfl
theorem lq_RX3_106 : Cond.methodLink RX3 106 Lib.Math.max.name ∈ gtb := gtb_in (tb3 (List.mem_of_getElem? (i := 138) rfl)) rfl
theorem ma_max_s : Cond.static Lib.Math.max.name ∈ gtb := gtb_in (tb2 (List.mem_of_getElem? (i := 119) rfl)) rfl
theorem ma_max_c : Cond.code Lib.Math.max.name Lib.Math.max.code 2 (some .int) ∈ gtb := gtb_in (tb2 (List.mem_of_getElem? (i := 120) rfl)) rfl
theorem ma_min_s : Cond.static Lib.Math.min.name ∈ gtb := gtb_in (tb2 (List.mem_of_getElem? (i := 116) rfl)) rfl
theorem ma_min_c : Cond.code Lib.Math.min.name Lib.Math.min.code 2 (some .int) ∈ gtb := gtb_in (tb2 (List.mem_of_getElem? (i := 117) rfl)) rfl
theorem ma_abs_s : Cond.static Lib.Math.abs.name ∈ gtb := gtb_in (tb1 (List.mem_of_getElem? (i := 92) rfl)) rfl
theorem ma_abs_c : Cond.code Lib.Math.abs.name Lib.Math.abs.code 1 (some .int) ∈ gtb := gtb_in (tb1 (List.mem_of_getElem? (i := 93) rfl)) rfl
section WORLD
variable {l : Launch} {w : WT} {cc : ByteArray} {nL : Nat} {ret : Option FieldType} {own : String} {R : Room} {P : Option Value → MM → Prop} {G : GT} {pc : Nat} {lv : List (Option Value)} {st : List Value} {σ : MM} {a z : Int}
theorem ld_X2 (hX : Cx SX l w cc nL ret own R P G) (hd : decode cc pc = .ok (.iaload, 1)) (h0 : 0 ≤ a) (h1 : a < 8) (kk : 0 ≤ σ 2 a → σ 2 a ≤ 5 → G (pc + 1) lv (.int (iI (σ 2 a)) :: st) σ) : G pc lv (.int (iI a) :: .ref (w.2.2 2) :: st) σ := r_bd hX fun hB => r_iald hX hd (i := 2) (r := 2) (n := 8) rfl h0 h1 (kk (hB 2 0 5 rfl a).1 (hB 2 0 5 rfl a).2)
theorem st_X2 (hX : Cx SX l w cc nL ret own R P G) (hd : decode cc pc = .ok (.iastore, 1)) (h0 : 0 ≤ a) (h1 : a < 8) (hv : 0 ≤ z ∧ z ≤ 5) (kk : ∀ σ1 : MM, Mod [2] σ σ1 → (∀ b : Int, σ1 2 b = if b = a then z else σ 2 b) → G (pc + 1) lv st σ1) : G pc lv (.int (iI z) :: .int (iI a) :: .ref (w.2.2 2) :: st) σ := r_iast hX hd (i := 2) (r := 2) (n := 8) rfl sp_X2 h0 h1 (fun lo hi h => by
    have e : (some (some ((0 : Int), (5 : Int))) : Option (Option (Int × Int))) = some (some (lo, hi)) := h
    cases e
    exact hv) (kk _ Mod.up (fun b => up_at))
theorem ld_X3 (hX : Cx SX l w cc nL ret own R P G) (hd : decode cc pc = .ok (.iaload, 1)) (h0 : 0 ≤ a) (h1 : a < 8) (kk : G (pc + 1) lv (.int (iI (σ 3 a)) :: st) σ) : G pc lv (.int (iI a) :: .ref (w.2.2 3) :: st) σ := r_iald hX hd (i := 3) (r := 3) (n := 8) rfl h0 h1 kk
theorem st_X3 (hX : Cx SX l w cc nL ret own R P G) (hd : decode cc pc = .ok (.iastore, 1)) (h0 : 0 ≤ a) (h1 : a < 8) (kk : ∀ σ1 : MM, Mod [3] σ σ1 → (∀ b : Int, σ1 3 b = if b = a then z else σ 3 b) → G (pc + 1) lv st σ1) : G pc lv (.int (iI z) :: .int (iI a) :: .ref (w.2.2 3) :: st) σ := r_iast hX hd (i := 3) (r := 3) (n := 8) rfl sp_X3 h0 h1 (fun lo hi h => by
    have e : (some none : Option (Option (Int × Int))) = some (some (lo, hi)) := h
    cases e) (kk _ Mod.up (fun b => up_at))
theorem ld_X4 (hX : Cx SX l w cc nL ret own R P G) (hd : decode cc pc = .ok (.iaload, 1)) (h0 : 0 ≤ a) (h1 : a < 8) (kk : G (pc + 1) lv (.int (iI (σ 4 a)) :: st) σ) : G pc lv (.int (iI a) :: .ref (w.2.2 4) :: st) σ := r_iald hX hd (i := 4) (r := 4) (n := 8) rfl h0 h1 kk
theorem st_X4 (hX : Cx SX l w cc nL ret own R P G) (hd : decode cc pc = .ok (.iastore, 1)) (h0 : 0 ≤ a) (h1 : a < 8) (kk : ∀ σ1 : MM, Mod [4] σ σ1 → (∀ b : Int, σ1 4 b = if b = a then z else σ 4 b) → G (pc + 1) lv st σ1) : G pc lv (.int (iI z) :: .int (iI a) :: .ref (w.2.2 4) :: st) σ := r_iast hX hd (i := 4) (r := 4) (n := 8) rfl sp_X4 h0 h1 (fun lo hi h => by
    have e : (some none : Option (Option (Int × Int))) = some (some (lo, hi)) := h
    cases e) (kk _ Mod.up (fun b => up_at))
theorem ld_X5 (hX : Cx SX l w cc nL ret own R P G) (hd : decode cc pc = .ok (.iaload, 1)) (h0 : 0 ≤ a) (h1 : a < 16) (kk : (-6) ≤ σ 5 a → σ 5 a ≤ 7 → G (pc + 1) lv (.int (iI (σ 5 a)) :: st) σ) : G pc lv (.int (iI a) :: .ref (w.2.2 5) :: st) σ := r_bd hX fun hB => r_iald hX hd (i := 5) (r := 5) (n := 16) rfl h0 h1 (kk (hB 5 (-6) 7 rfl a).1 (hB 5 (-6) 7 rfl a).2)
theorem st_X5 (hX : Cx SX l w cc nL ret own R P G) (hd : decode cc pc = .ok (.iastore, 1)) (h0 : 0 ≤ a) (h1 : a < 16) (hv : (-6) ≤ z ∧ z ≤ 7) (kk : ∀ σ1 : MM, Mod [5] σ σ1 → (∀ b : Int, σ1 5 b = if b = a then z else σ 5 b) → G (pc + 1) lv st σ1) : G pc lv (.int (iI z) :: .int (iI a) :: .ref (w.2.2 5) :: st) σ := r_iast hX hd (i := 5) (r := 5) (n := 16) rfl sp_X5 h0 h1 (fun lo hi h => by
    have e : (some (some (((-6) : Int), (7 : Int))) : Option (Option (Int × Int))) = some (some (lo, hi)) := h
    cases e
    exact hv) (kk _ Mod.up (fun b => up_at))
theorem ld_X6 (hX : Cx SX l w cc nL ret own R P G) (hd : decode cc pc = .ok (.iaload, 1)) (h0 : 0 ≤ a) (h1 : a < 16) (kk : 0 ≤ σ 6 a → σ 6 a ≤ 3 → G (pc + 1) lv (.int (iI (σ 6 a)) :: st) σ) : G pc lv (.int (iI a) :: .ref (w.2.2 6) :: st) σ := r_bd hX fun hB => r_iald hX hd (i := 6) (r := 6) (n := 16) rfl h0 h1 (kk (hB 6 0 3 rfl a).1 (hB 6 0 3 rfl a).2)
theorem st_X6 (hX : Cx SX l w cc nL ret own R P G) (hd : decode cc pc = .ok (.iastore, 1)) (h0 : 0 ≤ a) (h1 : a < 16) (hv : 0 ≤ z ∧ z ≤ 3) (kk : ∀ σ1 : MM, Mod [6] σ σ1 → (∀ b : Int, σ1 6 b = if b = a then z else σ 6 b) → G (pc + 1) lv st σ1) : G pc lv (.int (iI z) :: .int (iI a) :: .ref (w.2.2 6) :: st) σ := r_iast hX hd (i := 6) (r := 6) (n := 16) rfl sp_X6 h0 h1 (fun lo hi h => by
    have e : (some (some ((0 : Int), (3 : Int))) : Option (Option (Int × Int))) = some (some (lo, hi)) := h
    cases e
    exact hv) (kk _ Mod.up (fun b => up_at))
theorem ld_X7 (hX : Cx SX l w cc nL ret own R P G) (hd : decode cc pc = .ok (.iaload, 1)) (h0 : 0 ≤ a) (h1 : a < 8) (kk : 0 ≤ σ 7 a → σ 7 a ≤ 7 → G (pc + 1) lv (.int (iI (σ 7 a)) :: st) σ) : G pc lv (.int (iI a) :: .ref (w.2.2 7) :: st) σ := r_bd hX fun hB => r_iald hX hd (i := 7) (r := 7) (n := 8) rfl h0 h1 (kk (hB 7 0 7 rfl a).1 (hB 7 0 7 rfl a).2)
theorem st_X7 (hX : Cx SX l w cc nL ret own R P G) (hd : decode cc pc = .ok (.iastore, 1)) (h0 : 0 ≤ a) (h1 : a < 8) (hv : 0 ≤ z ∧ z ≤ 7) (kk : ∀ σ1 : MM, Mod [7] σ σ1 → (∀ b : Int, σ1 7 b = if b = a then z else σ 7 b) → G (pc + 1) lv st σ1) : G pc lv (.int (iI z) :: .int (iI a) :: .ref (w.2.2 7) :: st) σ := r_iast hX hd (i := 7) (r := 7) (n := 8) rfl sp_X7 h0 h1 (fun lo hi h => by
    have e : (some (some ((0 : Int), (7 : Int))) : Option (Option (Int × Int))) = some (some (lo, hi)) := h
    cases e
    exact hv) (kk _ Mod.up (fun b => up_at))
theorem ld_X8 (hX : Cx SX l w cc nL ret own R P G) (hd : decode cc pc = .ok (.baload, 1)) (h0 : 0 ≤ a) (h1 : a < 8) (kk : 0 ≤ σ 8 a → σ 8 a ≤ 1 → G (pc + 1) lv (.int (iI (σ 8 a)) :: st) σ) : G pc lv (.int (iI a) :: .ref (w.2.2 8) :: st) σ := r_bd hX fun hB => r_zald hX hd (i := 8) (r := 8) (n := 8) rfl h0 h1 (kk (hB 8 0 1 rfl a).1 (hB 8 0 1 rfl a).2)
theorem st_X8 (hX : Cx SX l w cc nL ret own R P G) (hd : decode cc pc = .ok (.bastore, 1)) (h0 : 0 ≤ a) (h1 : a < 8) (hv : 0 ≤ z ∧ z ≤ 1) (kk : ∀ σ1 : MM, Mod [8] σ σ1 → (∀ b : Int, σ1 8 b = if b = a then z else σ 8 b) → G (pc + 1) lv st σ1) : G pc lv (.int (iI z) :: .int (iI a) :: .ref (w.2.2 8) :: st) σ := r_zast hX hd (i := 8) (r := 8) (n := 8) rfl sp_X8 h0 h1 (by omega) (fun lo hi h => by
    have e : (some (some ((0 : Int), (1 : Int))) : Option (Option (Int × Int))) = some (some (lo, hi)) := h
    cases e
    exact hv) (kk _ Mod.up (fun b => up_at))
theorem ld_X9 (hX : Cx SX l w cc nL ret own R P G) (hd : decode cc pc = .ok (.iaload, 1)) (h0 : 0 ≤ a) (h1 : a < 8) (kk : G (pc + 1) lv (.int (iI (σ 9 a)) :: st) σ) : G pc lv (.int (iI a) :: .ref (w.2.2 9) :: st) σ := r_iald hX hd (i := 9) (r := 9) (n := 8) rfl h0 h1 kk
theorem st_X9 (hX : Cx SX l w cc nL ret own R P G) (hd : decode cc pc = .ok (.iastore, 1)) (h0 : 0 ≤ a) (h1 : a < 8) (kk : ∀ σ1 : MM, Mod [9] σ σ1 → (∀ b : Int, σ1 9 b = if b = a then z else σ 9 b) → G (pc + 1) lv st σ1) : G pc lv (.int (iI z) :: .int (iI a) :: .ref (w.2.2 9) :: st) σ := r_iast hX hd (i := 9) (r := 9) (n := 8) rfl sp_X9 h0 h1 (fun lo hi h => by
    have e : (some none : Option (Option (Int × Int))) = some (some (lo, hi)) := h
    cases e) (kk _ Mod.up (fun b => up_at))
theorem ld_X11 (hX : Cx SX l w cc nL ret own R P G) (hd : decode cc pc = .ok (.baload, 1)) (h0 : 0 ≤ a) (h1 : a < 9) (kk : 0 ≤ σ 11 a → σ 11 a ≤ 1 → G (pc + 1) lv (.int (iI (σ 11 a)) :: st) σ) : G pc lv (.int (iI a) :: .ref (w.2.2 11) :: st) σ := r_bd hX fun hB => r_zald hX hd (i := 11) (r := 11) (n := 9) rfl h0 h1 (kk (hB 11 0 1 rfl a).1 (hB 11 0 1 rfl a).2)
theorem st_X11 (hX : Cx SX l w cc nL ret own R P G) (hd : decode cc pc = .ok (.bastore, 1)) (h0 : 0 ≤ a) (h1 : a < 9) (hv : 0 ≤ z ∧ z ≤ 1) (kk : ∀ σ1 : MM, Mod [11] σ σ1 → (∀ b : Int, σ1 11 b = if b = a then z else σ 11 b) → G (pc + 1) lv st σ1) : G pc lv (.int (iI z) :: .int (iI a) :: .ref (w.2.2 11) :: st) σ := r_zast hX hd (i := 11) (r := 11) (n := 9) rfl sp_X11 h0 h1 (by omega) (fun lo hi h => by
    have e : (some (some ((0 : Int), (1 : Int))) : Option (Option (Int × Int))) = some (some (lo, hi)) := h
    cases e
    exact hv) (kk _ Mod.up (fun b => up_at))
theorem ld_X12 (hX : Cx SX l w cc nL ret own R P G) (hd : decode cc pc = .ok (.baload, 1)) (h0 : 0 ≤ a) (h1 : a < 9) (kk : 0 ≤ σ 12 a → σ 12 a ≤ 1 → G (pc + 1) lv (.int (iI (σ 12 a)) :: st) σ) : G pc lv (.int (iI a) :: .ref (w.2.2 12) :: st) σ := r_bd hX fun hB => r_zald hX hd (i := 12) (r := 12) (n := 9) rfl h0 h1 (kk (hB 12 0 1 rfl a).1 (hB 12 0 1 rfl a).2)
theorem st_X12 (hX : Cx SX l w cc nL ret own R P G) (hd : decode cc pc = .ok (.bastore, 1)) (h0 : 0 ≤ a) (h1 : a < 9) (hv : 0 ≤ z ∧ z ≤ 1) (kk : ∀ σ1 : MM, Mod [12] σ σ1 → (∀ b : Int, σ1 12 b = if b = a then z else σ 12 b) → G (pc + 1) lv st σ1) : G pc lv (.int (iI z) :: .int (iI a) :: .ref (w.2.2 12) :: st) σ := r_zast hX hd (i := 12) (r := 12) (n := 9) rfl sp_X12 h0 h1 (by omega) (fun lo hi h => by
    have e : (some (some ((0 : Int), (1 : Int))) : Option (Option (Int × Int))) = some (some (lo, hi)) := h
    cases e
    exact hv) (kk _ Mod.up (fun b => up_at))
theorem ld_X13 (hX : Cx SX l w cc nL ret own R P G) (hd : decode cc pc = .ok (.iaload, 1)) (h0 : 0 ≤ a) (h1 : a < 81) (kk : 0 ≤ σ 13 a → σ 13 a ≤ 1000 → G (pc + 1) lv (.int (iI (σ 13 a)) :: st) σ) : G pc lv (.int (iI a) :: .ref (w.2.2 13) :: st) σ := r_bd hX fun hB => r_iald hX hd (i := 13) (r := 13) (n := 81) rfl h0 h1 (kk (hB 13 0 1000 rfl a).1 (hB 13 0 1000 rfl a).2)
theorem st_X13 (hX : Cx SX l w cc nL ret own R P G) (hd : decode cc pc = .ok (.iastore, 1)) (h0 : 0 ≤ a) (h1 : a < 81) (hv : 0 ≤ z ∧ z ≤ 1000) (kk : ∀ σ1 : MM, Mod [13] σ σ1 → (∀ b : Int, σ1 13 b = if b = a then z else σ 13 b) → G (pc + 1) lv st σ1) : G pc lv (.int (iI z) :: .int (iI a) :: .ref (w.2.2 13) :: st) σ := r_iast hX hd (i := 13) (r := 13) (n := 81) rfl sp_X13 h0 h1 (fun lo hi h => by
    have e : (some (some ((0 : Int), (1000 : Int))) : Option (Option (Int × Int))) = some (some (lo, hi)) := h
    cases e
    exact hv) (kk _ Mod.up (fun b => up_at))
theorem ld_X15 (hX : Cx SX l w cc nL ret own R P G) (hd : decode cc pc = .ok (.iaload, 1)) (h0 : 0 ≤ a) (h1 : a < 8) (kk : 0 ≤ σ 15 a → σ 15 a ≤ 8 → G (pc + 1) lv (.int (iI (σ 15 a)) :: st) σ) : G pc lv (.int (iI a) :: .ref (w.2.2 15) :: st) σ := r_bd hX fun hB => r_iald hX hd (i := 15) (r := 15) (n := 8) rfl h0 h1 (kk (hB 15 0 8 rfl a).1 (hB 15 0 8 rfl a).2)
theorem st_X15 (hX : Cx SX l w cc nL ret own R P G) (hd : decode cc pc = .ok (.iastore, 1)) (h0 : 0 ≤ a) (h1 : a < 8) (hv : 0 ≤ z ∧ z ≤ 8) (kk : ∀ σ1 : MM, Mod [15] σ σ1 → (∀ b : Int, σ1 15 b = if b = a then z else σ 15 b) → G (pc + 1) lv st σ1) : G pc lv (.int (iI z) :: .int (iI a) :: .ref (w.2.2 15) :: st) σ := r_iast hX hd (i := 15) (r := 15) (n := 8) rfl sp_X15 h0 h1 (fun lo hi h => by
    have e : (some (some ((0 : Int), (8 : Int))) : Option (Option (Int × Int))) = some (some (lo, hi)) := h
    cases e
    exact hv) (kk _ Mod.up (fun b => up_at))
theorem ld_X16 (hX : Cx SX l w cc nL ret own R P G) (hd : decode cc pc = .ok (.iaload, 1)) (h0 : 0 ≤ a) (h1 : a < 8) (kk : 0 ≤ σ 16 a → σ 16 a ≤ 20000000 → G (pc + 1) lv (.int (iI (σ 16 a)) :: st) σ) : G pc lv (.int (iI a) :: .ref (w.2.2 16) :: st) σ := r_bd hX fun hB => r_iald hX hd (i := 16) (r := 16) (n := 8) rfl h0 h1 (kk (hB 16 0 20000000 rfl a).1 (hB 16 0 20000000 rfl a).2)
theorem st_X16 (hX : Cx SX l w cc nL ret own R P G) (hd : decode cc pc = .ok (.iastore, 1)) (h0 : 0 ≤ a) (h1 : a < 8) (hv : 0 ≤ z ∧ z ≤ 20000000) (kk : ∀ σ1 : MM, Mod [16] σ σ1 → (∀ b : Int, σ1 16 b = if b = a then z else σ 16 b) → G (pc + 1) lv st σ1) : G pc lv (.int (iI z) :: .int (iI a) :: .ref (w.2.2 16) :: st) σ := r_iast hX hd (i := 16) (r := 16) (n := 8) rfl sp_X16 h0 h1 (fun lo hi h => by
    have e : (some (some ((0 : Int), (20000000 : Int))) : Option (Option (Int × Int))) = some (some (lo, hi)) := h
    cases e
    exact hv) (kk _ Mod.up (fun b => up_at))
theorem ld_X18 (hX : Cx SX l w cc nL ret own R P G) (hd : decode cc pc = .ok (.iaload, 1)) (h0 : 0 ≤ a) (h1 : a < 8) (kk : 0 ≤ σ 18 a → σ 18 a ≤ 8 → G (pc + 1) lv (.int (iI (σ 18 a)) :: st) σ) : G pc lv (.int (iI a) :: .ref (w.2.2 18) :: st) σ := r_bd hX fun hB => r_iald hX hd (i := 18) (r := 18) (n := 8) rfl h0 h1 (kk (hB 18 0 8 rfl a).1 (hB 18 0 8 rfl a).2)
theorem st_X18 (hX : Cx SX l w cc nL ret own R P G) (hd : decode cc pc = .ok (.iastore, 1)) (h0 : 0 ≤ a) (h1 : a < 8) (hv : 0 ≤ z ∧ z ≤ 8) (kk : ∀ σ1 : MM, Mod [18] σ σ1 → (∀ b : Int, σ1 18 b = if b = a then z else σ 18 b) → G (pc + 1) lv st σ1) : G pc lv (.int (iI z) :: .int (iI a) :: .ref (w.2.2 18) :: st) σ := r_iast hX hd (i := 18) (r := 18) (n := 8) rfl sp_X18 h0 h1 (fun lo hi h => by
    have e : (some (some ((0 : Int), (8 : Int))) : Option (Option (Int × Int))) = some (some (lo, hi)) := h
    cases e
    exact hv) (kk _ Mod.up (fun b => up_at))
theorem ld_X19 (hX : Cx SX l w cc nL ret own R P G) (hd : decode cc pc = .ok (.iaload, 1)) (h0 : 0 ≤ a) (h1 : a < 8) (kk : 0 ≤ σ 19 a → σ 19 a ≤ 11 → G (pc + 1) lv (.int (iI (σ 19 a)) :: st) σ) : G pc lv (.int (iI a) :: .ref (w.2.2 19) :: st) σ := r_bd hX fun hB => r_iald hX hd (i := 19) (r := 19) (n := 8) rfl h0 h1 (kk (hB 19 0 11 rfl a).1 (hB 19 0 11 rfl a).2)
theorem st_X19 (hX : Cx SX l w cc nL ret own R P G) (hd : decode cc pc = .ok (.iastore, 1)) (h0 : 0 ≤ a) (h1 : a < 8) (hv : 0 ≤ z ∧ z ≤ 11) (kk : ∀ σ1 : MM, Mod [19] σ σ1 → (∀ b : Int, σ1 19 b = if b = a then z else σ 19 b) → G (pc + 1) lv st σ1) : G pc lv (.int (iI z) :: .int (iI a) :: .ref (w.2.2 19) :: st) σ := r_iast hX hd (i := 19) (r := 19) (n := 8) rfl sp_X19 h0 h1 (fun lo hi h => by
    have e : (some (some ((0 : Int), (11 : Int))) : Option (Option (Int × Int))) = some (some (lo, hi)) := h
    cases e
    exact hv) (kk _ Mod.up (fun b => up_at))
theorem ld_X20 (hX : Cx SX l w cc nL ret own R P G) (hd : decode cc pc = .ok (.iaload, 1)) (h0 : 0 ≤ a) (h1 : a < 8) (kk : 0 ≤ σ 20 a → σ 20 a ≤ 108 → G (pc + 1) lv (.int (iI (σ 20 a)) :: st) σ) : G pc lv (.int (iI a) :: .ref (w.2.2 20) :: st) σ := r_bd hX fun hB => r_iald hX hd (i := 20) (r := 20) (n := 8) rfl h0 h1 (kk (hB 20 0 108 rfl a).1 (hB 20 0 108 rfl a).2)
theorem st_X20 (hX : Cx SX l w cc nL ret own R P G) (hd : decode cc pc = .ok (.iastore, 1)) (h0 : 0 ≤ a) (h1 : a < 8) (hv : 0 ≤ z ∧ z ≤ 108) (kk : ∀ σ1 : MM, Mod [20] σ σ1 → (∀ b : Int, σ1 20 b = if b = a then z else σ 20 b) → G (pc + 1) lv st σ1) : G pc lv (.int (iI z) :: .int (iI a) :: .ref (w.2.2 20) :: st) σ := r_iast hX hd (i := 20) (r := 20) (n := 8) rfl sp_X20 h0 h1 (fun lo hi h => by
    have e : (some (some ((0 : Int), (108 : Int))) : Option (Option (Int × Int))) = some (some (lo, hi)) := h
    cases e
    exact hv) (kk _ Mod.up (fun b => up_at))
theorem ld_X21 (hX : Cx SX l w cc nL ret own R P G) (hd : decode cc pc = .ok (.iaload, 1)) (h0 : 0 ≤ a) (h1 : a < 16) (kk : (-1100) ≤ σ 21 a → σ 21 a ≤ 1100 → G (pc + 1) lv (.int (iI (σ 21 a)) :: st) σ) : G pc lv (.int (iI a) :: .ref (w.2.2 21) :: st) σ := r_bd hX fun hB => r_iald hX hd (i := 21) (r := 21) (n := 16) rfl h0 h1 (kk (hB 21 (-1100) 1100 rfl a).1 (hB 21 (-1100) 1100 rfl a).2)
theorem st_X21 (hX : Cx SX l w cc nL ret own R P G) (hd : decode cc pc = .ok (.iastore, 1)) (h0 : 0 ≤ a) (h1 : a < 16) (hv : (-1100) ≤ z ∧ z ≤ 1100) (kk : ∀ σ1 : MM, Mod [21] σ σ1 → (∀ b : Int, σ1 21 b = if b = a then z else σ 21 b) → G (pc + 1) lv st σ1) : G pc lv (.int (iI z) :: .int (iI a) :: .ref (w.2.2 21) :: st) σ := r_iast hX hd (i := 21) (r := 21) (n := 16) rfl sp_X21 h0 h1 (fun lo hi h => by
    have e : (some (some (((-1100) : Int), (1100 : Int))) : Option (Option (Int × Int))) = some (some (lo, hi)) := h
    cases e
    exact hv) (kk _ Mod.up (fun b => up_at))
theorem ld_X22 (hX : Cx SX l w cc nL ret own R P G) (hd : decode cc pc = .ok (.iaload, 1)) (h0 : 0 ≤ a) (h1 : a < 64) (kk : 0 ≤ σ 22 a → σ 22 a ≤ 1300000 → G (pc + 1) lv (.int (iI (σ 22 a)) :: st) σ) : G pc lv (.int (iI a) :: .ref (w.2.2 22) :: st) σ := r_bd hX fun hB => r_iald hX hd (i := 22) (r := 22) (n := 64) rfl h0 h1 (kk (hB 22 0 1300000 rfl a).1 (hB 22 0 1300000 rfl a).2)
theorem st_X22 (hX : Cx SX l w cc nL ret own R P G) (hd : decode cc pc = .ok (.iastore, 1)) (h0 : 0 ≤ a) (h1 : a < 64) (hv : 0 ≤ z ∧ z ≤ 1300000) (kk : ∀ σ1 : MM, Mod [22] σ σ1 → (∀ b : Int, σ1 22 b = if b = a then z else σ 22 b) → G (pc + 1) lv st σ1) : G pc lv (.int (iI z) :: .int (iI a) :: .ref (w.2.2 22) :: st) σ := r_iast hX hd (i := 22) (r := 22) (n := 64) rfl sp_X22 h0 h1 (fun lo hi h => by
    have e : (some (some ((0 : Int), (1300000 : Int))) : Option (Option (Int × Int))) = some (some (lo, hi)) := h
    cases e
    exact hv) (kk _ Mod.up (fun b => up_at))
theorem ld_X24 (hX : Cx SX l w cc nL ret own R P G) (hd : decode cc pc = .ok (.iaload, 1)) (h0 : 0 ≤ a) (h1 : a < 488) (kk : G (pc + 1) lv (.int (iI (σ 24 a)) :: st) σ) : G pc lv (.int (iI a) :: .ref (w.2.2 24) :: st) σ := r_iald hX hd (i := 24) (r := 24) (n := 488) rfl h0 h1 kk
theorem st_X24 (hX : Cx SX l w cc nL ret own R P G) (hd : decode cc pc = .ok (.iastore, 1)) (h0 : 0 ≤ a) (h1 : a < 488) (kk : ∀ σ1 : MM, Mod [24] σ σ1 → (∀ b : Int, σ1 24 b = if b = a then z else σ 24 b) → G (pc + 1) lv st σ1) : G pc lv (.int (iI z) :: .int (iI a) :: .ref (w.2.2 24) :: st) σ := r_iast hX hd (i := 24) (r := 24) (n := 488) rfl sp_X24 h0 h1 (fun lo hi h => by
    have e : (some none : Option (Option (Int × Int))) = some (some (lo, hi)) := h
    cases e) (kk _ Mod.up (fun b => up_at))
theorem ld_X26 (hX : Cx SX l w cc nL ret own R P G) (hd : decode cc pc = .ok (.iaload, 1)) (h0 : 0 ≤ a) (h1 : a < 488) (kk : G (pc + 1) lv (.int (iI (σ 26 a)) :: st) σ) : G pc lv (.int (iI a) :: .ref (w.2.2 26) :: st) σ := r_iald hX hd (i := 26) (r := 26) (n := 488) rfl h0 h1 kk
theorem st_X26 (hX : Cx SX l w cc nL ret own R P G) (hd : decode cc pc = .ok (.iastore, 1)) (h0 : 0 ≤ a) (h1 : a < 488) (kk : ∀ σ1 : MM, Mod [26] σ σ1 → (∀ b : Int, σ1 26 b = if b = a then z else σ 26 b) → G (pc + 1) lv st σ1) : G pc lv (.int (iI z) :: .int (iI a) :: .ref (w.2.2 26) :: st) σ := r_iast hX hd (i := 26) (r := 26) (n := 488) rfl sp_X26 h0 h1 (fun lo hi h => by
    have e : (some none : Option (Option (Int × Int))) = some (some (lo, hi)) := h
    cases e) (kk _ Mod.up (fun b => up_at))
theorem ld_X28 (hX : Cx SX l w cc nL ret own R P G) (hd : decode cc pc = .ok (.iaload, 1)) (h0 : 0 ≤ a) (h1 : a < 8) (kk : 0 ≤ σ 28 a → σ 28 a ≤ 5 → G (pc + 1) lv (.int (iI (σ 28 a)) :: st) σ) : G pc lv (.int (iI a) :: .ref (w.2.2 28) :: st) σ := r_bd hX fun hB => r_iald hX hd (i := 28) (r := 28) (n := 8) rfl h0 h1 (kk (hB 28 0 5 rfl a).1 (hB 28 0 5 rfl a).2)
theorem st_X28 (hX : Cx SX l w cc nL ret own R P G) (hd : decode cc pc = .ok (.iastore, 1)) (h0 : 0 ≤ a) (h1 : a < 8) (hv : 0 ≤ z ∧ z ≤ 5) (kk : ∀ σ1 : MM, Mod [28] σ σ1 → (∀ b : Int, σ1 28 b = if b = a then z else σ 28 b) → G (pc + 1) lv st σ1) : G pc lv (.int (iI z) :: .int (iI a) :: .ref (w.2.2 28) :: st) σ := r_iast hX hd (i := 28) (r := 28) (n := 8) rfl sp_X28 h0 h1 (fun lo hi h => by
    have e : (some (some ((0 : Int), (5 : Int))) : Option (Option (Int × Int))) = some (some (lo, hi)) := h
    cases e
    exact hv) (kk _ Mod.up (fun b => up_at))
theorem ld_X29 (hX : Cx SX l w cc nL ret own R P G) (hd : decode cc pc = .ok (.iaload, 1)) (h0 : 0 ≤ a) (h1 : a < 16) (kk : 0 ≤ σ 29 a → σ 29 a ≤ 7 → G (pc + 1) lv (.int (iI (σ 29 a)) :: st) σ) : G pc lv (.int (iI a) :: .ref (w.2.2 29) :: st) σ := r_bd hX fun hB => r_iald hX hd (i := 29) (r := 29) (n := 16) rfl h0 h1 (kk (hB 29 0 7 rfl a).1 (hB 29 0 7 rfl a).2)
theorem st_X29 (hX : Cx SX l w cc nL ret own R P G) (hd : decode cc pc = .ok (.iastore, 1)) (h0 : 0 ≤ a) (h1 : a < 16) (hv : 0 ≤ z ∧ z ≤ 7) (kk : ∀ σ1 : MM, Mod [29] σ σ1 → (∀ b : Int, σ1 29 b = if b = a then z else σ 29 b) → G (pc + 1) lv st σ1) : G pc lv (.int (iI z) :: .int (iI a) :: .ref (w.2.2 29) :: st) σ := r_iast hX hd (i := 29) (r := 29) (n := 16) rfl sp_X29 h0 h1 (fun lo hi h => by
    have e : (some (some ((0 : Int), (7 : Int))) : Option (Option (Int × Int))) = some (some (lo, hi)) := h
    cases e
    exact hv) (kk _ Mod.up (fun b => up_at))
theorem ld_X30 (hX : Cx SX l w cc nL ret own R P G) (hd : decode cc pc = .ok (.iaload, 1)) (h0 : 0 ≤ a) (h1 : a < 16) (kk : 0 ≤ σ 30 a → σ 30 a ≤ 3 → G (pc + 1) lv (.int (iI (σ 30 a)) :: st) σ) : G pc lv (.int (iI a) :: .ref (w.2.2 30) :: st) σ := r_bd hX fun hB => r_iald hX hd (i := 30) (r := 30) (n := 16) rfl h0 h1 (kk (hB 30 0 3 rfl a).1 (hB 30 0 3 rfl a).2)
theorem st_X30 (hX : Cx SX l w cc nL ret own R P G) (hd : decode cc pc = .ok (.iastore, 1)) (h0 : 0 ≤ a) (h1 : a < 16) (hv : 0 ≤ z ∧ z ≤ 3) (kk : ∀ σ1 : MM, Mod [30] σ σ1 → (∀ b : Int, σ1 30 b = if b = a then z else σ 30 b) → G (pc + 1) lv st σ1) : G pc lv (.int (iI z) :: .int (iI a) :: .ref (w.2.2 30) :: st) σ := r_iast hX hd (i := 30) (r := 30) (n := 16) rfl sp_X30 h0 h1 (fun lo hi h => by
    have e : (some (some ((0 : Int), (3 : Int))) : Option (Option (Int × Int))) = some (some (lo, hi)) := h
    cases e
    exact hv) (kk _ Mod.up (fun b => up_at))
theorem ld_X31 (hX : Cx SX l w cc nL ret own R P G) (hd : decode cc pc = .ok (.iaload, 1)) (h0 : 0 ≤ a) (h1 : a < 8) (kk : G (pc + 1) lv (.int (iI (σ 31 a)) :: st) σ) : G pc lv (.int (iI a) :: .ref (w.2.2 31) :: st) σ := r_iald hX hd (i := 31) (r := 31) (n := 8) rfl h0 h1 kk
theorem st_X31 (hX : Cx SX l w cc nL ret own R P G) (hd : decode cc pc = .ok (.iastore, 1)) (h0 : 0 ≤ a) (h1 : a < 8) (kk : ∀ σ1 : MM, Mod [31] σ σ1 → (∀ b : Int, σ1 31 b = if b = a then z else σ 31 b) → G (pc + 1) lv st σ1) : G pc lv (.int (iI z) :: .int (iI a) :: .ref (w.2.2 31) :: st) σ := r_iast hX hd (i := 31) (r := 31) (n := 8) rfl sp_X31 h0 h1 (fun lo hi h => by
    have e : (some none : Option (Option (Int × Int))) = some (some (lo, hi)) := h
    cases e) (kk _ Mod.up (fun b => up_at))
theorem ld_X32 (hX : Cx SX l w cc nL ret own R P G) (hd : decode cc pc = .ok (.iaload, 1)) (h0 : 0 ≤ a) (h1 : a < 8) (kk : G (pc + 1) lv (.int (iI (σ 32 a)) :: st) σ) : G pc lv (.int (iI a) :: .ref (w.2.2 32) :: st) σ := r_iald hX hd (i := 32) (r := 32) (n := 8) rfl h0 h1 kk
theorem st_X32 (hX : Cx SX l w cc nL ret own R P G) (hd : decode cc pc = .ok (.iastore, 1)) (h0 : 0 ≤ a) (h1 : a < 8) (kk : ∀ σ1 : MM, Mod [32] σ σ1 → (∀ b : Int, σ1 32 b = if b = a then z else σ 32 b) → G (pc + 1) lv st σ1) : G pc lv (.int (iI z) :: .int (iI a) :: .ref (w.2.2 32) :: st) σ := r_iast hX hd (i := 32) (r := 32) (n := 8) rfl sp_X32 h0 h1 (fun lo hi h => by
    have e : (some none : Option (Option (Int × Int))) = some (some (lo, hi)) := h
    cases e) (kk _ Mod.up (fun b => up_at))
theorem ld_X33 (hX : Cx SX l w cc nL ret own R P G) (hd : decode cc pc = .ok (.baload, 1)) (h0 : 0 ≤ a) (h1 : a < 8) (kk : 0 ≤ σ 33 a → σ 33 a ≤ 1 → G (pc + 1) lv (.int (iI (σ 33 a)) :: st) σ) : G pc lv (.int (iI a) :: .ref (w.2.2 33) :: st) σ := r_bd hX fun hB => r_zald hX hd (i := 33) (r := 33) (n := 8) rfl h0 h1 (kk (hB 33 0 1 rfl a).1 (hB 33 0 1 rfl a).2)
theorem st_X33 (hX : Cx SX l w cc nL ret own R P G) (hd : decode cc pc = .ok (.bastore, 1)) (h0 : 0 ≤ a) (h1 : a < 8) (hv : 0 ≤ z ∧ z ≤ 1) (kk : ∀ σ1 : MM, Mod [33] σ σ1 → (∀ b : Int, σ1 33 b = if b = a then z else σ 33 b) → G (pc + 1) lv st σ1) : G pc lv (.int (iI z) :: .int (iI a) :: .ref (w.2.2 33) :: st) σ := r_zast hX hd (i := 33) (r := 33) (n := 8) rfl sp_X33 h0 h1 (by omega) (fun lo hi h => by
    have e : (some (some ((0 : Int), (1 : Int))) : Option (Option (Int × Int))) = some (some (lo, hi)) := h
    cases e
    exact hv) (kk _ Mod.up (fun b => up_at))
theorem ld_X34 (hX : Cx SX l w cc nL ret own R P G) (hd : decode cc pc = .ok (.iaload, 1)) (h0 : 0 ≤ a) (h1 : a < 488) (kk : G (pc + 1) lv (.int (iI (σ 34 a)) :: st) σ) : G pc lv (.int (iI a) :: .ref (w.2.2 34) :: st) σ := r_iald hX hd (i := 34) (r := 34) (n := 488) rfl h0 h1 kk
theorem st_X34 (hX : Cx SX l w cc nL ret own R P G) (hd : decode cc pc = .ok (.iastore, 1)) (h0 : 0 ≤ a) (h1 : a < 488) (kk : ∀ σ1 : MM, Mod [34] σ σ1 → (∀ b : Int, σ1 34 b = if b = a then z else σ 34 b) → G (pc + 1) lv st σ1) : G pc lv (.int (iI z) :: .int (iI a) :: .ref (w.2.2 34) :: st) σ := r_iast hX hd (i := 34) (r := 34) (n := 488) rfl sp_X34 h0 h1 (fun lo hi h => by
    have e : (some none : Option (Option (Int × Int))) = some (some (lo, hi)) := h
    cases e) (kk _ Mod.up (fun b => up_at))
theorem ld_X35 (hX : Cx SX l w cc nL ret own R P G) (hd : decode cc pc = .ok (.baload, 1)) (h0 : 0 ≤ a) (h1 : a < 9) (kk : 0 ≤ σ 35 a → σ 35 a ≤ 1 → G (pc + 1) lv (.int (iI (σ 35 a)) :: st) σ) : G pc lv (.int (iI a) :: .ref (w.2.2 35) :: st) σ := r_bd hX fun hB => r_zald hX hd (i := 35) (r := 35) (n := 9) rfl h0 h1 (kk (hB 35 0 1 rfl a).1 (hB 35 0 1 rfl a).2)
theorem st_X35 (hX : Cx SX l w cc nL ret own R P G) (hd : decode cc pc = .ok (.bastore, 1)) (h0 : 0 ≤ a) (h1 : a < 9) (hv : 0 ≤ z ∧ z ≤ 1) (kk : ∀ σ1 : MM, Mod [35] σ σ1 → (∀ b : Int, σ1 35 b = if b = a then z else σ 35 b) → G (pc + 1) lv st σ1) : G pc lv (.int (iI z) :: .int (iI a) :: .ref (w.2.2 35) :: st) σ := r_zast hX hd (i := 35) (r := 35) (n := 9) rfl sp_X35 h0 h1 (by omega) (fun lo hi h => by
    have e : (some (some ((0 : Int), (1 : Int))) : Option (Option (Int × Int))) = some (some (lo, hi)) := h
    cases e
    exact hv) (kk _ Mod.up (fun b => up_at))
theorem ld_X36 (hX : Cx SX l w cc nL ret own R P G) (hd : decode cc pc = .ok (.baload, 1)) (h0 : 0 ≤ a) (h1 : a < 9) (kk : 0 ≤ σ 36 a → σ 36 a ≤ 1 → G (pc + 1) lv (.int (iI (σ 36 a)) :: st) σ) : G pc lv (.int (iI a) :: .ref (w.2.2 36) :: st) σ := r_bd hX fun hB => r_zald hX hd (i := 36) (r := 36) (n := 9) rfl h0 h1 (kk (hB 36 0 1 rfl a).1 (hB 36 0 1 rfl a).2)
theorem st_X36 (hX : Cx SX l w cc nL ret own R P G) (hd : decode cc pc = .ok (.bastore, 1)) (h0 : 0 ≤ a) (h1 : a < 9) (hv : 0 ≤ z ∧ z ≤ 1) (kk : ∀ σ1 : MM, Mod [36] σ σ1 → (∀ b : Int, σ1 36 b = if b = a then z else σ 36 b) → G (pc + 1) lv st σ1) : G pc lv (.int (iI z) :: .int (iI a) :: .ref (w.2.2 36) :: st) σ := r_zast hX hd (i := 36) (r := 36) (n := 9) rfl sp_X36 h0 h1 (by omega) (fun lo hi h => by
    have e : (some (some ((0 : Int), (1 : Int))) : Option (Option (Int × Int))) = some (some (lo, hi)) := h
    cases e
    exact hv) (kk _ Mod.up (fun b => up_at))
theorem ld_X37 (hX : Cx SX l w cc nL ret own R P G) (hd : decode cc pc = .ok (.iaload, 1)) (h0 : 0 ≤ a) (h1 : a < 9) (kk : 0 ≤ σ 37 a → σ 37 a ≤ 1000 → G (pc + 1) lv (.int (iI (σ 37 a)) :: st) σ) : G pc lv (.int (iI a) :: .ref (w.2.2 37) :: st) σ := r_bd hX fun hB => r_iald hX hd (i := 37) (r := 37) (n := 9) rfl h0 h1 (kk (hB 37 0 1000 rfl a).1 (hB 37 0 1000 rfl a).2)
theorem st_X37 (hX : Cx SX l w cc nL ret own R P G) (hd : decode cc pc = .ok (.iastore, 1)) (h0 : 0 ≤ a) (h1 : a < 9) (hv : 0 ≤ z ∧ z ≤ 1000) (kk : ∀ σ1 : MM, Mod [37] σ σ1 → (∀ b : Int, σ1 37 b = if b = a then z else σ 37 b) → G (pc + 1) lv st σ1) : G pc lv (.int (iI z) :: .int (iI a) :: .ref (w.2.2 37) :: st) σ := r_iast hX hd (i := 37) (r := 37) (n := 9) rfl sp_X37 h0 h1 (fun lo hi h => by
    have e : (some (some ((0 : Int), (1000 : Int))) : Option (Option (Int × Int))) = some (some (lo, hi)) := h
    cases e
    exact hv) (kk _ Mod.up (fun b => up_at))
theorem ld_X38 (hX : Cx SX l w cc nL ret own R P G) (hd : decode cc pc = .ok (.iaload, 1)) (h0 : 0 ≤ a) (h1 : a < 8) (kk : 0 ≤ σ 38 a → σ 38 a ≤ 8 → G (pc + 1) lv (.int (iI (σ 38 a)) :: st) σ) : G pc lv (.int (iI a) :: .ref (w.2.2 38) :: st) σ := r_bd hX fun hB => r_iald hX hd (i := 38) (r := 38) (n := 8) rfl h0 h1 (kk (hB 38 0 8 rfl a).1 (hB 38 0 8 rfl a).2)
theorem st_X38 (hX : Cx SX l w cc nL ret own R P G) (hd : decode cc pc = .ok (.iastore, 1)) (h0 : 0 ≤ a) (h1 : a < 8) (hv : 0 ≤ z ∧ z ≤ 8) (kk : ∀ σ1 : MM, Mod [38] σ σ1 → (∀ b : Int, σ1 38 b = if b = a then z else σ 38 b) → G (pc + 1) lv st σ1) : G pc lv (.int (iI z) :: .int (iI a) :: .ref (w.2.2 38) :: st) σ := r_iast hX hd (i := 38) (r := 38) (n := 8) rfl sp_X38 h0 h1 (fun lo hi h => by
    have e : (some (some ((0 : Int), (8 : Int))) : Option (Option (Int × Int))) = some (some (lo, hi)) := h
    cases e
    exact hv) (kk _ Mod.up (fun b => up_at))
theorem ld_X39 (hX : Cx SX l w cc nL ret own R P G) (hd : decode cc pc = .ok (.iaload, 1)) (h0 : 0 ≤ a) (h1 : a < 8) (kk : 0 ≤ σ 39 a → σ 39 a ≤ 20000000 → G (pc + 1) lv (.int (iI (σ 39 a)) :: st) σ) : G pc lv (.int (iI a) :: .ref (w.2.2 39) :: st) σ := r_bd hX fun hB => r_iald hX hd (i := 39) (r := 39) (n := 8) rfl h0 h1 (kk (hB 39 0 20000000 rfl a).1 (hB 39 0 20000000 rfl a).2)
theorem st_X39 (hX : Cx SX l w cc nL ret own R P G) (hd : decode cc pc = .ok (.iastore, 1)) (h0 : 0 ≤ a) (h1 : a < 8) (hv : 0 ≤ z ∧ z ≤ 20000000) (kk : ∀ σ1 : MM, Mod [39] σ σ1 → (∀ b : Int, σ1 39 b = if b = a then z else σ 39 b) → G (pc + 1) lv st σ1) : G pc lv (.int (iI z) :: .int (iI a) :: .ref (w.2.2 39) :: st) σ := r_iast hX hd (i := 39) (r := 39) (n := 8) rfl sp_X39 h0 h1 (fun lo hi h => by
    have e : (some (some ((0 : Int), (20000000 : Int))) : Option (Option (Int × Int))) = some (some (lo, hi)) := h
    cases e
    exact hv) (kk _ Mod.up (fun b => up_at))
theorem ld_X40 (hX : Cx SX l w cc nL ret own R P G) (hd : decode cc pc = .ok (.iaload, 1)) (h0 : 0 ≤ a) (h1 : a < 8) (kk : G (pc + 1) lv (.int (iI (σ 40 a)) :: st) σ) : G pc lv (.int (iI a) :: .ref (w.2.2 40) :: st) σ := r_iald hX hd (i := 40) (r := 40) (n := 8) rfl h0 h1 kk
theorem st_X40 (hX : Cx SX l w cc nL ret own R P G) (hd : decode cc pc = .ok (.iastore, 1)) (h0 : 0 ≤ a) (h1 : a < 8) (kk : ∀ σ1 : MM, Mod [40] σ σ1 → (∀ b : Int, σ1 40 b = if b = a then z else σ 40 b) → G (pc + 1) lv st σ1) : G pc lv (.int (iI z) :: .int (iI a) :: .ref (w.2.2 40) :: st) σ := r_iast hX hd (i := 40) (r := 40) (n := 8) rfl sp_X40 h0 h1 (fun lo hi h => by
    have e : (some none : Option (Option (Int × Int))) = some (some (lo, hi)) := h
    cases e) (kk _ Mod.up (fun b => up_at))
theorem ld_X41 (hX : Cx SX l w cc nL ret own R P G) (hd : decode cc pc = .ok (.iaload, 1)) (h0 : 0 ≤ a) (h1 : a < 8) (kk : 0 ≤ σ 41 a → σ 41 a ≤ 8 → G (pc + 1) lv (.int (iI (σ 41 a)) :: st) σ) : G pc lv (.int (iI a) :: .ref (w.2.2 41) :: st) σ := r_bd hX fun hB => r_iald hX hd (i := 41) (r := 41) (n := 8) rfl h0 h1 (kk (hB 41 0 8 rfl a).1 (hB 41 0 8 rfl a).2)
theorem st_X41 (hX : Cx SX l w cc nL ret own R P G) (hd : decode cc pc = .ok (.iastore, 1)) (h0 : 0 ≤ a) (h1 : a < 8) (hv : 0 ≤ z ∧ z ≤ 8) (kk : ∀ σ1 : MM, Mod [41] σ σ1 → (∀ b : Int, σ1 41 b = if b = a then z else σ 41 b) → G (pc + 1) lv st σ1) : G pc lv (.int (iI z) :: .int (iI a) :: .ref (w.2.2 41) :: st) σ := r_iast hX hd (i := 41) (r := 41) (n := 8) rfl sp_X41 h0 h1 (fun lo hi h => by
    have e : (some (some ((0 : Int), (8 : Int))) : Option (Option (Int × Int))) = some (some (lo, hi)) := h
    cases e
    exact hv) (kk _ Mod.up (fun b => up_at))
theorem ld_X42 (hX : Cx SX l w cc nL ret own R P G) (hd : decode cc pc = .ok (.iaload, 1)) (h0 : 0 ≤ a) (h1 : a < 8) (kk : 0 ≤ σ 42 a → σ 42 a ≤ 11 → G (pc + 1) lv (.int (iI (σ 42 a)) :: st) σ) : G pc lv (.int (iI a) :: .ref (w.2.2 42) :: st) σ := r_bd hX fun hB => r_iald hX hd (i := 42) (r := 42) (n := 8) rfl h0 h1 (kk (hB 42 0 11 rfl a).1 (hB 42 0 11 rfl a).2)
theorem st_X42 (hX : Cx SX l w cc nL ret own R P G) (hd : decode cc pc = .ok (.iastore, 1)) (h0 : 0 ≤ a) (h1 : a < 8) (hv : 0 ≤ z ∧ z ≤ 11) (kk : ∀ σ1 : MM, Mod [42] σ σ1 → (∀ b : Int, σ1 42 b = if b = a then z else σ 42 b) → G (pc + 1) lv st σ1) : G pc lv (.int (iI z) :: .int (iI a) :: .ref (w.2.2 42) :: st) σ := r_iast hX hd (i := 42) (r := 42) (n := 8) rfl sp_X42 h0 h1 (fun lo hi h => by
    have e : (some (some ((0 : Int), (11 : Int))) : Option (Option (Int × Int))) = some (some (lo, hi)) := h
    cases e
    exact hv) (kk _ Mod.up (fun b => up_at))
theorem ld_X43 (hX : Cx SX l w cc nL ret own R P G) (hd : decode cc pc = .ok (.iaload, 1)) (h0 : 0 ≤ a) (h1 : a < 8) (kk : 0 ≤ σ 43 a → σ 43 a ≤ 200000 → G (pc + 1) lv (.int (iI (σ 43 a)) :: st) σ) : G pc lv (.int (iI a) :: .ref (w.2.2 43) :: st) σ := r_bd hX fun hB => r_iald hX hd (i := 43) (r := 43) (n := 8) rfl h0 h1 (kk (hB 43 0 200000 rfl a).1 (hB 43 0 200000 rfl a).2)
theorem st_X43 (hX : Cx SX l w cc nL ret own R P G) (hd : decode cc pc = .ok (.iastore, 1)) (h0 : 0 ≤ a) (h1 : a < 8) (hv : 0 ≤ z ∧ z ≤ 200000) (kk : ∀ σ1 : MM, Mod [43] σ σ1 → (∀ b : Int, σ1 43 b = if b = a then z else σ 43 b) → G (pc + 1) lv st σ1) : G pc lv (.int (iI z) :: .int (iI a) :: .ref (w.2.2 43) :: st) σ := r_iast hX hd (i := 43) (r := 43) (n := 8) rfl sp_X43 h0 h1 (fun lo hi h => by
    have e : (some (some ((0 : Int), (200000 : Int))) : Option (Option (Int × Int))) = some (some (lo, hi)) := h
    cases e
    exact hv) (kk _ Mod.up (fun b => up_at))
theorem ld_X44 (hX : Cx SX l w cc nL ret own R P G) (hd : decode cc pc = .ok (.iaload, 1)) (h0 : 0 ≤ a) (h1 : a < 81) (kk : 0 ≤ σ 44 a → σ 44 a ≤ 1000 → G (pc + 1) lv (.int (iI (σ 44 a)) :: st) σ) : G pc lv (.int (iI a) :: .ref (w.2.2 44) :: st) σ := r_bd hX fun hB => r_iald hX hd (i := 44) (r := 44) (n := 81) rfl h0 h1 (kk (hB 44 0 1000 rfl a).1 (hB 44 0 1000 rfl a).2)
theorem st_X44 (hX : Cx SX l w cc nL ret own R P G) (hd : decode cc pc = .ok (.iastore, 1)) (h0 : 0 ≤ a) (h1 : a < 81) (hv : 0 ≤ z ∧ z ≤ 1000) (kk : ∀ σ1 : MM, Mod [44] σ σ1 → (∀ b : Int, σ1 44 b = if b = a then z else σ 44 b) → G (pc + 1) lv st σ1) : G pc lv (.int (iI z) :: .int (iI a) :: .ref (w.2.2 44) :: st) σ := r_iast hX hd (i := 44) (r := 44) (n := 81) rfl sp_X44 h0 h1 (fun lo hi h => by
    have e : (some (some ((0 : Int), (1000 : Int))) : Option (Option (Int × Int))) = some (some (lo, hi)) := h
    cases e
    exact hv) (kk _ Mod.up (fun b => up_at))
theorem fg_X0_12 (hX : Cx SX l w cc nL ret RX5 R P G) (hd : decode cc pc = .ok (.getfield 12, 3)) (kk : G (pc + 3) lv (.ref (w.2.2 1) :: st) σ) : G pc lv (.ref (w.2.2 0) :: st) σ := r_getR hX hd (i := 0) (j := 1) rfl rfl in_X5 (k := 0) (by decide) rfl lk_RX5_12 kk
theorem fg_X0_19 (hX : Cx SX l w cc nL ret RX5 R P G) (hd : decode cc pc = .ok (.getfield 19, 3)) (kk : G (pc + 3) lv (.ref (w.2.2 10) :: st) σ) : G pc lv (.ref (w.2.2 0) :: st) σ := r_getR hX hd (i := 0) (j := 10) rfl rfl in_X5 (k := 1) (by decide) rfl lk_RX5_19 kk
theorem fg_X0_28 (hX : Cx SX l w cc nL ret RX5 R P G) (hd : decode cc pc = .ok (.getfield 28, 3)) (kk : G (pc + 3) lv (.ref (w.2.2 14) :: st) σ) : G pc lv (.ref (w.2.2 0) :: st) σ := r_getR hX hd (i := 0) (j := 14) rfl rfl in_X5 (k := 2) (by decide) rfl lk_RX5_28 kk
theorem fg_X0_35 (hX : Cx SX l w cc nL ret RX5 R P G) (hd : decode cc pc = .ok (.getfield 35, 3)) (kk : G (pc + 3) lv (.ref (w.2.2 17) :: st) σ) : G pc lv (.ref (w.2.2 0) :: st) σ := r_getR hX hd (i := 0) (j := 17) rfl rfl in_X5 (k := 3) (by decide) rfl lk_RX5_35 kk
theorem fg_X0_44 (hX : Cx SX l w cc nL ret RX5 R P G) (hd : decode cc pc = .ok (.getfield 44, 3)) (kk : G (pc + 3) lv (.ref (w.2.2 23) :: st) σ) : G pc lv (.ref (w.2.2 0) :: st) σ := r_getR hX hd (i := 0) (j := 23) rfl rfl in_X5 (k := 4) (by decide) rfl lk_RX5_44 kk
theorem fg_X0_48 (hX : Cx SX l w cc nL ret RX5 R P G) (hd : decode cc pc = .ok (.getfield 48, 3)) (kk : G (pc + 3) lv (.ref (w.2.2 25) :: st) σ) : G pc lv (.ref (w.2.2 0) :: st) σ := r_getR hX hd (i := 0) (j := 25) rfl rfl in_X5 (k := 5) (by decide) rfl lk_RX5_48 kk
theorem fg_X0_78 (hX : Cx SX l w cc nL ret RX5 R P G) (hd : decode cc pc = .ok (.getfield 78, 3)) (kk : 0 ≤ σ 50 0 → σ 50 0 ≤ 61 → G (pc + 3) lv (.int (iI (σ 50 0)) :: st) σ) : G pc lv (.ref (w.2.2 0) :: st) σ := r_bd hX fun hB => r_getI hX hd (i := 0) (r := 50) rfl rfl in_X5 (k := 6) (by decide) rfl lk_RX5_78 (kk (hB 50 0 61 rfl 0).1 (hB 50 0 61 rfl 0).2)
theorem fp_X0_78 (hX : Cx SX l w cc nL ret RX5 R P G) (hd : decode cc pc = .ok (.putfield 78, 3)) (hv : 0 ≤ z ∧ z ≤ 61) (kk : ∀ σ1 : MM, Mod [50] σ σ1 → σ1 50 0 = z → G (pc + 3) lv st σ1) : G pc lv (.int (iI z) :: .ref (w.2.2 0) :: st) σ := r_putI hX hd (i := 0) (r := 50) rfl rfl in_X5 tyX5 tyX5_ok nmX5 (k := 6) (by decide) rfl lk_RX5_78 rfl (by decide +kernel) sp_X50 (by decide +kernel) (fun lo hi h => by
    have e : (some (some ((0 : Int), (61 : Int))) : Option (Option (Int × Int))) = some (some (lo, hi)) := h
    cases e
    exact hv) (kk _ Mod.up (by rw [up_at]; rfl))
theorem fg_X0_82 (hX : Cx SX l w cc nL ret RX5 R P G) (hd : decode cc pc = .ok (.getfield 82, 3)) (kk : 0 ≤ σ 51 0 → σ 51 0 ≤ 60 → G (pc + 3) lv (.int (iI (σ 51 0)) :: st) σ) : G pc lv (.ref (w.2.2 0) :: st) σ := r_bd hX fun hB => r_getI hX hd (i := 0) (r := 51) rfl rfl in_X5 (k := 7) (by decide) rfl lk_RX5_82 (kk (hB 51 0 60 rfl 0).1 (hB 51 0 60 rfl 0).2)
theorem fp_X0_82 (hX : Cx SX l w cc nL ret RX5 R P G) (hd : decode cc pc = .ok (.putfield 82, 3)) (hv : 0 ≤ z ∧ z ≤ 60) (kk : ∀ σ1 : MM, Mod [51] σ σ1 → σ1 51 0 = z → G (pc + 3) lv st σ1) : G pc lv (.int (iI z) :: .ref (w.2.2 0) :: st) σ := r_putI hX hd (i := 0) (r := 51) rfl rfl in_X5 tyX5 tyX5_ok nmX5 (k := 7) (by decide) rfl lk_RX5_82 rfl (by decide +kernel) sp_X51 (by decide +kernel) (fun lo hi h => by
    have e : (some (some ((0 : Int), (60 : Int))) : Option (Option (Int × Int))) = some (some (lo, hi)) := h
    cases e
    exact hv) (kk _ Mod.up (by rw [up_at]; rfl))
theorem fg_X0_211 (hX : Cx SX l w cc nL ret RX5 R P G) (hd : decode cc pc = .ok (.getfield 211, 3)) (kk : G (pc + 3) lv (.int (iI (σ 52 0)) :: st) σ) : G pc lv (.ref (w.2.2 0) :: st) σ := r_getI hX hd (i := 0) (r := 52) rfl rfl in_X5 (k := 8) (by decide) rfl lk_RX5_211 kk
theorem fp_X0_211 (hX : Cx SX l w cc nL ret RX5 R P G) (hd : decode cc pc = .ok (.putfield 211, 3)) (kk : ∀ σ1 : MM, Mod [52] σ σ1 → σ1 52 0 = z → G (pc + 3) lv st σ1) : G pc lv (.int (iI z) :: .ref (w.2.2 0) :: st) σ := r_putI hX hd (i := 0) (r := 52) rfl rfl in_X5 tyX5 tyX5_ok nmX5 (k := 8) (by decide) rfl lk_RX5_211 rfl (by decide +kernel) sp_X52 (by decide +kernel) (fun lo hi h => by
    have e : (some none : Option (Option (Int × Int))) = some (some (lo, hi)) := h
    cases e) (kk _ Mod.up (by rw [up_at]; rfl))
theorem fg_X1_9 (hX : Cx SX l w cc nL ret RX2 R P G) (hd : decode cc pc = .ok (.getfield 9, 3)) (kk : G (pc + 3) lv (.ref (w.2.2 2) :: st) σ) : G pc lv (.ref (w.2.2 1) :: st) σ := r_getR hX hd (i := 1) (j := 2) rfl rfl in_X2 (k := 0) (by decide) rfl lk_RX2_9 kk
theorem fg_X1_15 (hX : Cx SX l w cc nL ret RX2 R P G) (hd : decode cc pc = .ok (.getfield 15, 3)) (kk : G (pc + 3) lv (.ref (w.2.2 3) :: st) σ) : G pc lv (.ref (w.2.2 1) :: st) σ := r_getR hX hd (i := 1) (j := 3) rfl rfl in_X2 (k := 1) (by decide) rfl lk_RX2_15 kk
theorem fg_X1_18 (hX : Cx SX l w cc nL ret RX2 R P G) (hd : decode cc pc = .ok (.getfield 18, 3)) (kk : G (pc + 3) lv (.ref (w.2.2 4) :: st) σ) : G pc lv (.ref (w.2.2 1) :: st) σ := r_getR hX hd (i := 1) (j := 4) rfl rfl in_X2 (k := 2) (by decide) rfl lk_RX2_18 kk
theorem fg_X1_21 (hX : Cx SX l w cc nL ret RX2 R P G) (hd : decode cc pc = .ok (.getfield 21, 3)) (kk : G (pc + 3) lv (.ref (w.2.2 5) :: st) σ) : G pc lv (.ref (w.2.2 1) :: st) σ := r_getR hX hd (i := 1) (j := 5) rfl rfl in_X2 (k := 3) (by decide) rfl lk_RX2_21 kk
theorem fg_X1_24 (hX : Cx SX l w cc nL ret RX2 R P G) (hd : decode cc pc = .ok (.getfield 24, 3)) (kk : G (pc + 3) lv (.ref (w.2.2 6) :: st) σ) : G pc lv (.ref (w.2.2 1) :: st) σ := r_getR hX hd (i := 1) (j := 6) rfl rfl in_X2 (k := 4) (by decide) rfl lk_RX2_24 kk
theorem fg_X1_27 (hX : Cx SX l w cc nL ret RX2 R P G) (hd : decode cc pc = .ok (.getfield 27, 3)) (kk : G (pc + 3) lv (.ref (w.2.2 7) :: st) σ) : G pc lv (.ref (w.2.2 1) :: st) σ := r_getR hX hd (i := 1) (j := 7) rfl rfl in_X2 (k := 5) (by decide) rfl lk_RX2_27 kk
theorem fg_X1_30 (hX : Cx SX l w cc nL ret RX2 R P G) (hd : decode cc pc = .ok (.getfield 30, 3)) (kk : G (pc + 3) lv (.ref (w.2.2 8) :: st) σ) : G pc lv (.ref (w.2.2 1) :: st) σ := r_getR hX hd (i := 1) (j := 8) rfl rfl in_X2 (k := 6) (by decide) rfl lk_RX2_30 kk
theorem fg_X1_34 (hX : Cx SX l w cc nL ret RX2 R P G) (hd : decode cc pc = .ok (.getfield 34, 3)) (kk : G (pc + 3) lv (.ref (w.2.2 9) :: st) σ) : G pc lv (.ref (w.2.2 1) :: st) σ := r_getR hX hd (i := 1) (j := 9) rfl rfl in_X2 (k := 7) (by decide) rfl lk_RX2_34 kk
theorem fg_X1_37 (hX : Cx SX l w cc nL ret RX2 R P G) (hd : decode cc pc = .ok (.getfield 37, 3)) (kk : 0 ≤ σ 53 0 → σ 53 0 ≤ 8 → G (pc + 3) lv (.int (iI (σ 53 0)) :: st) σ) : G pc lv (.ref (w.2.2 1) :: st) σ := r_bd hX fun hB => r_getI hX hd (i := 1) (r := 53) rfl rfl in_X2 (k := 8) (by decide) rfl lk_RX2_37 (kk (hB 53 0 8 rfl 0).1 (hB 53 0 8 rfl 0).2)
theorem fp_X1_37 (hX : Cx SX l w cc nL ret RX2 R P G) (hd : decode cc pc = .ok (.putfield 37, 3)) (hv : 0 ≤ z ∧ z ≤ 8) (kk : ∀ σ1 : MM, Mod [53] σ σ1 → σ1 53 0 = z → G (pc + 3) lv st σ1) : G pc lv (.int (iI z) :: .ref (w.2.2 1) :: st) σ := r_putI hX hd (i := 1) (r := 53) rfl rfl in_X2 tyX2 tyX2_ok nmX2 (k := 8) (by decide) rfl lk_RX2_37 rfl (by decide +kernel) sp_X53 (by decide +kernel) (fun lo hi h => by
    have e : (some (some ((0 : Int), (8 : Int))) : Option (Option (Int × Int))) = some (some (lo, hi)) := h
    cases e
    exact hv) (kk _ Mod.up (by rw [up_at]; rfl))
theorem fg_X1_44 (hX : Cx SX l w cc nL ret RX2 R P G) (hd : decode cc pc = .ok (.getfield 44, 3)) (kk : 0 ≤ σ 54 0 → σ 54 0 ≤ 8 → G (pc + 3) lv (.int (iI (σ 54 0)) :: st) σ) : G pc lv (.ref (w.2.2 1) :: st) σ := r_bd hX fun hB => r_getI hX hd (i := 1) (r := 54) rfl rfl in_X2 (k := 9) (by decide) rfl lk_RX2_44 (kk (hB 54 0 8 rfl 0).1 (hB 54 0 8 rfl 0).2)
theorem fp_X1_44 (hX : Cx SX l w cc nL ret RX2 R P G) (hd : decode cc pc = .ok (.putfield 44, 3)) (hv : 0 ≤ z ∧ z ≤ 8) (kk : ∀ σ1 : MM, Mod [54] σ σ1 → σ1 54 0 = z → G (pc + 3) lv st σ1) : G pc lv (.int (iI z) :: .ref (w.2.2 1) :: st) σ := r_putI hX hd (i := 1) (r := 54) rfl rfl in_X2 tyX2 tyX2_ok nmX2 (k := 9) (by decide) rfl lk_RX2_44 rfl (by decide +kernel) sp_X54 (by decide +kernel) (fun lo hi h => by
    have e : (some (some ((0 : Int), (8 : Int))) : Option (Option (Int × Int))) = some (some (lo, hi)) := h
    cases e
    exact hv) (kk _ Mod.up (by rw [up_at]; rfl))
theorem fg_X1_41 (hX : Cx SX l w cc nL ret RX2 R P G) (hd : decode cc pc = .ok (.getfield 41, 3)) (kk : G (pc + 3) lv (.int (iI (σ 55 0)) :: st) σ) : G pc lv (.ref (w.2.2 1) :: st) σ := r_getI hX hd (i := 1) (r := 55) rfl rfl in_X2 (k := 10) (by decide) rfl lk_RX2_41 kk
theorem fp_X1_41 (hX : Cx SX l w cc nL ret RX2 R P G) (hd : decode cc pc = .ok (.putfield 41, 3)) (kk : ∀ σ1 : MM, Mod [55] σ σ1 → σ1 55 0 = z → G (pc + 3) lv st σ1) : G pc lv (.int (iI z) :: .ref (w.2.2 1) :: st) σ := r_putI hX hd (i := 1) (r := 55) rfl rfl in_X2 tyX2 tyX2_ok nmX2 (k := 10) (by decide) rfl lk_RX2_41 rfl (by decide +kernel) sp_X55 (by decide +kernel) (fun lo hi h => by
    have e : (some none : Option (Option (Int × Int))) = some (some (lo, hi)) := h
    cases e) (kk _ Mod.up (by rw [up_at]; rfl))
theorem fg_X10_9 (hX : Cx SX l w cc nL ret RX0 R P G) (hd : decode cc pc = .ok (.getfield 9, 3)) (kk : G (pc + 3) lv (.ref (w.2.2 11) :: st) σ) : G pc lv (.ref (w.2.2 10) :: st) σ := r_getR hX hd (i := 10) (j := 11) rfl rfl in_X0 (k := 0) (by decide) rfl lk_RX0_9 kk
theorem fg_X10_15 (hX : Cx SX l w cc nL ret RX0 R P G) (hd : decode cc pc = .ok (.getfield 15, 3)) (kk : G (pc + 3) lv (.ref (w.2.2 12) :: st) σ) : G pc lv (.ref (w.2.2 10) :: st) σ := r_getR hX hd (i := 10) (j := 12) rfl rfl in_X0 (k := 1) (by decide) rfl lk_RX0_15 kk
theorem fg_X10_18 (hX : Cx SX l w cc nL ret RX0 R P G) (hd : decode cc pc = .ok (.getfield 18, 3)) (kk : G (pc + 3) lv (.ref (w.2.2 13) :: st) σ) : G pc lv (.ref (w.2.2 10) :: st) σ := r_getR hX hd (i := 10) (j := 13) rfl rfl in_X0 (k := 2) (by decide) rfl lk_RX0_18 kk
theorem fg_X10_26 (hX : Cx SX l w cc nL ret RX0 R P G) (hd : decode cc pc = .ok (.getfield 26, 3)) (kk : 1 ≤ σ 56 0 → σ 56 0 ≤ 3 → G (pc + 3) lv (.int (iI (σ 56 0)) :: st) σ) : G pc lv (.ref (w.2.2 10) :: st) σ := r_bd hX fun hB => r_getI hX hd (i := 10) (r := 56) rfl rfl in_X0 (k := 3) (by decide) rfl lk_RX0_26 (kk (hB 56 1 3 rfl 0).1 (hB 56 1 3 rfl 0).2)
theorem fp_X10_26 (hX : Cx SX l w cc nL ret RX0 R P G) (hd : decode cc pc = .ok (.putfield 26, 3)) (hv : 1 ≤ z ∧ z ≤ 3) (kk : ∀ σ1 : MM, Mod [56] σ σ1 → σ1 56 0 = z → G (pc + 3) lv st σ1) : G pc lv (.int (iI z) :: .ref (w.2.2 10) :: st) σ := r_putI hX hd (i := 10) (r := 56) rfl rfl in_X0 tyX0 tyX0_ok nmX0 (k := 3) (by decide) rfl lk_RX0_26 rfl (by decide +kernel) sp_X56 (by decide +kernel) (fun lo hi h => by
    have e : (some (some ((1 : Int), (3 : Int))) : Option (Option (Int × Int))) = some (some (lo, hi)) := h
    cases e
    exact hv) (kk _ Mod.up (by rw [up_at]; rfl))
theorem fg_X10_30 (hX : Cx SX l w cc nL ret RX0 R P G) (hd : decode cc pc = .ok (.getfield 30, 3)) (kk : 1 ≤ σ 57 0 → σ 57 0 ≤ 3 → G (pc + 3) lv (.int (iI (σ 57 0)) :: st) σ) : G pc lv (.ref (w.2.2 10) :: st) σ := r_bd hX fun hB => r_getI hX hd (i := 10) (r := 57) rfl rfl in_X0 (k := 4) (by decide) rfl lk_RX0_30 (kk (hB 57 1 3 rfl 0).1 (hB 57 1 3 rfl 0).2)
theorem fp_X10_30 (hX : Cx SX l w cc nL ret RX0 R P G) (hd : decode cc pc = .ok (.putfield 30, 3)) (hv : 1 ≤ z ∧ z ≤ 3) (kk : ∀ σ1 : MM, Mod [57] σ σ1 → σ1 57 0 = z → G (pc + 3) lv st σ1) : G pc lv (.int (iI z) :: .ref (w.2.2 10) :: st) σ := r_putI hX hd (i := 10) (r := 57) rfl rfl in_X0 tyX0 tyX0_ok nmX0 (k := 4) (by decide) rfl lk_RX0_30 rfl (by decide +kernel) sp_X57 (by decide +kernel) (fun lo hi h => by
    have e : (some (some ((1 : Int), (3 : Int))) : Option (Option (Int × Int))) = some (some (lo, hi)) := h
    cases e
    exact hv) (kk _ Mod.up (by rw [up_at]; rfl))
theorem fg_X14_18 (hX : Cx SX l w cc nL ret RX1 R P G) (hd : decode cc pc = .ok (.getfield 18, 3)) (kk : G (pc + 3) lv (.ref (w.2.2 1) :: st) σ) : G pc lv (.ref (w.2.2 14) :: st) σ := r_getR hX hd (i := 14) (j := 1) rfl rfl in_X1 (k := 0) (by decide) rfl lk_RX1_18 kk
theorem fg_X14_22 (hX : Cx SX l w cc nL ret RX1 R P G) (hd : decode cc pc = .ok (.getfield 22, 3)) (kk : G (pc + 3) lv (.ref (w.2.2 10) :: st) σ) : G pc lv (.ref (w.2.2 14) :: st) σ := r_getR hX hd (i := 14) (j := 10) rfl rfl in_X1 (k := 1) (by decide) rfl lk_RX1_22 kk
theorem fg_X14_9 (hX : Cx SX l w cc nL ret RX1 R P G) (hd : decode cc pc = .ok (.getfield 9, 3)) (kk : G (pc + 3) lv (.ref (w.2.2 15) :: st) σ) : G pc lv (.ref (w.2.2 14) :: st) σ := r_getR hX hd (i := 14) (j := 15) rfl rfl in_X1 (k := 2) (by decide) rfl lk_RX1_9 kk
theorem fg_X14_15 (hX : Cx SX l w cc nL ret RX1 R P G) (hd : decode cc pc = .ok (.getfield 15, 3)) (kk : G (pc + 3) lv (.ref (w.2.2 16) :: st) σ) : G pc lv (.ref (w.2.2 14) :: st) σ := r_getR hX hd (i := 14) (j := 16) rfl rfl in_X1 (k := 3) (by decide) rfl lk_RX1_15 kk
theorem fg_X14_26 (hX : Cx SX l w cc nL ret RX1 R P G) (hd : decode cc pc = .ok (.getfield 26, 3)) (kk : 0 ≤ σ 58 0 → σ 58 0 ≤ 12 → G (pc + 3) lv (.int (iI (σ 58 0)) :: st) σ) : G pc lv (.ref (w.2.2 14) :: st) σ := r_bd hX fun hB => r_getI hX hd (i := 14) (r := 58) rfl rfl in_X1 (k := 4) (by decide) rfl lk_RX1_26 (kk (hB 58 0 12 rfl 0).1 (hB 58 0 12 rfl 0).2)
theorem fp_X14_26 (hX : Cx SX l w cc nL ret RX1 R P G) (hd : decode cc pc = .ok (.putfield 26, 3)) (hv : 0 ≤ z ∧ z ≤ 12) (kk : ∀ σ1 : MM, Mod [58] σ σ1 → σ1 58 0 = z → G (pc + 3) lv st σ1) : G pc lv (.int (iI z) :: .ref (w.2.2 14) :: st) σ := r_putI hX hd (i := 14) (r := 58) rfl rfl in_X1 tyX1 tyX1_ok nmX1 (k := 4) (by decide) rfl lk_RX1_26 rfl (by decide +kernel) sp_X58 (by decide +kernel) (fun lo hi h => by
    have e : (some (some ((0 : Int), (12 : Int))) : Option (Option (Int × Int))) = some (some (lo, hi)) := h
    cases e
    exact hv) (kk _ Mod.up (by rw [up_at]; rfl))
theorem fg_X17_27 (hX : Cx SX l w cc nL ret RX3 R P G) (hd : decode cc pc = .ok (.getfield 27, 3)) (kk : G (pc + 3) lv (.ref (w.2.2 1) :: st) σ) : G pc lv (.ref (w.2.2 17) :: st) σ := r_getR hX hd (i := 17) (j := 1) rfl rfl in_X3 (k := 0) (by decide) rfl lk_RX3_27 kk
theorem fg_X17_31 (hX : Cx SX l w cc nL ret RX3 R P G) (hd : decode cc pc = .ok (.getfield 31, 3)) (kk : G (pc + 3) lv (.ref (w.2.2 10) :: st) σ) : G pc lv (.ref (w.2.2 17) :: st) σ := r_getR hX hd (i := 17) (j := 10) rfl rfl in_X3 (k := 1) (by decide) rfl lk_RX3_31 kk
theorem fg_X17_9 (hX : Cx SX l w cc nL ret RX3 R P G) (hd : decode cc pc = .ok (.getfield 9, 3)) (kk : G (pc + 3) lv (.ref (w.2.2 18) :: st) σ) : G pc lv (.ref (w.2.2 17) :: st) σ := r_getR hX hd (i := 17) (j := 18) rfl rfl in_X3 (k := 2) (by decide) rfl lk_RX3_9 kk
theorem fg_X17_15 (hX : Cx SX l w cc nL ret RX3 R P G) (hd : decode cc pc = .ok (.getfield 15, 3)) (kk : G (pc + 3) lv (.ref (w.2.2 19) :: st) σ) : G pc lv (.ref (w.2.2 17) :: st) σ := r_getR hX hd (i := 17) (j := 19) rfl rfl in_X3 (k := 3) (by decide) rfl lk_RX3_15 kk
theorem fg_X17_18 (hX : Cx SX l w cc nL ret RX3 R P G) (hd : decode cc pc = .ok (.getfield 18, 3)) (kk : G (pc + 3) lv (.ref (w.2.2 20) :: st) σ) : G pc lv (.ref (w.2.2 17) :: st) σ := r_getR hX hd (i := 17) (j := 20) rfl rfl in_X3 (k := 4) (by decide) rfl lk_RX3_18 kk
theorem fg_X17_21 (hX : Cx SX l w cc nL ret RX3 R P G) (hd : decode cc pc = .ok (.getfield 21, 3)) (kk : G (pc + 3) lv (.ref (w.2.2 21) :: st) σ) : G pc lv (.ref (w.2.2 17) :: st) σ := r_getR hX hd (i := 17) (j := 21) rfl rfl in_X3 (k := 5) (by decide) rfl lk_RX3_21 kk
theorem fg_X17_24 (hX : Cx SX l w cc nL ret RX3 R P G) (hd : decode cc pc = .ok (.getfield 24, 3)) (kk : G (pc + 3) lv (.ref (w.2.2 22) :: st) σ) : G pc lv (.ref (w.2.2 17) :: st) σ := r_getR hX hd (i := 17) (j := 22) rfl rfl in_X3 (k := 6) (by decide) rfl lk_RX3_24 kk
theorem fg_X17_45 (hX : Cx SX l w cc nL ret RX3 R P G) (hd : decode cc pc = .ok (.getfield 45, 3)) (kk : 0 ≤ σ 59 0 → σ 59 0 ≤ 12 → G (pc + 3) lv (.int (iI (σ 59 0)) :: st) σ) : G pc lv (.ref (w.2.2 17) :: st) σ := r_bd hX fun hB => r_getI hX hd (i := 17) (r := 59) rfl rfl in_X3 (k := 7) (by decide) rfl lk_RX3_45 (kk (hB 59 0 12 rfl 0).1 (hB 59 0 12 rfl 0).2)
theorem fp_X17_45 (hX : Cx SX l w cc nL ret RX3 R P G) (hd : decode cc pc = .ok (.putfield 45, 3)) (hv : 0 ≤ z ∧ z ≤ 12) (kk : ∀ σ1 : MM, Mod [59] σ σ1 → σ1 59 0 = z → G (pc + 3) lv st σ1) : G pc lv (.int (iI z) :: .ref (w.2.2 17) :: st) σ := r_putI hX hd (i := 17) (r := 59) rfl rfl in_X3 tyX3 tyX3_ok nmX3 (k := 7) (by decide) rfl lk_RX3_45 rfl (by decide +kernel) sp_X59 (by decide +kernel) (fun lo hi h => by
    have e : (some (some ((0 : Int), (12 : Int))) : Option (Option (Int × Int))) = some (some (lo, hi)) := h
    cases e
    exact hv) (kk _ Mod.up (by rw [up_at]; rfl))
theorem fg_X17_35 (hX : Cx SX l w cc nL ret RX3 R P G) (hd : decode cc pc = .ok (.getfield 35, 3)) (kk : 0 ≤ σ 60 0 → σ 60 0 ≤ 20000 → G (pc + 3) lv (.int (iI (σ 60 0)) :: st) σ) : G pc lv (.ref (w.2.2 17) :: st) σ := r_bd hX fun hB => r_getI hX hd (i := 17) (r := 60) rfl rfl in_X3 (k := 8) (by decide) rfl lk_RX3_35 (kk (hB 60 0 20000 rfl 0).1 (hB 60 0 20000 rfl 0).2)
theorem fp_X17_35 (hX : Cx SX l w cc nL ret RX3 R P G) (hd : decode cc pc = .ok (.putfield 35, 3)) (hv : 0 ≤ z ∧ z ≤ 20000) (kk : ∀ σ1 : MM, Mod [60] σ σ1 → σ1 60 0 = z → G (pc + 3) lv st σ1) : G pc lv (.int (iI z) :: .ref (w.2.2 17) :: st) σ := r_putI hX hd (i := 17) (r := 60) rfl rfl in_X3 tyX3 tyX3_ok nmX3 (k := 8) (by decide) rfl lk_RX3_35 rfl (by decide +kernel) sp_X60 (by decide +kernel) (fun lo hi h => by
    have e : (some (some ((0 : Int), (20000 : Int))) : Option (Option (Int × Int))) = some (some (lo, hi)) := h
    cases e
    exact hv) (kk _ Mod.up (by rw [up_at]; rfl))
theorem fg_X23_15 (hX : Cx SX l w cc nL ret RX4 R P G) (hd : decode cc pc = .ok (.getfield 15, 3)) (kk : G (pc + 3) lv (.ref (w.2.2 1) :: st) σ) : G pc lv (.ref (w.2.2 23) :: st) σ := r_getR hX hd (i := 23) (j := 1) rfl rfl in_X4 (k := 0) (by decide) rfl lk_RX4_15 kk
theorem fg_X23_9 (hX : Cx SX l w cc nL ret RX4 R P G) (hd : decode cc pc = .ok (.getfield 9, 3)) (kk : G (pc + 3) lv (.ref (w.2.2 24) :: st) σ) : G pc lv (.ref (w.2.2 23) :: st) σ := r_getR hX hd (i := 23) (j := 24) rfl rfl in_X4 (k := 1) (by decide) rfl lk_RX4_9 kk
theorem fg_X25_15 (hX : Cx SX l w cc nL ret RX4 R P G) (hd : decode cc pc = .ok (.getfield 15, 3)) (kk : G (pc + 3) lv (.ref (w.2.2 1) :: st) σ) : G pc lv (.ref (w.2.2 25) :: st) σ := r_getR hX hd (i := 25) (j := 1) rfl rfl in_X4 (k := 0) (by decide) rfl lk_RX4_15 kk
theorem fg_X25_9 (hX : Cx SX l w cc nL ret RX4 R P G) (hd : decode cc pc = .ok (.getfield 9, 3)) (kk : G (pc + 3) lv (.ref (w.2.2 26) :: st) σ) : G pc lv (.ref (w.2.2 25) :: st) σ := r_getR hX hd (i := 25) (j := 26) rfl rfl in_X4 (k := 1) (by decide) rfl lk_RX4_9 kk
theorem fg_X27_7 (hX : Cx SX l w cc nL ret RX6 R P G) (hd : decode cc pc = .ok (.getfield 7, 3)) (kk : G (pc + 3) lv (.ref (w.2.2 28) :: st) σ) : G pc lv (.ref (w.2.2 27) :: st) σ := r_getR hX hd (i := 27) (j := 28) rfl rfl in_X6 (k := 0) (by decide) rfl lk_RX6_7 kk
theorem fg_X27_13 (hX : Cx SX l w cc nL ret RX6 R P G) (hd : decode cc pc = .ok (.getfield 13, 3)) (kk : G (pc + 3) lv (.ref (w.2.2 29) :: st) σ) : G pc lv (.ref (w.2.2 27) :: st) σ := r_getR hX hd (i := 27) (j := 29) rfl rfl in_X6 (k := 1) (by decide) rfl lk_RX6_13 kk
theorem fg_X27_16 (hX : Cx SX l w cc nL ret RX6 R P G) (hd : decode cc pc = .ok (.getfield 16, 3)) (kk : G (pc + 3) lv (.ref (w.2.2 30) :: st) σ) : G pc lv (.ref (w.2.2 27) :: st) σ := r_getR hX hd (i := 27) (j := 30) rfl rfl in_X6 (k := 2) (by decide) rfl lk_RX6_16 kk
theorem fg_X27_19 (hX : Cx SX l w cc nL ret RX6 R P G) (hd : decode cc pc = .ok (.getfield 19, 3)) (kk : G (pc + 3) lv (.ref (w.2.2 31) :: st) σ) : G pc lv (.ref (w.2.2 27) :: st) σ := r_getR hX hd (i := 27) (j := 31) rfl rfl in_X6 (k := 3) (by decide) rfl lk_RX6_19 kk
theorem fg_X27_22 (hX : Cx SX l w cc nL ret RX6 R P G) (hd : decode cc pc = .ok (.getfield 22, 3)) (kk : G (pc + 3) lv (.ref (w.2.2 32) :: st) σ) : G pc lv (.ref (w.2.2 27) :: st) σ := r_getR hX hd (i := 27) (j := 32) rfl rfl in_X6 (k := 4) (by decide) rfl lk_RX6_22 kk
theorem fg_X27_72 (hX : Cx SX l w cc nL ret RX6 R P G) (hd : decode cc pc = .ok (.getfield 72, 3)) (kk : 0 ≤ σ 61 0 → σ 61 0 ≤ 8 → G (pc + 3) lv (.int (iI (σ 61 0)) :: st) σ) : G pc lv (.ref (w.2.2 27) :: st) σ := r_bd hX fun hB => r_getI hX hd (i := 27) (r := 61) rfl rfl in_X6 (k := 5) (by decide) rfl lk_RX6_72 (kk (hB 61 0 8 rfl 0).1 (hB 61 0 8 rfl 0).2)
theorem fp_X27_72 (hX : Cx SX l w cc nL ret RX6 R P G) (hd : decode cc pc = .ok (.putfield 72, 3)) (hv : 0 ≤ z ∧ z ≤ 8) (kk : ∀ σ1 : MM, Mod [61] σ σ1 → σ1 61 0 = z → G (pc + 3) lv st σ1) : G pc lv (.int (iI z) :: .ref (w.2.2 27) :: st) σ := r_putI hX hd (i := 27) (r := 61) rfl rfl in_X6 tyX6 tyX6_ok nmX6 (k := 5) (by decide) rfl lk_RX6_72 rfl (by decide +kernel) sp_X61 (by decide +kernel) (fun lo hi h => by
    have e : (some (some ((0 : Int), (8 : Int))) : Option (Option (Int × Int))) = some (some (lo, hi)) := h
    cases e
    exact hv) (kk _ Mod.up (by rw [up_at]; rfl))
theorem fg_X27_99 (hX : Cx SX l w cc nL ret RX6 R P G) (hd : decode cc pc = .ok (.getfield 99, 3)) (kk : G (pc + 3) lv (.int (iI (σ 62 0)) :: st) σ) : G pc lv (.ref (w.2.2 27) :: st) σ := r_getI hX hd (i := 27) (r := 62) rfl rfl in_X6 (k := 6) (by decide) rfl lk_RX6_99 kk
theorem fp_X27_99 (hX : Cx SX l w cc nL ret RX6 R P G) (hd : decode cc pc = .ok (.putfield 99, 3)) (kk : ∀ σ1 : MM, Mod [62] σ σ1 → σ1 62 0 = z → G (pc + 3) lv st σ1) : G pc lv (.int (iI z) :: .ref (w.2.2 27) :: st) σ := r_putI hX hd (i := 27) (r := 62) rfl rfl in_X6 tyX6 tyX6_ok nmX6 (k := 6) (by decide) rfl lk_RX6_99 rfl (by decide +kernel) sp_X62 (by decide +kernel) (fun lo hi h => by
    have e : (some none : Option (Option (Int × Int))) = some (some (lo, hi)) := h
    cases e) (kk _ Mod.up (by rw [up_at]; rfl))
theorem fg_X27_79 (hX : Cx SX l w cc nL ret RX6 R P G) (hd : decode cc pc = .ok (.getfield 79, 3)) (kk : 0 ≤ σ 63 0 → σ 63 0 ≤ 12 → G (pc + 3) lv (.int (iI (σ 63 0)) :: st) σ) : G pc lv (.ref (w.2.2 27) :: st) σ := r_bd hX fun hB => r_getI hX hd (i := 27) (r := 63) rfl rfl in_X6 (k := 7) (by decide) rfl lk_RX6_79 (kk (hB 63 0 12 rfl 0).1 (hB 63 0 12 rfl 0).2)
theorem fp_X27_79 (hX : Cx SX l w cc nL ret RX6 R P G) (hd : decode cc pc = .ok (.putfield 79, 3)) (hv : 0 ≤ z ∧ z ≤ 12) (kk : ∀ σ1 : MM, Mod [63] σ σ1 → σ1 63 0 = z → G (pc + 3) lv st σ1) : G pc lv (.int (iI z) :: .ref (w.2.2 27) :: st) σ := r_putI hX hd (i := 27) (r := 63) rfl rfl in_X6 tyX6 tyX6_ok nmX6 (k := 7) (by decide) rfl lk_RX6_79 rfl (by decide +kernel) sp_X63 (by decide +kernel) (fun lo hi h => by
    have e : (some (some ((0 : Int), (12 : Int))) : Option (Option (Int × Int))) = some (some (lo, hi)) := h
    cases e
    exact hv) (kk _ Mod.up (by rw [up_at]; rfl))
theorem fg_X27_82 (hX : Cx SX l w cc nL ret RX6 R P G) (hd : decode cc pc = .ok (.getfield 82, 3)) (kk : 0 ≤ σ 64 0 → σ 64 0 ≤ 60 → G (pc + 3) lv (.int (iI (σ 64 0)) :: st) σ) : G pc lv (.ref (w.2.2 27) :: st) σ := r_bd hX fun hB => r_getI hX hd (i := 27) (r := 64) rfl rfl in_X6 (k := 8) (by decide) rfl lk_RX6_82 (kk (hB 64 0 60 rfl 0).1 (hB 64 0 60 rfl 0).2)
theorem fp_X27_82 (hX : Cx SX l w cc nL ret RX6 R P G) (hd : decode cc pc = .ok (.putfield 82, 3)) (hv : 0 ≤ z ∧ z ≤ 60) (kk : ∀ σ1 : MM, Mod [64] σ σ1 → σ1 64 0 = z → G (pc + 3) lv st σ1) : G pc lv (.int (iI z) :: .ref (w.2.2 27) :: st) σ := r_putI hX hd (i := 27) (r := 64) rfl rfl in_X6 tyX6 tyX6_ok nmX6 (k := 8) (by decide) rfl lk_RX6_82 rfl (by decide +kernel) sp_X64 (by decide +kernel) (fun lo hi h => by
    have e : (some (some ((0 : Int), (60 : Int))) : Option (Option (Int × Int))) = some (some (lo, hi)) := h
    cases e
    exact hv) (kk _ Mod.up (by rw [up_at]; rfl))
theorem fg_X27_25 (hX : Cx SX l w cc nL ret RX6 R P G) (hd : decode cc pc = .ok (.getfield 25, 3)) (kk : G (pc + 3) lv (.ref (w.2.2 33) :: st) σ) : G pc lv (.ref (w.2.2 27) :: st) σ := r_getR hX hd (i := 27) (j := 33) rfl rfl in_X6 (k := 9) (by decide) rfl lk_RX6_25 kk
theorem fg_X27_29 (hX : Cx SX l w cc nL ret RX6 R P G) (hd : decode cc pc = .ok (.getfield 29, 3)) (kk : G (pc + 3) lv (.ref (w.2.2 34) :: st) σ) : G pc lv (.ref (w.2.2 27) :: st) σ := r_getR hX hd (i := 27) (j := 34) rfl rfl in_X6 (k := 10) (by decide) rfl lk_RX6_29 kk
theorem fg_X27_32 (hX : Cx SX l w cc nL ret RX6 R P G) (hd : decode cc pc = .ok (.getfield 32, 3)) (kk : 1 ≤ σ 65 0 → σ 65 0 ≤ 3 → G (pc + 3) lv (.int (iI (σ 65 0)) :: st) σ) : G pc lv (.ref (w.2.2 27) :: st) σ := r_bd hX fun hB => r_getI hX hd (i := 27) (r := 65) rfl rfl in_X6 (k := 11) (by decide) rfl lk_RX6_32 (kk (hB 65 1 3 rfl 0).1 (hB 65 1 3 rfl 0).2)
theorem fp_X27_32 (hX : Cx SX l w cc nL ret RX6 R P G) (hd : decode cc pc = .ok (.putfield 32, 3)) (hv : 1 ≤ z ∧ z ≤ 3) (kk : ∀ σ1 : MM, Mod [65] σ σ1 → σ1 65 0 = z → G (pc + 3) lv st σ1) : G pc lv (.int (iI z) :: .ref (w.2.2 27) :: st) σ := r_putI hX hd (i := 27) (r := 65) rfl rfl in_X6 tyX6 tyX6_ok nmX6 (k := 11) (by decide) rfl lk_RX6_32 rfl (by decide +kernel) sp_X65 (by decide +kernel) (fun lo hi h => by
    have e : (some (some ((1 : Int), (3 : Int))) : Option (Option (Int × Int))) = some (some (lo, hi)) := h
    cases e
    exact hv) (kk _ Mod.up (by rw [up_at]; rfl))
theorem fg_X27_36 (hX : Cx SX l w cc nL ret RX6 R P G) (hd : decode cc pc = .ok (.getfield 36, 3)) (kk : 1 ≤ σ 66 0 → σ 66 0 ≤ 3 → G (pc + 3) lv (.int (iI (σ 66 0)) :: st) σ) : G pc lv (.ref (w.2.2 27) :: st) σ := r_bd hX fun hB => r_getI hX hd (i := 27) (r := 66) rfl rfl in_X6 (k := 12) (by decide) rfl lk_RX6_36 (kk (hB 66 1 3 rfl 0).1 (hB 66 1 3 rfl 0).2)
theorem fp_X27_36 (hX : Cx SX l w cc nL ret RX6 R P G) (hd : decode cc pc = .ok (.putfield 36, 3)) (hv : 1 ≤ z ∧ z ≤ 3) (kk : ∀ σ1 : MM, Mod [66] σ σ1 → σ1 66 0 = z → G (pc + 3) lv st σ1) : G pc lv (.int (iI z) :: .ref (w.2.2 27) :: st) σ := r_putI hX hd (i := 27) (r := 66) rfl rfl in_X6 tyX6 tyX6_ok nmX6 (k := 12) (by decide) rfl lk_RX6_36 rfl (by decide +kernel) sp_X66 (by decide +kernel) (fun lo hi h => by
    have e : (some (some ((1 : Int), (3 : Int))) : Option (Option (Int × Int))) = some (some (lo, hi)) := h
    cases e
    exact hv) (kk _ Mod.up (by rw [up_at]; rfl))
theorem fg_X27_39 (hX : Cx SX l w cc nL ret RX6 R P G) (hd : decode cc pc = .ok (.getfield 39, 3)) (kk : G (pc + 3) lv (.ref (w.2.2 35) :: st) σ) : G pc lv (.ref (w.2.2 27) :: st) σ := r_getR hX hd (i := 27) (j := 35) rfl rfl in_X6 (k := 13) (by decide) rfl lk_RX6_39 kk
theorem fg_X27_42 (hX : Cx SX l w cc nL ret RX6 R P G) (hd : decode cc pc = .ok (.getfield 42, 3)) (kk : G (pc + 3) lv (.ref (w.2.2 36) :: st) σ) : G pc lv (.ref (w.2.2 27) :: st) σ := r_getR hX hd (i := 27) (j := 36) rfl rfl in_X6 (k := 14) (by decide) rfl lk_RX6_42 kk
theorem fg_X27_45 (hX : Cx SX l w cc nL ret RX6 R P G) (hd : decode cc pc = .ok (.getfield 45, 3)) (kk : G (pc + 3) lv (.ref (w.2.2 37) :: st) σ) : G pc lv (.ref (w.2.2 27) :: st) σ := r_getR hX hd (i := 27) (j := 37) rfl rfl in_X6 (k := 15) (by decide) rfl lk_RX6_45 kk
theorem fg_X27_48 (hX : Cx SX l w cc nL ret RX6 R P G) (hd : decode cc pc = .ok (.getfield 48, 3)) (kk : G (pc + 3) lv (.ref (w.2.2 38) :: st) σ) : G pc lv (.ref (w.2.2 27) :: st) σ := r_getR hX hd (i := 27) (j := 38) rfl rfl in_X6 (k := 16) (by decide) rfl lk_RX6_48 kk
theorem fg_X27_51 (hX : Cx SX l w cc nL ret RX6 R P G) (hd : decode cc pc = .ok (.getfield 51, 3)) (kk : G (pc + 3) lv (.ref (w.2.2 39) :: st) σ) : G pc lv (.ref (w.2.2 27) :: st) σ := r_getR hX hd (i := 27) (j := 39) rfl rfl in_X6 (k := 17) (by decide) rfl lk_RX6_51 kk
theorem fg_X27_54 (hX : Cx SX l w cc nL ret RX6 R P G) (hd : decode cc pc = .ok (.getfield 54, 3)) (kk : G (pc + 3) lv (.ref (w.2.2 40) :: st) σ) : G pc lv (.ref (w.2.2 27) :: st) σ := r_getR hX hd (i := 27) (j := 40) rfl rfl in_X6 (k := 18) (by decide) rfl lk_RX6_54 kk
theorem fg_X27_183 (hX : Cx SX l w cc nL ret RX6 R P G) (hd : decode cc pc = .ok (.getfield 183, 3)) (kk : G (pc + 3) lv (.int (iI (σ 67 0)) :: st) σ) : G pc lv (.ref (w.2.2 27) :: st) σ := r_getI hX hd (i := 27) (r := 67) rfl rfl in_X6 (k := 19) (by decide) rfl lk_RX6_183 kk
theorem fp_X27_183 (hX : Cx SX l w cc nL ret RX6 R P G) (hd : decode cc pc = .ok (.putfield 183, 3)) (kk : ∀ σ1 : MM, Mod [67] σ σ1 → σ1 67 0 = z → G (pc + 3) lv st σ1) : G pc lv (.int (iI z) :: .ref (w.2.2 27) :: st) σ := r_putI hX hd (i := 27) (r := 67) rfl rfl in_X6 tyX6 tyX6_ok nmX6 (k := 19) (by decide) rfl lk_RX6_183 rfl (by decide +kernel) sp_X67 (by decide +kernel) (fun lo hi h => by
    have e : (some none : Option (Option (Int × Int))) = some (some (lo, hi)) := h
    cases e) (kk _ Mod.up (by rw [up_at]; rfl))
theorem fg_X27_57 (hX : Cx SX l w cc nL ret RX6 R P G) (hd : decode cc pc = .ok (.getfield 57, 3)) (kk : G (pc + 3) lv (.ref (w.2.2 41) :: st) σ) : G pc lv (.ref (w.2.2 27) :: st) σ := r_getR hX hd (i := 27) (j := 41) rfl rfl in_X6 (k := 20) (by decide) rfl lk_RX6_57 kk
theorem fg_X27_60 (hX : Cx SX l w cc nL ret RX6 R P G) (hd : decode cc pc = .ok (.getfield 60, 3)) (kk : G (pc + 3) lv (.ref (w.2.2 42) :: st) σ) : G pc lv (.ref (w.2.2 27) :: st) σ := r_getR hX hd (i := 27) (j := 42) rfl rfl in_X6 (k := 21) (by decide) rfl lk_RX6_60 kk
theorem fg_X27_63 (hX : Cx SX l w cc nL ret RX6 R P G) (hd : decode cc pc = .ok (.getfield 63, 3)) (kk : G (pc + 3) lv (.ref (w.2.2 43) :: st) σ) : G pc lv (.ref (w.2.2 27) :: st) σ := r_getR hX hd (i := 27) (j := 43) rfl rfl in_X6 (k := 22) (by decide) rfl lk_RX6_63 kk
theorem fg_X27_66 (hX : Cx SX l w cc nL ret RX6 R P G) (hd : decode cc pc = .ok (.getfield 66, 3)) (kk : G (pc + 3) lv (.ref (w.2.2 44) :: st) σ) : G pc lv (.ref (w.2.2 27) :: st) σ := r_getR hX hd (i := 27) (j := 44) rfl rfl in_X6 (k := 23) (by decide) rfl lk_RX6_66 kk
theorem ld_G11 (hX : Cx SG l w cc nL ret own R P G) (hd : decode cc pc = .ok (.baload, 1)) (h0 : 0 ≤ a) (h1 : a < 9) (kk : 0 ≤ σ 11 a → σ 11 a ≤ 1 → G (pc + 1) lv (.int (iI (σ 11 a)) :: st) σ) : G pc lv (.int (iI a) :: .ref (w.2.2 1) :: st) σ := r_bd hX fun hB => r_zald hX hd (i := 1) (r := 11) (n := 9) rfl h0 h1 (kk (hB 11 0 1 rfl a).1 (hB 11 0 1 rfl a).2)
theorem st_G11 (hX : Cx SG l w cc nL ret own R P G) (hd : decode cc pc = .ok (.bastore, 1)) (h0 : 0 ≤ a) (h1 : a < 9) (hv : 0 ≤ z ∧ z ≤ 1) (kk : ∀ σ1 : MM, Mod [11] σ σ1 → (∀ b : Int, σ1 11 b = if b = a then z else σ 11 b) → G (pc + 1) lv st σ1) : G pc lv (.int (iI z) :: .int (iI a) :: .ref (w.2.2 1) :: st) σ := r_zast hX hd (i := 1) (r := 11) (n := 9) rfl sp_G11 h0 h1 (by omega) (fun lo hi h => by
    have e : (some (some ((0 : Int), (1 : Int))) : Option (Option (Int × Int))) = some (some (lo, hi)) := h
    cases e
    exact hv) (kk _ Mod.up (fun b => up_at))
theorem ld_G12 (hX : Cx SG l w cc nL ret own R P G) (hd : decode cc pc = .ok (.baload, 1)) (h0 : 0 ≤ a) (h1 : a < 9) (kk : 0 ≤ σ 12 a → σ 12 a ≤ 1 → G (pc + 1) lv (.int (iI (σ 12 a)) :: st) σ) : G pc lv (.int (iI a) :: .ref (w.2.2 2) :: st) σ := r_bd hX fun hB => r_zald hX hd (i := 2) (r := 12) (n := 9) rfl h0 h1 (kk (hB 12 0 1 rfl a).1 (hB 12 0 1 rfl a).2)
theorem st_G12 (hX : Cx SG l w cc nL ret own R P G) (hd : decode cc pc = .ok (.bastore, 1)) (h0 : 0 ≤ a) (h1 : a < 9) (hv : 0 ≤ z ∧ z ≤ 1) (kk : ∀ σ1 : MM, Mod [12] σ σ1 → (∀ b : Int, σ1 12 b = if b = a then z else σ 12 b) → G (pc + 1) lv st σ1) : G pc lv (.int (iI z) :: .int (iI a) :: .ref (w.2.2 2) :: st) σ := r_zast hX hd (i := 2) (r := 12) (n := 9) rfl sp_G12 h0 h1 (by omega) (fun lo hi h => by
    have e : (some (some ((0 : Int), (1 : Int))) : Option (Option (Int × Int))) = some (some (lo, hi)) := h
    cases e
    exact hv) (kk _ Mod.up (fun b => up_at))
theorem ld_G13 (hX : Cx SG l w cc nL ret own R P G) (hd : decode cc pc = .ok (.iaload, 1)) (h0 : 0 ≤ a) (h1 : a < 81) (kk : 0 ≤ σ 13 a → σ 13 a ≤ 1000 → G (pc + 1) lv (.int (iI (σ 13 a)) :: st) σ) : G pc lv (.int (iI a) :: .ref (w.2.2 3) :: st) σ := r_bd hX fun hB => r_iald hX hd (i := 3) (r := 13) (n := 81) rfl h0 h1 (kk (hB 13 0 1000 rfl a).1 (hB 13 0 1000 rfl a).2)
theorem st_G13 (hX : Cx SG l w cc nL ret own R P G) (hd : decode cc pc = .ok (.iastore, 1)) (h0 : 0 ≤ a) (h1 : a < 81) (hv : 0 ≤ z ∧ z ≤ 1000) (kk : ∀ σ1 : MM, Mod [13] σ σ1 → (∀ b : Int, σ1 13 b = if b = a then z else σ 13 b) → G (pc + 1) lv st σ1) : G pc lv (.int (iI z) :: .int (iI a) :: .ref (w.2.2 3) :: st) σ := r_iast hX hd (i := 3) (r := 13) (n := 81) rfl sp_G13 h0 h1 (fun lo hi h => by
    have e : (some (some ((0 : Int), (1000 : Int))) : Option (Option (Int × Int))) = some (some (lo, hi)) := h
    cases e
    exact hv) (kk _ Mod.up (fun b => up_at))
theorem fg_G10_9 (hX : Cx SG l w cc nL ret RX0 R P G) (hd : decode cc pc = .ok (.getfield 9, 3)) (kk : G (pc + 3) lv (.ref (w.2.2 1) :: st) σ) : G pc lv (.ref (w.2.2 0) :: st) σ := r_getR hX hd (i := 0) (j := 1) rfl rfl in_X0 (k := 0) (by decide) rfl lk_RX0_9 kk
theorem fg_G10_15 (hX : Cx SG l w cc nL ret RX0 R P G) (hd : decode cc pc = .ok (.getfield 15, 3)) (kk : G (pc + 3) lv (.ref (w.2.2 2) :: st) σ) : G pc lv (.ref (w.2.2 0) :: st) σ := r_getR hX hd (i := 0) (j := 2) rfl rfl in_X0 (k := 1) (by decide) rfl lk_RX0_15 kk
theorem fg_G10_18 (hX : Cx SG l w cc nL ret RX0 R P G) (hd : decode cc pc = .ok (.getfield 18, 3)) (kk : G (pc + 3) lv (.ref (w.2.2 3) :: st) σ) : G pc lv (.ref (w.2.2 0) :: st) σ := r_getR hX hd (i := 0) (j := 3) rfl rfl in_X0 (k := 2) (by decide) rfl lk_RX0_18 kk
theorem fg_G10_26 (hX : Cx SG l w cc nL ret RX0 R P G) (hd : decode cc pc = .ok (.getfield 26, 3)) (kk : G (pc + 3) lv (.int (iI (σ 56 0)) :: st) σ) : G pc lv (.ref (w.2.2 0) :: st) σ := r_getI hX hd (i := 0) (r := 56) rfl rfl in_X0 (k := 3) (by decide) rfl lk_RX0_26 kk
theorem fp_G10_26 (hX : Cx SG l w cc nL ret RX0 R P G) (hd : decode cc pc = .ok (.putfield 26, 3)) (kk : ∀ σ1 : MM, Mod [56] σ σ1 → σ1 56 0 = z → G (pc + 3) lv st σ1) : G pc lv (.int (iI z) :: .ref (w.2.2 0) :: st) σ := r_putI hX hd (i := 0) (r := 56) rfl rfl in_X0 tyX0 tyX0_ok nmX0 (k := 3) (by decide) rfl lk_RX0_26 rfl (by decide +kernel) sp_G56 (by decide +kernel) (fun lo hi h => by
    have e : (some none : Option (Option (Int × Int))) = some (some (lo, hi)) := h
    cases e) (kk _ Mod.up (by rw [up_at]; rfl))
theorem fg_G10_30 (hX : Cx SG l w cc nL ret RX0 R P G) (hd : decode cc pc = .ok (.getfield 30, 3)) (kk : G (pc + 3) lv (.int (iI (σ 57 0)) :: st) σ) : G pc lv (.ref (w.2.2 0) :: st) σ := r_getI hX hd (i := 0) (r := 57) rfl rfl in_X0 (k := 4) (by decide) rfl lk_RX0_30 kk
theorem fp_G10_30 (hX : Cx SG l w cc nL ret RX0 R P G) (hd : decode cc pc = .ok (.putfield 30, 3)) (kk : ∀ σ1 : MM, Mod [57] σ σ1 → σ1 57 0 = z → G (pc + 3) lv st σ1) : G pc lv (.int (iI z) :: .ref (w.2.2 0) :: st) σ := r_putI hX hd (i := 0) (r := 57) rfl rfl in_X0 tyX0 tyX0_ok nmX0 (k := 4) (by decide) rfl lk_RX0_30 rfl (by decide +kernel) sp_G57 (by decide +kernel) (fun lo hi h => by
    have e : (some none : Option (Option (Int × Int))) = some (some (lo, hi)) := h
    cases e) (kk _ Mod.up (by rw [up_at]; rfl))
theorem ld_M28 (hX : Cx SM l w cc nL ret own R P G) (hd : decode cc pc = .ok (.iaload, 1)) (h0 : 0 ≤ a) (h1 : a < 8) (kk : 0 ≤ σ 28 a → σ 28 a ≤ 5 → G (pc + 1) lv (.int (iI (σ 28 a)) :: st) σ) : G pc lv (.int (iI a) :: .ref (w.2.2 1) :: st) σ := r_bd hX fun hB => r_iald hX hd (i := 1) (r := 28) (n := 8) rfl h0 h1 (kk (hB 28 0 5 rfl a).1 (hB 28 0 5 rfl a).2)
theorem st_M28 (hX : Cx SM l w cc nL ret own R P G) (hd : decode cc pc = .ok (.iastore, 1)) (h0 : 0 ≤ a) (h1 : a < 8) (hv : 0 ≤ z ∧ z ≤ 5) (kk : ∀ σ1 : MM, Mod [28] σ σ1 → (∀ b : Int, σ1 28 b = if b = a then z else σ 28 b) → G (pc + 1) lv st σ1) : G pc lv (.int (iI z) :: .int (iI a) :: .ref (w.2.2 1) :: st) σ := r_iast hX hd (i := 1) (r := 28) (n := 8) rfl sp_M28 h0 h1 (fun lo hi h => by
    have e : (some (some ((0 : Int), (5 : Int))) : Option (Option (Int × Int))) = some (some (lo, hi)) := h
    cases e
    exact hv) (kk _ Mod.up (fun b => up_at))
theorem ld_M29 (hX : Cx SM l w cc nL ret own R P G) (hd : decode cc pc = .ok (.iaload, 1)) (h0 : 0 ≤ a) (h1 : a < 16) (kk : 0 ≤ σ 29 a → σ 29 a ≤ 7 → G (pc + 1) lv (.int (iI (σ 29 a)) :: st) σ) : G pc lv (.int (iI a) :: .ref (w.2.2 2) :: st) σ := r_bd hX fun hB => r_iald hX hd (i := 2) (r := 29) (n := 16) rfl h0 h1 (kk (hB 29 0 7 rfl a).1 (hB 29 0 7 rfl a).2)
theorem st_M29 (hX : Cx SM l w cc nL ret own R P G) (hd : decode cc pc = .ok (.iastore, 1)) (h0 : 0 ≤ a) (h1 : a < 16) (hv : 0 ≤ z ∧ z ≤ 7) (kk : ∀ σ1 : MM, Mod [29] σ σ1 → (∀ b : Int, σ1 29 b = if b = a then z else σ 29 b) → G (pc + 1) lv st σ1) : G pc lv (.int (iI z) :: .int (iI a) :: .ref (w.2.2 2) :: st) σ := r_iast hX hd (i := 2) (r := 29) (n := 16) rfl sp_M29 h0 h1 (fun lo hi h => by
    have e : (some (some ((0 : Int), (7 : Int))) : Option (Option (Int × Int))) = some (some (lo, hi)) := h
    cases e
    exact hv) (kk _ Mod.up (fun b => up_at))
theorem ld_M30 (hX : Cx SM l w cc nL ret own R P G) (hd : decode cc pc = .ok (.iaload, 1)) (h0 : 0 ≤ a) (h1 : a < 16) (kk : 0 ≤ σ 30 a → σ 30 a ≤ 3 → G (pc + 1) lv (.int (iI (σ 30 a)) :: st) σ) : G pc lv (.int (iI a) :: .ref (w.2.2 3) :: st) σ := r_bd hX fun hB => r_iald hX hd (i := 3) (r := 30) (n := 16) rfl h0 h1 (kk (hB 30 0 3 rfl a).1 (hB 30 0 3 rfl a).2)
theorem st_M30 (hX : Cx SM l w cc nL ret own R P G) (hd : decode cc pc = .ok (.iastore, 1)) (h0 : 0 ≤ a) (h1 : a < 16) (hv : 0 ≤ z ∧ z ≤ 3) (kk : ∀ σ1 : MM, Mod [30] σ σ1 → (∀ b : Int, σ1 30 b = if b = a then z else σ 30 b) → G (pc + 1) lv st σ1) : G pc lv (.int (iI z) :: .int (iI a) :: .ref (w.2.2 3) :: st) σ := r_iast hX hd (i := 3) (r := 30) (n := 16) rfl sp_M30 h0 h1 (fun lo hi h => by
    have e : (some (some ((0 : Int), (3 : Int))) : Option (Option (Int × Int))) = some (some (lo, hi)) := h
    cases e
    exact hv) (kk _ Mod.up (fun b => up_at))
theorem ld_M31 (hX : Cx SM l w cc nL ret own R P G) (hd : decode cc pc = .ok (.iaload, 1)) (h0 : 0 ≤ a) (h1 : a < 8) (kk : G (pc + 1) lv (.int (iI (σ 31 a)) :: st) σ) : G pc lv (.int (iI a) :: .ref (w.2.2 4) :: st) σ := r_iald hX hd (i := 4) (r := 31) (n := 8) rfl h0 h1 kk
theorem st_M31 (hX : Cx SM l w cc nL ret own R P G) (hd : decode cc pc = .ok (.iastore, 1)) (h0 : 0 ≤ a) (h1 : a < 8) (kk : ∀ σ1 : MM, Mod [31] σ σ1 → (∀ b : Int, σ1 31 b = if b = a then z else σ 31 b) → G (pc + 1) lv st σ1) : G pc lv (.int (iI z) :: .int (iI a) :: .ref (w.2.2 4) :: st) σ := r_iast hX hd (i := 4) (r := 31) (n := 8) rfl sp_M31 h0 h1 (fun lo hi h => by
    have e : (some none : Option (Option (Int × Int))) = some (some (lo, hi)) := h
    cases e) (kk _ Mod.up (fun b => up_at))
theorem ld_M32 (hX : Cx SM l w cc nL ret own R P G) (hd : decode cc pc = .ok (.iaload, 1)) (h0 : 0 ≤ a) (h1 : a < 8) (kk : G (pc + 1) lv (.int (iI (σ 32 a)) :: st) σ) : G pc lv (.int (iI a) :: .ref (w.2.2 5) :: st) σ := r_iald hX hd (i := 5) (r := 32) (n := 8) rfl h0 h1 kk
theorem st_M32 (hX : Cx SM l w cc nL ret own R P G) (hd : decode cc pc = .ok (.iastore, 1)) (h0 : 0 ≤ a) (h1 : a < 8) (kk : ∀ σ1 : MM, Mod [32] σ σ1 → (∀ b : Int, σ1 32 b = if b = a then z else σ 32 b) → G (pc + 1) lv st σ1) : G pc lv (.int (iI z) :: .int (iI a) :: .ref (w.2.2 5) :: st) σ := r_iast hX hd (i := 5) (r := 32) (n := 8) rfl sp_M32 h0 h1 (fun lo hi h => by
    have e : (some none : Option (Option (Int × Int))) = some (some (lo, hi)) := h
    cases e) (kk _ Mod.up (fun b => up_at))
theorem ld_M33 (hX : Cx SM l w cc nL ret own R P G) (hd : decode cc pc = .ok (.baload, 1)) (h0 : 0 ≤ a) (h1 : a < 8) (kk : 0 ≤ σ 33 a → σ 33 a ≤ 1 → G (pc + 1) lv (.int (iI (σ 33 a)) :: st) σ) : G pc lv (.int (iI a) :: .ref (w.2.2 6) :: st) σ := r_bd hX fun hB => r_zald hX hd (i := 6) (r := 33) (n := 8) rfl h0 h1 (kk (hB 33 0 1 rfl a).1 (hB 33 0 1 rfl a).2)
theorem st_M33 (hX : Cx SM l w cc nL ret own R P G) (hd : decode cc pc = .ok (.bastore, 1)) (h0 : 0 ≤ a) (h1 : a < 8) (hv : 0 ≤ z ∧ z ≤ 1) (kk : ∀ σ1 : MM, Mod [33] σ σ1 → (∀ b : Int, σ1 33 b = if b = a then z else σ 33 b) → G (pc + 1) lv st σ1) : G pc lv (.int (iI z) :: .int (iI a) :: .ref (w.2.2 6) :: st) σ := r_zast hX hd (i := 6) (r := 33) (n := 8) rfl sp_M33 h0 h1 (by omega) (fun lo hi h => by
    have e : (some (some ((0 : Int), (1 : Int))) : Option (Option (Int × Int))) = some (some (lo, hi)) := h
    cases e
    exact hv) (kk _ Mod.up (fun b => up_at))
theorem ld_M34 (hX : Cx SM l w cc nL ret own R P G) (hd : decode cc pc = .ok (.iaload, 1)) (h0 : 0 ≤ a) (h1 : a < 488) (kk : G (pc + 1) lv (.int (iI (σ 34 a)) :: st) σ) : G pc lv (.int (iI a) :: .ref (w.2.2 7) :: st) σ := r_iald hX hd (i := 7) (r := 34) (n := 488) rfl h0 h1 kk
theorem st_M34 (hX : Cx SM l w cc nL ret own R P G) (hd : decode cc pc = .ok (.iastore, 1)) (h0 : 0 ≤ a) (h1 : a < 488) (kk : ∀ σ1 : MM, Mod [34] σ σ1 → (∀ b : Int, σ1 34 b = if b = a then z else σ 34 b) → G (pc + 1) lv st σ1) : G pc lv (.int (iI z) :: .int (iI a) :: .ref (w.2.2 7) :: st) σ := r_iast hX hd (i := 7) (r := 34) (n := 488) rfl sp_M34 h0 h1 (fun lo hi h => by
    have e : (some none : Option (Option (Int × Int))) = some (some (lo, hi)) := h
    cases e) (kk _ Mod.up (fun b => up_at))
theorem ld_M35 (hX : Cx SM l w cc nL ret own R P G) (hd : decode cc pc = .ok (.baload, 1)) (h0 : 0 ≤ a) (h1 : a < 9) (kk : 0 ≤ σ 35 a → σ 35 a ≤ 1 → G (pc + 1) lv (.int (iI (σ 35 a)) :: st) σ) : G pc lv (.int (iI a) :: .ref (w.2.2 8) :: st) σ := r_bd hX fun hB => r_zald hX hd (i := 8) (r := 35) (n := 9) rfl h0 h1 (kk (hB 35 0 1 rfl a).1 (hB 35 0 1 rfl a).2)
theorem st_M35 (hX : Cx SM l w cc nL ret own R P G) (hd : decode cc pc = .ok (.bastore, 1)) (h0 : 0 ≤ a) (h1 : a < 9) (hv : 0 ≤ z ∧ z ≤ 1) (kk : ∀ σ1 : MM, Mod [35] σ σ1 → (∀ b : Int, σ1 35 b = if b = a then z else σ 35 b) → G (pc + 1) lv st σ1) : G pc lv (.int (iI z) :: .int (iI a) :: .ref (w.2.2 8) :: st) σ := r_zast hX hd (i := 8) (r := 35) (n := 9) rfl sp_M35 h0 h1 (by omega) (fun lo hi h => by
    have e : (some (some ((0 : Int), (1 : Int))) : Option (Option (Int × Int))) = some (some (lo, hi)) := h
    cases e
    exact hv) (kk _ Mod.up (fun b => up_at))
theorem ld_M36 (hX : Cx SM l w cc nL ret own R P G) (hd : decode cc pc = .ok (.baload, 1)) (h0 : 0 ≤ a) (h1 : a < 9) (kk : 0 ≤ σ 36 a → σ 36 a ≤ 1 → G (pc + 1) lv (.int (iI (σ 36 a)) :: st) σ) : G pc lv (.int (iI a) :: .ref (w.2.2 9) :: st) σ := r_bd hX fun hB => r_zald hX hd (i := 9) (r := 36) (n := 9) rfl h0 h1 (kk (hB 36 0 1 rfl a).1 (hB 36 0 1 rfl a).2)
theorem st_M36 (hX : Cx SM l w cc nL ret own R P G) (hd : decode cc pc = .ok (.bastore, 1)) (h0 : 0 ≤ a) (h1 : a < 9) (hv : 0 ≤ z ∧ z ≤ 1) (kk : ∀ σ1 : MM, Mod [36] σ σ1 → (∀ b : Int, σ1 36 b = if b = a then z else σ 36 b) → G (pc + 1) lv st σ1) : G pc lv (.int (iI z) :: .int (iI a) :: .ref (w.2.2 9) :: st) σ := r_zast hX hd (i := 9) (r := 36) (n := 9) rfl sp_M36 h0 h1 (by omega) (fun lo hi h => by
    have e : (some (some ((0 : Int), (1 : Int))) : Option (Option (Int × Int))) = some (some (lo, hi)) := h
    cases e
    exact hv) (kk _ Mod.up (fun b => up_at))
theorem ld_M37 (hX : Cx SM l w cc nL ret own R P G) (hd : decode cc pc = .ok (.iaload, 1)) (h0 : 0 ≤ a) (h1 : a < 9) (kk : 0 ≤ σ 37 a → σ 37 a ≤ 1000 → G (pc + 1) lv (.int (iI (σ 37 a)) :: st) σ) : G pc lv (.int (iI a) :: .ref (w.2.2 10) :: st) σ := r_bd hX fun hB => r_iald hX hd (i := 10) (r := 37) (n := 9) rfl h0 h1 (kk (hB 37 0 1000 rfl a).1 (hB 37 0 1000 rfl a).2)
theorem st_M37 (hX : Cx SM l w cc nL ret own R P G) (hd : decode cc pc = .ok (.iastore, 1)) (h0 : 0 ≤ a) (h1 : a < 9) (hv : 0 ≤ z ∧ z ≤ 1000) (kk : ∀ σ1 : MM, Mod [37] σ σ1 → (∀ b : Int, σ1 37 b = if b = a then z else σ 37 b) → G (pc + 1) lv st σ1) : G pc lv (.int (iI z) :: .int (iI a) :: .ref (w.2.2 10) :: st) σ := r_iast hX hd (i := 10) (r := 37) (n := 9) rfl sp_M37 h0 h1 (fun lo hi h => by
    have e : (some (some ((0 : Int), (1000 : Int))) : Option (Option (Int × Int))) = some (some (lo, hi)) := h
    cases e
    exact hv) (kk _ Mod.up (fun b => up_at))
theorem ld_M38 (hX : Cx SM l w cc nL ret own R P G) (hd : decode cc pc = .ok (.iaload, 1)) (h0 : 0 ≤ a) (h1 : a < 8) (kk : 0 ≤ σ 38 a → σ 38 a ≤ 8 → G (pc + 1) lv (.int (iI (σ 38 a)) :: st) σ) : G pc lv (.int (iI a) :: .ref (w.2.2 11) :: st) σ := r_bd hX fun hB => r_iald hX hd (i := 11) (r := 38) (n := 8) rfl h0 h1 (kk (hB 38 0 8 rfl a).1 (hB 38 0 8 rfl a).2)
theorem st_M38 (hX : Cx SM l w cc nL ret own R P G) (hd : decode cc pc = .ok (.iastore, 1)) (h0 : 0 ≤ a) (h1 : a < 8) (hv : 0 ≤ z ∧ z ≤ 8) (kk : ∀ σ1 : MM, Mod [38] σ σ1 → (∀ b : Int, σ1 38 b = if b = a then z else σ 38 b) → G (pc + 1) lv st σ1) : G pc lv (.int (iI z) :: .int (iI a) :: .ref (w.2.2 11) :: st) σ := r_iast hX hd (i := 11) (r := 38) (n := 8) rfl sp_M38 h0 h1 (fun lo hi h => by
    have e : (some (some ((0 : Int), (8 : Int))) : Option (Option (Int × Int))) = some (some (lo, hi)) := h
    cases e
    exact hv) (kk _ Mod.up (fun b => up_at))
theorem ld_M39 (hX : Cx SM l w cc nL ret own R P G) (hd : decode cc pc = .ok (.iaload, 1)) (h0 : 0 ≤ a) (h1 : a < 8) (kk : 0 ≤ σ 39 a → σ 39 a ≤ 20000000 → G (pc + 1) lv (.int (iI (σ 39 a)) :: st) σ) : G pc lv (.int (iI a) :: .ref (w.2.2 12) :: st) σ := r_bd hX fun hB => r_iald hX hd (i := 12) (r := 39) (n := 8) rfl h0 h1 (kk (hB 39 0 20000000 rfl a).1 (hB 39 0 20000000 rfl a).2)
theorem st_M39 (hX : Cx SM l w cc nL ret own R P G) (hd : decode cc pc = .ok (.iastore, 1)) (h0 : 0 ≤ a) (h1 : a < 8) (hv : 0 ≤ z ∧ z ≤ 20000000) (kk : ∀ σ1 : MM, Mod [39] σ σ1 → (∀ b : Int, σ1 39 b = if b = a then z else σ 39 b) → G (pc + 1) lv st σ1) : G pc lv (.int (iI z) :: .int (iI a) :: .ref (w.2.2 12) :: st) σ := r_iast hX hd (i := 12) (r := 39) (n := 8) rfl sp_M39 h0 h1 (fun lo hi h => by
    have e : (some (some ((0 : Int), (20000000 : Int))) : Option (Option (Int × Int))) = some (some (lo, hi)) := h
    cases e
    exact hv) (kk _ Mod.up (fun b => up_at))
theorem ld_M40 (hX : Cx SM l w cc nL ret own R P G) (hd : decode cc pc = .ok (.iaload, 1)) (h0 : 0 ≤ a) (h1 : a < 8) (kk : G (pc + 1) lv (.int (iI (σ 40 a)) :: st) σ) : G pc lv (.int (iI a) :: .ref (w.2.2 13) :: st) σ := r_iald hX hd (i := 13) (r := 40) (n := 8) rfl h0 h1 kk
theorem st_M40 (hX : Cx SM l w cc nL ret own R P G) (hd : decode cc pc = .ok (.iastore, 1)) (h0 : 0 ≤ a) (h1 : a < 8) (kk : ∀ σ1 : MM, Mod [40] σ σ1 → (∀ b : Int, σ1 40 b = if b = a then z else σ 40 b) → G (pc + 1) lv st σ1) : G pc lv (.int (iI z) :: .int (iI a) :: .ref (w.2.2 13) :: st) σ := r_iast hX hd (i := 13) (r := 40) (n := 8) rfl sp_M40 h0 h1 (fun lo hi h => by
    have e : (some none : Option (Option (Int × Int))) = some (some (lo, hi)) := h
    cases e) (kk _ Mod.up (fun b => up_at))
theorem ld_M41 (hX : Cx SM l w cc nL ret own R P G) (hd : decode cc pc = .ok (.iaload, 1)) (h0 : 0 ≤ a) (h1 : a < 8) (kk : 0 ≤ σ 41 a → σ 41 a ≤ 8 → G (pc + 1) lv (.int (iI (σ 41 a)) :: st) σ) : G pc lv (.int (iI a) :: .ref (w.2.2 14) :: st) σ := r_bd hX fun hB => r_iald hX hd (i := 14) (r := 41) (n := 8) rfl h0 h1 (kk (hB 41 0 8 rfl a).1 (hB 41 0 8 rfl a).2)
theorem st_M41 (hX : Cx SM l w cc nL ret own R P G) (hd : decode cc pc = .ok (.iastore, 1)) (h0 : 0 ≤ a) (h1 : a < 8) (hv : 0 ≤ z ∧ z ≤ 8) (kk : ∀ σ1 : MM, Mod [41] σ σ1 → (∀ b : Int, σ1 41 b = if b = a then z else σ 41 b) → G (pc + 1) lv st σ1) : G pc lv (.int (iI z) :: .int (iI a) :: .ref (w.2.2 14) :: st) σ := r_iast hX hd (i := 14) (r := 41) (n := 8) rfl sp_M41 h0 h1 (fun lo hi h => by
    have e : (some (some ((0 : Int), (8 : Int))) : Option (Option (Int × Int))) = some (some (lo, hi)) := h
    cases e
    exact hv) (kk _ Mod.up (fun b => up_at))
theorem ld_M42 (hX : Cx SM l w cc nL ret own R P G) (hd : decode cc pc = .ok (.iaload, 1)) (h0 : 0 ≤ a) (h1 : a < 8) (kk : 0 ≤ σ 42 a → σ 42 a ≤ 11 → G (pc + 1) lv (.int (iI (σ 42 a)) :: st) σ) : G pc lv (.int (iI a) :: .ref (w.2.2 15) :: st) σ := r_bd hX fun hB => r_iald hX hd (i := 15) (r := 42) (n := 8) rfl h0 h1 (kk (hB 42 0 11 rfl a).1 (hB 42 0 11 rfl a).2)
theorem st_M42 (hX : Cx SM l w cc nL ret own R P G) (hd : decode cc pc = .ok (.iastore, 1)) (h0 : 0 ≤ a) (h1 : a < 8) (hv : 0 ≤ z ∧ z ≤ 11) (kk : ∀ σ1 : MM, Mod [42] σ σ1 → (∀ b : Int, σ1 42 b = if b = a then z else σ 42 b) → G (pc + 1) lv st σ1) : G pc lv (.int (iI z) :: .int (iI a) :: .ref (w.2.2 15) :: st) σ := r_iast hX hd (i := 15) (r := 42) (n := 8) rfl sp_M42 h0 h1 (fun lo hi h => by
    have e : (some (some ((0 : Int), (11 : Int))) : Option (Option (Int × Int))) = some (some (lo, hi)) := h
    cases e
    exact hv) (kk _ Mod.up (fun b => up_at))
theorem ld_M43 (hX : Cx SM l w cc nL ret own R P G) (hd : decode cc pc = .ok (.iaload, 1)) (h0 : 0 ≤ a) (h1 : a < 8) (kk : 0 ≤ σ 43 a → σ 43 a ≤ 200000 → G (pc + 1) lv (.int (iI (σ 43 a)) :: st) σ) : G pc lv (.int (iI a) :: .ref (w.2.2 16) :: st) σ := r_bd hX fun hB => r_iald hX hd (i := 16) (r := 43) (n := 8) rfl h0 h1 (kk (hB 43 0 200000 rfl a).1 (hB 43 0 200000 rfl a).2)
theorem st_M43 (hX : Cx SM l w cc nL ret own R P G) (hd : decode cc pc = .ok (.iastore, 1)) (h0 : 0 ≤ a) (h1 : a < 8) (hv : 0 ≤ z ∧ z ≤ 200000) (kk : ∀ σ1 : MM, Mod [43] σ σ1 → (∀ b : Int, σ1 43 b = if b = a then z else σ 43 b) → G (pc + 1) lv st σ1) : G pc lv (.int (iI z) :: .int (iI a) :: .ref (w.2.2 16) :: st) σ := r_iast hX hd (i := 16) (r := 43) (n := 8) rfl sp_M43 h0 h1 (fun lo hi h => by
    have e : (some (some ((0 : Int), (200000 : Int))) : Option (Option (Int × Int))) = some (some (lo, hi)) := h
    cases e
    exact hv) (kk _ Mod.up (fun b => up_at))
theorem ld_M44 (hX : Cx SM l w cc nL ret own R P G) (hd : decode cc pc = .ok (.iaload, 1)) (h0 : 0 ≤ a) (h1 : a < 81) (kk : 0 ≤ σ 44 a → σ 44 a ≤ 1000 → G (pc + 1) lv (.int (iI (σ 44 a)) :: st) σ) : G pc lv (.int (iI a) :: .ref (w.2.2 17) :: st) σ := r_bd hX fun hB => r_iald hX hd (i := 17) (r := 44) (n := 81) rfl h0 h1 (kk (hB 44 0 1000 rfl a).1 (hB 44 0 1000 rfl a).2)
theorem st_M44 (hX : Cx SM l w cc nL ret own R P G) (hd : decode cc pc = .ok (.iastore, 1)) (h0 : 0 ≤ a) (h1 : a < 81) (hv : 0 ≤ z ∧ z ≤ 1000) (kk : ∀ σ1 : MM, Mod [44] σ σ1 → (∀ b : Int, σ1 44 b = if b = a then z else σ 44 b) → G (pc + 1) lv st σ1) : G pc lv (.int (iI z) :: .int (iI a) :: .ref (w.2.2 17) :: st) σ := r_iast hX hd (i := 17) (r := 44) (n := 81) rfl sp_M44 h0 h1 (fun lo hi h => by
    have e : (some (some ((0 : Int), (1000 : Int))) : Option (Option (Int × Int))) = some (some (lo, hi)) := h
    cases e
    exact hv) (kk _ Mod.up (fun b => up_at))
theorem fg_M27_7 (hX : Cx SM l w cc nL ret RX6 R P G) (hd : decode cc pc = .ok (.getfield 7, 3)) (kk : G (pc + 3) lv (.ref (w.2.2 1) :: st) σ) : G pc lv (.ref (w.2.2 0) :: st) σ := r_getR hX hd (i := 0) (j := 1) rfl rfl in_X6 (k := 0) (by decide) rfl lk_RX6_7 kk
theorem fg_M27_13 (hX : Cx SM l w cc nL ret RX6 R P G) (hd : decode cc pc = .ok (.getfield 13, 3)) (kk : G (pc + 3) lv (.ref (w.2.2 2) :: st) σ) : G pc lv (.ref (w.2.2 0) :: st) σ := r_getR hX hd (i := 0) (j := 2) rfl rfl in_X6 (k := 1) (by decide) rfl lk_RX6_13 kk
theorem fg_M27_16 (hX : Cx SM l w cc nL ret RX6 R P G) (hd : decode cc pc = .ok (.getfield 16, 3)) (kk : G (pc + 3) lv (.ref (w.2.2 3) :: st) σ) : G pc lv (.ref (w.2.2 0) :: st) σ := r_getR hX hd (i := 0) (j := 3) rfl rfl in_X6 (k := 2) (by decide) rfl lk_RX6_16 kk
theorem fg_M27_19 (hX : Cx SM l w cc nL ret RX6 R P G) (hd : decode cc pc = .ok (.getfield 19, 3)) (kk : G (pc + 3) lv (.ref (w.2.2 4) :: st) σ) : G pc lv (.ref (w.2.2 0) :: st) σ := r_getR hX hd (i := 0) (j := 4) rfl rfl in_X6 (k := 3) (by decide) rfl lk_RX6_19 kk
theorem fg_M27_22 (hX : Cx SM l w cc nL ret RX6 R P G) (hd : decode cc pc = .ok (.getfield 22, 3)) (kk : G (pc + 3) lv (.ref (w.2.2 5) :: st) σ) : G pc lv (.ref (w.2.2 0) :: st) σ := r_getR hX hd (i := 0) (j := 5) rfl rfl in_X6 (k := 4) (by decide) rfl lk_RX6_22 kk
theorem fg_M27_72 (hX : Cx SM l w cc nL ret RX6 R P G) (hd : decode cc pc = .ok (.getfield 72, 3)) (kk : 0 ≤ σ 61 0 → σ 61 0 ≤ 8 → G (pc + 3) lv (.int (iI (σ 61 0)) :: st) σ) : G pc lv (.ref (w.2.2 0) :: st) σ := r_bd hX fun hB => r_getI hX hd (i := 0) (r := 61) rfl rfl in_X6 (k := 5) (by decide) rfl lk_RX6_72 (kk (hB 61 0 8 rfl 0).1 (hB 61 0 8 rfl 0).2)
theorem fp_M27_72 (hX : Cx SM l w cc nL ret RX6 R P G) (hd : decode cc pc = .ok (.putfield 72, 3)) (hv : 0 ≤ z ∧ z ≤ 8) (kk : ∀ σ1 : MM, Mod [61] σ σ1 → σ1 61 0 = z → G (pc + 3) lv st σ1) : G pc lv (.int (iI z) :: .ref (w.2.2 0) :: st) σ := r_putI hX hd (i := 0) (r := 61) rfl rfl in_X6 tyX6 tyX6_ok nmX6 (k := 5) (by decide) rfl lk_RX6_72 rfl (by decide +kernel) sp_M61 (by decide +kernel) (fun lo hi h => by
    have e : (some (some ((0 : Int), (8 : Int))) : Option (Option (Int × Int))) = some (some (lo, hi)) := h
    cases e
    exact hv) (kk _ Mod.up (by rw [up_at]; rfl))
theorem fg_M27_99 (hX : Cx SM l w cc nL ret RX6 R P G) (hd : decode cc pc = .ok (.getfield 99, 3)) (kk : G (pc + 3) lv (.int (iI (σ 62 0)) :: st) σ) : G pc lv (.ref (w.2.2 0) :: st) σ := r_getI hX hd (i := 0) (r := 62) rfl rfl in_X6 (k := 6) (by decide) rfl lk_RX6_99 kk
theorem fp_M27_99 (hX : Cx SM l w cc nL ret RX6 R P G) (hd : decode cc pc = .ok (.putfield 99, 3)) (kk : ∀ σ1 : MM, Mod [62] σ σ1 → σ1 62 0 = z → G (pc + 3) lv st σ1) : G pc lv (.int (iI z) :: .ref (w.2.2 0) :: st) σ := r_putI hX hd (i := 0) (r := 62) rfl rfl in_X6 tyX6 tyX6_ok nmX6 (k := 6) (by decide) rfl lk_RX6_99 rfl (by decide +kernel) sp_M62 (by decide +kernel) (fun lo hi h => by
    have e : (some none : Option (Option (Int × Int))) = some (some (lo, hi)) := h
    cases e) (kk _ Mod.up (by rw [up_at]; rfl))
theorem fg_M27_79 (hX : Cx SM l w cc nL ret RX6 R P G) (hd : decode cc pc = .ok (.getfield 79, 3)) (kk : 0 ≤ σ 63 0 → σ 63 0 ≤ 12 → G (pc + 3) lv (.int (iI (σ 63 0)) :: st) σ) : G pc lv (.ref (w.2.2 0) :: st) σ := r_bd hX fun hB => r_getI hX hd (i := 0) (r := 63) rfl rfl in_X6 (k := 7) (by decide) rfl lk_RX6_79 (kk (hB 63 0 12 rfl 0).1 (hB 63 0 12 rfl 0).2)
theorem fp_M27_79 (hX : Cx SM l w cc nL ret RX6 R P G) (hd : decode cc pc = .ok (.putfield 79, 3)) (hv : 0 ≤ z ∧ z ≤ 12) (kk : ∀ σ1 : MM, Mod [63] σ σ1 → σ1 63 0 = z → G (pc + 3) lv st σ1) : G pc lv (.int (iI z) :: .ref (w.2.2 0) :: st) σ := r_putI hX hd (i := 0) (r := 63) rfl rfl in_X6 tyX6 tyX6_ok nmX6 (k := 7) (by decide) rfl lk_RX6_79 rfl (by decide +kernel) sp_M63 (by decide +kernel) (fun lo hi h => by
    have e : (some (some ((0 : Int), (12 : Int))) : Option (Option (Int × Int))) = some (some (lo, hi)) := h
    cases e
    exact hv) (kk _ Mod.up (by rw [up_at]; rfl))
theorem fg_M27_82 (hX : Cx SM l w cc nL ret RX6 R P G) (hd : decode cc pc = .ok (.getfield 82, 3)) (kk : 0 ≤ σ 64 0 → σ 64 0 ≤ 60 → G (pc + 3) lv (.int (iI (σ 64 0)) :: st) σ) : G pc lv (.ref (w.2.2 0) :: st) σ := r_bd hX fun hB => r_getI hX hd (i := 0) (r := 64) rfl rfl in_X6 (k := 8) (by decide) rfl lk_RX6_82 (kk (hB 64 0 60 rfl 0).1 (hB 64 0 60 rfl 0).2)
theorem fp_M27_82 (hX : Cx SM l w cc nL ret RX6 R P G) (hd : decode cc pc = .ok (.putfield 82, 3)) (hv : 0 ≤ z ∧ z ≤ 60) (kk : ∀ σ1 : MM, Mod [64] σ σ1 → σ1 64 0 = z → G (pc + 3) lv st σ1) : G pc lv (.int (iI z) :: .ref (w.2.2 0) :: st) σ := r_putI hX hd (i := 0) (r := 64) rfl rfl in_X6 tyX6 tyX6_ok nmX6 (k := 8) (by decide) rfl lk_RX6_82 rfl (by decide +kernel) sp_M64 (by decide +kernel) (fun lo hi h => by
    have e : (some (some ((0 : Int), (60 : Int))) : Option (Option (Int × Int))) = some (some (lo, hi)) := h
    cases e
    exact hv) (kk _ Mod.up (by rw [up_at]; rfl))
theorem fg_M27_25 (hX : Cx SM l w cc nL ret RX6 R P G) (hd : decode cc pc = .ok (.getfield 25, 3)) (kk : G (pc + 3) lv (.ref (w.2.2 6) :: st) σ) : G pc lv (.ref (w.2.2 0) :: st) σ := r_getR hX hd (i := 0) (j := 6) rfl rfl in_X6 (k := 9) (by decide) rfl lk_RX6_25 kk
theorem fg_M27_29 (hX : Cx SM l w cc nL ret RX6 R P G) (hd : decode cc pc = .ok (.getfield 29, 3)) (kk : G (pc + 3) lv (.ref (w.2.2 7) :: st) σ) : G pc lv (.ref (w.2.2 0) :: st) σ := r_getR hX hd (i := 0) (j := 7) rfl rfl in_X6 (k := 10) (by decide) rfl lk_RX6_29 kk
theorem fg_M27_32 (hX : Cx SM l w cc nL ret RX6 R P G) (hd : decode cc pc = .ok (.getfield 32, 3)) (kk : 1 ≤ σ 65 0 → σ 65 0 ≤ 3 → G (pc + 3) lv (.int (iI (σ 65 0)) :: st) σ) : G pc lv (.ref (w.2.2 0) :: st) σ := r_bd hX fun hB => r_getI hX hd (i := 0) (r := 65) rfl rfl in_X6 (k := 11) (by decide) rfl lk_RX6_32 (kk (hB 65 1 3 rfl 0).1 (hB 65 1 3 rfl 0).2)
theorem fp_M27_32 (hX : Cx SM l w cc nL ret RX6 R P G) (hd : decode cc pc = .ok (.putfield 32, 3)) (hv : 1 ≤ z ∧ z ≤ 3) (kk : ∀ σ1 : MM, Mod [65] σ σ1 → σ1 65 0 = z → G (pc + 3) lv st σ1) : G pc lv (.int (iI z) :: .ref (w.2.2 0) :: st) σ := r_putI hX hd (i := 0) (r := 65) rfl rfl in_X6 tyX6 tyX6_ok nmX6 (k := 11) (by decide) rfl lk_RX6_32 rfl (by decide +kernel) sp_M65 (by decide +kernel) (fun lo hi h => by
    have e : (some (some ((1 : Int), (3 : Int))) : Option (Option (Int × Int))) = some (some (lo, hi)) := h
    cases e
    exact hv) (kk _ Mod.up (by rw [up_at]; rfl))
theorem fg_M27_36 (hX : Cx SM l w cc nL ret RX6 R P G) (hd : decode cc pc = .ok (.getfield 36, 3)) (kk : 1 ≤ σ 66 0 → σ 66 0 ≤ 3 → G (pc + 3) lv (.int (iI (σ 66 0)) :: st) σ) : G pc lv (.ref (w.2.2 0) :: st) σ := r_bd hX fun hB => r_getI hX hd (i := 0) (r := 66) rfl rfl in_X6 (k := 12) (by decide) rfl lk_RX6_36 (kk (hB 66 1 3 rfl 0).1 (hB 66 1 3 rfl 0).2)
theorem fp_M27_36 (hX : Cx SM l w cc nL ret RX6 R P G) (hd : decode cc pc = .ok (.putfield 36, 3)) (hv : 1 ≤ z ∧ z ≤ 3) (kk : ∀ σ1 : MM, Mod [66] σ σ1 → σ1 66 0 = z → G (pc + 3) lv st σ1) : G pc lv (.int (iI z) :: .ref (w.2.2 0) :: st) σ := r_putI hX hd (i := 0) (r := 66) rfl rfl in_X6 tyX6 tyX6_ok nmX6 (k := 12) (by decide) rfl lk_RX6_36 rfl (by decide +kernel) sp_M66 (by decide +kernel) (fun lo hi h => by
    have e : (some (some ((1 : Int), (3 : Int))) : Option (Option (Int × Int))) = some (some (lo, hi)) := h
    cases e
    exact hv) (kk _ Mod.up (by rw [up_at]; rfl))
theorem fg_M27_39 (hX : Cx SM l w cc nL ret RX6 R P G) (hd : decode cc pc = .ok (.getfield 39, 3)) (kk : G (pc + 3) lv (.ref (w.2.2 8) :: st) σ) : G pc lv (.ref (w.2.2 0) :: st) σ := r_getR hX hd (i := 0) (j := 8) rfl rfl in_X6 (k := 13) (by decide) rfl lk_RX6_39 kk
theorem fg_M27_42 (hX : Cx SM l w cc nL ret RX6 R P G) (hd : decode cc pc = .ok (.getfield 42, 3)) (kk : G (pc + 3) lv (.ref (w.2.2 9) :: st) σ) : G pc lv (.ref (w.2.2 0) :: st) σ := r_getR hX hd (i := 0) (j := 9) rfl rfl in_X6 (k := 14) (by decide) rfl lk_RX6_42 kk
theorem fg_M27_45 (hX : Cx SM l w cc nL ret RX6 R P G) (hd : decode cc pc = .ok (.getfield 45, 3)) (kk : G (pc + 3) lv (.ref (w.2.2 10) :: st) σ) : G pc lv (.ref (w.2.2 0) :: st) σ := r_getR hX hd (i := 0) (j := 10) rfl rfl in_X6 (k := 15) (by decide) rfl lk_RX6_45 kk
theorem fg_M27_48 (hX : Cx SM l w cc nL ret RX6 R P G) (hd : decode cc pc = .ok (.getfield 48, 3)) (kk : G (pc + 3) lv (.ref (w.2.2 11) :: st) σ) : G pc lv (.ref (w.2.2 0) :: st) σ := r_getR hX hd (i := 0) (j := 11) rfl rfl in_X6 (k := 16) (by decide) rfl lk_RX6_48 kk
theorem fg_M27_51 (hX : Cx SM l w cc nL ret RX6 R P G) (hd : decode cc pc = .ok (.getfield 51, 3)) (kk : G (pc + 3) lv (.ref (w.2.2 12) :: st) σ) : G pc lv (.ref (w.2.2 0) :: st) σ := r_getR hX hd (i := 0) (j := 12) rfl rfl in_X6 (k := 17) (by decide) rfl lk_RX6_51 kk
theorem fg_M27_54 (hX : Cx SM l w cc nL ret RX6 R P G) (hd : decode cc pc = .ok (.getfield 54, 3)) (kk : G (pc + 3) lv (.ref (w.2.2 13) :: st) σ) : G pc lv (.ref (w.2.2 0) :: st) σ := r_getR hX hd (i := 0) (j := 13) rfl rfl in_X6 (k := 18) (by decide) rfl lk_RX6_54 kk
theorem fg_M27_183 (hX : Cx SM l w cc nL ret RX6 R P G) (hd : decode cc pc = .ok (.getfield 183, 3)) (kk : G (pc + 3) lv (.int (iI (σ 67 0)) :: st) σ) : G pc lv (.ref (w.2.2 0) :: st) σ := r_getI hX hd (i := 0) (r := 67) rfl rfl in_X6 (k := 19) (by decide) rfl lk_RX6_183 kk
theorem fp_M27_183 (hX : Cx SM l w cc nL ret RX6 R P G) (hd : decode cc pc = .ok (.putfield 183, 3)) (kk : ∀ σ1 : MM, Mod [67] σ σ1 → σ1 67 0 = z → G (pc + 3) lv st σ1) : G pc lv (.int (iI z) :: .ref (w.2.2 0) :: st) σ := r_putI hX hd (i := 0) (r := 67) rfl rfl in_X6 tyX6 tyX6_ok nmX6 (k := 19) (by decide) rfl lk_RX6_183 rfl (by decide +kernel) sp_M67 (by decide +kernel) (fun lo hi h => by
    have e : (some none : Option (Option (Int × Int))) = some (some (lo, hi)) := h
    cases e) (kk _ Mod.up (by rw [up_at]; rfl))
theorem fg_M27_57 (hX : Cx SM l w cc nL ret RX6 R P G) (hd : decode cc pc = .ok (.getfield 57, 3)) (kk : G (pc + 3) lv (.ref (w.2.2 14) :: st) σ) : G pc lv (.ref (w.2.2 0) :: st) σ := r_getR hX hd (i := 0) (j := 14) rfl rfl in_X6 (k := 20) (by decide) rfl lk_RX6_57 kk
theorem fg_M27_60 (hX : Cx SM l w cc nL ret RX6 R P G) (hd : decode cc pc = .ok (.getfield 60, 3)) (kk : G (pc + 3) lv (.ref (w.2.2 15) :: st) σ) : G pc lv (.ref (w.2.2 0) :: st) σ := r_getR hX hd (i := 0) (j := 15) rfl rfl in_X6 (k := 21) (by decide) rfl lk_RX6_60 kk
theorem fg_M27_63 (hX : Cx SM l w cc nL ret RX6 R P G) (hd : decode cc pc = .ok (.getfield 63, 3)) (kk : G (pc + 3) lv (.ref (w.2.2 16) :: st) σ) : G pc lv (.ref (w.2.2 0) :: st) σ := r_getR hX hd (i := 0) (j := 16) rfl rfl in_X6 (k := 22) (by decide) rfl lk_RX6_63 kk
theorem fg_M27_66 (hX : Cx SM l w cc nL ret RX6 R P G) (hd : decode cc pc = .ok (.getfield 66, 3)) (kk : G (pc + 3) lv (.ref (w.2.2 17) :: st) σ) : G pc lv (.ref (w.2.2 0) :: st) σ := r_getR hX hd (i := 0) (j := 17) rfl rfl in_X6 (k := 23) (by decide) rfl lk_RX6_66 kk
end WORLD
