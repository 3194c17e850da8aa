theorem dX2_count_0 : decode cX2_count 0 = .ok (.aload_n 0, 1) := by decide +kernel
theorem dX2_count_1 : decode cX2_count 1 = .ok (.getfield 37, 3) := by decide +kernel
theorem dX2_count_4 : decode cX2_count 4 = .ok (.ireturn, 1) := by decide +kernel
set_option maxRecDepth 20000 in
set_option maxHeartbeats 4000000 in
theorem k_Lp_count (l : Launch) (w : WT) (σ : MM) : CT SX l w yX2_count cX2_count 1 (some .int) 0 0 [.ref (w.2.2 1)] σ (PI fun z σ1 => σ = σ1 ∧ (z = σ 53 0) ∧ (0 ≤ z ∧ z ≤ 8)) := by
  refine CT.of 0 [some (.ref (w.2.2 1))] (by decide +kernel) (by simp [lg_sl, Value.category]) rfl sh_X (fun G hX => ?_)
  refine r_aload_n hX dX2_count_0 rfl ?_
  refine fg_X1_37 hX dX2_count_1 (fun b1l b1u => ?_)
  exact r_iret hX dX2_count_4 rfl ⟨_, rfl, ⟨rfl, (by omega), (by omega)⟩⟩
theorem dX2_firstNumber_0 : decode cX2_firstNumber 0 = .ok (.aload_n 0, 1) := by decide +kernel
theorem dX2_firstNumber_1 : decode cX2_firstNumber 1 = .ok (.getfield 41, 3) := by decide +kernel
theorem dX2_firstNumber_4 : decode cX2_firstNumber 4 = .ok (.ireturn, 1) := by decide +kernel
set_option maxRecDepth 20000 in
set_option maxHeartbeats 4000000 in
theorem k_Lp_first (l : Launch) (w : WT) (σ : MM) : CT SX l w yX2_firstNumber cX2_firstNumber 1 (some .int) 0 0 [.ref (w.2.2 1)] σ (PI fun z σ1 => σ = σ1 ∧ (z = σ 55 0)) := by
  refine CT.of 0 [some (.ref (w.2.2 1))] (by decide +kernel) (by simp [lg_sl, Value.category]) rfl sh_X (fun G hX => ?_)
  refine r_aload_n hX dX2_firstNumber_0 rfl ?_
  refine fg_X1_41 hX dX2_firstNumber_1 ?_
  exact r_iret hX dX2_firstNumber_4 rfl ⟨_, rfl, ⟨rfl, (by omega)⟩⟩
theorem dX2_setFirstNumber_0 : decode cX2_setFirstNumber 0 = .ok (.aload_n 0, 1) := by decide +kernel
theorem dX2_setFirstNumber_1 : decode cX2_setFirstNumber 1 = .ok (.iload_n 1, 1) := by decide +kernel
theorem dX2_setFirstNumber_2 : decode cX2_setFirstNumber 2 = .ok (.putfield 41, 3) := by decide +kernel
theorem dX2_setFirstNumber_5 : decode cX2_setFirstNumber 5 = .ok (.return_, 1) := by decide +kernel
set_option maxRecDepth 20000 in
set_option maxHeartbeats 4000000 in
theorem k_Lp_setFirst (l : Launch) (w : WT) (σ : MM) (n : Int) (i_n : inr n) : CT SX l w yX2_setFirstNumber cX2_setFirstNumber 2 none 0 0 [.ref (w.2.2 1), .int (iI n)] σ (PV fun σ1 => Mod [55] σ σ1 ∧ (σ1 55 0 = n)) := by
  refine CT.of 0 [some (.ref (w.2.2 1)), some (.int (iI n))] (by decide +kernel) (by simp [lg_sl, Value.category]) rfl sh_X (fun G hX => ?_)
  refine r_aload_n hX dX2_setFirstNumber_0 rfl ?_
  refine r_iload_n hX dX2_setFirstNumber_1 rfl ?_
  refine fp_X1_41 hX dX2_setFirstNumber_2 (fun σ2 m2 s2 => ?_)
  exact r_ret hX dX2_setFirstNumber_5 rfl ⟨rfl, ⟨(m2.w rfl), (by omega)⟩⟩
theorem dX2_isThere_0 : decode cX2_isThere 0 = .ok (.iload_n 1, 1) := by decide +kernel
theorem dX2_isThere_1 : decode cX2_isThere 1 = .ok (.ifCond .lt 21, 3) := by decide +kernel
theorem dX2_isThere_4 : decode cX2_isThere 4 = .ok (.iload_n 1, 1) := by decide +kernel
theorem dX2_isThere_5 : decode cX2_isThere 5 = .ok (.aload_n 0, 1) := by decide +kernel
theorem dX2_isThere_6 : decode cX2_isThere 6 = .ok (.getfield 37, 3) := by decide +kernel
theorem dX2_isThere_9 : decode cX2_isThere 9 = .ok (.if_icmp .ge 13, 3) := by decide +kernel
theorem dX2_isThere_12 : decode cX2_isThere 12 = .ok (.iload_n 1, 1) := by decide +kernel
theorem dX2_isThere_13 : decode cX2_isThere 13 = .ok (.bipush 8, 2) := by decide +kernel
theorem dX2_isThere_15 : decode cX2_isThere 15 = .ok (.if_icmp .ge 7, 3) := by decide +kernel
theorem dX2_isThere_18 : decode cX2_isThere 18 = .ok (.iconst 1, 1) := by decide +kernel
theorem dX2_isThere_19 : decode cX2_isThere 19 = .ok (.goto 4, 3) := by decide +kernel
theorem dX2_isThere_22 : decode cX2_isThere 22 = .ok (.iconst 0, 1) := by decide +kernel
theorem dX2_isThere_23 : decode cX2_isThere 23 = .ok (.ireturn, 1) := by decide +kernel
set_option maxRecDepth 20000 in
set_option maxHeartbeats 4000000 in
theorem k_Lp_isThere (l : Launch) (w : WT) (σ : MM) (a : Int) (i_a : inr a) : CT SX l w yX2_isThere cX2_isThere 2 (some .boolean) 0 0 [.ref (w.2.2 1), .int (iI a)] σ (PI fun z σ1 => σ = σ1 ∧ ((z = 1 ∧ 0 ≤ a ∧ a < σ 53 0 ∧ a < 8) ∨ (z = 0 ∧ (a < 0 ∨ σ 53 0 ≤ a)))) := by
  refine CT.of 0 [some (.ref (w.2.2 1)), some (.int (iI a))] (by decide +kernel) (by simp [lg_sl, Value.category]) rfl sh_X (fun G hX => ?_)
  refine r_iload_n hX dX2_isThere_0 rfl ?_
  refine r_if_lt hX (tgt := 22) dX2_isThere_1 (by decide) (by omega) (fun c1 => ?_) (fun c1 => ?_)
  · skip
    refine r_iconst hX dX2_isThere_22 ?_
    exact r_zret hX dX2_isThere_23 rfl (by omega) ⟨_, rfl, ⟨rfl, (by omega)⟩⟩
  · skip
    refine r_iload_n hX dX2_isThere_4 rfl ?_
    refine r_aload_n hX dX2_isThere_5 rfl ?_
    refine fg_X1_37 hX dX2_isThere_6 (fun b6l b6u => ?_)
    refine r_icmp_ge hX (tgt := 22) dX2_isThere_9 (by decide) (by omega) (by omega) (fun c9 => ?_) (fun c9 => ?_)
    · skip
      refine r_iconst hX dX2_isThere_22 ?_
      exact r_zret hX dX2_isThere_23 rfl (by omega) ⟨_, rfl, ⟨rfl, (by omega)⟩⟩
    · skip
      refine r_iload_n hX dX2_isThere_12 rfl ?_
      refine r_bipush hX dX2_isThere_13 (by decide) ?_
      refine r_icmp_ge hX (tgt := 22) dX2_isThere_15 (by decide) (by omega) (by omega) (fun c15 => ?_) (fun c15 => ?_)
      · skip
        refine r_iconst hX dX2_isThere_22 ?_
        exact r_zret hX dX2_isThere_23 rfl (by omega) ⟨_, rfl, ⟨rfl, (by omega)⟩⟩
      · skip
        refine r_iconst hX dX2_isThere_18 ?_
        refine r_goto hX dX2_isThere_19 (tgt := 23) (by decide) ?_
        exact r_zret hX dX2_isThere_23 rfl (by omega) ⟨_, rfl, ⟨rfl, (by omega)⟩⟩
theorem dX2_isSlot_0 : decode cX2_isSlot 0 = .ok (.iload_n 1, 1) := by decide +kernel
theorem dX2_isSlot_1 : decode cX2_isSlot 1 = .ok (.ifCond .lt 23, 3) := by decide +kernel
theorem dX2_isSlot_4 : decode cX2_isSlot 4 = .ok (.iload_n 1, 1) := by decide +kernel
theorem dX2_isSlot_5 : decode cX2_isSlot 5 = .ok (.iconst 2, 1) := by decide +kernel
theorem dX2_isSlot_6 : decode cX2_isSlot 6 = .ok (.aload_n 0, 1) := by decide +kernel
theorem dX2_isSlot_7 : decode cX2_isSlot 7 = .ok (.getfield 37, 3) := by decide +kernel
theorem dX2_isSlot_10 : decode cX2_isSlot 10 = .ok (.imul, 1) := by decide +kernel
theorem dX2_isSlot_11 : decode cX2_isSlot 11 = .ok (.if_icmp .ge 13, 3) := by decide +kernel
theorem dX2_isSlot_14 : decode cX2_isSlot 14 = .ok (.iload_n 1, 1) := by decide +kernel
theorem dX2_isSlot_15 : decode cX2_isSlot 15 = .ok (.bipush 16, 2) := by decide +kernel
theorem dX2_isSlot_17 : decode cX2_isSlot 17 = .ok (.if_icmp .ge 7, 3) := by decide +kernel
theorem dX2_isSlot_20 : decode cX2_isSlot 20 = .ok (.iconst 1, 1) := by decide +kernel
theorem dX2_isSlot_21 : decode cX2_isSlot 21 = .ok (.goto 4, 3) := by decide +kernel
theorem dX2_isSlot_24 : decode cX2_isSlot 24 = .ok (.iconst 0, 1) := by decide +kernel
theorem dX2_isSlot_25 : decode cX2_isSlot 25 = .ok (.ireturn, 1) := by decide +kernel
set_option maxRecDepth 20000 in
set_option maxHeartbeats 4000000 in
theorem k_Lp_isSlot (l : Launch) (w : WT) (σ : MM) (a : Int) (i_a : inr a) : CT SX l w yX2_isSlot cX2_isSlot 2 (some .boolean) 0 0 [.ref (w.2.2 1), .int (iI a)] σ (PI fun z σ1 => σ = σ1 ∧ ((z = 1 ∧ 0 ≤ a ∧ a < 2 * σ 53 0 ∧ a < 16) ∨ (z = 0 ∧ (a < 0 ∨ 2 * σ 53 0 ≤ a)))) := by
  refine CT.of 0 [some (.ref (w.2.2 1)), some (.int (iI a))] (by decide +kernel) (by simp [lg_sl, Value.category]) rfl sh_X (fun G hX => ?_)
  refine r_iload_n hX dX2_isSlot_0 rfl ?_
  refine r_if_lt hX (tgt := 24) dX2_isSlot_1 (by decide) (by omega) (fun c1 => ?_) (fun c1 => ?_)
  · skip
    refine r_iconst hX dX2_isSlot_24 ?_
    exact r_zret hX dX2_isSlot_25 rfl (by omega) ⟨_, rfl, ⟨rfl, (by omega)⟩⟩
  · skip
    refine r_iload_n hX dX2_isSlot_4 rfl ?_
    refine r_iconst hX dX2_isSlot_5 ?_
    refine r_aload_n hX dX2_isSlot_6 rfl ?_
    refine fg_X1_37 hX dX2_isSlot_7 (fun b7l b7u => ?_)
    refine r_imul hX dX2_isSlot_10 ?_
    refine r_icmp_ge hX (tgt := 24) dX2_isSlot_11 (by decide) (by omega) (by omega) (fun c11 => ?_) (fun c11 => ?_)
    · skip
      refine r_iconst hX dX2_isSlot_24 ?_
      exact r_zret hX dX2_isSlot_25 rfl (by omega) ⟨_, rfl, ⟨rfl, (by omega)⟩⟩
    · skip
      refine r_iload_n hX dX2_isSlot_14 rfl ?_
      refine r_bipush hX dX2_isSlot_15 (by decide) ?_
      refine r_icmp_ge hX (tgt := 24) dX2_isSlot_17 (by decide) (by omega) (by omega) (fun c17 => ?_) (fun c17 => ?_)
      · skip
        refine r_iconst hX dX2_isSlot_24 ?_
        exact r_zret hX dX2_isSlot_25 rfl (by omega) ⟨_, rfl, ⟨rfl, (by omega)⟩⟩
      · skip
        refine r_iconst hX dX2_isSlot_20 ?_
        refine r_goto hX dX2_isSlot_21 (tgt := 25) (by decide) ?_
        exact r_zret hX dX2_isSlot_25 rfl (by omega) ⟨_, rfl, ⟨rfl, (by omega)⟩⟩
theorem dX2_isSound_0 : decode cX2_isSound 0 = .ok (.aload_n 0, 1) := by decide +kernel
theorem dX2_isSound_1 : decode cX2_isSound 1 = .ok (.getfield 44, 3) := by decide +kernel
theorem dX2_isSound_4 : decode cX2_isSound 4 = .ok (.aload_n 0, 1) := by decide +kernel
theorem dX2_isSound_5 : decode cX2_isSound 5 = .ok (.getfield 37, 3) := by decide +kernel
theorem dX2_isSound_8 : decode cX2_isSound 8 = .ok (.if_icmp .ne 7, 3) := by decide +kernel
theorem dX2_isSound_11 : decode cX2_isSound 11 = .ok (.iconst 1, 1) := by decide +kernel
theorem dX2_isSound_12 : decode cX2_isSound 12 = .ok (.goto 4, 3) := by decide +kernel
theorem dX2_isSound_15 : decode cX2_isSound 15 = .ok (.iconst 0, 1) := by decide +kernel
theorem dX2_isSound_16 : decode cX2_isSound 16 = .ok (.ireturn, 1) := by decide +kernel
set_option maxRecDepth 20000 in
set_option maxHeartbeats 4000000 in
theorem k_Lp_isSound (l : Launch) (w : WT) (σ : MM) : CT SX l w yX2_isSound cX2_isSound 1 (some .boolean) 0 0 [.ref (w.2.2 1)] σ (PI fun z σ1 => σ = σ1 ∧ ((z = 1 ∧ σ 54 0 = σ 53 0) ∨ (z = 0 ∧ σ 54 0 ≠ σ 53 0))) := by
  refine CT.of 0 [some (.ref (w.2.2 1))] (by decide +kernel) (by simp [lg_sl, Value.category]) rfl sh_X (fun G hX => ?_)
  refine r_aload_n hX dX2_isSound_0 rfl ?_
  refine fg_X1_44 hX dX2_isSound_1 (fun b1l b1u => ?_)
  refine r_aload_n hX dX2_isSound_4 rfl ?_
  refine fg_X1_37 hX dX2_isSound_5 (fun b5l b5u => ?_)
  refine r_icmp_ne hX (tgt := 15) dX2_isSound_8 (by decide) (by omega) (by omega) (fun c8 => ?_) (fun c8 => ?_)
  · skip
    refine r_iconst hX dX2_isSound_15 ?_
    exact r_zret hX dX2_isSound_16 rfl (by omega) ⟨_, rfl, ⟨rfl, (by omega)⟩⟩
  · skip
    refine r_iconst hX dX2_isSound_11 ?_
    refine r_goto hX dX2_isSound_12 (tgt := 16) (by decide) ?_
    exact r_zret hX dX2_isSound_16 rfl (by omega) ⟨_, rfl, ⟨rfl, (by omega)⟩⟩
theorem dX2_kindOf_0 : decode cX2_kindOf 0 = .ok (.aload_n 0, 1) := by decide +kernel
theorem dX2_kindOf_1 : decode cX2_kindOf 1 = .ok (.iload_n 1, 1) := by decide +kernel
theorem dX2_kindOf_2 : decode cX2_kindOf 2 = .ok (.invokevirtual 47, 3) := by decide +kernel
theorem dX2_kindOf_5 : decode cX2_kindOf 5 = .ok (.ifCond .eq 12, 3) := by decide +kernel
theorem dX2_kindOf_8 : decode cX2_kindOf 8 = .ok (.aload_n 0, 1) := by decide +kernel
theorem dX2_kindOf_9 : decode cX2_kindOf 9 = .ok (.getfield 9, 3) := by decide +kernel
theorem dX2_kindOf_12 : decode cX2_kindOf 12 = .ok (.iload_n 1, 1) := by decide +kernel
theorem dX2_kindOf_13 : decode cX2_kindOf 13 = .ok (.iaload, 1) := by decide +kernel
theorem dX2_kindOf_14 : decode cX2_kindOf 14 = .ok (.goto 5, 3) := by decide +kernel
theorem dX2_kindOf_17 : decode cX2_kindOf 17 = .ok (.bipush (-6), 2) := by decide +kernel
theorem dX2_kindOf_19 : decode cX2_kindOf 19 = .ok (.ireturn, 1) := by decide +kernel
set_option maxRecDepth 20000 in
set_option maxHeartbeats 4000000 in
theorem k_Lp_kindOf (l : Launch) (w : WT) (σ : MM) (a : Int) (i_a : inr a) : CT SX l w yX2_kindOf cX2_kindOf 2 (some .int) 1 21 [.ref (w.2.2 1), .int (iI a)] σ (PI fun z σ1 => σ = σ1 ∧ ((0 ≤ a ∧ a < σ 53 0 ∧ z = σ 2 a) ∨ ((a < 0 ∨ σ 53 0 ≤ a) ∧ z = -6)) ∧ (-6 ≤ z ∧ z ≤ 5)) := by
  refine CT.of 0 [some (.ref (w.2.2 1)), some (.int (iI a))] (by decide +kernel) (by simp [lg_sl, Value.category]) rfl sh_X (fun G hX => ?_)
  refine r_aload_n hX dX2_kindOf_0 rfl ?_
  refine r_iload_n hX dX2_kindOf_1 rfl ?_
  refine r_callV hX dX2_kindOf_2 (k_Lp_isThere l w σ _ (by omega)) mf_X2_isThere mv_X2_isThere lk_RX2_47 rfl rfl rfl rfl rfl ⟨Nat.le_of_ble_eq_true rfl, Nat.le_of_ble_eq_true rfl⟩ (Nat.le_of_ble_eq_true rfl) (kI fun z2 σ2 hh => ?_)
  obtain ⟨rfl, h2_0⟩ := hh
  refine r_if_eq hX (tgt := 17) dX2_kindOf_5 (by decide) (by omega) (fun c5 => ?_) (fun c5 => ?_)
  · skip
    refine r_bipush hX dX2_kindOf_17 (by decide) ?_
    exact r_iret hX dX2_kindOf_19 rfl ⟨_, rfl, ⟨rfl, (by omega), (by omega)⟩⟩
  · skip
    refine r_aload_n hX dX2_kindOf_8 rfl ?_
    refine fg_X1_9 hX dX2_kindOf_9 ?_
    refine r_iload_n hX dX2_kindOf_12 rfl ?_
    refine ld_X2 hX dX2_kindOf_13 (by omega) (by omega) (fun b13l b13u => ?_)
    refine r_goto hX dX2_kindOf_14 (tgt := 19) (by decide) ?_
    exact r_iret hX dX2_kindOf_19 rfl ⟨_, rfl, ⟨rfl, (by omega), (by omega)⟩⟩
theorem dX2_lengthOf_0 : decode cX2_lengthOf 0 = .ok (.aload_n 0, 1) := by decide +kernel
theorem dX2_lengthOf_1 : decode cX2_lengthOf 1 = .ok (.iload_n 1, 1) := by decide +kernel
theorem dX2_lengthOf_2 : decode cX2_lengthOf 2 = .ok (.invokevirtual 47, 3) := by decide +kernel
theorem dX2_lengthOf_5 : decode cX2_lengthOf 5 = .ok (.ifCond .eq 17, 3) := by decide +kernel
theorem dX2_lengthOf_8 : decode cX2_lengthOf 8 = .ok (.aload_n 0, 1) := by decide +kernel
theorem dX2_lengthOf_9 : decode cX2_lengthOf 9 = .ok (.getfield 9, 3) := by decide +kernel
theorem dX2_lengthOf_12 : decode cX2_lengthOf 12 = .ok (.iload_n 1, 1) := by decide +kernel
theorem dX2_lengthOf_13 : decode cX2_lengthOf 13 = .ok (.iaload, 1) := by decide +kernel
theorem dX2_lengthOf_14 : decode cX2_lengthOf 14 = .ok (.iconst 3, 1) := by decide +kernel
theorem dX2_lengthOf_15 : decode cX2_lengthOf 15 = .ok (.if_icmp .ne 7, 3) := by decide +kernel
theorem dX2_lengthOf_18 : decode cX2_lengthOf 18 = .ok (.iconst 2, 1) := by decide +kernel
theorem dX2_lengthOf_19 : decode cX2_lengthOf 19 = .ok (.goto 4, 3) := by decide +kernel
theorem dX2_lengthOf_22 : decode cX2_lengthOf 22 = .ok (.iconst 1, 1) := by decide +kernel
theorem dX2_lengthOf_23 : decode cX2_lengthOf 23 = .ok (.ireturn, 1) := by decide +kernel
set_option maxRecDepth 20000 in
set_option maxHeartbeats 4000000 in
theorem k_Lp_lengthOf (l : Launch) (w : WT) (σ : MM) (a : Int) (i_a : inr a) : CT SX l w yX2_lengthOf cX2_lengthOf 2 (some .int) 1 21 [.ref (w.2.2 1), .int (iI a)] σ (PI fun z σ1 => σ = σ1 ∧ ((z = 2 ∧ 0 ≤ a ∧ a < σ 53 0 ∧ σ 2 a = 3) ∨ (z = 1 ∧ (a < 0 ∨ σ 53 0 ≤ a ∨ σ 2 a ≠ 3)))) := by
  refine CT.of 0 [some (.ref (w.2.2 1)), some (.int (iI a))] (by decide +kernel) (by simp [lg_sl, Value.category]) rfl sh_X (fun G hX => ?_)
  refine r_aload_n hX dX2_lengthOf_0 rfl ?_
  refine r_iload_n hX dX2_lengthOf_1 rfl ?_
  refine r_callV hX dX2_lengthOf_2 (k_Lp_isThere l w σ _ (by omega)) mf_X2_isThere mv_X2_isThere lk_RX2_47 rfl rfl rfl rfl rfl ⟨Nat.le_of_ble_eq_true rfl, Nat.le_of_ble_eq_true rfl⟩ (Nat.le_of_ble_eq_true rfl) (kI fun z2 σ2 hh => ?_)
  obtain ⟨rfl, h2_0⟩ := hh
  refine r_if_eq hX (tgt := 22) dX2_lengthOf_5 (by decide) (by omega) (fun c5 => ?_) (fun c5 => ?_)
  · skip
    refine r_iconst hX dX2_lengthOf_22 ?_
    exact r_iret hX dX2_lengthOf_23 rfl ⟨_, rfl, ⟨rfl, (by omega)⟩⟩
  · skip
    refine r_aload_n hX dX2_lengthOf_8 rfl ?_
    refine fg_X1_9 hX dX2_lengthOf_9 ?_
    refine r_iload_n hX dX2_lengthOf_12 rfl ?_
    refine ld_X2 hX dX2_lengthOf_13 (by omega) (by omega) (fun b13l b13u => ?_)
    refine r_iconst hX dX2_lengthOf_14 ?_
    refine r_icmp_ne hX (tgt := 22) dX2_lengthOf_15 (by decide) (by omega) (by omega) (fun c15 => ?_) (fun c15 => ?_)
    · skip
      refine r_iconst hX dX2_lengthOf_22 ?_
      exact r_iret hX dX2_lengthOf_23 rfl ⟨_, rfl, ⟨rfl, (by omega)⟩⟩
    · skip
      refine r_iconst hX dX2_lengthOf_18 ?_
      refine r_goto hX dX2_lengthOf_19 (tgt := 23) (by decide) ?_
      exact r_iret hX dX2_lengthOf_23 rfl ⟨_, rfl, ⟨rfl, (by omega)⟩⟩
theorem dX2_factorOf_0 : decode cX2_factorOf 0 = .ok (.aload_n 0, 1) := by decide +kernel
theorem dX2_factorOf_1 : decode cX2_factorOf 1 = .ok (.iload_n 1, 1) := by decide +kernel
theorem dX2_factorOf_2 : decode cX2_factorOf 2 = .ok (.invokevirtual 47, 3) := by decide +kernel
theorem dX2_factorOf_5 : decode cX2_factorOf 5 = .ok (.ifCond .eq 12, 3) := by decide +kernel
theorem dX2_factorOf_8 : decode cX2_factorOf 8 = .ok (.aload_n 0, 1) := by decide +kernel
theorem dX2_factorOf_9 : decode cX2_factorOf 9 = .ok (.getfield 15, 3) := by decide +kernel
theorem dX2_factorOf_12 : decode cX2_factorOf 12 = .ok (.iload_n 1, 1) := by decide +kernel
theorem dX2_factorOf_13 : decode cX2_factorOf 13 = .ok (.iaload, 1) := by decide +kernel
theorem dX2_factorOf_14 : decode cX2_factorOf 14 = .ok (.goto 4, 3) := by decide +kernel
theorem dX2_factorOf_17 : decode cX2_factorOf 17 = .ok (.iconst 0, 1) := by decide +kernel
theorem dX2_factorOf_18 : decode cX2_factorOf 18 = .ok (.ireturn, 1) := by decide +kernel
set_option maxRecDepth 20000 in
set_option maxHeartbeats 4000000 in
theorem k_Lp_factorOf (l : Launch) (w : WT) (σ : MM) (a : Int) (i_a : inr a) : CT SX l w yX2_factorOf cX2_factorOf 2 (some .int) 1 21 [.ref (w.2.2 1), .int (iI a)] σ (PI fun z σ1 => σ = σ1 ∧ ((0 ≤ a ∧ a < σ 53 0 ∧ z = σ 3 a) ∨ ((a < 0 ∨ σ 53 0 ≤ a) ∧ z = 0))) := by
  refine CT.of 0 [some (.ref (w.2.2 1)), some (.int (iI a))] (by decide +kernel) (by simp [lg_sl, Value.category]) rfl sh_X (fun G hX => ?_)
  refine r_aload_n hX dX2_factorOf_0 rfl ?_
  refine r_iload_n hX dX2_factorOf_1 rfl ?_
  refine r_callV hX dX2_factorOf_2 (k_Lp_isThere l w σ _ (by omega)) mf_X2_isThere mv_X2_isThere lk_RX2_47 rfl rfl rfl rfl rfl ⟨Nat.le_of_ble_eq_true rfl, Nat.le_of_ble_eq_true rfl⟩ (Nat.le_of_ble_eq_true rfl) (kI fun z2 σ2 hh => ?_)
  obtain ⟨rfl, h2_0⟩ := hh
  refine r_if_eq hX (tgt := 17) dX2_factorOf_5 (by decide) (by omega) (fun c5 => ?_) (fun c5 => ?_)
  · skip
    refine r_iconst hX dX2_factorOf_17 ?_
    exact r_iret hX dX2_factorOf_18 rfl ⟨_, rfl, ⟨rfl, (by omega)⟩⟩
  · skip
    refine r_aload_n hX dX2_factorOf_8 rfl ?_
    refine fg_X1_15 hX dX2_factorOf_9 ?_
    refine r_iload_n hX dX2_factorOf_12 rfl ?_
    refine ld_X3 hX dX2_factorOf_13 (by omega) (by omega) ?_
    refine r_goto hX dX2_factorOf_14 (tgt := 18) (by decide) ?_
    exact r_iret hX dX2_factorOf_18 rfl ⟨_, rfl, ⟨rfl, (by omega)⟩⟩
theorem dX2_addendOf_0 : decode cX2_addendOf 0 = .ok (.aload_n 0, 1) := by decide +kernel
theorem dX2_addendOf_1 : decode cX2_addendOf 1 = .ok (.iload_n 1, 1) := by decide +kernel
theorem dX2_addendOf_2 : decode cX2_addendOf 2 = .ok (.invokevirtual 47, 3) := by decide +kernel
theorem dX2_addendOf_5 : decode cX2_addendOf 5 = .ok (.ifCond .eq 12, 3) := by decide +kernel
theorem dX2_addendOf_8 : decode cX2_addendOf 8 = .ok (.aload_n 0, 1) := by decide +kernel
theorem dX2_addendOf_9 : decode cX2_addendOf 9 = .ok (.getfield 18, 3) := by decide +kernel
theorem dX2_addendOf_12 : decode cX2_addendOf 12 = .ok (.iload_n 1, 1) := by decide +kernel
theorem dX2_addendOf_13 : decode cX2_addendOf 13 = .ok (.iaload, 1) := by decide +kernel
theorem dX2_addendOf_14 : decode cX2_addendOf 14 = .ok (.goto 4, 3) := by decide +kernel
theorem dX2_addendOf_17 : decode cX2_addendOf 17 = .ok (.iconst 0, 1) := by decide +kernel
theorem dX2_addendOf_18 : decode cX2_addendOf 18 = .ok (.ireturn, 1) := by decide +kernel
set_option maxRecDepth 20000 in
set_option maxHeartbeats 4000000 in
theorem k_Lp_addendOf (l : Launch) (w : WT) (σ : MM) (a : Int) (i_a : inr a) : CT SX l w yX2_addendOf cX2_addendOf 2 (some .int) 1 21 [.ref (w.2.2 1), .int (iI a)] σ (PI fun z σ1 => σ = σ1 ∧ ((0 ≤ a ∧ a < σ 53 0 ∧ z = σ 4 a) ∨ ((a < 0 ∨ σ 53 0 ≤ a) ∧ z = 0))) := by
  refine CT.of 0 [some (.ref (w.2.2 1)), some (.int (iI a))] (by decide +kernel) (by simp [lg_sl, Value.category]) rfl sh_X (fun G hX => ?_)
  refine r_aload_n hX dX2_addendOf_0 rfl ?_
  refine r_iload_n hX dX2_addendOf_1 rfl ?_
  refine r_callV hX dX2_addendOf_2 (k_Lp_isThere l w σ _ (by omega)) mf_X2_isThere mv_X2_isThere lk_RX2_47 rfl rfl rfl rfl rfl ⟨Nat.le_of_ble_eq_true rfl, Nat.le_of_ble_eq_true rfl⟩ (Nat.le_of_ble_eq_true rfl) (kI fun z2 σ2 hh => ?_)
  obtain ⟨rfl, h2_0⟩ := hh
  refine r_if_eq hX (tgt := 17) dX2_addendOf_5 (by decide) (by omega) (fun c5 => ?_) (fun c5 => ?_)
  · skip
    refine r_iconst hX dX2_addendOf_17 ?_
    exact r_iret hX dX2_addendOf_18 rfl ⟨_, rfl, ⟨rfl, (by omega)⟩⟩
  · skip
    refine r_aload_n hX dX2_addendOf_8 rfl ?_
    refine fg_X1_18 hX dX2_addendOf_9 ?_
    refine r_iload_n hX dX2_addendOf_12 rfl ?_
    refine ld_X4 hX dX2_addendOf_13 (by omega) (by omega) ?_
    refine r_goto hX dX2_addendOf_14 (tgt := 18) (by decide) ?_
    exact r_iret hX dX2_addendOf_18 rfl ⟨_, rfl, ⟨rfl, (by omega)⟩⟩
theorem dX2_sourceOf_0 : decode cX2_sourceOf 0 = .ok (.aload_n 0, 1) := by decide +kernel
theorem dX2_sourceOf_1 : decode cX2_sourceOf 1 = .ok (.iload_n 1, 1) := by decide +kernel
theorem dX2_sourceOf_2 : decode cX2_sourceOf 2 = .ok (.invokevirtual 51, 3) := by decide +kernel
theorem dX2_sourceOf_5 : decode cX2_sourceOf 5 = .ok (.ifCond .eq 12, 3) := by decide +kernel
theorem dX2_sourceOf_8 : decode cX2_sourceOf 8 = .ok (.aload_n 0, 1) := by decide +kernel
theorem dX2_sourceOf_9 : decode cX2_sourceOf 9 = .ok (.getfield 21, 3) := by decide +kernel
theorem dX2_sourceOf_12 : decode cX2_sourceOf 12 = .ok (.iload_n 1, 1) := by decide +kernel
theorem dX2_sourceOf_13 : decode cX2_sourceOf 13 = .ok (.iaload, 1) := by decide +kernel
theorem dX2_sourceOf_14 : decode cX2_sourceOf 14 = .ok (.goto 5, 3) := by decide +kernel
theorem dX2_sourceOf_17 : decode cX2_sourceOf 17 = .ok (.bipush (-6), 2) := by decide +kernel
theorem dX2_sourceOf_19 : decode cX2_sourceOf 19 = .ok (.ireturn, 1) := by decide +kernel
set_option maxRecDepth 20000 in
set_option maxHeartbeats 4000000 in
theorem k_Lp_sourceOf (l : Launch) (w : WT) (σ : MM) (a : Int) (i_a : inr a) : CT SX l w yX2_sourceOf cX2_sourceOf 2 (some .int) 1 21 [.ref (w.2.2 1), .int (iI a)] σ (PI fun z σ1 => σ = σ1 ∧ ((0 ≤ a ∧ a < 2 * σ 53 0 ∧ z = σ 5 a) ∨ ((a < 0 ∨ 2 * σ 53 0 ≤ a) ∧ z = -6)) ∧ (-6 ≤ z ∧ z ≤ 7)) := by
  refine CT.of 0 [some (.ref (w.2.2 1)), some (.int (iI a))] (by decide +kernel) (by simp [lg_sl, Value.category]) rfl sh_X (fun G hX => ?_)
  refine r_aload_n hX dX2_sourceOf_0 rfl ?_
  refine r_iload_n hX dX2_sourceOf_1 rfl ?_
  refine r_callV hX dX2_sourceOf_2 (k_Lp_isSlot l w σ _ (by omega)) mf_X2_isSlot mv_X2_isSlot lk_RX2_51 rfl rfl rfl rfl rfl ⟨Nat.le_of_ble_eq_true rfl, Nat.le_of_ble_eq_true rfl⟩ (Nat.le_of_ble_eq_true rfl) (kI fun z2 σ2 hh => ?_)
  obtain ⟨rfl, h2_0⟩ := hh
  refine r_if_eq hX (tgt := 17) dX2_sourceOf_5 (by decide) (by omega) (fun c5 => ?_) (fun c5 => ?_)
  · skip
    refine r_bipush hX dX2_sourceOf_17 (by decide) ?_
    exact r_iret hX dX2_sourceOf_19 rfl ⟨_, rfl, ⟨rfl, (by omega), (by omega)⟩⟩
  · skip
    refine r_aload_n hX dX2_sourceOf_8 rfl ?_
    refine fg_X1_21 hX dX2_sourceOf_9 ?_
    refine r_iload_n hX dX2_sourceOf_12 rfl ?_
    refine ld_X5 hX dX2_sourceOf_13 (by omega) (by omega) (fun b13l b13u => ?_)
    refine r_goto hX dX2_sourceOf_14 (tgt := 19) (by decide) ?_
    exact r_iret hX dX2_sourceOf_19 rfl ⟨_, rfl, ⟨rfl, (by omega), (by omega)⟩⟩
theorem dX2_distanceOf_0 : decode cX2_distanceOf 0 = .ok (.aload_n 0, 1) := by decide +kernel
theorem dX2_distanceOf_1 : decode cX2_distanceOf 1 = .ok (.iload_n 1, 1) := by decide +kernel
theorem dX2_distanceOf_2 : decode cX2_distanceOf 2 = .ok (.invokevirtual 51, 3) := by decide +kernel
theorem dX2_distanceOf_5 : decode cX2_distanceOf 5 = .ok (.ifCond .eq 12, 3) := by decide +kernel
theorem dX2_distanceOf_8 : decode cX2_distanceOf 8 = .ok (.aload_n 0, 1) := by decide +kernel
theorem dX2_distanceOf_9 : decode cX2_distanceOf 9 = .ok (.getfield 24, 3) := by decide +kernel
theorem dX2_distanceOf_12 : decode cX2_distanceOf 12 = .ok (.iload_n 1, 1) := by decide +kernel
theorem dX2_distanceOf_13 : decode cX2_distanceOf 13 = .ok (.iaload, 1) := by decide +kernel
theorem dX2_distanceOf_14 : decode cX2_distanceOf 14 = .ok (.goto 4, 3) := by decide +kernel
theorem dX2_distanceOf_17 : decode cX2_distanceOf 17 = .ok (.iconst 0, 1) := by decide +kernel
theorem dX2_distanceOf_18 : decode cX2_distanceOf 18 = .ok (.ireturn, 1) := by decide +kernel
set_option maxRecDepth 20000 in
set_option maxHeartbeats 4000000 in
theorem k_Lp_distanceOf (l : Launch) (w : WT) (σ : MM) (a : Int) (i_a : inr a) : CT SX l w yX2_distanceOf cX2_distanceOf 2 (some .int) 1 21 [.ref (w.2.2 1), .int (iI a)] σ (PI fun z σ1 => σ = σ1 ∧ ((0 ≤ a ∧ a < 2 * σ 53 0 ∧ z = σ 6 a) ∨ ((a < 0 ∨ 2 * σ 53 0 ≤ a) ∧ z = 0)) ∧ (0 ≤ z ∧ z ≤ 3)) := by
  refine CT.of 0 [some (.ref (w.2.2 1)), some (.int (iI a))] (by decide +kernel) (by simp [lg_sl, Value.category]) rfl sh_X (fun G hX => ?_)
  refine r_aload_n hX dX2_distanceOf_0 rfl ?_
  refine r_iload_n hX dX2_distanceOf_1 rfl ?_
  refine r_callV hX dX2_distanceOf_2 (k_Lp_isSlot l w σ _ (by omega)) mf_X2_isSlot mv_X2_isSlot lk_RX2_51 rfl rfl rfl rfl rfl ⟨Nat.le_of_ble_eq_true rfl, Nat.le_of_ble_eq_true rfl⟩ (Nat.le_of_ble_eq_true rfl) (kI fun z2 σ2 hh => ?_)
  obtain ⟨rfl, h2_0⟩ := hh
  refine r_if_eq hX (tgt := 17) dX2_distanceOf_5 (by decide) (by omega) (fun c5 => ?_) (fun c5 => ?_)
  · skip
    refine r_iconst hX dX2_distanceOf_17 ?_
    exact r_iret hX dX2_distanceOf_18 rfl ⟨_, rfl, ⟨rfl, (by omega), (by omega)⟩⟩
  · skip
    refine r_aload_n hX dX2_distanceOf_8 rfl ?_
    refine fg_X1_24 hX dX2_distanceOf_9 ?_
    refine r_iload_n hX dX2_distanceOf_12 rfl ?_
    refine ld_X6 hX dX2_distanceOf_13 (by omega) (by omega) (fun b13l b13u => ?_)
    refine r_goto hX dX2_distanceOf_14 (tgt := 18) (by decide) ?_
    exact r_iret hX dX2_distanceOf_18 rfl ⟨_, rfl, ⟨rfl, (by omega), (by omega)⟩⟩
theorem dX2_actInOrder_0 : decode cX2_actInOrder 0 = .ok (.aload_n 0, 1) := by decide +kernel
theorem dX2_actInOrder_1 : decode cX2_actInOrder 1 = .ok (.iload_n 1, 1) := by decide +kernel
theorem dX2_actInOrder_2 : decode cX2_actInOrder 2 = .ok (.invokevirtual 47, 3) := by decide +kernel
theorem dX2_actInOrder_5 : decode cX2_actInOrder 5 = .ok (.ifCond .eq 20, 3) := by decide +kernel
theorem dX2_actInOrder_8 : decode cX2_actInOrder 8 = .ok (.iload_n 1, 1) := by decide +kernel
theorem dX2_actInOrder_9 : decode cX2_actInOrder 9 = .ok (.aload_n 0, 1) := by decide +kernel
theorem dX2_actInOrder_10 : decode cX2_actInOrder 10 = .ok (.getfield 44, 3) := by decide +kernel
theorem dX2_actInOrder_13 : decode cX2_actInOrder 13 = .ok (.if_icmp .ge 12, 3) := by decide +kernel
theorem dX2_actInOrder_16 : decode cX2_actInOrder 16 = .ok (.aload_n 0, 1) := by decide +kernel
theorem dX2_actInOrder_17 : decode cX2_actInOrder 17 = .ok (.getfield 27, 3) := by decide +kernel
theorem dX2_actInOrder_20 : decode cX2_actInOrder 20 = .ok (.iload_n 1, 1) := by decide +kernel
theorem dX2_actInOrder_21 : decode cX2_actInOrder 21 = .ok (.iaload, 1) := by decide +kernel
theorem dX2_actInOrder_22 : decode cX2_actInOrder 22 = .ok (.goto 5, 3) := by decide +kernel
theorem dX2_actInOrder_25 : decode cX2_actInOrder 25 = .ok (.bipush (-6), 2) := by decide +kernel
theorem dX2_actInOrder_27 : decode cX2_actInOrder 27 = .ok (.ireturn, 1) := by decide +kernel
set_option maxRecDepth 20000 in
set_option maxHeartbeats 4000000 in
theorem k_Lp_actInOrder (l : Launch) (w : WT) (σ : MM) (a : Int) (i_a : inr a) : CT SX l w yX2_actInOrder cX2_actInOrder 2 (some .int) 1 21 [.ref (w.2.2 1), .int (iI a)] σ (PI fun z σ1 => σ = σ1 ∧ ((0 ≤ a ∧ a < σ 53 0 ∧ a < σ 54 0 ∧ z = σ 7 a) ∨ ((a < 0 ∨ σ 53 0 ≤ a ∨ σ 54 0 ≤ a) ∧ z = -6)) ∧ (-6 ≤ z ∧ z ≤ 7)) := by
  refine CT.of 0 [some (.ref (w.2.2 1)), some (.int (iI a))] (by decide +kernel) (by simp [lg_sl, Value.category]) rfl sh_X (fun G hX => ?_)
  refine r_aload_n hX dX2_actInOrder_0 rfl ?_
  refine r_iload_n hX dX2_actInOrder_1 rfl ?_
  refine r_callV hX dX2_actInOrder_2 (k_Lp_isThere l w σ _ (by omega)) mf_X2_isThere mv_X2_isThere lk_RX2_47 rfl rfl rfl rfl rfl ⟨Nat.le_of_ble_eq_true rfl, Nat.le_of_ble_eq_true rfl⟩ (Nat.le_of_ble_eq_true rfl) (kI fun z2 σ2 hh => ?_)
  obtain ⟨rfl, h2_0⟩ := hh
  refine r_if_eq hX (tgt := 25) dX2_actInOrder_5 (by decide) (by omega) (fun c5 => ?_) (fun c5 => ?_)
  · skip
    refine r_bipush hX dX2_actInOrder_25 (by decide) ?_
    exact r_iret hX dX2_actInOrder_27 rfl ⟨_, rfl, ⟨rfl, (by omega), (by omega)⟩⟩
  · skip
    refine r_iload_n hX dX2_actInOrder_8 rfl ?_
    refine r_aload_n hX dX2_actInOrder_9 rfl ?_
    refine fg_X1_44 hX dX2_actInOrder_10 (fun b10l b10u => ?_)
    refine r_icmp_ge hX (tgt := 25) dX2_actInOrder_13 (by decide) (by omega) (by omega) (fun c13 => ?_) (fun c13 => ?_)
    · skip
      refine r_bipush hX dX2_actInOrder_25 (by decide) ?_
      exact r_iret hX dX2_actInOrder_27 rfl ⟨_, rfl, ⟨rfl, (by omega), (by omega)⟩⟩
    · skip
      refine r_aload_n hX dX2_actInOrder_16 rfl ?_
      refine fg_X1_27 hX dX2_actInOrder_17 ?_
      refine r_iload_n hX dX2_actInOrder_20 rfl ?_
      refine ld_X7 hX dX2_actInOrder_21 (by omega) (by omega) (fun b21l b21u => ?_)
      refine r_goto hX dX2_actInOrder_22 (tgt := 27) (by decide) ?_
      exact r_iret hX dX2_actInOrder_27 rfl ⟨_, rfl, ⟨rfl, (by omega), (by omega)⟩⟩
theorem dX2_setOperand_0 : decode cX2_setOperand 0 = .ok (.iload_n 1, 1) := by decide +kernel
theorem dX2_setOperand_1 : decode cX2_setOperand 1 = .ok (.ifCond .lt 23, 3) := by decide +kernel
theorem dX2_setOperand_4 : decode cX2_setOperand 4 = .ok (.iload_n 1, 1) := by decide +kernel
theorem dX2_setOperand_5 : decode cX2_setOperand 5 = .ok (.bipush 16, 2) := by decide +kernel
theorem dX2_setOperand_7 : decode cX2_setOperand 7 = .ok (.if_icmp .ge 17, 3) := by decide +kernel
theorem dX2_setOperand_10 : decode cX2_setOperand 10 = .ok (.aload_n 0, 1) := by decide +kernel
theorem dX2_setOperand_11 : decode cX2_setOperand 11 = .ok (.getfield 21, 3) := by decide +kernel
theorem dX2_setOperand_14 : decode cX2_setOperand 14 = .ok (.iload_n 1, 1) := by decide +kernel
theorem dX2_setOperand_15 : decode cX2_setOperand 15 = .ok (.iload_n 2, 1) := by decide +kernel
theorem dX2_setOperand_16 : decode cX2_setOperand 16 = .ok (.iastore, 1) := by decide +kernel
theorem dX2_setOperand_17 : decode cX2_setOperand 17 = .ok (.aload_n 0, 1) := by decide +kernel
theorem dX2_setOperand_18 : decode cX2_setOperand 18 = .ok (.getfield 24, 3) := by decide +kernel
theorem dX2_setOperand_21 : decode cX2_setOperand 21 = .ok (.iload_n 1, 1) := by decide +kernel
theorem dX2_setOperand_22 : decode cX2_setOperand 22 = .ok (.iload_n 3, 1) := by decide +kernel
theorem dX2_setOperand_23 : decode cX2_setOperand 23 = .ok (.iastore, 1) := by decide +kernel
theorem dX2_setOperand_24 : decode cX2_setOperand 24 = .ok (.return_, 1) := by decide +kernel
set_option maxRecDepth 20000 in
set_option maxHeartbeats 4000000 in
theorem k_Lp_setOperand (l : Launch) (w : WT) (σ : MM) (a : Int) (u : Int) (d : Int) (i_a : inr a) (i_u : inr u) (i_d : inr d) (ha : 0 ≤ a ∧ a < 16) (hu : -6 ≤ u ∧ u ≤ 7) (hd : 0 ≤ d ∧ d ≤ 3) : CT SX l w yX2_setOperand cX2_setOperand 4 none 0 0 [.ref (w.2.2 1), .int (iI a), .int (iI u), .int (iI d)] σ (PV fun σ1 => Mod [5, 6] σ σ1 ∧ (∀ b : Int, σ1 5 b = if b = a then u else σ 5 b) ∧ (∀ b : Int, σ1 6 b = if b = a then d else σ 6 b)) := by
  refine CT.of 0 [some (.ref (w.2.2 1)), some (.int (iI a)), some (.int (iI u)), some (.int (iI d))] (by decide +kernel) (by simp [lg_sl, Value.category]) rfl sh_X (fun G hX => ?_)
  refine r_iload_n hX dX2_setOperand_0 rfl ?_
  refine r_if_lt hX (tgt := 24) dX2_setOperand_1 (by decide) (by omega) (fun c1 => ?_) (fun c1 => ?_)
  · exfalso; omega
  · skip
    refine r_iload_n hX dX2_setOperand_4 rfl ?_
    refine r_bipush hX dX2_setOperand_5 (by decide) ?_
    refine r_icmp_ge hX (tgt := 24) dX2_setOperand_7 (by decide) (by omega) (by omega) (fun c7 => ?_) (fun c7 => ?_)
    · exfalso; omega
    · skip
      refine r_aload_n hX dX2_setOperand_10 rfl ?_
      refine fg_X1_21 hX dX2_setOperand_11 ?_
      refine r_iload_n hX dX2_setOperand_14 rfl ?_
      refine r_iload_n hX dX2_setOperand_15 rfl ?_
      refine st_X5 hX dX2_setOperand_16 (by omega) (by omega) (by omega) (fun σ16 m16 s16 => ?_)
      refine r_aload_n hX dX2_setOperand_17 rfl ?_
      refine fg_X1_24 hX dX2_setOperand_18 ?_
      refine r_iload_n hX dX2_setOperand_21 rfl ?_
      refine r_iload_n hX dX2_setOperand_22 rfl ?_
      refine st_X6 hX dX2_setOperand_23 (by omega) (by omega) (by omega) (fun σ23 m23 s23 => ?_)
      simp only [show σ16 6 = σ 6 from (m16.at 6 rfl)] at s23
      have qr1 : σ23 5 = σ16 5 := (m23.at 5 rfl)
      exact r_ret hX dX2_setOperand_24 rfl ⟨rfl, ⟨(Mod.tr (L := [5, 6]) m16 m23 rfl rfl), (by intro b; simp only [qr1]; simp_all), (by intro b; skip; simp_all)⟩⟩
theorem dX2_canFollow_0 : decode cX2_canFollow 0 = .ok (.aload_n 0, 1) := by decide +kernel
theorem dX2_canFollow_1 : decode cX2_canFollow 1 = .ok (.iload_n 1, 1) := by decide +kernel
theorem dX2_canFollow_2 : decode cX2_canFollow 2 = .ok (.invokevirtual 64, 3) := by decide +kernel
theorem dX2_canFollow_5 : decode cX2_canFollow 5 = .ok (.istore_n 2, 1) := by decide +kernel
theorem dX2_canFollow_6 : decode cX2_canFollow 6 = .ok (.iload_n 2, 1) := by decide +kernel
theorem dX2_canFollow_7 : decode cX2_canFollow 7 = .ok (.bipush (-6), 2) := by decide +kernel
theorem dX2_canFollow_9 : decode cX2_canFollow 9 = .ok (.if_icmp .ne 5, 3) := by decide +kernel
theorem dX2_canFollow_12 : decode cX2_canFollow 12 = .ok (.iconst 1, 1) := by decide +kernel
theorem dX2_canFollow_13 : decode cX2_canFollow 13 = .ok (.ireturn, 1) := by decide +kernel
theorem dX2_canFollow_14 : decode cX2_canFollow 14 = .ok (.aload_n 0, 1) := by decide +kernel
theorem dX2_canFollow_15 : decode cX2_canFollow 15 = .ok (.iload_n 2, 1) := by decide +kernel
theorem dX2_canFollow_16 : decode cX2_canFollow 16 = .ok (.invokevirtual 47, 3) := by decide +kernel
theorem dX2_canFollow_19 : decode cX2_canFollow 19 = .ok (.ifCond .eq 24, 3) := by decide +kernel
theorem dX2_canFollow_22 : decode cX2_canFollow 22 = .ok (.aload_n 0, 1) := by decide +kernel
theorem dX2_canFollow_23 : decode cX2_canFollow 23 = .ok (.iload_n 1, 1) := by decide +kernel
theorem dX2_canFollow_24 : decode cX2_canFollow 24 = .ok (.invokevirtual 68, 3) := by decide +kernel
theorem dX2_canFollow_27 : decode cX2_canFollow 27 = .ok (.ifCond .gt 12, 3) := by decide +kernel
theorem dX2_canFollow_30 : decode cX2_canFollow 30 = .ok (.aload_n 0, 1) := by decide +kernel
theorem dX2_canFollow_31 : decode cX2_canFollow 31 = .ok (.getfield 30, 3) := by decide +kernel
theorem dX2_canFollow_34 : decode cX2_canFollow 34 = .ok (.iload_n 2, 1) := by decide +kernel
theorem dX2_canFollow_35 : decode cX2_canFollow 35 = .ok (.baload, 1) := by decide +kernel
theorem dX2_canFollow_36 : decode cX2_canFollow 36 = .ok (.ifCond .eq 7, 3) := by decide +kernel
theorem dX2_canFollow_39 : decode cX2_canFollow 39 = .ok (.iconst 1, 1) := by decide +kernel
theorem dX2_canFollow_40 : decode cX2_canFollow 40 = .ok (.goto 4, 3) := by decide +kernel
theorem dX2_canFollow_43 : decode cX2_canFollow 43 = .ok (.iconst 0, 1) := by decide +kernel
theorem dX2_canFollow_44 : decode cX2_canFollow 44 = .ok (.ireturn, 1) := by decide +kernel
set_option maxRecDepth 20000 in
set_option maxHeartbeats 4000000 in
theorem k_Lp_canFollow (l : Launch) (w : WT) (σ : MM) (a : Int) (i_a : inr a) (ha : 0 ≤ a ∧ a < 2 * σ 53 0) : CT SX l w yX2_canFollow cX2_canFollow 3 (some .boolean) 2 42 [.ref (w.2.2 1), .int (iI a)] σ (PI fun z σ1 => σ = σ1 ∧ ((z = 1 ∧ CF (σ 5) (σ 6) (σ 53 0) (σ 8) a) ∨ (z = 0 ∧ ¬ CF (σ 5) (σ 6) (σ 53 0) (σ 8) a))) := by
  refine CT.of 1 [some (.ref (w.2.2 1)), some (.int (iI a)), none] (by decide +kernel) (by simp [lg_sl, Value.category]) rfl sh_X (fun G hX => ?_)
  refine r_aload_n hX dX2_canFollow_0 rfl ?_
  refine r_iload_n hX dX2_canFollow_1 rfl ?_
  refine r_callV hX dX2_canFollow_2 (k_Lp_sourceOf l w σ _ (by omega)) mf_X2_sourceOf mv_X2_sourceOf lk_RX2_64 rfl rfl rfl rfl rfl ⟨Nat.le_of_ble_eq_true rfl, Nat.le_of_ble_eq_true rfl⟩ (Nat.le_of_ble_eq_true rfl) (kI fun z2 σ2 hh => ?_)
  obtain ⟨rfl, h2_0, h2_1⟩ := hh
  refine r_istore_n hX (fun x5 => [some (.ref (w.2.2 1)), some (.int (iI a)), some (.int (iI x5))]) dX2_canFollow_5 (Nat.le_of_ble_eq_true rfl) rfl rfl (fun _ => rfl) (fun x5 e5 => ?_)
  have e9 : x5 = σ 5 a := by omega
  have e8 : σ 8 x5 = σ 8 (σ 5 a) := congrArg (σ 8) e9
  refine r_iload_n hX dX2_canFollow_6 rfl ?_
  refine r_bipush hX dX2_canFollow_7 (by decide) ?_
  refine r_icmp_ne hX (tgt := 14) dX2_canFollow_9 (by decide) (by omega) (by omega) (fun c9 => ?_) (fun c9 => ?_)
  · skip
    refine r_aload_n hX dX2_canFollow_14 rfl ?_
    refine r_iload_n hX dX2_canFollow_15 rfl ?_
    refine r_callV hX dX2_canFollow_16 (k_Lp_isThere l w σ _ (by omega)) mf_X2_isThere mv_X2_isThere lk_RX2_47 rfl rfl rfl rfl rfl ⟨Nat.le_of_ble_eq_true rfl, Nat.le_of_ble_eq_true rfl⟩ (Nat.le_of_ble_eq_true rfl) (kI fun z16 σ16 hh => ?_)
    obtain ⟨rfl, h16_0⟩ := hh
    refine r_if_eq hX (tgt := 43) dX2_canFollow_19 (by decide) (by omega) (fun c19 => ?_) (fun c19 => ?_)
    · skip
      refine r_iconst hX dX2_canFollow_43 ?_
      exact r_zret hX dX2_canFollow_44 rfl (by omega) ⟨_, rfl, ⟨rfl, (by first | exact Or.inl ⟨rfl, by unfold CF; omega⟩ | exact Or.inr ⟨rfl, by unfold CF; omega⟩)⟩⟩
    · skip
      refine r_aload_n hX dX2_canFollow_22 rfl ?_
      refine r_iload_n hX dX2_canFollow_23 rfl ?_
      refine r_callV hX dX2_canFollow_24 (k_Lp_distanceOf l w σ _ (by omega)) mf_X2_distanceOf mv_X2_distanceOf lk_RX2_68 rfl rfl rfl rfl rfl ⟨Nat.le_of_ble_eq_true rfl, Nat.le_of_ble_eq_true rfl⟩ (Nat.le_of_ble_eq_true rfl) (kI fun z24 σ24 hh => ?_)
      obtain ⟨rfl, h24_0, h24_1⟩ := hh
      refine r_if_gt hX (tgt := 39) dX2_canFollow_27 (by decide) (by omega) (fun c27 => ?_) (fun c27 => ?_)
      · skip
        refine r_iconst hX dX2_canFollow_39 ?_
        refine r_goto hX dX2_canFollow_40 (tgt := 44) (by decide) ?_
        exact r_zret hX dX2_canFollow_44 rfl (by omega) ⟨_, rfl, ⟨rfl, (by first | exact Or.inl ⟨rfl, by unfold CF; omega⟩ | exact Or.inr ⟨rfl, by unfold CF; omega⟩)⟩⟩
      · skip
        refine r_aload_n hX dX2_canFollow_30 rfl ?_
        refine fg_X1_30 hX dX2_canFollow_31 ?_
        refine r_iload_n hX dX2_canFollow_34 rfl ?_
        refine ld_X8 hX dX2_canFollow_35 (by omega) (by omega) (fun b35l b35u => ?_)
        refine r_if_eq hX (tgt := 43) dX2_canFollow_36 (by decide) (by omega) (fun c36 => ?_) (fun c36 => ?_)
        · skip
          refine r_iconst hX dX2_canFollow_43 ?_
          exact r_zret hX dX2_canFollow_44 rfl (by omega) ⟨_, rfl, ⟨rfl, (by first | exact Or.inl ⟨rfl, by unfold CF; omega⟩ | exact Or.inr ⟨rfl, by unfold CF; omega⟩)⟩⟩
        · skip
          refine r_iconst hX dX2_canFollow_39 ?_
          refine r_goto hX dX2_canFollow_40 (tgt := 44) (by decide) ?_
          exact r_zret hX dX2_canFollow_44 rfl (by omega) ⟨_, rfl, ⟨rfl, (by first | exact Or.inl ⟨rfl, by unfold CF; omega⟩ | exact Or.inr ⟨rfl, by unfold CF; omega⟩)⟩⟩
  · skip
    refine r_iconst hX dX2_canFollow_12 ?_
    exact r_zret hX dX2_canFollow_13 rfl (by omega) ⟨_, rfl, ⟨rfl, (by first | exact Or.inl ⟨rfl, by unfold CF; omega⟩ | exact Or.inr ⟨rfl, by unfold CF; omega⟩)⟩⟩
theorem dX2_products_0 : decode cX2_products 0 = .ok (.iconst 0, 1) := by decide +kernel
theorem dX2_products_1 : decode cX2_products 1 = .ok (.istore_n 1, 1) := by decide +kernel
theorem dX2_products_2 : decode cX2_products 2 = .ok (.iconst 0, 1) := by decide +kernel
theorem dX2_products_3 : decode cX2_products 3 = .ok (.istore_n 2, 1) := by decide +kernel
theorem dX2_products_4 : decode cX2_products 4 = .ok (.iload_n 2, 1) := by decide +kernel
theorem dX2_products_5 : decode cX2_products 5 = .ok (.aload_n 0, 1) := by decide +kernel
theorem dX2_products_6 : decode cX2_products 6 = .ok (.getfield 37, 3) := by decide +kernel
theorem dX2_products_9 : decode cX2_products 9 = .ok (.if_icmp .ge 28, 3) := by decide +kernel
theorem dX2_products_12 : decode cX2_products 12 = .ok (.iload_n 2, 1) := by decide +kernel
theorem dX2_products_13 : decode cX2_products 13 = .ok (.bipush 8, 2) := by decide +kernel
theorem dX2_products_15 : decode cX2_products 15 = .ok (.if_icmp .ge 22, 3) := by decide +kernel
theorem dX2_products_18 : decode cX2_products 18 = .ok (.aload_n 0, 1) := by decide +kernel
theorem dX2_products_19 : decode cX2_products 19 = .ok (.getfield 9, 3) := by decide +kernel
theorem dX2_products_22 : decode cX2_products 22 = .ok (.iload_n 2, 1) := by decide +kernel
theorem dX2_products_23 : decode cX2_products 23 = .ok (.iaload, 1) := by decide +kernel
theorem dX2_products_24 : decode cX2_products 24 = .ok (.iconst 3, 1) := by decide +kernel
theorem dX2_products_25 : decode cX2_products 25 = .ok (.if_icmp .ne 6, 3) := by decide +kernel
theorem dX2_products_28 : decode cX2_products 28 = .ok (.iinc 1 1, 3) := by decide +kernel
theorem dX2_products_31 : decode cX2_products 31 = .ok (.iinc 2 1, 3) := by decide +kernel
theorem dX2_products_34 : decode cX2_products 34 = .ok (.goto (-30), 3) := by decide +kernel
theorem dX2_products_37 : decode cX2_products 37 = .ok (.iload_n 1, 1) := by decide +kernel
theorem dX2_products_38 : decode cX2_products 38 = .ok (.ireturn, 1) := by decide +kernel
set_option maxRecDepth 20000 in
set_option maxHeartbeats 4000000 in
theorem k_Lp_products (l : Launch) (w : WT) (σ : MM) : CT SX l w yX2_products cX2_products 3 (some .int) 0 0 [.ref (w.2.2 1)] σ (PI fun z σ1 => σ = σ1 ∧ (z = cnK (σ 2) (σ 53 0)) ∧ (0 ≤ z ∧ z ≤ σ 53 0)) := by
  refine CT.of 2 [some (.ref (w.2.2 1)), none, none] (by decide +kernel) (by simp [lg_sl, Value.category]) rfl sh_X (fun G hX => ?_)
  refine r_bd hX (fun hBd => ?_)
  have b_53 := hBd 53 0 8 rfl 0
  refine r_iconst hX dX2_products_0 ?_
  refine r_istore_n hX (fun x1 => [some (.ref (w.2.2 1)), some (.int (iI x1)), none]) dX2_products_1 (Nat.le_of_ble_eq_true rfl) rfl rfl (fun _ => rfl) (fun x1 e1 => ?_)
  refine r_iconst hX dX2_products_2 ?_
  refine r_istore_n hX (fun x3 => [some (.ref (w.2.2 1)), some (.int (iI x1)), some (.int (iI x3))]) dX2_products_3 (Nat.le_of_ble_eq_true rfl) rfl rfl (fun _ => rfl) (fun x3 e3 => ?_)
  have lp4 : ∀ (n : Nat) (found : Int) (act : Int) (hf : 0 ≤ found ∧ found ≤ act) (ha : 0 ≤ act ∧ act ≤ σ 53 0 ∧ σ 53 0 ≤ 8) (hf2 : found = cnK (σ 2) act) (hmu : 9 - act < (n : Int)), G 4 [some (.ref (w.2.2 1)), some (.int (iI found)), some (.int (iI act))] [] σ := by
    intro n
    induction n with
    | zero => intro found act hf ha hf2 hmu; omega
    | succ n ih =>
      intro found act hf ha hf2 hmu
      have ih4 := ih
      clear ih
      refine r_iload_n hX dX2_products_4 rfl ?_
      refine r_aload_n hX dX2_products_5 rfl ?_
      refine fg_X1_37 hX dX2_products_6 (fun b6l b6u => ?_)
      refine r_icmp_ge hX (tgt := 37) dX2_products_9 (by decide) (by omega) (by omega) (fun c9 => ?_) (fun c9 => ?_)
      · skip
        refine r_iload_n hX dX2_products_37 rfl ?_
        exact r_iret hX dX2_products_38 rfl ⟨_, rfl, ⟨rfl, (by have e : act = σ 53 0 := (by omega); rw [e] at hf2; exact hf2), (by omega)⟩⟩
      · skip
        refine r_iload_n hX dX2_products_12 rfl ?_
        refine r_bipush hX dX2_products_13 (by decide) ?_
        refine r_icmp_ge hX (tgt := 37) dX2_products_15 (by decide) (by omega) (by omega) (fun c15 => ?_) (fun c15 => ?_)
        · skip
          refine r_iload_n hX dX2_products_37 rfl ?_
          exact r_iret hX dX2_products_38 rfl ⟨_, rfl, ⟨rfl, (by have e : act = σ 53 0 := (by omega); rw [e] at hf2; exact hf2), (by omega)⟩⟩
        · skip
          refine r_aload_n hX dX2_products_18 rfl ?_
          refine fg_X1_9 hX dX2_products_19 ?_
          refine r_iload_n hX dX2_products_22 rfl ?_
          refine ld_X2 hX dX2_products_23 (by omega) (by omega) (fun b23l b23u => ?_)
          refine r_iconst hX dX2_products_24 ?_
          refine r_icmp_ne hX (tgt := 31) dX2_products_25 (by decide) (by omega) (by omega) (fun c25 => ?_) (fun c25 => ?_)
          · skip
            refine r_iinc hX (fun x31 => [some (.ref (w.2.2 1)), some (.int (iI found)), some (.int (iI x31))]) dX2_products_31 rfl rfl rfl (fun _ => rfl) (fun x31 e31 => ?_)
            refine r_goto hX dX2_products_34 (tgt := 4) (by decide) ?_
            exact ih4 found x31 (by omega) (by omega) (by rw [e31, cnK, sm_succ ha.1, show sm _ act.toNat = found from hf2.symm]; first | (rw [if_neg (by omega)]; omega) | (rw [if_pos (by omega)]; omega)) (by omega)
          · skip
            refine r_iinc hX (fun x28 => [some (.ref (w.2.2 1)), some (.int (iI x28)), some (.int (iI act))]) dX2_products_28 rfl rfl rfl (fun _ => rfl) (fun x28 e28 => ?_)
            refine r_iinc hX (fun x31 => [some (.ref (w.2.2 1)), some (.int (iI x28)), some (.int (iI x31))]) dX2_products_31 rfl rfl rfl (fun _ => rfl) (fun x31 e31 => ?_)
            refine r_goto hX dX2_products_34 (tgt := 4) (by decide) ?_
            exact ih4 x28 x31 (by omega) (by omega) (by rw [e31, cnK, sm_succ ha.1, show sm _ act.toNat = found from hf2.symm]; first | (rw [if_neg (by omega)]; omega) | (rw [if_pos (by omega)]; omega)) (by omega)
  exact lp4 ((9 - (x3)) + 1).toNat x1 x3 (by omega) (by omega) (by rw [e1, e3]; rfl) (by omega)
theorem dX2_arrange_0 : decode cX2_arrange 0 = .ok (.iconst 0, 1) := by decide +kernel
theorem dX2_arrange_1 : decode cX2_arrange 1 = .ok (.istore_n 1, 1) := by decide +kernel
theorem dX2_arrange_2 : decode cX2_arrange 2 = .ok (.iload_n 1, 1) := by decide +kernel
theorem dX2_arrange_3 : decode cX2_arrange 3 = .ok (.aload_n 0, 1) := by decide +kernel
theorem dX2_arrange_4 : decode cX2_arrange 4 = .ok (.getfield 37, 3) := by decide +kernel
theorem dX2_arrange_7 : decode cX2_arrange 7 = .ok (.if_icmp .ge 22, 3) := by decide +kernel
theorem dX2_arrange_10 : decode cX2_arrange 10 = .ok (.iload_n 1, 1) := by decide +kernel
theorem dX2_arrange_11 : decode cX2_arrange 11 = .ok (.bipush 8, 2) := by decide +kernel
theorem dX2_arrange_13 : decode cX2_arrange 13 = .ok (.if_icmp .ge 16, 3) := by decide +kernel
theorem dX2_arrange_16 : decode cX2_arrange 16 = .ok (.aload_n 0, 1) := by decide +kernel
theorem dX2_arrange_17 : decode cX2_arrange 17 = .ok (.getfield 30, 3) := by decide +kernel
theorem dX2_arrange_20 : decode cX2_arrange 20 = .ok (.iload_n 1, 1) := by decide +kernel
theorem dX2_arrange_21 : decode cX2_arrange 21 = .ok (.iconst 0, 1) := by decide +kernel
theorem dX2_arrange_22 : decode cX2_arrange 22 = .ok (.bastore, 1) := by decide +kernel
theorem dX2_arrange_23 : decode cX2_arrange 23 = .ok (.iinc 1 1, 3) := by decide +kernel
theorem dX2_arrange_26 : decode cX2_arrange 26 = .ok (.goto (-24), 3) := by decide +kernel
theorem dX2_arrange_29 : decode cX2_arrange 29 = .ok (.aload_n 0, 1) := by decide +kernel
theorem dX2_arrange_30 : decode cX2_arrange 30 = .ok (.iconst 0, 1) := by decide +kernel
theorem dX2_arrange_31 : decode cX2_arrange 31 = .ok (.putfield 44, 3) := by decide +kernel
theorem dX2_arrange_34 : decode cX2_arrange 34 = .ok (.iconst 0, 1) := by decide +kernel
theorem dX2_arrange_35 : decode cX2_arrange 35 = .ok (.istore_n 1, 1) := by decide +kernel
theorem dX2_arrange_36 : decode cX2_arrange 36 = .ok (.iload_n 1, 1) := by decide +kernel
theorem dX2_arrange_37 : decode cX2_arrange 37 = .ok (.aload_n 0, 1) := by decide +kernel
theorem dX2_arrange_38 : decode cX2_arrange 38 = .ok (.getfield 37, 3) := by decide +kernel
theorem dX2_arrange_41 : decode cX2_arrange 41 = .ok (.if_icmp .ge 108, 3) := by decide +kernel
theorem dX2_arrange_44 : decode cX2_arrange 44 = .ok (.iconst 0, 1) := by decide +kernel
theorem dX2_arrange_45 : decode cX2_arrange 45 = .ok (.istore_n 2, 1) := by decide +kernel
theorem dX2_arrange_46 : decode cX2_arrange 46 = .ok (.iload_n 2, 1) := by decide +kernel
theorem dX2_arrange_47 : decode cX2_arrange 47 = .ok (.aload_n 0, 1) := by decide +kernel
theorem dX2_arrange_48 : decode cX2_arrange 48 = .ok (.getfield 37, 3) := by decide +kernel
theorem dX2_arrange_51 : decode cX2_arrange 51 = .ok (.if_icmp .ge 92, 3) := by decide +kernel
theorem dX2_arrange_54 : decode cX2_arrange 54 = .ok (.iload_n 2, 1) := by decide +kernel
theorem dX2_arrange_55 : decode cX2_arrange 55 = .ok (.bipush 8, 2) := by decide +kernel
theorem dX2_arrange_57 : decode cX2_arrange 57 = .ok (.if_icmp .ge 86, 3) := by decide +kernel
theorem dX2_arrange_60 : decode cX2_arrange 60 = .ok (.aload_n 0, 1) := by decide +kernel
theorem dX2_arrange_61 : decode cX2_arrange 61 = .ok (.getfield 30, 3) := by decide +kernel
theorem dX2_arrange_64 : decode cX2_arrange 64 = .ok (.iload_n 2, 1) := by decide +kernel
theorem dX2_arrange_65 : decode cX2_arrange 65 = .ok (.baload, 1) := by decide +kernel
theorem dX2_arrange_66 : decode cX2_arrange 66 = .ok (.ifCond .ne 29, 3) := by decide +kernel
theorem dX2_arrange_69 : decode cX2_arrange 69 = .ok (.aload_n 0, 1) := by decide +kernel
theorem dX2_arrange_70 : decode cX2_arrange 70 = .ok (.iconst 2, 1) := by decide +kernel
theorem dX2_arrange_71 : decode cX2_arrange 71 = .ok (.iload_n 2, 1) := by decide +kernel
theorem dX2_arrange_72 : decode cX2_arrange 72 = .ok (.imul, 1) := by decide +kernel
theorem dX2_arrange_73 : decode cX2_arrange 73 = .ok (.invokevirtual 61, 3) := by decide +kernel
theorem dX2_arrange_76 : decode cX2_arrange 76 = .ok (.ifCond .eq 19, 3) := by decide +kernel
theorem dX2_arrange_79 : decode cX2_arrange 79 = .ok (.aload_n 0, 1) := by decide +kernel
theorem dX2_arrange_80 : decode cX2_arrange 80 = .ok (.iconst 2, 1) := by decide +kernel
theorem dX2_arrange_81 : decode cX2_arrange 81 = .ok (.iload_n 2, 1) := by decide +kernel
theorem dX2_arrange_82 : decode cX2_arrange 82 = .ok (.imul, 1) := by decide +kernel
theorem dX2_arrange_83 : decode cX2_arrange 83 = .ok (.iconst 1, 1) := by decide +kernel
theorem dX2_arrange_84 : decode cX2_arrange 84 = .ok (.iadd, 1) := by decide +kernel
theorem dX2_arrange_85 : decode cX2_arrange 85 = .ok (.invokevirtual 61, 3) := by decide +kernel
theorem dX2_arrange_88 : decode cX2_arrange 88 = .ok (.ifCond .eq 7, 3) := by decide +kernel
theorem dX2_arrange_91 : decode cX2_arrange 91 = .ok (.iconst 1, 1) := by decide +kernel
theorem dX2_arrange_92 : decode cX2_arrange 92 = .ok (.goto 4, 3) := by decide +kernel
theorem dX2_arrange_95 : decode cX2_arrange 95 = .ok (.iconst 0, 1) := by decide +kernel
theorem dX2_arrange_96 : decode cX2_arrange 96 = .ok (.istore_n 3, 1) := by decide +kernel
theorem dX2_arrange_97 : decode cX2_arrange 97 = .ok (.iload_n 3, 1) := by decide +kernel
theorem dX2_arrange_98 : decode cX2_arrange 98 = .ok (.ifCond .eq 39, 3) := by decide +kernel
theorem dX2_arrange_101 : decode cX2_arrange 101 = .ok (.aload_n 0, 1) := by decide +kernel
theorem dX2_arrange_102 : decode cX2_arrange 102 = .ok (.getfield 44, 3) := by decide +kernel
theorem dX2_arrange_105 : decode cX2_arrange 105 = .ok (.bipush 8, 2) := by decide +kernel
theorem dX2_arrange_107 : decode cX2_arrange 107 = .ok (.if_icmp .ge 30, 3) := by decide +kernel
theorem dX2_arrange_110 : decode cX2_arrange 110 = .ok (.aload_n 0, 1) := by decide +kernel
theorem dX2_arrange_111 : decode cX2_arrange 111 = .ok (.getfield 30, 3) := by decide +kernel
theorem dX2_arrange_114 : decode cX2_arrange 114 = .ok (.iload_n 2, 1) := by decide +kernel
theorem dX2_arrange_115 : decode cX2_arrange 115 = .ok (.iconst 1, 1) := by decide +kernel
theorem dX2_arrange_116 : decode cX2_arrange 116 = .ok (.bastore, 1) := by decide +kernel
theorem dX2_arrange_117 : decode cX2_arrange 117 = .ok (.aload_n 0, 1) := by decide +kernel
theorem dX2_arrange_118 : decode cX2_arrange 118 = .ok (.getfield 27, 3) := by decide +kernel
theorem dX2_arrange_121 : decode cX2_arrange 121 = .ok (.aload_n 0, 1) := by decide +kernel
theorem dX2_arrange_122 : decode cX2_arrange 122 = .ok (.getfield 44, 3) := by decide +kernel
theorem dX2_arrange_125 : decode cX2_arrange 125 = .ok (.iload_n 2, 1) := by decide +kernel
theorem dX2_arrange_126 : decode cX2_arrange 126 = .ok (.iastore, 1) := by decide +kernel
theorem dX2_arrange_127 : decode cX2_arrange 127 = .ok (.aload_n 0, 1) := by decide +kernel
theorem dX2_arrange_128 : decode cX2_arrange 128 = .ok (.dup, 1) := by decide +kernel
theorem dX2_arrange_129 : decode cX2_arrange 129 = .ok (.getfield 44, 3) := by decide +kernel
theorem dX2_arrange_132 : decode cX2_arrange 132 = .ok (.iconst 1, 1) := by decide +kernel
theorem dX2_arrange_133 : decode cX2_arrange 133 = .ok (.iadd, 1) := by decide +kernel
theorem dX2_arrange_134 : decode cX2_arrange 134 = .ok (.putfield 44, 3) := by decide +kernel
theorem dX2_arrange_137 : decode cX2_arrange 137 = .ok (.iinc 2 1, 3) := by decide +kernel
theorem dX2_arrange_140 : decode cX2_arrange 140 = .ok (.goto (-94), 3) := by decide +kernel
theorem dX2_arrange_143 : decode cX2_arrange 143 = .ok (.iinc 1 1, 3) := by decide +kernel
theorem dX2_arrange_146 : decode cX2_arrange 146 = .ok (.goto (-110), 3) := by decide +kernel
theorem dX2_arrange_149 : decode cX2_arrange 149 = .ok (.return_, 1) := by decide +kernel
set_option maxRecDepth 20000 in
set_option maxHeartbeats 4000000 in
theorem k_Lp_arrange (l : Launch) (w : WT) (σ : MM) : CT SX l w yX2_arrange cX2_arrange 4 none 3 64 [.ref (w.2.2 1)] σ (PV fun σ1 => Mod [7, 8, 54] σ σ1 ∧ (AR (σ 5) (σ 6) (σ 53 0) (σ1 7) (σ1 8) (σ1 54 0)) ∧ (Stuck (σ 5) (σ 6) (σ 53 0) (σ1 8))) := by
  refine CT.of 3 [some (.ref (w.2.2 1)), none, none, none] (by decide +kernel) (by simp [lg_sl, Value.category]) rfl sh_X (fun G hX => ?_)
  refine r_bd hX (fun hBd => ?_)
  have b_53 := hBd 53 0 8 rfl 0
  refine r_iconst hX dX2_arrange_0 ?_
  refine r_istore_n hX (fun x1 => [some (.ref (w.2.2 1)), some (.int (iI x1)), none, none]) dX2_arrange_1 (Nat.le_of_ble_eq_true rfl) rfl rfl (fun _ => rfl) (fun x1 e1 => ?_)
  have lp2 : ∀ (n : Nat) (act : Int) (σ2 : MM) (m2 : Mod [8] σ σ2) (ha : 0 ≤ act ∧ act ≤ σ 53 0) (hz : ∀ a, 0 ≤ a → a < act → σ2 8 a = 0) (hmu : 9 - act < (n : Int)), G 2 [some (.ref (w.2.2 1)), some (.int (iI act)), none, none] [] σ2 := by
    intro n
    induction n with
    | zero => intro act σ2 m2 ha hz hmu; omega
    | succ n ih =>
      intro act σ2 m2 ha hz hmu
      have ih2 := ih
      clear ih
      refine r_iload_n hX dX2_arrange_2 rfl ?_
      refine r_aload_n hX dX2_arrange_3 rfl ?_
      refine fg_X1_37 hX dX2_arrange_4 (fun b4l b4u => ?_)
      have q4 : σ2 53 = σ 53 := (m2.at 53 rfl)
      rw [q4]
      rw [q4] at b4l b4u
      refine r_icmp_ge hX (tgt := 29) dX2_arrange_7 (by decide) (by omega) (by omega) (fun c7 => ?_) (fun c7 => ?_)
      · skip
        refine r_aload_n hX dX2_arrange_29 rfl ?_
        refine r_iconst hX dX2_arrange_30 ?_
        refine fp_X1_44 hX dX2_arrange_31 (by omega) (fun σ31 m31 s31 => ?_)
        refine r_iconst hX dX2_arrange_34 ?_
        refine r_istore_n hX (fun x35 => [some (.ref (w.2.2 1)), some (.int (iI x35)), none, none]) dX2_arrange_35 (Nat.le_of_ble_eq_true rfl) rfl rfl (fun _ => rfl) (fun x35 e35 => ?_)
        have lp36 : ∀ (n : Nat) (pass : Int) (σ36 : MM) (m36 : Mod [7, 8, 54] σ31 σ36) (hp : 0 ≤ pass ∧ pass ≤ σ 53 0) (hA : AR (σ 5) (σ 6) (σ 53 0) (σ36 7) (σ36 8) (σ36 54 0)) (hS : pass ≤ σ36 54 0 ∨ Stuck (σ 5) (σ 6) (σ 53 0) (σ36 8)) (hmu : 9 - pass < (n : Int)), G 36 [some (.ref (w.2.2 1)), some (.int (iI pass)), none, none] [] σ36 := by
          intro n
          induction n with
          | zero => intro pass σ36 m36 hp hA hS hmu; omega
          | succ n ih =>
            intro pass σ36 m36 hp hA hS hmu
            have ih36 := ih
            clear ih
            refine r_iload_n hX dX2_arrange_36 rfl ?_
            refine r_aload_n hX dX2_arrange_37 rfl ?_
            refine fg_X1_37 hX dX2_arrange_38 (fun b38l b38u => ?_)
            have q38 : σ36 53 = σ 53 := ((m36.at 53 rfl).trans ((m31.at 53 rfl).trans (m2.at 53 rfl)))
            rw [q38]
            rw [q38] at b38l b38u
            refine r_icmp_ge hX (tgt := 149) dX2_arrange_41 (by decide) (by omega) (by omega) (fun c41 => ?_) (fun c41 => ?_)
            · skip
              exact r_ret hX dX2_arrange_149 rfl ⟨rfl, ⟨(Mod.tr (L := [7, 8, 54]) (Mod.tr (L := [7, 8, 54]) m2 m31 rfl rfl) m36 rfl rfl), (by exact hA), (by exact hA.stuck (hS.imp (fun q => by omega) id))⟩⟩
            · skip
              refine r_iconst hX dX2_arrange_44 ?_
              refine r_istore_n hX (fun x45 => [some (.ref (w.2.2 1)), some (.int (iI pass)), some (.int (iI x45)), none]) dX2_arrange_45 (Nat.le_of_ble_eq_true rfl) rfl rfl (fun _ => rfl) (fun x45 e45 => ?_)
              have lp46 : ∀ (n : Nat) (act : Int) (σ46 : MM) (m46 : Mod [7, 8, 54] σ36 σ46) (ha : 0 ≤ act ∧ act ≤ σ 53 0) (hPS : PS (σ 5) (σ 6) (σ 53 0) (σ36 8) (σ36 54 0) act (σ46 7) (σ46 8) (σ46 54 0)) (hmu : 9 - act < (n : Int)), G 46 [some (.ref (w.2.2 1)), some (.int (iI pass)), some (.int (iI act)), none] [] σ46 := by
                intro n
                induction n with
                | zero => intro act σ46 m46 ha hPS hmu; omega
                | succ n ih =>
                  intro act σ46 m46 ha hPS hmu
                  have ih46 := ih
                  clear ih
                  refine r_iload_n hX dX2_arrange_46 rfl ?_
                  refine r_aload_n hX dX2_arrange_47 rfl ?_
                  refine fg_X1_37 hX dX2_arrange_48 (fun b48l b48u => ?_)
                  have q48 : σ46 53 = σ 53 := ((m46.at 53 rfl).trans ((m36.at 53 rfl).trans ((m31.at 53 rfl).trans (m2.at 53 rfl))))
                  rw [q48]
                  rw [q48] at b48l b48u
                  refine r_icmp_ge hX (tgt := 143) dX2_arrange_51 (by decide) (by omega) (by omega) (fun c51 => ?_) (fun c51 => ?_)
                  · skip
                    refine r_iinc hX (fun x143 => [some (.ref (w.2.2 1)), some (.int (iI x143)), some (.int (iI act)), none]) dX2_arrange_143 rfl rfl rfl (fun _ => rfl) (fun x143 e143 => ?_)
                    refine r_goto hX dX2_arrange_146 (tgt := 36) (by decide) ?_
                    refine r_wk hX (lv1 := [some (.ref (w.2.2 1)), some (.int (iI x143)), none, none]) ⟨rfl, ⟨rfl, trivial⟩⟩ ?_
                    exact ih36 x143 σ46 (Mod.tr (L := [7, 8, 54]) m36 m46 rfl rfl) (by omega) ((hPS.fin (p := pass) (by omega) hS).1) (by rw [e143]; exact (hPS.fin (p := pass) (by omega) hS).2) (by omega)
                  · skip
                    refine r_iload_n hX dX2_arrange_54 rfl ?_
                    refine r_bipush hX dX2_arrange_55 (by decide) ?_
                    refine r_icmp_ge hX (tgt := 143) dX2_arrange_57 (by decide) (by omega) (by omega) (fun c57 => ?_) (fun c57 => ?_)
                    · exfalso; omega
                    · skip
                      refine r_aload_n hX dX2_arrange_60 rfl ?_
                      refine fg_X1_30 hX dX2_arrange_61 ?_
                      refine r_iload_n hX dX2_arrange_64 rfl ?_
                      refine ld_X8 hX dX2_arrange_65 (by omega) (by omega) (fun b65l b65u => ?_)
                      refine r_if_ne hX (tgt := 95) dX2_arrange_66 (by decide) (by omega) (fun c66 => ?_) (fun c66 => ?_)
                      · skip
                        refine r_iconst hX dX2_arrange_95 ?_
                        refine r_istore_n hX (fun x96 => [some (.ref (w.2.2 1)), some (.int (iI pass)), some (.int (iI act)), some (.int (iI x96))]) dX2_arrange_96 (Nat.le_of_ble_eq_true rfl) rfl rfl (fun _ => rfl) (fun x96 e96 => ?_)
                        refine r_iload_n hX dX2_arrange_97 rfl ?_
                        refine r_if_eq hX (tgt := 137) dX2_arrange_98 (by decide) (by omega) (fun c98 => ?_) (fun c98 => by exfalso; omega)
                        refine r_iinc hX (fun x137 => [some (.ref (w.2.2 1)), some (.int (iI pass)), some (.int (iI x137)), some (.int (iI x96))]) dX2_arrange_137 rfl rfl rfl (fun _ => rfl) (fun x137 e137 => ?_)
                        refine r_goto hX dX2_arrange_140 (tgt := 46) (by decide) ?_
                        refine r_wk hX (lv1 := [some (.ref (w.2.2 1)), some (.int (iI pass)), some (.int (iI x137)), none]) ⟨rfl, ⟨rfl, ⟨rfl, trivial⟩⟩⟩ ?_
                        exact ih46 x137 σ46 (m46.w rfl) (by omega) (by rw [e137]; first | exact hPS.skip (Or.inl (by omega)) | exact hPS.skip (Or.inr fun q => cf_no h73_0 (by omega) q.1) | exact hPS.skip (Or.inr fun q => cf_no h85_0 (by omega) q.2) | (rw [m134.at 7 rfl, m134.at 8 rfl, m126.at 8 rfl, s134]; exact hPS.take (by omega) (by omega) (by omega) ⟨cf_yes h73_0 (by omega), cf_yes h85_0 (by omega)⟩ s116 s126)) (by omega)
                      · skip
                        refine r_aload_n hX dX2_arrange_69 rfl ?_
                        refine r_iconst hX dX2_arrange_70 ?_
                        refine r_iload_n hX dX2_arrange_71 rfl ?_
                        refine r_imul hX dX2_arrange_72 ?_
                        have qp73_53 : σ46 53 = σ 53 := ((m46.at 53 rfl).trans ((m36.at 53 rfl).trans ((m31.at 53 rfl).trans (m2.at 53 rfl))))
                        refine r_callV hX dX2_arrange_73 (k_Lp_canFollow l w σ46 _ (by omega) (by simp only [qp73_53]; omega)) mf_X2_canFollow mv_X2_canFollow lk_RX2_61 rfl rfl rfl rfl rfl ⟨Nat.le_of_ble_eq_true rfl, Nat.le_of_ble_eq_true rfl⟩ (Nat.le_of_ble_eq_true rfl) (kI fun z73 σ73 hh => ?_)
                        obtain ⟨rfl, h73_0⟩ := hh
                        have q73_1 : σ46 5 = σ 5 := ((m46.at 5 rfl).trans ((m36.at 5 rfl).trans ((m31.at 5 rfl).trans (m2.at 5 rfl))))
                        have q73_2 : σ46 6 = σ 6 := ((m46.at 6 rfl).trans ((m36.at 6 rfl).trans ((m31.at 6 rfl).trans (m2.at 6 rfl))))
                        have q73_3 : σ46 53 = σ 53 := ((m46.at 53 rfl).trans ((m36.at 53 rfl).trans ((m31.at 53 rfl).trans (m2.at 53 rfl))))
                        try simp only [q73_1, q73_2, q73_3] at h73_0
                        refine r_if_eq hX (tgt := 95) dX2_arrange_76 (by decide) (by omega) (fun c76 => ?_) (fun c76 => ?_)
                        · skip
                          refine r_iconst hX dX2_arrange_95 ?_
                          refine r_istore_n hX (fun x96 => [some (.ref (w.2.2 1)), some (.int (iI pass)), some (.int (iI act)), some (.int (iI x96))]) dX2_arrange_96 (Nat.le_of_ble_eq_true rfl) rfl rfl (fun _ => rfl) (fun x96 e96 => ?_)
                          refine r_iload_n hX dX2_arrange_97 rfl ?_
                          refine r_if_eq hX (tgt := 137) dX2_arrange_98 (by decide) (by omega) (fun c98 => ?_) (fun c98 => by exfalso; omega)
                          refine r_iinc hX (fun x137 => [some (.ref (w.2.2 1)), some (.int (iI pass)), some (.int (iI x137)), some (.int (iI x96))]) dX2_arrange_137 rfl rfl rfl (fun _ => rfl) (fun x137 e137 => ?_)
                          refine r_goto hX dX2_arrange_140 (tgt := 46) (by decide) ?_
                          refine r_wk hX (lv1 := [some (.ref (w.2.2 1)), some (.int (iI pass)), some (.int (iI x137)), none]) ⟨rfl, ⟨rfl, ⟨rfl, trivial⟩⟩⟩ ?_
                          exact ih46 x137 σ46 (m46.w rfl) (by omega) (by rw [e137]; first | exact hPS.skip (Or.inl (by omega)) | exact hPS.skip (Or.inr fun q => cf_no h73_0 (by omega) q.1) | exact hPS.skip (Or.inr fun q => cf_no h85_0 (by omega) q.2) | (rw [m134.at 7 rfl, m134.at 8 rfl, m126.at 8 rfl, s134]; exact hPS.take (by omega) (by omega) (by omega) ⟨cf_yes h73_0 (by omega), cf_yes h85_0 (by omega)⟩ s116 s126)) (by omega)
                        · skip
                          refine r_aload_n hX dX2_arrange_79 rfl ?_
                          refine r_iconst hX dX2_arrange_80 ?_
                          refine r_iload_n hX dX2_arrange_81 rfl ?_
                          refine r_imul hX dX2_arrange_82 ?_
                          refine r_iconst hX dX2_arrange_83 ?_
                          refine r_iadd hX dX2_arrange_84 ?_
                          have qp85_53 : σ46 53 = σ 53 := ((m46.at 53 rfl).trans ((m36.at 53 rfl).trans ((m31.at 53 rfl).trans (m2.at 53 rfl))))
                          refine r_callV hX dX2_arrange_85 (k_Lp_canFollow l w σ46 _ (by omega) (by simp only [qp85_53]; omega)) mf_X2_canFollow mv_X2_canFollow lk_RX2_61 rfl rfl rfl rfl rfl ⟨Nat.le_of_ble_eq_true rfl, Nat.le_of_ble_eq_true rfl⟩ (Nat.le_of_ble_eq_true rfl) (kI fun z85 σ85 hh => ?_)
                          obtain ⟨rfl, h85_0⟩ := hh
                          have q85_4 : σ46 5 = σ 5 := ((m46.at 5 rfl).trans ((m36.at 5 rfl).trans ((m31.at 5 rfl).trans (m2.at 5 rfl))))
                          have q85_5 : σ46 6 = σ 6 := ((m46.at 6 rfl).trans ((m36.at 6 rfl).trans ((m31.at 6 rfl).trans (m2.at 6 rfl))))
                          have q85_6 : σ46 53 = σ 53 := ((m46.at 53 rfl).trans ((m36.at 53 rfl).trans ((m31.at 53 rfl).trans (m2.at 53 rfl))))
                          try simp only [q85_4, q85_5, q85_6] at h85_0
                          refine r_if_eq hX (tgt := 95) dX2_arrange_88 (by decide) (by omega) (fun c88 => ?_) (fun c88 => ?_)
                          · skip
                            refine r_iconst hX dX2_arrange_95 ?_
                            refine r_istore_n hX (fun x96 => [some (.ref (w.2.2 1)), some (.int (iI pass)), some (.int (iI act)), some (.int (iI x96))]) dX2_arrange_96 (Nat.le_of_ble_eq_true rfl) rfl rfl (fun _ => rfl) (fun x96 e96 => ?_)
                            refine r_iload_n hX dX2_arrange_97 rfl ?_
                            refine r_if_eq hX (tgt := 137) dX2_arrange_98 (by decide) (by omega) (fun c98 => ?_) (fun c98 => by exfalso; omega)
                            refine r_iinc hX (fun x137 => [some (.ref (w.2.2 1)), some (.int (iI pass)), some (.int (iI x137)), some (.int (iI x96))]) dX2_arrange_137 rfl rfl rfl (fun _ => rfl) (fun x137 e137 => ?_)
                            refine r_goto hX dX2_arrange_140 (tgt := 46) (by decide) ?_
                            refine r_wk hX (lv1 := [some (.ref (w.2.2 1)), some (.int (iI pass)), some (.int (iI x137)), none]) ⟨rfl, ⟨rfl, ⟨rfl, trivial⟩⟩⟩ ?_
                            exact ih46 x137 σ46 (m46.w rfl) (by omega) (by rw [e137]; first | exact hPS.skip (Or.inl (by omega)) | exact hPS.skip (Or.inr fun q => cf_no h73_0 (by omega) q.1) | exact hPS.skip (Or.inr fun q => cf_no h85_0 (by omega) q.2) | (rw [m134.at 7 rfl, m134.at 8 rfl, m126.at 8 rfl, s134]; exact hPS.take (by omega) (by omega) (by omega) ⟨cf_yes h73_0 (by omega), cf_yes h85_0 (by omega)⟩ s116 s126)) (by omega)
                          · skip
                            refine r_iconst hX dX2_arrange_91 ?_
                            refine r_goto hX dX2_arrange_92 (tgt := 96) (by decide) ?_
                            refine r_istore_n hX (fun x96 => [some (.ref (w.2.2 1)), some (.int (iI pass)), some (.int (iI act)), some (.int (iI x96))]) dX2_arrange_96 (Nat.le_of_ble_eq_true rfl) rfl rfl (fun _ => rfl) (fun x96 e96 => ?_)
                            refine r_iload_n hX dX2_arrange_97 rfl ?_
                            refine r_if_eq hX (tgt := 137) dX2_arrange_98 (by decide) (by omega) (fun c98 => by exfalso; omega) (fun c98 => ?_)
                            have hlt := hPS.1.lt ha.1 (by omega) (by omega)
                            refine r_aload_n hX dX2_arrange_101 rfl ?_
                            refine fg_X1_44 hX dX2_arrange_102 (fun b102l b102u => ?_)
                            refine r_bipush hX dX2_arrange_105 (by decide) ?_
                            refine r_icmp_ge hX (tgt := 137) dX2_arrange_107 (by decide) (by omega) (by omega) (fun c107 => ?_) (fun c107 => ?_)
                            · exfalso; omega
                            · skip
                              refine r_aload_n hX dX2_arrange_110 rfl ?_
                              refine fg_X1_30 hX dX2_arrange_111 ?_
                              refine r_iload_n hX dX2_arrange_114 rfl ?_
                              refine r_iconst hX dX2_arrange_115 ?_
                              refine st_X8 hX dX2_arrange_116 (by omega) (by omega) (by omega) (fun σ116 m116 s116 => ?_)
                              refine r_aload_n hX dX2_arrange_117 rfl ?_
                              refine fg_X1_27 hX dX2_arrange_118 ?_
                              refine r_aload_n hX dX2_arrange_121 rfl ?_
                              refine fg_X1_44 hX dX2_arrange_122 (fun b122l b122u => ?_)
                              have q122 : σ116 54 = σ46 54 := (m116.at 54 rfl)
                              rw [q122]
                              rw [q122] at b122l b122u
                              refine r_iload_n hX dX2_arrange_125 rfl ?_
                              refine st_X7 hX dX2_arrange_126 (by omega) (by omega) (by omega) (fun σ126 m126 s126 => ?_)
                              simp only [show σ116 7 = σ46 7 from (m116.at 7 rfl)] at s126
                              refine r_aload_n hX dX2_arrange_127 rfl ?_
                              refine r_dup hX dX2_arrange_128 rfl ?_
                              refine fg_X1_44 hX dX2_arrange_129 (fun b129l b129u => ?_)
                              have q129 : σ126 54 = σ46 54 := ((m126.at 54 rfl).trans (m116.at 54 rfl))
                              rw [q129]
                              rw [q129] at b129l b129u
                              refine r_iconst hX dX2_arrange_132 ?_
                              refine r_iadd hX dX2_arrange_133 ?_
                              refine fp_X1_44 hX dX2_arrange_134 (by omega) (fun σ134 m134 s134 => ?_)
                              refine r_iinc hX (fun x137 => [some (.ref (w.2.2 1)), some (.int (iI pass)), some (.int (iI x137)), some (.int (iI x96))]) dX2_arrange_137 rfl rfl rfl (fun _ => rfl) (fun x137 e137 => ?_)
                              refine r_goto hX dX2_arrange_140 (tgt := 46) (by decide) ?_
                              refine r_wk hX (lv1 := [some (.ref (w.2.2 1)), some (.int (iI pass)), some (.int (iI x137)), none]) ⟨rfl, ⟨rfl, ⟨rfl, trivial⟩⟩⟩ ?_
                              exact ih46 x137 σ134 (Mod.tr (L := [7, 8, 54]) (Mod.tr (L := [7, 8, 54]) (Mod.tr (L := [7, 8, 54]) m46 m116 rfl rfl) m126 rfl rfl) m134 rfl rfl) (by omega) (by rw [e137]; first | exact hPS.skip (Or.inl (by omega)) | exact hPS.skip (Or.inr fun q => cf_no h73_0 (by omega) q.1) | exact hPS.skip (Or.inr fun q => cf_no h85_0 (by omega) q.2) | (rw [m134.at 7 rfl, m134.at 8 rfl, m126.at 8 rfl, s134]; exact hPS.take (by omega) (by omega) (by omega) ⟨cf_yes h73_0 (by omega), cf_yes h85_0 (by omega)⟩ s116 s126)) (by omega)
              exact lp46 ((9 - (x45)) + 1).toNat x45 σ36 Mod.rf (by omega) (by rw [e45]; exact PS.init hA) (by omega)
        exact lp36 ((9 - (x35)) + 1).toNat x35 σ31 Mod.rf (by omega) (by rw [s31]; exact AR.init (by omega) (fun a a0 a1 => by rw [m31.at 8 rfl]; exact hz a a0 (by omega))) (Or.inl (by omega)) (by omega)
      · skip
        refine r_iload_n hX dX2_arrange_10 rfl ?_
        refine r_bipush hX dX2_arrange_11 (by decide) ?_
        refine r_icmp_ge hX (tgt := 29) dX2_arrange_13 (by decide) (by omega) (by omega) (fun c13 => ?_) (fun c13 => ?_)
        · exfalso; omega
        · skip
          refine r_aload_n hX dX2_arrange_16 rfl ?_
          refine fg_X1_30 hX dX2_arrange_17 ?_
          refine r_iload_n hX dX2_arrange_20 rfl ?_
          refine r_iconst hX dX2_arrange_21 ?_
          refine st_X8 hX dX2_arrange_22 (by omega) (by omega) (by omega) (fun σ22 m22 s22 => ?_)
          refine r_iinc hX (fun x23 => [some (.ref (w.2.2 1)), some (.int (iI x23)), none, none]) dX2_arrange_23 rfl rfl rfl (fun _ => rfl) (fun x23 e23 => ?_)
          refine r_goto hX dX2_arrange_26 (tgt := 2) (by decide) ?_
          exact ih2 x23 σ22 (Mod.tr (L := [8]) m2 m22 rfl rfl) (by omega) (fun b b0 b1 => by rw [s22]; split; rfl; exact hz b b0 (by omega)) (by omega)
  exact lp2 ((9 - (x1)) + 1).toNat x1 σ Mod.rf (by omega) (fun b b0 b1 => by omega) (by omega)
theorem dX2_addInput_0 : decode cX2_addInput 0 = .ok (.aload_n 0, 1) := by decide +kernel
theorem dX2_addInput_1 : decode cX2_addInput 1 = .ok (.getfield 37, 3) := by decide +kernel
theorem dX2_addInput_4 : decode cX2_addInput 4 = .ok (.bipush 8, 2) := by decide +kernel
theorem dX2_addInput_6 : decode cX2_addInput 6 = .ok (.if_icmp .lt 6, 3) := by decide +kernel
theorem dX2_addInput_9 : decode cX2_addInput 9 = .ok (.bipush (-4), 2) := by decide +kernel
theorem dX2_addInput_11 : decode cX2_addInput 11 = .ok (.ireturn, 1) := by decide +kernel
theorem dX2_addInput_12 : decode cX2_addInput 12 = .ok (.aload_n 0, 1) := by decide +kernel
theorem dX2_addInput_13 : decode cX2_addInput 13 = .ok (.getfield 37, 3) := by decide +kernel
theorem dX2_addInput_16 : decode cX2_addInput 16 = .ok (.istore_n 3, 1) := by decide +kernel
theorem dX2_addInput_17 : decode cX2_addInput 17 = .ok (.aload_n 0, 1) := by decide +kernel
theorem dX2_addInput_18 : decode cX2_addInput 18 = .ok (.getfield 9, 3) := by decide +kernel
theorem dX2_addInput_21 : decode cX2_addInput 21 = .ok (.iload_n 3, 1) := by decide +kernel
theorem dX2_addInput_22 : decode cX2_addInput 22 = .ok (.iconst 0, 1) := by decide +kernel
theorem dX2_addInput_23 : decode cX2_addInput 23 = .ok (.iastore, 1) := by decide +kernel
theorem dX2_addInput_24 : decode cX2_addInput 24 = .ok (.aload_n 0, 1) := by decide +kernel
theorem dX2_addInput_25 : decode cX2_addInput 25 = .ok (.getfield 15, 3) := by decide +kernel
theorem dX2_addInput_28 : decode cX2_addInput 28 = .ok (.iload_n 3, 1) := by decide +kernel
theorem dX2_addInput_29 : decode cX2_addInput 29 = .ok (.iload_n 1, 1) := by decide +kernel
theorem dX2_addInput_30 : decode cX2_addInput 30 = .ok (.iastore, 1) := by decide +kernel
theorem dX2_addInput_31 : decode cX2_addInput 31 = .ok (.aload_n 0, 1) := by decide +kernel
theorem dX2_addInput_32 : decode cX2_addInput 32 = .ok (.getfield 18, 3) := by decide +kernel
theorem dX2_addInput_35 : decode cX2_addInput 35 = .ok (.iload_n 3, 1) := by decide +kernel
theorem dX2_addInput_36 : decode cX2_addInput 36 = .ok (.iload_n 2, 1) := by decide +kernel
theorem dX2_addInput_37 : decode cX2_addInput 37 = .ok (.iastore, 1) := by decide +kernel
theorem dX2_addInput_38 : decode cX2_addInput 38 = .ok (.aload_n 0, 1) := by decide +kernel
theorem dX2_addInput_39 : decode cX2_addInput 39 = .ok (.iconst 2, 1) := by decide +kernel
theorem dX2_addInput_40 : decode cX2_addInput 40 = .ok (.iload_n 3, 1) := by decide +kernel
theorem dX2_addInput_41 : decode cX2_addInput 41 = .ok (.imul, 1) := by decide +kernel
theorem dX2_addInput_42 : decode cX2_addInput 42 = .ok (.bipush (-6), 2) := by decide +kernel
theorem dX2_addInput_44 : decode cX2_addInput 44 = .ok (.iconst 0, 1) := by decide +kernel
theorem dX2_addInput_45 : decode cX2_addInput 45 = .ok (.invokevirtual 54, 3) := by decide +kernel
theorem dX2_addInput_48 : decode cX2_addInput 48 = .ok (.aload_n 0, 1) := by decide +kernel
theorem dX2_addInput_49 : decode cX2_addInput 49 = .ok (.iconst 2, 1) := by decide +kernel
theorem dX2_addInput_50 : decode cX2_addInput 50 = .ok (.iload_n 3, 1) := by decide +kernel
theorem dX2_addInput_51 : decode cX2_addInput 51 = .ok (.imul, 1) := by decide +kernel
theorem dX2_addInput_52 : decode cX2_addInput 52 = .ok (.iconst 1, 1) := by decide +kernel
theorem dX2_addInput_53 : decode cX2_addInput 53 = .ok (.iadd, 1) := by decide +kernel
theorem dX2_addInput_54 : decode cX2_addInput 54 = .ok (.bipush (-6), 2) := by decide +kernel
theorem dX2_addInput_56 : decode cX2_addInput 56 = .ok (.iconst 0, 1) := by decide +kernel
theorem dX2_addInput_57 : decode cX2_addInput 57 = .ok (.invokevirtual 54, 3) := by decide +kernel
theorem dX2_addInput_60 : decode cX2_addInput 60 = .ok (.aload_n 0, 1) := by decide +kernel
theorem dX2_addInput_61 : decode cX2_addInput 61 = .ok (.dup, 1) := by decide +kernel
theorem dX2_addInput_62 : decode cX2_addInput 62 = .ok (.getfield 37, 3) := by decide +kernel
theorem dX2_addInput_65 : decode cX2_addInput 65 = .ok (.iconst 1, 1) := by decide +kernel
theorem dX2_addInput_66 : decode cX2_addInput 66 = .ok (.iadd, 1) := by decide +kernel
theorem dX2_addInput_67 : decode cX2_addInput 67 = .ok (.putfield 37, 3) := by decide +kernel
theorem dX2_addInput_70 : decode cX2_addInput 70 = .ok (.aload_n 0, 1) := by decide +kernel
theorem dX2_addInput_71 : decode cX2_addInput 71 = .ok (.invokevirtual 58, 3) := by decide +kernel
theorem dX2_addInput_74 : decode cX2_addInput 74 = .ok (.iload_n 3, 1) := by decide +kernel
theorem dX2_addInput_75 : decode cX2_addInput 75 = .ok (.ireturn, 1) := by decide +kernel
set_option maxRecDepth 20000 in
set_option maxHeartbeats 4000000 in
theorem k_Lp_addInput (l : Launch) (w : WT) (σ : MM) (p : Int) (q : Int) (i_p : inr p) (i_q : inr q) : CT SX l w yX2_addInput cX2_addInput 4 (some .int) 4 87 [.ref (w.2.2 1), .int (iI p), .int (iI q)] σ (PI fun z σ1 => Mod [2, 3, 4, 5, 6, 7, 8, 53, 54] σ σ1 ∧ ((σ 53 0 = 8 ∧ z = -4 ∧ σ1 = σ) ∨ (σ 53 0 < 8 ∧ z = σ 53 0 ∧ Added σ σ1 0 p q (-6) 0 (-6) 0 ∧ LoopOK σ1))) := by
  refine CT.of 1 [some (.ref (w.2.2 1)), some (.int (iI p)), some (.int (iI q)), none] (by decide +kernel) (by simp [lg_sl, Value.category]) rfl sh_X (fun G hX => ?_)
  refine r_aload_n hX dX2_addInput_0 rfl ?_
  refine fg_X1_37 hX dX2_addInput_1 (fun b1l b1u => ?_)
  refine r_bipush hX dX2_addInput_4 (by decide) ?_
  refine r_icmp_lt hX (tgt := 12) dX2_addInput_6 (by decide) (by omega) (by omega) (fun c6 => ?_) (fun c6 => ?_)
  · skip
    refine r_aload_n hX dX2_addInput_12 rfl ?_
    refine fg_X1_37 hX dX2_addInput_13 (fun b13l b13u => ?_)
    refine r_istore_n hX (fun x16 => [some (.ref (w.2.2 1)), some (.int (iI p)), some (.int (iI q)), some (.int (iI x16))]) dX2_addInput_16 (Nat.le_of_ble_eq_true rfl) rfl rfl (fun _ => rfl) (fun x16 e16 => ?_)
    refine r_aload_n hX dX2_addInput_17 rfl ?_
    refine fg_X1_9 hX dX2_addInput_18 ?_
    refine r_iload_n hX dX2_addInput_21 rfl ?_
    refine r_iconst hX dX2_addInput_22 ?_
    refine st_X2 hX dX2_addInput_23 (by omega) (by omega) (by omega) (fun σ23 m23 s23 => ?_)
    refine r_aload_n hX dX2_addInput_24 rfl ?_
    refine fg_X1_15 hX dX2_addInput_25 ?_
    refine r_iload_n hX dX2_addInput_28 rfl ?_
    refine r_iload_n hX dX2_addInput_29 rfl ?_
    refine st_X3 hX dX2_addInput_30 (by omega) (by omega) (fun σ30 m30 s30 => ?_)
    simp only [show σ23 3 = σ 3 from (m23.at 3 rfl)] at s30
    refine r_aload_n hX dX2_addInput_31 rfl ?_
    refine fg_X1_18 hX dX2_addInput_32 ?_
    refine r_iload_n hX dX2_addInput_35 rfl ?_
    refine r_iload_n hX dX2_addInput_36 rfl ?_
    refine st_X4 hX dX2_addInput_37 (by omega) (by omega) (fun σ37 m37 s37 => ?_)
    simp only [show σ30 4 = σ 4 from ((m30.at 4 rfl).trans (m23.at 4 rfl))] at s37
    refine r_aload_n hX dX2_addInput_38 rfl ?_
    refine r_iconst hX dX2_addInput_39 ?_
    refine r_iload_n hX dX2_addInput_40 rfl ?_
    refine r_imul hX dX2_addInput_41 ?_
    refine r_bipush hX dX2_addInput_42 (by decide) ?_
    refine r_iconst hX dX2_addInput_44 ?_
    refine r_callV hX dX2_addInput_45 (k_Lp_setOperand l w σ37 _ _ _ (by omega) (by omega) (by omega) (by omega) (by omega) (by omega)) mf_X2_setOperand mv_X2_setOperand lk_RX2_54 rfl rfl rfl rfl rfl ⟨Nat.le_of_ble_eq_true rfl, Nat.le_of_ble_eq_true rfl⟩ (Nat.le_of_ble_eq_true rfl) (kV fun σ45 hh => ?_)
    obtain ⟨m45, h45_0, h45_1⟩ := hh
    have q45_1 : σ37 5 = σ 5 := ((m37.at 5 rfl).trans ((m30.at 5 rfl).trans (m23.at 5 rfl)))
    try simp only [q45_1] at h45_0
    have q45_2 : σ37 6 = σ 6 := ((m37.at 6 rfl).trans ((m30.at 6 rfl).trans (m23.at 6 rfl)))
    try simp only [q45_2] at h45_1
    refine r_aload_n hX dX2_addInput_48 rfl ?_
    refine r_iconst hX dX2_addInput_49 ?_
    refine r_iload_n hX dX2_addInput_50 rfl ?_
    refine r_imul hX dX2_addInput_51 ?_
    refine r_iconst hX dX2_addInput_52 ?_
    refine r_iadd hX dX2_addInput_53 ?_
    refine r_bipush hX dX2_addInput_54 (by decide) ?_
    refine r_iconst hX dX2_addInput_56 ?_
    refine r_callV hX dX2_addInput_57 (k_Lp_setOperand l w σ45 _ _ _ (by omega) (by omega) (by omega) (by omega) (by omega) (by omega)) mf_X2_setOperand mv_X2_setOperand lk_RX2_54 rfl rfl rfl rfl rfl ⟨Nat.le_of_ble_eq_true rfl, Nat.le_of_ble_eq_true rfl⟩ (Nat.le_of_ble_eq_true rfl) (kV fun σ57 hh => ?_)
    obtain ⟨m57, h57_0, h57_1⟩ := hh
    refine r_aload_n hX dX2_addInput_60 rfl ?_
    refine r_dup hX dX2_addInput_61 rfl ?_
    refine fg_X1_37 hX dX2_addInput_62 (fun b62l b62u => ?_)
    have q62 : σ57 53 = σ 53 := ((m57.at 53 rfl).trans ((m45.at 53 rfl).trans ((m37.at 53 rfl).trans ((m30.at 53 rfl).trans (m23.at 53 rfl)))))
    rw [q62]
    rw [q62] at b62l b62u
    refine r_iconst hX dX2_addInput_65 ?_
    refine r_iadd hX dX2_addInput_66 ?_
    refine fp_X1_37 hX dX2_addInput_67 (by omega) (fun σ67 m67 s67 => ?_)
    refine r_aload_n hX dX2_addInput_70 rfl ?_
    refine r_callV hX dX2_addInput_71 (k_Lp_arrange l w σ67) mf_X2_arrange mv_X2_arrange lk_RX2_58 rfl rfl rfl rfl rfl ⟨Nat.le_of_ble_eq_true rfl, Nat.le_of_ble_eq_true rfl⟩ (Nat.le_of_ble_eq_true rfl) (kV fun σ71 hh => ?_)
    obtain ⟨m71, h71_0, h71_1⟩ := hh
    have q71_3 : σ67 5 = σ57 5 := (m67.at 5 rfl)
    have q71_4 : σ67 6 = σ57 6 := (m67.at 6 rfl)
    try simp only [q71_3, q71_4] at h71_0
    have q71_5 : σ67 5 = σ57 5 := (m67.at 5 rfl)
    have q71_6 : σ67 6 = σ57 6 := (m67.at 6 rfl)
    try simp only [q71_5, q71_6] at h71_1
    refine r_iload_n hX dX2_addInput_74 rfl ?_
    exact r_iret hX dX2_addInput_75 rfl ⟨_, rfl, ⟨(Mod.tr (L := [2, 3, 4, 5, 6, 7, 8, 53, 54]) (Mod.tr (L := [2, 3, 4, 5, 6, 7, 8, 53, 54]) (Mod.tr (L := [2, 3, 4, 5, 6, 7, 8, 53, 54]) (Mod.tr (L := [2, 3, 4, 5, 6, 7, 8, 53, 54]) (Mod.tr (L := [2, 3, 4, 5, 6, 7, 8, 53, 54]) (Mod.tr (L := [2, 3, 4, 5, 6, 7, 8, 53, 54]) m23 m30 rfl rfl) m37 rfl rfl) m45 rfl rfl) m57 rfl rfl) m67 rfl rfl) m71 rfl rfl), (by exact Or.inr ⟨by omega, by omega, added_of (c := σ 53 0) (x := x16) (by omega) m23 m30 m37 m45 m57 m67 m71 s23 s30 s37 h45_0 h45_1 h57_0 h57_1 s67, loopOK_of m67 m71 h71_0 h71_1⟩)⟩⟩
  · skip
    refine r_bipush hX dX2_addInput_9 (by decide) ?_
    exact r_iret hX dX2_addInput_11 rfl ⟨_, rfl, ⟨Mod.rf, (by exact Or.inl ⟨by omega, rfl, rfl⟩)⟩⟩
theorem dX2_addWork_0 : decode cX2_addWork 0 = .ok (.aload_n 0, 1) := by decide +kernel
theorem dX2_addWork_1 : decode cX2_addWork 1 = .ok (.getfield 37, 3) := by decide +kernel
theorem dX2_addWork_4 : decode cX2_addWork 4 = .ok (.bipush 8, 2) := by decide +kernel
theorem dX2_addWork_6 : decode cX2_addWork 6 = .ok (.if_icmp .lt 6, 3) := by decide +kernel
theorem dX2_addWork_9 : decode cX2_addWork 9 = .ok (.bipush (-4), 2) := by decide +kernel
theorem dX2_addWork_11 : decode cX2_addWork 11 = .ok (.ireturn, 1) := by decide +kernel
theorem dX2_addWork_12 : decode cX2_addWork 12 = .ok (.aload_n 0, 1) := by decide +kernel
theorem dX2_addWork_13 : decode cX2_addWork 13 = .ok (.getfield 37, 3) := by decide +kernel
theorem dX2_addWork_16 : decode cX2_addWork 16 = .ok (.istore 6, 2) := by decide +kernel
theorem dX2_addWork_18 : decode cX2_addWork 18 = .ok (.aload_n 0, 1) := by decide +kernel
theorem dX2_addWork_19 : decode cX2_addWork 19 = .ok (.getfield 9, 3) := by decide +kernel
theorem dX2_addWork_22 : decode cX2_addWork 22 = .ok (.iload 6, 2) := by decide +kernel
theorem dX2_addWork_24 : decode cX2_addWork 24 = .ok (.iload_n 1, 1) := by decide +kernel
theorem dX2_addWork_25 : decode cX2_addWork 25 = .ok (.iastore, 1) := by decide +kernel
theorem dX2_addWork_26 : decode cX2_addWork 26 = .ok (.aload_n 0, 1) := by decide +kernel
theorem dX2_addWork_27 : decode cX2_addWork 27 = .ok (.getfield 15, 3) := by decide +kernel
theorem dX2_addWork_30 : decode cX2_addWork 30 = .ok (.iload 6, 2) := by decide +kernel
theorem dX2_addWork_32 : decode cX2_addWork 32 = .ok (.iconst 0, 1) := by decide +kernel
theorem dX2_addWork_33 : decode cX2_addWork 33 = .ok (.iastore, 1) := by decide +kernel
theorem dX2_addWork_34 : decode cX2_addWork 34 = .ok (.aload_n 0, 1) := by decide +kernel
theorem dX2_addWork_35 : decode cX2_addWork 35 = .ok (.getfield 18, 3) := by decide +kernel
theorem dX2_addWork_38 : decode cX2_addWork 38 = .ok (.iload 6, 2) := by decide +kernel
theorem dX2_addWork_40 : decode cX2_addWork 40 = .ok (.iconst 0, 1) := by decide +kernel
theorem dX2_addWork_41 : decode cX2_addWork 41 = .ok (.iastore, 1) := by decide +kernel
theorem dX2_addWork_42 : decode cX2_addWork 42 = .ok (.aload_n 0, 1) := by decide +kernel
theorem dX2_addWork_43 : decode cX2_addWork 43 = .ok (.iconst 2, 1) := by decide +kernel
theorem dX2_addWork_44 : decode cX2_addWork 44 = .ok (.iload 6, 2) := by decide +kernel
theorem dX2_addWork_46 : decode cX2_addWork 46 = .ok (.imul, 1) := by decide +kernel
theorem dX2_addWork_47 : decode cX2_addWork 47 = .ok (.iload_n 2, 1) := by decide +kernel
theorem dX2_addWork_48 : decode cX2_addWork 48 = .ok (.iload_n 3, 1) := by decide +kernel
theorem dX2_addWork_49 : decode cX2_addWork 49 = .ok (.invokevirtual 54, 3) := by decide +kernel
theorem dX2_addWork_52 : decode cX2_addWork 52 = .ok (.aload_n 0, 1) := by decide +kernel
theorem dX2_addWork_53 : decode cX2_addWork 53 = .ok (.iconst 2, 1) := by decide +kernel
theorem dX2_addWork_54 : decode cX2_addWork 54 = .ok (.iload 6, 2) := by decide +kernel
theorem dX2_addWork_56 : decode cX2_addWork 56 = .ok (.imul, 1) := by decide +kernel
theorem dX2_addWork_57 : decode cX2_addWork 57 = .ok (.iconst 1, 1) := by decide +kernel
theorem dX2_addWork_58 : decode cX2_addWork 58 = .ok (.iadd, 1) := by decide +kernel
theorem dX2_addWork_59 : decode cX2_addWork 59 = .ok (.iload 4, 2) := by decide +kernel
theorem dX2_addWork_61 : decode cX2_addWork 61 = .ok (.iload 5, 2) := by decide +kernel
theorem dX2_addWork_63 : decode cX2_addWork 63 = .ok (.invokevirtual 54, 3) := by decide +kernel
theorem dX2_addWork_66 : decode cX2_addWork 66 = .ok (.aload_n 0, 1) := by decide +kernel
theorem dX2_addWork_67 : decode cX2_addWork 67 = .ok (.dup, 1) := by decide +kernel
theorem dX2_addWork_68 : decode cX2_addWork 68 = .ok (.getfield 37, 3) := by decide +kernel
theorem dX2_addWork_71 : decode cX2_addWork 71 = .ok (.iconst 1, 1) := by decide +kernel
theorem dX2_addWork_72 : decode cX2_addWork 72 = .ok (.iadd, 1) := by decide +kernel
theorem dX2_addWork_73 : decode cX2_addWork 73 = .ok (.putfield 37, 3) := by decide +kernel
theorem dX2_addWork_76 : decode cX2_addWork 76 = .ok (.aload_n 0, 1) := by decide +kernel
theorem dX2_addWork_77 : decode cX2_addWork 77 = .ok (.invokevirtual 58, 3) := by decide +kernel
theorem dX2_addWork_80 : decode cX2_addWork 80 = .ok (.iload 6, 2) := by decide +kernel
theorem dX2_addWork_82 : decode cX2_addWork 82 = .ok (.ireturn, 1) := by decide +kernel
set_option maxRecDepth 20000 in
set_option maxHeartbeats 4000000 in
theorem k_Lp_addWork (l : Launch) (w : WT) (σ : MM) (kd : Int) (a : Int) (da : Int) (b : Int) (db : Int) (i_kd : inr kd) (i_a : inr a) (i_da : inr da) (i_b : inr b) (i_db : inr db) (hk : 0 ≤ kd ∧ kd ≤ 5) (ha : -6 ≤ a ∧ a ≤ 7) (hda : 0 ≤ da ∧ da ≤ 3) (hb : -6 ≤ b ∧ b ≤ 7) (hdb : 0 ≤ db ∧ db ≤ 3) : CT SX l w yX2_addWork cX2_addWork 7 (some .int) 4 87 [.ref (w.2.2 1), .int (iI kd), .int (iI a), .int (iI da), .int (iI b), .int (iI db)] σ (PI fun z σ1 => Mod [2, 3, 4, 5, 6, 7, 8, 53, 54] σ σ1 ∧ ((σ 53 0 = 8 ∧ z = -4 ∧ σ1 = σ) ∨ (σ 53 0 < 8 ∧ z = σ 53 0 ∧ Added σ σ1 kd 0 0 a da b db ∧ LoopOK σ1))) := by
  refine CT.of 1 [some (.ref (w.2.2 1)), some (.int (iI kd)), some (.int (iI a)), some (.int (iI da)), some (.int (iI b)), some (.int (iI db)), none] (by decide +kernel) (by simp [lg_sl, Value.category]) rfl sh_X (fun G hX => ?_)
  refine r_aload_n hX dX2_addWork_0 rfl ?_
  refine fg_X1_37 hX dX2_addWork_1 (fun b1l b1u => ?_)
  refine r_bipush hX dX2_addWork_4 (by decide) ?_
  refine r_icmp_lt hX (tgt := 12) dX2_addWork_6 (by decide) (by omega) (by omega) (fun c6 => ?_) (fun c6 => ?_)
  · skip
    refine r_aload_n hX dX2_addWork_12 rfl ?_
    refine fg_X1_37 hX dX2_addWork_13 (fun b13l b13u => ?_)
    refine r_istore hX (fun x16 => [some (.ref (w.2.2 1)), some (.int (iI kd)), some (.int (iI a)), some (.int (iI da)), some (.int (iI b)), some (.int (iI db)), some (.int (iI x16))]) dX2_addWork_16 (Nat.le_of_ble_eq_true rfl) rfl rfl (fun _ => rfl) (fun x16 e16 => ?_)
    refine r_aload_n hX dX2_addWork_18 rfl ?_
    refine fg_X1_9 hX dX2_addWork_19 ?_
    refine r_iload hX dX2_addWork_22 rfl ?_
    refine r_iload_n hX dX2_addWork_24 rfl ?_
    refine st_X2 hX dX2_addWork_25 (by omega) (by omega) (by omega) (fun σ25 m25 s25 => ?_)
    refine r_aload_n hX dX2_addWork_26 rfl ?_
    refine fg_X1_15 hX dX2_addWork_27 ?_
    refine r_iload hX dX2_addWork_30 rfl ?_
    refine r_iconst hX dX2_addWork_32 ?_
    refine st_X3 hX dX2_addWork_33 (by omega) (by omega) (fun σ33 m33 s33 => ?_)
    simp only [show σ25 3 = σ 3 from (m25.at 3 rfl)] at s33
    refine r_aload_n hX dX2_addWork_34 rfl ?_
    refine fg_X1_18 hX dX2_addWork_35 ?_
    refine r_iload hX dX2_addWork_38 rfl ?_
    refine r_iconst hX dX2_addWork_40 ?_
    refine st_X4 hX dX2_addWork_41 (by omega) (by omega) (fun σ41 m41 s41 => ?_)
    simp only [show σ33 4 = σ 4 from ((m33.at 4 rfl).trans (m25.at 4 rfl))] at s41
    refine r_aload_n hX dX2_addWork_42 rfl ?_
    refine r_iconst hX dX2_addWork_43 ?_
    refine r_iload hX dX2_addWork_44 rfl ?_
    refine r_imul hX dX2_addWork_46 ?_
    refine r_iload_n hX dX2_addWork_47 rfl ?_
    refine r_iload_n hX dX2_addWork_48 rfl ?_
    refine r_callV hX dX2_addWork_49 (k_Lp_setOperand l w σ41 _ _ _ (by omega) (by omega) (by omega) (by omega) (by omega) (by omega)) mf_X2_setOperand mv_X2_setOperand lk_RX2_54 rfl rfl rfl rfl rfl ⟨Nat.le_of_ble_eq_true rfl, Nat.le_of_ble_eq_true rfl⟩ (Nat.le_of_ble_eq_true rfl) (kV fun σ49 hh => ?_)
    obtain ⟨m49, h49_0, h49_1⟩ := hh
    have q49_1 : σ41 5 = σ 5 := ((m41.at 5 rfl).trans ((m33.at 5 rfl).trans (m25.at 5 rfl)))
    try simp only [q49_1] at h49_0
    have q49_2 : σ41 6 = σ 6 := ((m41.at 6 rfl).trans ((m33.at 6 rfl).trans (m25.at 6 rfl)))
    try simp only [q49_2] at h49_1
    refine r_aload_n hX dX2_addWork_52 rfl ?_
    refine r_iconst hX dX2_addWork_53 ?_
    refine r_iload hX dX2_addWork_54 rfl ?_
    refine r_imul hX dX2_addWork_56 ?_
    refine r_iconst hX dX2_addWork_57 ?_
    refine r_iadd hX dX2_addWork_58 ?_
    refine r_iload hX dX2_addWork_59 rfl ?_
    refine r_iload hX dX2_addWork_61 rfl ?_
    refine r_callV hX dX2_addWork_63 (k_Lp_setOperand l w σ49 _ _ _ (by omega) (by omega) (by omega) (by omega) (by omega) (by omega)) mf_X2_setOperand mv_X2_setOperand lk_RX2_54 rfl rfl rfl rfl rfl ⟨Nat.le_of_ble_eq_true rfl, Nat.le_of_ble_eq_true rfl⟩ (Nat.le_of_ble_eq_true rfl) (kV fun σ63 hh => ?_)
    obtain ⟨m63, h63_0, h63_1⟩ := hh
    refine r_aload_n hX dX2_addWork_66 rfl ?_
    refine r_dup hX dX2_addWork_67 rfl ?_
    refine fg_X1_37 hX dX2_addWork_68 (fun b68l b68u => ?_)
    have q68 : σ63 53 = σ 53 := ((m63.at 53 rfl).trans ((m49.at 53 rfl).trans ((m41.at 53 rfl).trans ((m33.at 53 rfl).trans (m25.at 53 rfl)))))
    rw [q68]
    rw [q68] at b68l b68u
    refine r_iconst hX dX2_addWork_71 ?_
    refine r_iadd hX dX2_addWork_72 ?_
    refine fp_X1_37 hX dX2_addWork_73 (by omega) (fun σ73 m73 s73 => ?_)
    refine r_aload_n hX dX2_addWork_76 rfl ?_
    refine r_callV hX dX2_addWork_77 (k_Lp_arrange l w σ73) mf_X2_arrange mv_X2_arrange lk_RX2_58 rfl rfl rfl rfl rfl ⟨Nat.le_of_ble_eq_true rfl, Nat.le_of_ble_eq_true rfl⟩ (Nat.le_of_ble_eq_true rfl) (kV fun σ77 hh => ?_)
    obtain ⟨m77, h77_0, h77_1⟩ := hh
    have q77_3 : σ73 5 = σ63 5 := (m73.at 5 rfl)
    have q77_4 : σ73 6 = σ63 6 := (m73.at 6 rfl)
    try simp only [q77_3, q77_4] at h77_0
    have q77_5 : σ73 5 = σ63 5 := (m73.at 5 rfl)
    have q77_6 : σ73 6 = σ63 6 := (m73.at 6 rfl)
    try simp only [q77_5, q77_6] at h77_1
    refine r_iload hX dX2_addWork_80 rfl ?_
    exact r_iret hX dX2_addWork_82 rfl ⟨_, rfl, ⟨(Mod.tr (L := [2, 3, 4, 5, 6, 7, 8, 53, 54]) (Mod.tr (L := [2, 3, 4, 5, 6, 7, 8, 53, 54]) (Mod.tr (L := [2, 3, 4, 5, 6, 7, 8, 53, 54]) (Mod.tr (L := [2, 3, 4, 5, 6, 7, 8, 53, 54]) (Mod.tr (L := [2, 3, 4, 5, 6, 7, 8, 53, 54]) (Mod.tr (L := [2, 3, 4, 5, 6, 7, 8, 53, 54]) m25 m33 rfl rfl) m41 rfl rfl) m49 rfl rfl) m63 rfl rfl) m73 rfl rfl) m77 rfl rfl), (by exact Or.inr ⟨by omega, by omega, added_of (c := σ 53 0) (x := x16) (by omega) m25 m33 m41 m49 m63 m73 m77 s25 s33 s41 h49_0 h49_1 h63_0 h63_1 s73, loopOK_of m73 m77 h77_0 h77_1⟩)⟩⟩
  · skip
    refine r_bipush hX dX2_addWork_9 (by decide) ?_
    exact r_iret hX dX2_addWork_11 rfl ⟨_, rfl, ⟨Mod.rf, (by exact Or.inl ⟨by omega, rfl, rfl⟩)⟩⟩
theorem dX2_empty_0 : decode cX2_empty 0 = .ok (.aload_n 0, 1) := by decide +kernel
theorem dX2_empty_1 : decode cX2_empty 1 = .ok (.iconst 0, 1) := by decide +kernel
theorem dX2_empty_2 : decode cX2_empty 2 = .ok (.putfield 37, 3) := by decide +kernel
theorem dX2_empty_5 : decode cX2_empty 5 = .ok (.aload_n 0, 1) := by decide +kernel
theorem dX2_empty_6 : decode cX2_empty 6 = .ok (.invokevirtual 58, 3) := by decide +kernel
theorem dX2_empty_9 : decode cX2_empty 9 = .ok (.return_, 1) := by decide +kernel
set_option maxRecDepth 20000 in
set_option maxHeartbeats 4000000 in
theorem k_Lp_empty (l : Launch) (w : WT) (σ : MM) : CT SX l w yX2_empty cX2_empty 1 none 4 87 [.ref (w.2.2 1)] σ (PV fun σ1 => Mod [7, 8, 53, 54] σ σ1 ∧ (σ1 53 0 = 0) ∧ (LoopOK σ1)) := by
  refine CT.of 0 [some (.ref (w.2.2 1))] (by decide +kernel) (by simp [lg_sl, Value.category]) rfl sh_X (fun G hX => ?_)
  refine r_aload_n hX dX2_empty_0 rfl ?_
  refine r_iconst hX dX2_empty_1 ?_
  refine fp_X1_37 hX dX2_empty_2 (by omega) (fun σ2 m2 s2 => ?_)
  refine r_aload_n hX dX2_empty_5 rfl ?_
  refine r_callV hX dX2_empty_6 (k_Lp_arrange l w σ2) mf_X2_arrange mv_X2_arrange lk_RX2_58 rfl rfl rfl rfl rfl ⟨Nat.le_of_ble_eq_true rfl, Nat.le_of_ble_eq_true rfl⟩ (Nat.le_of_ble_eq_true rfl) (kV fun σ6 hh => ?_)
  obtain ⟨m6, h6_0, h6_1⟩ := hh
  have q6_1 : σ2 5 = σ 5 := (m2.at 5 rfl)
  have q6_2 : σ2 6 = σ 6 := (m2.at 6 rfl)
  try simp only [q6_1, q6_2] at h6_0
  have q6_3 : σ2 5 = σ 5 := (m2.at 5 rfl)
  have q6_4 : σ2 6 = σ 6 := (m2.at 6 rfl)
  try simp only [q6_3, q6_4] at h6_1
  exact r_ret hX dX2_empty_9 rfl ⟨rfl, ⟨(Mod.tr (L := [7, 8, 53, 54]) m2 m6 rfl rfl), (by rw [m6.at 53 rfl]; exact s2), (by exact loopOK_of m2 m6 h6_0 h6_1)⟩⟩
theorem dJ7_fill_53178_0 : decode cJ7_fill_53178 0 = .ok (.iconst 0, 1) := by decide +kernel
theorem dJ7_fill_53178_1 : decode cJ7_fill_53178 1 = .ok (.istore_n 2, 1) := by decide +kernel
theorem dJ7_fill_53178_2 : decode cJ7_fill_53178 2 = .ok (.aload_n 0, 1) := by decide +kernel
theorem dJ7_fill_53178_3 : decode cJ7_fill_53178 3 = .ok (.arraylength, 1) := by decide +kernel
theorem dJ7_fill_53178_4 : decode cJ7_fill_53178 4 = .ok (.istore_n 3, 1) := by decide +kernel
theorem dJ7_fill_53178_5 : decode cJ7_fill_53178 5 = .ok (.iload_n 2, 1) := by decide +kernel
theorem dJ7_fill_53178_6 : decode cJ7_fill_53178 6 = .ok (.iload_n 3, 1) := by decide +kernel
theorem dJ7_fill_53178_7 : decode cJ7_fill_53178 7 = .ok (.if_icmp .ge 13, 3) := by decide +kernel
theorem dJ7_fill_53178_10 : decode cJ7_fill_53178 10 = .ok (.aload_n 0, 1) := by decide +kernel
theorem dJ7_fill_53178_11 : decode cJ7_fill_53178 11 = .ok (.iload_n 2, 1) := by decide +kernel
theorem dJ7_fill_53178_12 : decode cJ7_fill_53178 12 = .ok (.iload_n 1, 1) := by decide +kernel
theorem dJ7_fill_53178_13 : decode cJ7_fill_53178 13 = .ok (.iastore, 1) := by decide +kernel
theorem dJ7_fill_53178_14 : decode cJ7_fill_53178 14 = .ok (.iinc 2 1, 3) := by decide +kernel
theorem dJ7_fill_53178_17 : decode cJ7_fill_53178 17 = .ok (.goto (-12), 3) := by decide +kernel
theorem dJ7_fill_53178_20 : decode cJ7_fill_53178 20 = .ok (.return_, 1) := by decide +kernel
set_option maxRecDepth 20000 in
set_option maxHeartbeats 4000000 in
theorem k_fill9 (l : Launch) (w : WT) (σ : MM) (v : Int) (i_v : inr v) : CT SX l w yJ7_fill_53178 cJ7_fill_53178 4 none 0 0 [.ref (w.2.2 9), .int (iI v)] σ (PV fun σ1 => Mod [9] σ σ1 ∧ (∀ b : Int, 0 ≤ b → b < 8 → σ1 9 b = v)) := by
  refine CT.of 2 [some (.ref (w.2.2 9)), some (.int (iI v)), none, none] (by decide +kernel) (by simp [lg_sl, Value.category]) rfl sh_X (fun G hX => ?_)
  refine r_iconst hX dJ7_fill_53178_0 ?_
  refine r_istore_n hX (fun x1 => [some (.ref (w.2.2 9)), some (.int (iI v)), some (.int (iI x1)), none]) dJ7_fill_53178_1 (Nat.le_of_ble_eq_true rfl) rfl rfl (fun _ => rfl) (fun x1 e1 => ?_)
  refine r_aload_n hX dJ7_fill_53178_2 rfl ?_
  refine r_alen hX (i := 9) dJ7_fill_53178_3 rfl ?_
  refine r_istore_n hX (fun x4 => [some (.ref (w.2.2 9)), some (.int (iI v)), some (.int (iI x1)), some (.int (iI x4))]) dJ7_fill_53178_4 (Nat.le_of_ble_eq_true rfl) rfl rfl (fun _ => rfl) (fun x4 e4 => ?_)
  have lp5 : ∀ (n : Nat) (i : Int) (σ5 : MM) (m5 : Mod [9] σ σ5) (hi : 0 ≤ i ∧ i ≤ 8) (hz : ∀ b : Int, 0 ≤ b → b < i → σ5 9 b = v) (hmu : 8 - i < (n : Int)), G 5 [some (.ref (w.2.2 9)), some (.int (iI v)), some (.int (iI i)), some (.int (iI x4))] [] σ5 := by
    intro n
    induction n with
    | zero => intro i σ5 m5 hi hz hmu; omega
    | succ n ih =>
      intro i σ5 m5 hi hz hmu
      have ih5 := ih
      clear ih
      refine r_iload_n hX dJ7_fill_53178_5 rfl ?_
      refine r_iload_n hX dJ7_fill_53178_6 rfl ?_
      refine r_icmp_ge hX (tgt := 20) dJ7_fill_53178_7 (by decide) (by omega) (by omega) (fun c7 => ?_) (fun c7 => ?_)
      · skip
        exact r_ret hX dJ7_fill_53178_20 rfl ⟨rfl, ⟨(m5.w rfl), (fun b b0 b1 => hz b b0 (by omega))⟩⟩
      · skip
        refine r_aload_n hX dJ7_fill_53178_10 rfl ?_
        refine r_iload_n hX dJ7_fill_53178_11 rfl ?_
        refine r_iload_n hX dJ7_fill_53178_12 rfl ?_
        refine st_X9 hX dJ7_fill_53178_13 (by omega) (by omega) (fun σ13 m13 s13 => ?_)
        refine r_iinc hX (fun x14 => [some (.ref (w.2.2 9)), some (.int (iI v)), some (.int (iI x14)), some (.int (iI x4))]) dJ7_fill_53178_14 rfl rfl rfl (fun _ => rfl) (fun x14 e14 => ?_)
        refine r_goto hX dJ7_fill_53178_17 (tgt := 5) (by decide) ?_
        exact ih5 x14 σ13 (Mod.tr (L := [9]) m5 m13 rfl rfl) (by omega) (fun b b0 b1 => by rw [s13]; split; rfl; exact hz b b0 (by omega)) (by omega)
  exact lp5 ((8 - (x1)) + 1).toNat x1 σ Mod.rf (by omega) (fun b b0 b1 => by omega) (by omega)
set_option maxRecDepth 20000 in
set_option maxHeartbeats 4000000 in
theorem k_fill15 (l : Launch) (w : WT) (σ : MM) (v : Int) (i_v : inr v) (hv : 0 ≤ v ∧ v ≤ 8) : CT SX l w yJ7_fill_53178 cJ7_fill_53178 4 none 0 0 [.ref (w.2.2 15), .int (iI v)] σ (PV fun σ1 => Mod [15] σ σ1 ∧ (∀ b : Int, 0 ≤ b → b < 8 → σ1 15 b = v)) := by
  refine CT.of 2 [some (.ref (w.2.2 15)), some (.int (iI v)), none, none] (by decide +kernel) (by simp [lg_sl, Value.category]) rfl sh_X (fun G hX => ?_)
  refine r_iconst hX dJ7_fill_53178_0 ?_
  refine r_istore_n hX (fun x1 => [some (.ref (w.2.2 15)), some (.int (iI v)), some (.int (iI x1)), none]) dJ7_fill_53178_1 (Nat.le_of_ble_eq_true rfl) rfl rfl (fun _ => rfl) (fun x1 e1 => ?_)
  refine r_aload_n hX dJ7_fill_53178_2 rfl ?_
  refine r_alen hX (i := 15) dJ7_fill_53178_3 rfl ?_
  refine r_istore_n hX (fun x4 => [some (.ref (w.2.2 15)), some (.int (iI v)), some (.int (iI x1)), some (.int (iI x4))]) dJ7_fill_53178_4 (Nat.le_of_ble_eq_true rfl) rfl rfl (fun _ => rfl) (fun x4 e4 => ?_)
  have lp5 : ∀ (n : Nat) (i : Int) (σ5 : MM) (m5 : Mod [15] σ σ5) (hi : 0 ≤ i ∧ i ≤ 8) (hz : ∀ b : Int, 0 ≤ b → b < i → σ5 15 b = v) (hmu : 8 - i < (n : Int)), G 5 [some (.ref (w.2.2 15)), some (.int (iI v)), some (.int (iI i)), some (.int (iI x4))] [] σ5 := by
    intro n
    induction n with
    | zero => intro i σ5 m5 hi hz hmu; omega
    | succ n ih =>
      intro i σ5 m5 hi hz hmu
      have ih5 := ih
      clear ih
      refine r_iload_n hX dJ7_fill_53178_5 rfl ?_
      refine r_iload_n hX dJ7_fill_53178_6 rfl ?_
      refine r_icmp_ge hX (tgt := 20) dJ7_fill_53178_7 (by decide) (by omega) (by omega) (fun c7 => ?_) (fun c7 => ?_)
      · skip
        exact r_ret hX dJ7_fill_53178_20 rfl ⟨rfl, ⟨(m5.w rfl), (fun b b0 b1 => hz b b0 (by omega))⟩⟩
      · skip
        refine r_aload_n hX dJ7_fill_53178_10 rfl ?_
        refine r_iload_n hX dJ7_fill_53178_11 rfl ?_
        refine r_iload_n hX dJ7_fill_53178_12 rfl ?_
        refine st_X15 hX dJ7_fill_53178_13 (by omega) (by omega) (by omega) (fun σ13 m13 s13 => ?_)
        refine r_iinc hX (fun x14 => [some (.ref (w.2.2 15)), some (.int (iI v)), some (.int (iI x14)), some (.int (iI x4))]) dJ7_fill_53178_14 rfl rfl rfl (fun _ => rfl) (fun x14 e14 => ?_)
        refine r_goto hX dJ7_fill_53178_17 (tgt := 5) (by decide) ?_
        exact ih5 x14 σ13 (Mod.tr (L := [15]) m5 m13 rfl rfl) (by omega) (fun b b0 b1 => by rw [s13]; split; rfl; exact hz b b0 (by omega)) (by omega)
  exact lp5 ((8 - (x1)) + 1).toNat x1 σ Mod.rf (by omega) (fun b b0 b1 => by omega) (by omega)
set_option maxRecDepth 20000 in
set_option maxHeartbeats 4000000 in
theorem k_fill16 (l : Launch) (w : WT) (σ : MM) (v : Int) (i_v : inr v) (hv : 0 ≤ v ∧ v ≤ 20000000) : CT SX l w yJ7_fill_53178 cJ7_fill_53178 4 none 0 0 [.ref (w.2.2 16), .int (iI v)] σ (PV fun σ1 => Mod [16] σ σ1 ∧ (∀ b : Int, 0 ≤ b → b < 8 → σ1 16 b = v)) := by
  refine CT.of 2 [some (.ref (w.2.2 16)), some (.int (iI v)), none, none] (by decide +kernel) (by simp [lg_sl, Value.category]) rfl sh_X (fun G hX => ?_)
  refine r_iconst hX dJ7_fill_53178_0 ?_
  refine r_istore_n hX (fun x1 => [some (.ref (w.2.2 16)), some (.int (iI v)), some (.int (iI x1)), none]) dJ7_fill_53178_1 (Nat.le_of_ble_eq_true rfl) rfl rfl (fun _ => rfl) (fun x1 e1 => ?_)
  refine r_aload_n hX dJ7_fill_53178_2 rfl ?_
  refine r_alen hX (i := 16) dJ7_fill_53178_3 rfl ?_
  refine r_istore_n hX (fun x4 => [some (.ref (w.2.2 16)), some (.int (iI v)), some (.int (iI x1)), some (.int (iI x4))]) dJ7_fill_53178_4 (Nat.le_of_ble_eq_true rfl) rfl rfl (fun _ => rfl) (fun x4 e4 => ?_)
  have lp5 : ∀ (n : Nat) (i : Int) (σ5 : MM) (m5 : Mod [16] σ σ5) (hi : 0 ≤ i ∧ i ≤ 8) (hz : ∀ b : Int, 0 ≤ b → b < i → σ5 16 b = v) (hmu : 8 - i < (n : Int)), G 5 [some (.ref (w.2.2 16)), some (.int (iI v)), some (.int (iI i)), some (.int (iI x4))] [] σ5 := by
    intro n
    induction n with
    | zero => intro i σ5 m5 hi hz hmu; omega
    | succ n ih =>
      intro i σ5 m5 hi hz hmu
      have ih5 := ih
      clear ih
      refine r_iload_n hX dJ7_fill_53178_5 rfl ?_
      refine r_iload_n hX dJ7_fill_53178_6 rfl ?_
      refine r_icmp_ge hX (tgt := 20) dJ7_fill_53178_7 (by decide) (by omega) (by omega) (fun c7 => ?_) (fun c7 => ?_)
      · skip
        exact r_ret hX dJ7_fill_53178_20 rfl ⟨rfl, ⟨(m5.w rfl), (fun b b0 b1 => hz b b0 (by omega))⟩⟩
      · skip
        refine r_aload_n hX dJ7_fill_53178_10 rfl ?_
        refine r_iload_n hX dJ7_fill_53178_11 rfl ?_
        refine r_iload_n hX dJ7_fill_53178_12 rfl ?_
        refine st_X16 hX dJ7_fill_53178_13 (by omega) (by omega) (by omega) (fun σ13 m13 s13 => ?_)
        refine r_iinc hX (fun x14 => [some (.ref (w.2.2 16)), some (.int (iI v)), some (.int (iI x14)), some (.int (iI x4))]) dJ7_fill_53178_14 rfl rfl rfl (fun _ => rfl) (fun x14 e14 => ?_)
        refine r_goto hX dJ7_fill_53178_17 (tgt := 5) (by decide) ?_
        exact ih5 x14 σ13 (Mod.tr (L := [16]) m5 m13 rfl rfl) (by omega) (fun b b0 b1 => by rw [s13]; split; rfl; exact hz b b0 (by omega)) (by omega)
  exact lp5 ((8 - (x1)) + 1).toNat x1 σ Mod.rf (by omega) (fun b b0 b1 => by omega) (by omega)
theorem dX2_delaysGrow_0 : decode cX2_delaysGrow 0 = .ok (.iconst 0, 1) := by decide +kernel
theorem dX2_delaysGrow_1 : decode cX2_delaysGrow 1 = .ok (.istore_n 2, 1) := by decide +kernel
theorem dX2_delaysGrow_2 : decode cX2_delaysGrow 2 = .ok (.iconst 0, 1) := by decide +kernel
theorem dX2_delaysGrow_3 : decode cX2_delaysGrow 3 = .ok (.istore_n 3, 1) := by decide +kernel
theorem dX2_delaysGrow_4 : decode cX2_delaysGrow 4 = .ok (.iload_n 3, 1) := by decide +kernel
theorem dX2_delaysGrow_5 : decode cX2_delaysGrow 5 = .ok (.iconst 2, 1) := by decide +kernel
theorem dX2_delaysGrow_6 : decode cX2_delaysGrow 6 = .ok (.aload_n 0, 1) := by decide +kernel
theorem dX2_delaysGrow_7 : decode cX2_delaysGrow 7 = .ok (.getfield 37, 3) := by decide +kernel
theorem dX2_delaysGrow_10 : decode cX2_delaysGrow 10 = .ok (.imul, 1) := by decide +kernel
theorem dX2_delaysGrow_11 : decode cX2_delaysGrow 11 = .ok (.if_icmp .ge 83, 3) := by decide +kernel
theorem dX2_delaysGrow_14 : decode cX2_delaysGrow 14 = .ok (.iload_n 3, 1) := by decide +kernel
theorem dX2_delaysGrow_15 : decode cX2_delaysGrow 15 = .ok (.bipush 16, 2) := by decide +kernel
theorem dX2_delaysGrow_17 : decode cX2_delaysGrow 17 = .ok (.if_icmp .ge 77, 3) := by decide +kernel
theorem dX2_delaysGrow_20 : decode cX2_delaysGrow 20 = .ok (.iload_n 3, 1) := by decide +kernel
theorem dX2_delaysGrow_21 : decode cX2_delaysGrow 21 = .ok (.iconst 2, 1) := by decide +kernel
theorem dX2_delaysGrow_22 : decode cX2_delaysGrow 22 = .ok (.idiv, 1) := by decide +kernel
theorem dX2_delaysGrow_23 : decode cX2_delaysGrow 23 = .ok (.istore 4, 2) := by decide +kernel
theorem dX2_delaysGrow_25 : decode cX2_delaysGrow 25 = .ok (.aload_n 0, 1) := by decide +kernel
theorem dX2_delaysGrow_26 : decode cX2_delaysGrow 26 = .ok (.iload_n 3, 1) := by decide +kernel
theorem dX2_delaysGrow_27 : decode cX2_delaysGrow 27 = .ok (.invokevirtual 64, 3) := by decide +kernel
theorem dX2_delaysGrow_30 : decode cX2_delaysGrow 30 = .ok (.istore 5, 2) := by decide +kernel
theorem dX2_delaysGrow_32 : decode cX2_delaysGrow 32 = .ok (.aload_n 0, 1) := by decide +kernel
theorem dX2_delaysGrow_33 : decode cX2_delaysGrow 33 = .ok (.iload 5, 2) := by decide +kernel
theorem dX2_delaysGrow_35 : decode cX2_delaysGrow 35 = .ok (.invokevirtual 47, 3) := by decide +kernel
theorem dX2_delaysGrow_38 : decode cX2_delaysGrow 38 = .ok (.ifCond .eq 50, 3) := by decide +kernel
theorem dX2_delaysGrow_41 : decode cX2_delaysGrow 41 = .ok (.aload_n 0, 1) := by decide +kernel
theorem dX2_delaysGrow_42 : decode cX2_delaysGrow 42 = .ok (.getfield 34, 3) := by decide +kernel
theorem dX2_delaysGrow_45 : decode cX2_delaysGrow 45 = .ok (.iload 5, 2) := by decide +kernel
theorem dX2_delaysGrow_47 : decode cX2_delaysGrow 47 = .ok (.iaload, 1) := by decide +kernel
theorem dX2_delaysGrow_48 : decode cX2_delaysGrow 48 = .ok (.aload_n 0, 1) := by decide +kernel
theorem dX2_delaysGrow_49 : decode cX2_delaysGrow 49 = .ok (.iload 5, 2) := by decide +kernel
theorem dX2_delaysGrow_51 : decode cX2_delaysGrow 51 = .ok (.invokevirtual 83, 3) := by decide +kernel
theorem dX2_delaysGrow_54 : decode cX2_delaysGrow 54 = .ok (.iadd, 1) := by decide +kernel
theorem dX2_delaysGrow_55 : decode cX2_delaysGrow 55 = .ok (.iload_n 1, 1) := by decide +kernel
theorem dX2_delaysGrow_56 : decode cX2_delaysGrow 56 = .ok (.aload_n 0, 1) := by decide +kernel
theorem dX2_delaysGrow_57 : decode cX2_delaysGrow 57 = .ok (.iload_n 3, 1) := by decide +kernel
theorem dX2_delaysGrow_58 : decode cX2_delaysGrow 58 = .ok (.invokevirtual 68, 3) := by decide +kernel
theorem dX2_delaysGrow_61 : decode cX2_delaysGrow 61 = .ok (.imul, 1) := by decide +kernel
theorem dX2_delaysGrow_62 : decode cX2_delaysGrow 62 = .ok (.isub, 1) := by decide +kernel
theorem dX2_delaysGrow_63 : decode cX2_delaysGrow 63 = .ok (.istore 6, 2) := by decide +kernel
theorem dX2_delaysGrow_65 : decode cX2_delaysGrow 65 = .ok (.iload 6, 2) := by decide +kernel
theorem dX2_delaysGrow_67 : decode cX2_delaysGrow 67 = .ok (.aload_n 0, 1) := by decide +kernel
theorem dX2_delaysGrow_68 : decode cX2_delaysGrow 68 = .ok (.getfield 34, 3) := by decide +kernel
theorem dX2_delaysGrow_71 : decode cX2_delaysGrow 71 = .ok (.iload 4, 2) := by decide +kernel
theorem dX2_delaysGrow_73 : decode cX2_delaysGrow 73 = .ok (.iaload, 1) := by decide +kernel
theorem dX2_delaysGrow_74 : decode cX2_delaysGrow 74 = .ok (.if_icmp .le 14, 3) := by decide +kernel
theorem dX2_delaysGrow_77 : decode cX2_delaysGrow 77 = .ok (.aload_n 0, 1) := by decide +kernel
theorem dX2_delaysGrow_78 : decode cX2_delaysGrow 78 = .ok (.getfield 34, 3) := by decide +kernel
theorem dX2_delaysGrow_81 : decode cX2_delaysGrow 81 = .ok (.iload 4, 2) := by decide +kernel
theorem dX2_delaysGrow_83 : decode cX2_delaysGrow 83 = .ok (.iload 6, 2) := by decide +kernel
theorem dX2_delaysGrow_85 : decode cX2_delaysGrow 85 = .ok (.iastore, 1) := by decide +kernel
theorem dX2_delaysGrow_86 : decode cX2_delaysGrow 86 = .ok (.iconst 1, 1) := by decide +kernel
theorem dX2_delaysGrow_87 : decode cX2_delaysGrow 87 = .ok (.istore_n 2, 1) := by decide +kernel
theorem dX2_delaysGrow_88 : decode cX2_delaysGrow 88 = .ok (.iinc 3 1, 3) := by decide +kernel
theorem dX2_delaysGrow_91 : decode cX2_delaysGrow 91 = .ok (.goto (-87), 3) := by decide +kernel
theorem dX2_delaysGrow_94 : decode cX2_delaysGrow 94 = .ok (.iload_n 2, 1) := by decide +kernel
theorem dX2_delaysGrow_95 : decode cX2_delaysGrow 95 = .ok (.ireturn, 1) := by decide +kernel
set_option maxRecDepth 20000 in
set_option maxHeartbeats 4000000 in
theorem k_Lp_delaysGrow (l : Launch) (w : WT) (σ : MM) (beat : Int) (i_beat : inr beat) (B : Int) (hb : 1 ≤ beat ∧ beat ≤ 16) (hB0 : 0 ≤ B ∧ B ≤ 1000) (hB : ∀ a : Int, 0 ≤ a → a < 8 → 0 ≤ σ 9 a ∧ σ 9 a ≤ B) : CT SX l w yX2_delaysGrow cX2_delaysGrow 7 (some .boolean) 2 42 [.ref (w.2.2 1), .int (iI beat)] σ (PI fun z σ1 => Mod [9] σ σ1 ∧ (z = 0 ∨ z = 1) ∧ (PassI (σ 53 0) (2 * σ 53 0) (enX (σ 5) (σ 53 0)) (σ 5) (gR (σ 2) (σ 5) (σ 6) beat) (σ 9) (2 * σ 53 0) (σ1 9) z) ∧ (∀ a : Int, 0 ≤ a → a < 8 → 0 ≤ σ1 9 a ∧ σ1 9 a ≤ B + 32)) := by
  refine CT.of 5 [some (.ref (w.2.2 1)), some (.int (iI beat)), none, none, none, none, none] (by decide +kernel) (by simp [lg_sl, Value.category]) rfl sh_X (fun G hX => ?_)
  refine r_bd hX (fun hBd => ?_)
  have b_53 := hBd 53 0 8 rfl 0
  refine r_iconst hX dX2_delaysGrow_0 ?_
  refine r_istore_n hX (fun x1 => [some (.ref (w.2.2 1)), some (.int (iI beat)), some (.int (iI x1)), none, none, none, none]) dX2_delaysGrow_1 (Nat.le_of_ble_eq_true rfl) rfl rfl (fun _ => rfl) (fun x1 e1 => ?_)
  refine r_iconst hX dX2_delaysGrow_2 ?_
  refine r_istore_n hX (fun x3 => [some (.ref (w.2.2 1)), some (.int (iI beat)), some (.int (iI x1)), some (.int (iI x3)), none, none, none]) dX2_delaysGrow_3 (Nat.le_of_ble_eq_true rfl) rfl rfl (fun _ => rfl) (fun x3 e3 => ?_)
  have lp4 : ∀ (n : Nat) (grew : Int) (slot : Int) (σ4 : MM) (m4 : Mod [9] σ σ4) (hs : 0 ≤ slot ∧ slot ≤ 2 * σ 53 0) (hgr : grew = 0 ∨ grew = 1) (hP : PassI (σ 53 0) (2 * σ 53 0) (enX (σ 5) (σ 53 0)) (σ 5) (gR (σ 2) (σ 5) (σ 6) beat) (σ 9) slot (σ4 9) grew) (hB2 : ∀ a : Int, 0 ≤ a → a < 8 → 0 ≤ σ4 9 a ∧ σ4 9 a ≤ B + 2 * slot) (hmu : 17 - slot < (n : Int)), G 4 [some (.ref (w.2.2 1)), some (.int (iI beat)), some (.int (iI grew)), some (.int (iI slot)), none, none, none] [] σ4 := by
    intro n
    induction n with
    | zero => intro grew slot σ4 m4 hs hgr hP hB2 hmu; omega
    | succ n ih =>
      intro grew slot σ4 m4 hs hgr hP hB2 hmu
      have ih4 := ih
      clear ih
      refine r_iload_n hX dX2_delaysGrow_4 rfl ?_
      refine r_iconst hX dX2_delaysGrow_5 ?_
      refine r_aload_n hX dX2_delaysGrow_6 rfl ?_
      refine fg_X1_37 hX dX2_delaysGrow_7 (fun b7l b7u => ?_)
      have q7 : σ4 53 = σ 53 := (m4.at 53 rfl)
      rw [q7]
      rw [q7] at b7l b7u
      refine r_imul hX dX2_delaysGrow_10 ?_
      refine r_icmp_ge hX (tgt := 94) dX2_delaysGrow_11 (by decide) (by omega) (by omega) (fun c11 => ?_) (fun c11 => ?_)
      · skip
        refine r_iload_n hX dX2_delaysGrow_94 rfl ?_
        exact r_zret hX dX2_delaysGrow_95 rfl (by omega) ⟨_, rfl, ⟨(m4.w rfl), (by omega), (by have e : slot = 2 * σ 53 0 := (by omega); rw [e] at hP; exact hP), (fun a a0 a1 => by have := hB2 a a0 a1; omega)⟩⟩
      · skip
        refine r_iload_n hX dX2_delaysGrow_14 rfl ?_
        refine r_bipush hX dX2_delaysGrow_15 (by decide) ?_
        refine r_icmp_ge hX (tgt := 94) dX2_delaysGrow_17 (by decide) (by omega) (by omega) (fun c17 => ?_) (fun c17 => ?_)
        · exfalso; omega
        · skip
          refine r_iload_n hX dX2_delaysGrow_20 rfl ?_
          refine r_iconst hX dX2_delaysGrow_21 ?_
          refine r_idiv hX dX2_delaysGrow_22 (by omega) (by omega) (by omega) (by omega) ?_
          refine r_istore hX (fun x23 => [some (.ref (w.2.2 1)), some (.int (iI beat)), some (.int (iI grew)), some (.int (iI slot)), some (.int (iI x23)), none, none]) dX2_delaysGrow_23 (Nat.le_of_ble_eq_true rfl) rfl rfl (fun _ => rfl) (fun x23 e23 => ?_)
          have hm : 0 ≤ x23 ∧ x23 < σ 53 0 := by omega
          refine r_aload_n hX dX2_delaysGrow_25 rfl ?_
          refine r_iload_n hX dX2_delaysGrow_26 rfl ?_
          refine r_callV hX dX2_delaysGrow_27 (k_Lp_sourceOf l w σ4 _ (by omega)) mf_X2_sourceOf mv_X2_sourceOf lk_RX2_64 rfl rfl rfl rfl rfl ⟨Nat.le_of_ble_eq_true rfl, Nat.le_of_ble_eq_true rfl⟩ (Nat.le_of_ble_eq_true rfl) (kI fun z27 σ27 hh => ?_)
          obtain ⟨rfl, h27_0, h27_1⟩ := hh
          have q27_1 : σ4 5 = σ 5 := (m4.at 5 rfl)
          have q27_2 : σ4 53 = σ 53 := (m4.at 53 rfl)
          try simp only [q27_1, q27_2] at h27_0
          refine r_istore hX (fun x30 => [some (.ref (w.2.2 1)), some (.int (iI beat)), some (.int (iI grew)), some (.int (iI slot)), some (.int (iI x23)), some (.int (iI x30)), none]) dX2_delaysGrow_30 (Nat.le_of_ble_eq_true rfl) rfl rfl (fun _ => rfl) (fun x30 e30 => ?_)
          refine r_aload_n hX dX2_delaysGrow_32 rfl ?_
          refine r_iload hX dX2_delaysGrow_33 rfl ?_
          refine r_callV hX dX2_delaysGrow_35 (k_Lp_isThere l w σ4 _ (by omega)) mf_X2_isThere mv_X2_isThere lk_RX2_47 rfl rfl rfl rfl rfl ⟨Nat.le_of_ble_eq_true rfl, Nat.le_of_ble_eq_true rfl⟩ (Nat.le_of_ble_eq_true rfl) (kI fun z35 σ35 hh => ?_)
          obtain ⟨rfl, h35_0⟩ := hh
          have q35_3 : σ4 53 = σ 53 := (m4.at 53 rfl)
          try simp only [q35_3] at h35_0
          refine r_if_eq hX (tgt := 88) dX2_delaysGrow_38 (by decide) (by omega) (fun c38 => ?_) (fun c38 => ?_)
          · skip
            refine r_iinc hX (fun x88 => [some (.ref (w.2.2 1)), some (.int (iI beat)), some (.int (iI grew)), some (.int (iI x88)), some (.int (iI x23)), some (.int (iI x30)), none]) dX2_delaysGrow_88 rfl rfl rfl (fun _ => rfl) (fun x88 e88 => ?_)
            refine r_goto hX dX2_delaysGrow_91 (tgt := 4) (by decide) ?_
            refine r_wk hX (lv1 := [some (.ref (w.2.2 1)), some (.int (iI beat)), some (.int (iI grew)), some (.int (iI x88)), none, none, none]) ⟨rfl, ⟨rfl, ⟨rfl, ⟨rfl, trivial⟩⟩⟩⟩ ?_
            exact ih4 grew x88 σ4 (m4.w rfl) (by omega) (by omega) (by rw [e88]; first | exact hP.skip wf_X (by omega) (Or.inl fun q => by simp only [enX] at q; omega) | exact hP.skip wf_X (by omega) (Or.inr (by rw [← e23]; omega)) | (rw [e87]; exact hP.push wf_X (by omega) (by simp only [enX]; omega) (by rw [← e23]; omega) (fun b => by rw [s85, e23, hg]))) (fun a a0 a1 => by have h9 := hB2 a a0 a1; first | omega | (rw [s85]; split <;> omega)) (by omega)
          · skip
            have hu : x30 = σ 5 slot := by omega
            have hd1 := hB2 x30 (by omega) (by omega)
            refine r_aload_n hX dX2_delaysGrow_41 rfl ?_
            refine fg_X1_34 hX dX2_delaysGrow_42 ?_
            refine r_iload hX dX2_delaysGrow_45 rfl ?_
            refine ld_X9 hX dX2_delaysGrow_47 (by omega) (by omega) ?_
            refine r_aload_n hX dX2_delaysGrow_48 rfl ?_
            refine r_iload hX dX2_delaysGrow_49 rfl ?_
            refine r_callV hX dX2_delaysGrow_51 (k_Lp_lengthOf l w σ4 _ (by omega)) mf_X2_lengthOf mv_X2_lengthOf lk_RX2_83 rfl rfl rfl rfl rfl ⟨Nat.le_of_ble_eq_true rfl, Nat.le_of_ble_eq_true rfl⟩ (Nat.le_of_ble_eq_true rfl) (kI fun z51 σ51 hh => ?_)
            obtain ⟨rfl, h51_0⟩ := hh
            have q51_4 : σ4 2 = σ 2 := (m4.at 2 rfl)
            have q51_5 : σ4 53 = σ 53 := (m4.at 53 rfl)
            try simp only [q51_4, q51_5] at h51_0
            refine r_iadd hX dX2_delaysGrow_54 ?_
            refine r_iload_n hX dX2_delaysGrow_55 rfl ?_
            refine r_aload_n hX dX2_delaysGrow_56 rfl ?_
            refine r_iload_n hX dX2_delaysGrow_57 rfl ?_
            refine r_callV hX dX2_delaysGrow_58 (k_Lp_distanceOf l w σ4 _ (by omega)) mf_X2_distanceOf mv_X2_distanceOf lk_RX2_68 rfl rfl rfl rfl rfl ⟨Nat.le_of_ble_eq_true rfl, Nat.le_of_ble_eq_true rfl⟩ (Nat.le_of_ble_eq_true rfl) (kI fun z58 σ58 hh => ?_)
            obtain ⟨rfl, h58_0, h58_1⟩ := hh
            have q58_6 : σ4 6 = σ 6 := (m4.at 6 rfl)
            have q58_7 : σ4 53 = σ 53 := (m4.at 53 rfl)
            try simp only [q58_6, q58_7] at h58_0
            refine r_imul hX dX2_delaysGrow_61 ?_
            have hmul : 0 ≤ beat * z58 ∧ beat * z58 ≤ 48 := by
              rcases (by omega : z58 = 0 ∨ z58 = 1 ∨ z58 = 2 ∨ z58 = 3) with e | e | e | e <;> rw [e] <;> omega
            refine r_isub hX dX2_delaysGrow_62 ?_
            refine r_istore hX (fun x63 => [some (.ref (w.2.2 1)), some (.int (iI beat)), some (.int (iI grew)), some (.int (iI slot)), some (.int (iI x23)), some (.int (iI x30)), some (.int (iI x63))]) dX2_delaysGrow_63 (Nat.le_of_ble_eq_true rfl) rfl rfl (fun _ => rfl) (fun x63 e63 => ?_)
            have hd2 := hB2 x23 (by omega) (by omega)
            have hg : x63 = σ4 9 (σ 5 slot) + gR (σ 2) (σ 5) (σ 6) beat slot := by
              rw [← hu]
              have e1 := lenF_of h51_0 (by omega) (by omega)
              have e2 : z58 = σ 6 slot := by omega
              simp only [gR]
              rw [← hu, ← e1, ← e2]
              omega
            refine r_iload hX dX2_delaysGrow_65 rfl ?_
            refine r_aload_n hX dX2_delaysGrow_67 rfl ?_
            refine fg_X1_34 hX dX2_delaysGrow_68 ?_
            refine r_iload hX dX2_delaysGrow_71 rfl ?_
            refine ld_X9 hX dX2_delaysGrow_73 (by omega) (by omega) ?_
            refine r_icmp_le hX (tgt := 88) dX2_delaysGrow_74 (by decide) (by omega) (by omega) (fun c74 => ?_) (fun c74 => ?_)
            · skip
              refine r_iinc hX (fun x88 => [some (.ref (w.2.2 1)), some (.int (iI beat)), some (.int (iI grew)), some (.int (iI x88)), some (.int (iI x23)), some (.int (iI x30)), some (.int (iI x63))]) dX2_delaysGrow_88 rfl rfl rfl (fun _ => rfl) (fun x88 e88 => ?_)
              refine r_goto hX dX2_delaysGrow_91 (tgt := 4) (by decide) ?_
              refine r_wk hX (lv1 := [some (.ref (w.2.2 1)), some (.int (iI beat)), some (.int (iI grew)), some (.int (iI x88)), none, none, none]) ⟨rfl, ⟨rfl, ⟨rfl, ⟨rfl, trivial⟩⟩⟩⟩ ?_
              exact ih4 grew x88 σ4 (m4.w rfl) (by omega) (by omega) (by rw [e88]; first | exact hP.skip wf_X (by omega) (Or.inl fun q => by simp only [enX] at q; omega) | exact hP.skip wf_X (by omega) (Or.inr (by rw [← e23]; omega)) | (rw [e87]; exact hP.push wf_X (by omega) (by simp only [enX]; omega) (by rw [← e23]; omega) (fun b => by rw [s85, e23, hg]))) (fun a a0 a1 => by have h9 := hB2 a a0 a1; first | omega | (rw [s85]; split <;> omega)) (by omega)
            · skip
              refine r_aload_n hX dX2_delaysGrow_77 rfl ?_
              refine fg_X1_34 hX dX2_delaysGrow_78 ?_
              refine r_iload hX dX2_delaysGrow_81 rfl ?_
              refine r_iload hX dX2_delaysGrow_83 rfl ?_
              refine st_X9 hX dX2_delaysGrow_85 (by omega) (by omega) (fun σ85 m85 s85 => ?_)
              refine r_iconst hX dX2_delaysGrow_86 ?_
              refine r_istore_n hX (fun x87 => [some (.ref (w.2.2 1)), some (.int (iI beat)), some (.int (iI x87)), some (.int (iI slot)), some (.int (iI x23)), some (.int (iI x30)), some (.int (iI x63))]) dX2_delaysGrow_87 (Nat.le_of_ble_eq_true rfl) rfl rfl (fun _ => rfl) (fun x87 e87 => ?_)
              refine r_iinc hX (fun x88 => [some (.ref (w.2.2 1)), some (.int (iI beat)), some (.int (iI x87)), some (.int (iI x88)), some (.int (iI x23)), some (.int (iI x30)), some (.int (iI x63))]) dX2_delaysGrow_88 rfl rfl rfl (fun _ => rfl) (fun x88 e88 => ?_)
              refine r_goto hX dX2_delaysGrow_91 (tgt := 4) (by decide) ?_
              refine r_wk hX (lv1 := [some (.ref (w.2.2 1)), some (.int (iI beat)), some (.int (iI x87)), some (.int (iI x88)), none, none, none]) ⟨rfl, ⟨rfl, ⟨rfl, ⟨rfl, trivial⟩⟩⟩⟩ ?_
              exact ih4 x87 x88 σ85 (Mod.tr (L := [9]) m4 m85 rfl rfl) (by omega) (by omega) (by rw [e88]; first | exact hP.skip wf_X (by omega) (Or.inl fun q => by simp only [enX] at q; omega) | exact hP.skip wf_X (by omega) (Or.inr (by rw [← e23]; omega)) | (rw [e87]; exact hP.push wf_X (by omega) (by simp only [enX]; omega) (by rw [← e23]; omega) (fun b => by rw [s85, e23, hg]))) (fun a a0 a1 => by have h9 := hB2 a a0 a1; first | omega | (rw [s85]; split <;> omega)) (by omega)
  exact lp4 ((17 - (x3)) + 1).toNat x1 x3 σ Mod.rf (by omega) (by omega) (by rw [e1, e3]; exact PassI.init) (fun a a0 a1 => by have := hB a a0 a1; omega) (by omega)
theorem dX2_ringsAllow_0 : decode cX2_ringsAllow 0 = .ok (.aload_n 0, 1) := by decide +kernel
theorem dX2_ringsAllow_1 : decode cX2_ringsAllow 1 = .ok (.getfield 34, 3) := by decide +kernel
theorem dX2_ringsAllow_4 : decode cX2_ringsAllow 4 = .ok (.iconst 0, 1) := by decide +kernel
theorem dX2_ringsAllow_5 : decode cX2_ringsAllow 5 = .ok (.invokestatic 74, 3) := by decide +kernel
theorem dX2_ringsAllow_8 : decode cX2_ringsAllow 8 = .ok (.iconst 0, 1) := by decide +kernel
theorem dX2_ringsAllow_9 : decode cX2_ringsAllow 9 = .ok (.istore_n 2, 1) := by decide +kernel
theorem dX2_ringsAllow_10 : decode cX2_ringsAllow 10 = .ok (.iload_n 2, 1) := by decide +kernel
theorem dX2_ringsAllow_11 : decode cX2_ringsAllow 11 = .ok (.aload_n 0, 1) := by decide +kernel
theorem dX2_ringsAllow_12 : decode cX2_ringsAllow 12 = .ok (.getfield 37, 3) := by decide +kernel
theorem dX2_ringsAllow_15 : decode cX2_ringsAllow 15 = .ok (.if_icmp .gt 19, 3) := by decide +kernel
theorem dX2_ringsAllow_18 : decode cX2_ringsAllow 18 = .ok (.aload_n 0, 1) := by decide +kernel
theorem dX2_ringsAllow_19 : decode cX2_ringsAllow 19 = .ok (.iload_n 1, 1) := by decide +kernel
theorem dX2_ringsAllow_20 : decode cX2_ringsAllow 20 = .ok (.invokevirtual 80, 3) := by decide +kernel
theorem dX2_ringsAllow_23 : decode cX2_ringsAllow 23 = .ok (.ifCond .ne 5, 3) := by decide +kernel
theorem dX2_ringsAllow_26 : decode cX2_ringsAllow 26 = .ok (.iconst 1, 1) := by decide +kernel
theorem dX2_ringsAllow_27 : decode cX2_ringsAllow 27 = .ok (.ireturn, 1) := by decide +kernel
theorem dX2_ringsAllow_28 : decode cX2_ringsAllow 28 = .ok (.iinc 2 1, 3) := by decide +kernel
theorem dX2_ringsAllow_31 : decode cX2_ringsAllow 31 = .ok (.goto (-21), 3) := by decide +kernel
theorem dX2_ringsAllow_34 : decode cX2_ringsAllow 34 = .ok (.iconst 0, 1) := by decide +kernel
theorem dX2_ringsAllow_35 : decode cX2_ringsAllow 35 = .ok (.ireturn, 1) := by decide +kernel
set_option maxRecDepth 20000 in
set_option maxHeartbeats 4000000 in
theorem k_Lp_ringsAllow (l : Launch) (w : WT) (σ : MM) (beat : Int) (i_beat : inr beat) (hb : 1 ≤ beat ∧ beat ≤ 16) : CT SX l w yX2_ringsAllow cX2_ringsAllow 3 (some .boolean) 3 68 [.ref (w.2.2 1), .int (iI beat)] σ (PI fun z σ1 => Mod [9] σ σ1 ∧ ((z = 1 ∧ RH (σ 2) (σ 5) (σ 6) (σ 53 0) beat) ∨ (z = 0 ∧ ¬ RH (σ 2) (σ 5) (σ 6) (σ 53 0) beat))) := by
  refine CT.of 1 [some (.ref (w.2.2 1)), some (.int (iI beat)), none] (by decide +kernel) (by simp [lg_sl, Value.category]) rfl sh_X (fun G hX => ?_)
  refine r_bd hX (fun hBd => ?_)
  have b_53 := hBd 53 0 8 rfl 0
  refine r_aload_n hX dX2_ringsAllow_0 rfl ?_
  refine fg_X1_34 hX dX2_ringsAllow_1 ?_
  refine r_iconst hX dX2_ringsAllow_4 ?_
  refine r_callS hX dX2_ringsAllow_5 (k_fill9 l w σ _ (by omega)) mf_J7_fill_53178 ms_J7_fill_53178 lk_RX2_74 rfl rfl ⟨Nat.le_of_ble_eq_true rfl, Nat.le_of_ble_eq_true rfl⟩ (Nat.le_of_ble_eq_true rfl) (kV fun σ5 hh => ?_)
  obtain ⟨m5, h5_0⟩ := hh
  refine r_iconst hX dX2_ringsAllow_8 ?_
  refine r_istore_n hX (fun x9 => [some (.ref (w.2.2 1)), some (.int (iI beat)), some (.int (iI x9))]) dX2_ringsAllow_9 (Nat.le_of_ble_eq_true rfl) rfl rfl (fun _ => rfl) (fun x9 e9 => ?_)
  have lp10 : ∀ (n : Nat) (pass : Int) (σ10 : MM) (m10 : Mod [9] σ5 σ10) (hp : 0 ≤ pass ∧ pass ≤ σ 53 0 + 1) (hO : Outer (σ 53 0) (2 * σ 53 0) (enX (σ 5) (σ 53 0)) (σ 5) (gR (σ 2) (σ 5) (σ 6) beat) (fun _ => 0) pass (σ10 9)) (hB : ∀ a : Int, 0 ≤ a → a < 8 → 0 ≤ σ10 9 a ∧ σ10 9 a ≤ 32 * pass) (hmu : 10 - pass < (n : Int)), G 10 [some (.ref (w.2.2 1)), some (.int (iI beat)), some (.int (iI pass))] [] σ10 := by
    intro n
    induction n with
    | zero => intro pass σ10 m10 hp hO hB hmu; omega
    | succ n ih =>
      intro pass σ10 m10 hp hO hB hmu
      have ih10 := ih
      clear ih
      refine r_iload_n hX dX2_ringsAllow_10 rfl ?_
      refine r_aload_n hX dX2_ringsAllow_11 rfl ?_
      refine fg_X1_37 hX dX2_ringsAllow_12 (fun b12l b12u => ?_)
      have q12 : σ10 53 = σ 53 := ((m10.at 53 rfl).trans (m5.at 53 rfl))
      rw [q12]
      rw [q12] at b12l b12u
      refine r_icmp_gt hX (tgt := 34) dX2_ringsAllow_15 (by decide) (by omega) (by omega) (fun c15 => ?_) (fun c15 => ?_)
      · skip
        refine r_iconst hX dX2_ringsAllow_34 ?_
        exact r_zret hX dX2_ringsAllow_35 rfl (by omega) ⟨_, rfl, ⟨(Mod.tr (L := [9]) m5 m10 rfl rfl), (by exact Or.inr ⟨rfl, hO.none wf_X (by omega)⟩)⟩⟩
      · skip
        have hB3 : ∀ a : Int, 0 ≤ a → a < 8 → 0 ≤ σ10 9 a ∧ σ10 9 a ≤ 32 * pass := hB
        refine r_aload_n hX dX2_ringsAllow_18 rfl ?_
        refine r_iload_n hX dX2_ringsAllow_19 rfl ?_
        refine r_callV hX dX2_ringsAllow_20 (k_Lp_delaysGrow l w σ10 _ (by omega) (32 * pass) (by omega) (by omega) (by omega)) mf_X2_delaysGrow mv_X2_delaysGrow lk_RX2_80 rfl rfl rfl rfl rfl ⟨Nat.le_of_ble_eq_true rfl, Nat.le_of_ble_eq_true rfl⟩ (Nat.le_of_ble_eq_true rfl) (kI fun z20 σ20 hh => ?_)
        obtain ⟨m20, h20_0, h20_1, h20_2⟩ := hh
        have q20_1 : σ10 2 = σ 2 := ((m10.at 2 rfl).trans (m5.at 2 rfl))
        have q20_2 : σ10 5 = σ 5 := ((m10.at 5 rfl).trans (m5.at 5 rfl))
        have q20_3 : σ10 6 = σ 6 := ((m10.at 6 rfl).trans (m5.at 6 rfl))
        have q20_4 : σ10 53 = σ 53 := ((m10.at 53 rfl).trans (m5.at 53 rfl))
        try simp only [q20_1, q20_2, q20_3, q20_4] at h20_1
        refine r_if_ne hX (tgt := 28) dX2_ringsAllow_23 (by decide) (by omega) (fun c23 => ?_) (fun c23 => ?_)
        · skip
          refine r_iinc hX (fun x28 => [some (.ref (w.2.2 1)), some (.int (iI beat)), some (.int (iI x28))]) dX2_ringsAllow_28 rfl rfl rfl (fun _ => rfl) (fun x28 e28 => ?_)
          refine r_goto hX dX2_ringsAllow_31 (tgt := 10) (by decide) ?_
          exact ih10 x28 σ20 (Mod.tr (L := [9]) m10 m20 rfl rfl) (by omega) (by rw [e28]; exact hO.next wf_X h20_1 (Int.le_refl _) (by omega)) (fun a a0 a1 => by have := h20_2 a a0 a1; omega) (by omega)
        · skip
          refine r_iconst hX dX2_ringsAllow_26 ?_
          exact r_zret hX dX2_ringsAllow_27 rfl (by omega) ⟨_, rfl, ⟨(Mod.tr (L := [9]) (Mod.tr (L := [9]) m5 m10 rfl rfl) m20 rfl rfl), (by exact Or.inl ⟨rfl, _, (PassI.sol wf_X (cf_z h20_1 (by omega)) (Int.le_refl _)), fun a a0 a1 => (h20_2 a a0 (by omega)).1⟩)⟩⟩
  exact lp10 ((10 - (x9)) + 1).toNat x9 σ5 Mod.rf (by omega) (by rw [e9]; exact Outer.row (fun a a0 a1 => h5_0 a a0 (by omega))) (fun a a0 a1 => by have := h5_0 a a0 a1; omega) (by omega)
theorem dX2_ringsBound_0 : decode cX2_ringsBound 0 = .ok (.iconst 1, 1) := by decide +kernel
theorem dX2_ringsBound_1 : decode cX2_ringsBound 1 = .ok (.istore_n 1, 1) := by decide +kernel
theorem dX2_ringsBound_2 : decode cX2_ringsBound 2 = .ok (.iload_n 1, 1) := by decide +kernel
theorem dX2_ringsBound_3 : decode cX2_ringsBound 3 = .ok (.bipush 16, 2) := by decide +kernel
theorem dX2_ringsBound_5 : decode cX2_ringsBound 5 = .ok (.if_icmp .ge 17, 3) := by decide +kernel
theorem dX2_ringsBound_8 : decode cX2_ringsBound 8 = .ok (.aload_n 0, 1) := by decide +kernel
theorem dX2_ringsBound_9 : decode cX2_ringsBound 9 = .ok (.iload_n 1, 1) := by decide +kernel
theorem dX2_ringsBound_10 : decode cX2_ringsBound 10 = .ok (.invokevirtual 71, 3) := by decide +kernel
theorem dX2_ringsBound_13 : decode cX2_ringsBound 13 = .ok (.ifCond .ne 9, 3) := by decide +kernel
theorem dX2_ringsBound_16 : decode cX2_ringsBound 16 = .ok (.iinc 1 1, 3) := by decide +kernel
theorem dX2_ringsBound_19 : decode cX2_ringsBound 19 = .ok (.goto (-17), 3) := by decide +kernel
theorem dX2_ringsBound_22 : decode cX2_ringsBound 22 = .ok (.iload_n 1, 1) := by decide +kernel
theorem dX2_ringsBound_23 : decode cX2_ringsBound 23 = .ok (.ireturn, 1) := by decide +kernel
set_option maxRecDepth 20000 in
set_option maxHeartbeats 4000000 in
theorem k_Lp_ringsBound (l : Launch) (w : WT) (σ : MM) : CT SX l w yX2_ringsBound cX2_ringsBound 2 (some .int) 4 90 [.ref (w.2.2 1)] σ (PI fun z σ1 => Mod [9] σ σ1 ∧ (1 ≤ z ∧ z ≤ 16) ∧ (∀ n : Int, 1 ≤ n → n < z → ¬ RH (σ 2) (σ 5) (σ 6) (σ 53 0) n) ∧ (z < 16 → RH (σ 2) (σ 5) (σ 6) (σ 53 0) z)) := by
  refine CT.of 1 [some (.ref (w.2.2 1)), none] (by decide +kernel) (by simp [lg_sl, Value.category]) rfl sh_X (fun G hX => ?_)
  refine r_iconst hX dX2_ringsBound_0 ?_
  refine r_istore_n hX (fun x1 => [some (.ref (w.2.2 1)), some (.int (iI x1))]) dX2_ringsBound_1 (Nat.le_of_ble_eq_true rfl) rfl rfl (fun _ => rfl) (fun x1 e1 => ?_)
  have lp2 : ∀ (n : Nat) (beat : Int) (σ2 : MM) (m2 : Mod [9] σ σ2) (hb : 1 ≤ beat ∧ beat ≤ 16) (hN : ∀ n : Int, 1 ≤ n → n < beat → ¬ RH (σ 2) (σ 5) (σ 6) (σ 53 0) n) (hmu : 17 - beat < (n : Int)), G 2 [some (.ref (w.2.2 1)), some (.int (iI beat))] [] σ2 := by
    intro n
    induction n with
    | zero => intro beat σ2 m2 hb hN hmu; omega
    | succ n ih =>
      intro beat σ2 m2 hb hN hmu
      have ih2 := ih
      clear ih
      refine r_iload_n hX dX2_ringsBound_2 rfl ?_
      refine r_bipush hX dX2_ringsBound_3 (by decide) ?_
      refine r_icmp_ge hX (tgt := 22) dX2_ringsBound_5 (by decide) (by omega) (by omega) (fun c5 => ?_) (fun c5 => ?_)
      · skip
        refine r_iload_n hX dX2_ringsBound_22 rfl ?_
        exact r_iret hX dX2_ringsBound_23 rfl ⟨_, rfl, ⟨(m2.w rfl), (by omega), (by exact hN), (by first | (intro q; exfalso; omega) | exact fun _ => cf_yes h10_0 (by omega))⟩⟩
      · skip
        refine r_aload_n hX dX2_ringsBound_8 rfl ?_
        refine r_iload_n hX dX2_ringsBound_9 rfl ?_
        refine r_callV hX dX2_ringsBound_10 (k_Lp_ringsAllow l w σ2 _ (by omega) (by omega)) mf_X2_ringsAllow mv_X2_ringsAllow lk_RX2_71 rfl rfl rfl rfl rfl ⟨Nat.le_of_ble_eq_true rfl, Nat.le_of_ble_eq_true rfl⟩ (Nat.le_of_ble_eq_true rfl) (kI fun z10 σ10 hh => ?_)
        obtain ⟨m10, h10_0⟩ := hh
        have q10_1 : σ2 2 = σ 2 := (m2.at 2 rfl)
        have q10_2 : σ2 5 = σ 5 := (m2.at 5 rfl)
        have q10_3 : σ2 6 = σ 6 := (m2.at 6 rfl)
        have q10_4 : σ2 53 = σ 53 := (m2.at 53 rfl)
        try simp only [q10_1, q10_2, q10_3, q10_4] at h10_0
        refine r_if_ne hX (tgt := 22) dX2_ringsBound_13 (by decide) (by omega) (fun c13 => ?_) (fun c13 => ?_)
        · skip
          refine r_iload_n hX dX2_ringsBound_22 rfl ?_
          exact r_iret hX dX2_ringsBound_23 rfl ⟨_, rfl, ⟨(Mod.tr (L := [9]) m2 m10 rfl rfl), (by omega), (by exact hN), (by first | (intro q; exfalso; omega) | exact fun _ => cf_yes h10_0 (by omega))⟩⟩
        · skip
          refine r_iinc hX (fun x16 => [some (.ref (w.2.2 1)), some (.int (iI x16))]) dX2_ringsBound_16 rfl rfl rfl (fun _ => rfl) (fun x16 e16 => ?_)
          refine r_goto hX dX2_ringsBound_19 (tgt := 2) (by decide) ?_
          exact ih2 x16 σ10 (Mod.tr (L := [9]) m2 m10 rfl rfl) (by omega) (fun n n0 n1 => by
  by_cases q : n = beat
  · rw [q]; exact cf_no h10_0 (by omega)
  · exact hN n n0 (by omega)) (by omega)
  exact lp2 ((17 - (x1)) + 1).toNat x1 σ Mod.rf (by omega) (fun n n0 n1 => by omega) (by omega)
