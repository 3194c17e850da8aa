theorem dX2_count_0 : decode cX2_count 0 = .ok (.aload_n 0, 1) := by decide +kernel
theorem dX2_count_1 : decode cX2_count 1 = .ok (.getfield 37, 3) := by decide +kernel
theorem dX2_count_4 : decode cX2_count 4 = .ok (.ireturn, 1) := by decide +kernel
set_option maxRecDepth 20000 in
set_option maxHeartbeats 4000000 in
theorem k_Lp_count (l : Launch) (w : WT) (σ : MM) : CT SX l w yX2_count cX2_count 1 (some .int) 0 0 [.ref (w.2.2 1)] σ (PI fun z σ1 => σ = σ1 ∧ (z = σ 53 0) ∧ (0 ≤ z ∧ z ≤ 8)) := by
  refine CT.of 0 [some (.ref (w.2.2 1))] (by decide) (by simp [lg_sl, Value.category]) rfl sh_X (fun G hX => ?_)
  refine r_aload_n hX dX2_count_0 rfl ?_
  refine fg_X1_37 hX dX2_count_1 (fun b1l b1u => ?_)
  exact r_iret hX dX2_count_4 rfl ⟨_, rfl, ⟨rfl, (by omega), (by omega)⟩⟩
theorem dX2_firstNumber_0 : decode cX2_firstNumber 0 = .ok (.aload_n 0, 1) := by decide +kernel
theorem dX2_firstNumber_1 : decode cX2_firstNumber 1 = .ok (.getfield 41, 3) := by decide +kernel
theorem dX2_firstNumber_4 : decode cX2_firstNumber 4 = .ok (.ireturn, 1) := by decide +kernel
set_option maxRecDepth 20000 in
set_option maxHeartbeats 4000000 in
theorem k_Lp_first (l : Launch) (w : WT) (σ : MM) : CT SX l w yX2_firstNumber cX2_firstNumber 1 (some .int) 0 0 [.ref (w.2.2 1)] σ (PI fun z σ1 => σ = σ1 ∧ (z = σ 55 0)) := by
  refine CT.of 0 [some (.ref (w.2.2 1))] (by decide) (by simp [lg_sl, Value.category]) rfl sh_X (fun G hX => ?_)
  refine r_aload_n hX dX2_firstNumber_0 rfl ?_
  refine fg_X1_41 hX dX2_firstNumber_1 ?_
  exact r_iret hX dX2_firstNumber_4 rfl ⟨_, rfl, ⟨rfl, (by omega)⟩⟩
theorem dX2_setFirstNumber_0 : decode cX2_setFirstNumber 0 = .ok (.aload_n 0, 1) := by decide +kernel
theorem dX2_setFirstNumber_1 : decode cX2_setFirstNumber 1 = .ok (.iload_n 1, 1) := by decide +kernel
theorem dX2_setFirstNumber_2 : decode cX2_setFirstNumber 2 = .ok (.putfield 41, 3) := by decide +kernel
theorem dX2_setFirstNumber_5 : decode cX2_setFirstNumber 5 = .ok (.return_, 1) := by decide +kernel
set_option maxRecDepth 20000 in
set_option maxHeartbeats 4000000 in
theorem k_Lp_setFirst (l : Launch) (w : WT) (σ : MM) (n : Int) (i_n : inr n) : CT SX l w yX2_setFirstNumber cX2_setFirstNumber 2 none 0 0 [.ref (w.2.2 1), .int (iI n)] σ (PV fun σ1 => Mod [55] σ σ1 ∧ (σ1 55 0 = n)) := by
  refine CT.of 0 [some (.ref (w.2.2 1)), some (.int (iI n))] (by decide) (by simp [lg_sl, Value.category]) rfl sh_X (fun G hX => ?_)
  refine r_aload_n hX dX2_setFirstNumber_0 rfl ?_
  refine r_iload_n hX dX2_setFirstNumber_1 rfl ?_
  refine fp_X1_41 hX dX2_setFirstNumber_2 (fun σ2 m2 s2 => ?_)
  exact r_ret hX dX2_setFirstNumber_5 rfl ⟨rfl, ⟨(m2.w rfl), (by omega)⟩⟩
theorem dX2_isThere_0 : decode cX2_isThere 0 = .ok (.iload_n 1, 1) := by decide +kernel
theorem dX2_isThere_1 : decode cX2_isThere 1 = .ok (.ifCond .lt 21, 3) := by decide +kernel
theorem dX2_isThere_4 : decode cX2_isThere 4 = .ok (.iload_n 1, 1) := by decide +kernel
theorem dX2_isThere_5 : decode cX2_isThere 5 = .ok (.aload_n 0, 1) := by decide +kernel
theorem dX2_isThere_6 : decode cX2_isThere 6 = .ok (.getfield 37, 3) := by decide +kernel
theorem dX2_isThere_9 : decode cX2_isThere 9 = .ok (.if_icmp .ge 13, 3) := by decide +kernel
theorem dX2_isThere_12 : decode cX2_isThere 12 = .ok (.iload_n 1, 1) := by decide +kernel
theorem dX2_isThere_13 : decode cX2_isThere 13 = .ok (.bipush 8, 2) := by decide +kernel
theorem dX2_isThere_15 : decode cX2_isThere 15 = .ok (.if_icmp .ge 7, 3) := by decide +kernel
theorem dX2_isThere_18 : decode cX2_isThere 18 = .ok (.iconst 1, 1) := by decide +kernel
theorem dX2_isThere_19 : decode cX2_isThere 19 = .ok (.goto 4, 3) := by decide +kernel
theorem dX2_isThere_22 : decode cX2_isThere 22 = .ok (.iconst 0, 1) := by decide +kernel
theorem dX2_isThere_23 : decode cX2_isThere 23 = .ok (.ireturn, 1) := by decide +kernel
set_option maxRecDepth 20000 in
set_option maxHeartbeats 4000000 in
theorem k_Lp_isThere (l : Launch) (w : WT) (σ : MM) (a : Int) (i_a : inr a) : CT SX l w yX2_isThere cX2_isThere 2 (some .boolean) 0 0 [.ref (w.2.2 1), .int (iI a)] σ (PI fun z σ1 => σ = σ1 ∧ ((z = 1 ∧ 0 ≤ a ∧ a < σ 53 0 ∧ a < 8) ∨ (z = 0 ∧ (a < 0 ∨ σ 53 0 ≤ a)))) := by
  refine CT.of 0 [some (.ref (w.2.2 1)), some (.int (iI a))] (by decide) (by simp [lg_sl, Value.category]) rfl sh_X (fun G hX => ?_)
  refine r_iload_n hX dX2_isThere_0 rfl ?_
  refine r_if_lt hX (tgt := 22) dX2_isThere_1 (by decide) (by omega) (fun c1 => ?_) (fun c1 => ?_)
  · skip
    refine r_iconst hX dX2_isThere_22 ?_
    exact r_zret hX dX2_isThere_23 rfl (by omega) ⟨_, rfl, ⟨rfl, (by omega)⟩⟩
  · skip
    refine r_iload_n hX dX2_isThere_4 rfl ?_
    refine r_aload_n hX dX2_isThere_5 rfl ?_
    refine fg_X1_37 hX dX2_isThere_6 (fun b6l b6u => ?_)
    refine r_icmp_ge hX (tgt := 22) dX2_isThere_9 (by decide) (by omega) (by omega) (fun c9 => ?_) (fun c9 => ?_)
    · skip
      refine r_iconst hX dX2_isThere_22 ?_
      exact r_zret hX dX2_isThere_23 rfl (by omega) ⟨_, rfl, ⟨rfl, (by omega)⟩⟩
    · skip
      refine r_iload_n hX dX2_isThere_12 rfl ?_
      refine r_bipush hX dX2_isThere_13 (by decide) ?_
      refine r_icmp_ge hX (tgt := 22) dX2_isThere_15 (by decide) (by omega) (by omega) (fun c15 => ?_) (fun c15 => ?_)
      · skip
        refine r_iconst hX dX2_isThere_22 ?_
        exact r_zret hX dX2_isThere_23 rfl (by omega) ⟨_, rfl, ⟨rfl, (by omega)⟩⟩
      · skip
        refine r_iconst hX dX2_isThere_18 ?_
        refine r_goto hX dX2_isThere_19 (tgt := 23) (by decide) ?_
        exact r_zret hX dX2_isThere_23 rfl (by omega) ⟨_, rfl, ⟨rfl, (by omega)⟩⟩
theorem dX2_isSlot_0 : decode cX2_isSlot 0 = .ok (.iload_n 1, 1) := by decide +kernel
theorem dX2_isSlot_1 : decode cX2_isSlot 1 = .ok (.ifCond .lt 23, 3) := by decide +kernel
theorem dX2_isSlot_4 : decode cX2_isSlot 4 = .ok (.iload_n 1, 1) := by decide +kernel
theorem dX2_isSlot_5 : decode cX2_isSlot 5 = .ok (.iconst 2, 1) := by decide +kernel
theorem dX2_isSlot_6 : decode cX2_isSlot 6 = .ok (.aload_n 0, 1) := by decide +kernel
theorem dX2_isSlot_7 : decode cX2_isSlot 7 = .ok (.getfield 37, 3) := by decide +kernel
theorem dX2_isSlot_10 : decode cX2_isSlot 10 = .ok (.imul, 1) := by decide +kernel
theorem dX2_isSlot_11 : decode cX2_isSlot 11 = .ok (.if_icmp .ge 13, 3) := by decide +kernel
theorem dX2_isSlot_14 : decode cX2_isSlot 14 = .ok (.iload_n 1, 1) := by decide +kernel
theorem dX2_isSlot_15 : decode cX2_isSlot 15 = .ok (.bipush 16, 2) := by decide +kernel
theorem dX2_isSlot_17 : decode cX2_isSlot 17 = .ok (.if_icmp .ge 7, 3) := by decide +kernel
theorem dX2_isSlot_20 : decode cX2_isSlot 20 = .ok (.iconst 1, 1) := by decide +kernel
theorem dX2_isSlot_21 : decode cX2_isSlot 21 = .ok (.goto 4, 3) := by decide +kernel
theorem dX2_isSlot_24 : decode cX2_isSlot 24 = .ok (.iconst 0, 1) := by decide +kernel
theorem dX2_isSlot_25 : decode cX2_isSlot 25 = .ok (.ireturn, 1) := by decide +kernel
set_option maxRecDepth 20000 in
set_option maxHeartbeats 4000000 in
theorem k_Lp_isSlot (l : Launch) (w : WT) (σ : MM) (a : Int) (i_a : inr a) : CT SX l w yX2_isSlot cX2_isSlot 2 (some .boolean) 0 0 [.ref (w.2.2 1), .int (iI a)] σ (PI fun z σ1 => σ = σ1 ∧ ((z = 1 ∧ 0 ≤ a ∧ a < 2 * σ 53 0 ∧ a < 16) ∨ (z = 0 ∧ (a < 0 ∨ 2 * σ 53 0 ≤ a)))) := by
  refine CT.of 0 [some (.ref (w.2.2 1)), some (.int (iI a))] (by decide) (by simp [lg_sl, Value.category]) rfl sh_X (fun G hX => ?_)
  refine r_iload_n hX dX2_isSlot_0 rfl ?_
  refine r_if_lt hX (tgt := 24) dX2_isSlot_1 (by decide) (by omega) (fun c1 => ?_) (fun c1 => ?_)
  · skip
    refine r_iconst hX dX2_isSlot_24 ?_
    exact r_zret hX dX2_isSlot_25 rfl (by omega) ⟨_, rfl, ⟨rfl, (by omega)⟩⟩
  · skip
    refine r_iload_n hX dX2_isSlot_4 rfl ?_
    refine r_iconst hX dX2_isSlot_5 ?_
    refine r_aload_n hX dX2_isSlot_6 rfl ?_
    refine fg_X1_37 hX dX2_isSlot_7 (fun b7l b7u => ?_)
    refine r_imul hX dX2_isSlot_10 ?_
    refine r_icmp_ge hX (tgt := 24) dX2_isSlot_11 (by decide) (by omega) (by omega) (fun c11 => ?_) (fun c11 => ?_)
    · skip
      refine r_iconst hX dX2_isSlot_24 ?_
      exact r_zret hX dX2_isSlot_25 rfl (by omega) ⟨_, rfl, ⟨rfl, (by omega)⟩⟩
    · skip
      refine r_iload_n hX dX2_isSlot_14 rfl ?_
      refine r_bipush hX dX2_isSlot_15 (by decide) ?_
      refine r_icmp_ge hX (tgt := 24) dX2_isSlot_17 (by decide) (by omega) (by omega) (fun c17 => ?_) (fun c17 => ?_)
      · skip
        refine r_iconst hX dX2_isSlot_24 ?_
        exact r_zret hX dX2_isSlot_25 rfl (by omega) ⟨_, rfl, ⟨rfl, (by omega)⟩⟩
      · skip
        refine r_iconst hX dX2_isSlot_20 ?_
        refine r_goto hX dX2_isSlot_21 (tgt := 25) (by decide) ?_
        exact r_zret hX dX2_isSlot_25 rfl (by omega) ⟨_, rfl, ⟨rfl, (by omega)⟩⟩
theorem dX2_isSound_0 : decode cX2_isSound 0 = .ok (.aload_n 0, 1) := by decide +kernel
theorem dX2_isSound_1 : decode cX2_isSound 1 = .ok (.getfield 44, 3) := by decide +kernel
theorem dX2_isSound_4 : decode cX2_isSound 4 = .ok (.aload_n 0, 1) := by decide +kernel
theorem dX2_isSound_5 : decode cX2_isSound 5 = .ok (.getfield 37, 3) := by decide +kernel
theorem dX2_isSound_8 : decode cX2_isSound 8 = .ok (.if_icmp .ne 7, 3) := by decide +kernel
theorem dX2_isSound_11 : decode cX2_isSound 11 = .ok (.iconst 1, 1) := by decide +kernel
theorem dX2_isSound_12 : decode cX2_isSound 12 = .ok (.goto 4, 3) := by decide +kernel
theorem dX2_isSound_15 : decode cX2_isSound 15 = .ok (.iconst 0, 1) := by decide +kernel
theorem dX2_isSound_16 : decode cX2_isSound 16 = .ok (.ireturn, 1) := by decide +kernel
set_option maxRecDepth 20000 in
set_option maxHeartbeats 4000000 in
theorem k_Lp_isSound (l : Launch) (w : WT) (σ : MM) : CT SX l w yX2_isSound cX2_isSound 1 (some .boolean) 0 0 [.ref (w.2.2 1)] σ (PI fun z σ1 => σ = σ1 ∧ ((z = 1 ∧ σ 54 0 = σ 53 0) ∨ (z = 0 ∧ σ 54 0 ≠ σ 53 0))) := by
  refine CT.of 0 [some (.ref (w.2.2 1))] (by decide) (by simp [lg_sl, Value.category]) rfl sh_X (fun G hX => ?_)
  refine r_aload_n hX dX2_isSound_0 rfl ?_
  refine fg_X1_44 hX dX2_isSound_1 (fun b1l b1u => ?_)
  refine r_aload_n hX dX2_isSound_4 rfl ?_
  refine fg_X1_37 hX dX2_isSound_5 (fun b5l b5u => ?_)
  refine r_icmp_ne hX (tgt := 15) dX2_isSound_8 (by decide) (by omega) (by omega) (fun c8 => ?_) (fun c8 => ?_)
  · skip
    refine r_iconst hX dX2_isSound_15 ?_
    exact r_zret hX dX2_isSound_16 rfl (by omega) ⟨_, rfl, ⟨rfl, (by omega)⟩⟩
  · skip
    refine r_iconst hX dX2_isSound_11 ?_
    refine r_goto hX dX2_isSound_12 (tgt := 16) (by decide) ?_
    exact r_zret hX dX2_isSound_16 rfl (by omega) ⟨_, rfl, ⟨rfl, (by omega)⟩⟩
theorem dX2_kindOf_0 : decode cX2_kindOf 0 = .ok (.aload_n 0, 1) := by decide +kernel
theorem dX2_kindOf_1 : decode cX2_kindOf 1 = .ok (.iload_n 1, 1) := by decide +kernel
theorem dX2_kindOf_2 : decode cX2_kindOf 2 = .ok (.invokevirtual 47, 3) := by decide +kernel
theorem dX2_kindOf_5 : decode cX2_kindOf 5 = .ok (.ifCond .eq 12, 3) := by decide +kernel
theorem dX2_kindOf_8 : decode cX2_kindOf 8 = .ok (.aload_n 0, 1) := by decide +kernel
theorem dX2_kindOf_9 : decode cX2_kindOf 9 = .ok (.getfield 9, 3) := by decide +kernel
theorem dX2_kindOf_12 : decode cX2_kindOf 12 = .ok (.iload_n 1, 1) := by decide +kernel
theorem dX2_kindOf_13 : decode cX2_kindOf 13 = .ok (.iaload, 1) := by decide +kernel
theorem dX2_kindOf_14 : decode cX2_kindOf 14 = .ok (.goto 5, 3) := by decide +kernel
theorem dX2_kindOf_17 : decode cX2_kindOf 17 = .ok (.bipush (-6), 2) := by decide +kernel
theorem dX2_kindOf_19 : decode cX2_kindOf 19 = .ok (.ireturn, 1) := by decide +kernel
set_option maxRecDepth 20000 in
set_option maxHeartbeats 4000000 in
theorem k_Lp_kindOf (l : Launch) (w : WT) (σ : MM) (a : Int) (i_a : inr a) : CT SX l w yX2_kindOf cX2_kindOf 2 (some .int) 1 21 [.ref (w.2.2 1), .int (iI a)] σ (PI fun z σ1 => σ = σ1 ∧ ((0 ≤ a ∧ a < σ 53 0 ∧ z = σ 2 a) ∨ ((a < 0 ∨ σ 53 0 ≤ a) ∧ z = -6)) ∧ (-6 ≤ z ∧ z ≤ 5)) := by
  refine CT.of 0 [some (.ref (w.2.2 1)), some (.int (iI a))] (by decide) (by simp [lg_sl, Value.category]) rfl sh_X (fun G hX => ?_)
  refine r_aload_n hX dX2_kindOf_0 rfl ?_
  refine r_iload_n hX dX2_kindOf_1 rfl ?_
  refine r_callV hX dX2_kindOf_2 (k_Lp_isThere l w σ _ (by omega)) mf_X2_isThere mv_X2_isThere lk_RX2_47 rfl rfl rfl rfl rfl ⟨Nat.le_of_ble_eq_true rfl, Nat.le_of_ble_eq_true rfl⟩ (Nat.le_of_ble_eq_true rfl) (kI fun z2 σ2 hh => ?_)
  obtain ⟨rfl, h2_0⟩ := hh
  refine r_if_eq hX (tgt := 17) dX2_kindOf_5 (by decide) (by omega) (fun c5 => ?_) (fun c5 => ?_)
  · skip
    refine r_bipush hX dX2_kindOf_17 (by decide) ?_
    exact r_iret hX dX2_kindOf_19 rfl ⟨_, rfl, ⟨rfl, (by omega), (by omega)⟩⟩
  · skip
    refine r_aload_n hX dX2_kindOf_8 rfl ?_
    refine fg_X1_9 hX dX2_kindOf_9 ?_
    refine r_iload_n hX dX2_kindOf_12 rfl ?_
    refine ld_X2 hX dX2_kindOf_13 (by omega) (by omega) (fun b13l b13u => ?_)
    refine r_goto hX dX2_kindOf_14 (tgt := 19) (by decide) ?_
    exact r_iret hX dX2_kindOf_19 rfl ⟨_, rfl, ⟨rfl, (by omega), (by omega)⟩⟩
theorem dX2_lengthOf_0 : decode cX2_lengthOf 0 = .ok (.aload_n 0, 1) := by decide +kernel
theorem dX2_lengthOf_1 : decode cX2_lengthOf 1 = .ok (.iload_n 1, 1) := by decide +kernel
theorem dX2_lengthOf_2 : decode cX2_lengthOf 2 = .ok (.invokevirtual 47, 3) := by decide +kernel
theorem dX2_lengthOf_5 : decode cX2_lengthOf 5 = .ok (.ifCond .eq 17, 3) := by decide +kernel
theorem dX2_lengthOf_8 : decode cX2_lengthOf 8 = .ok (.aload_n 0, 1) := by decide +kernel
theorem dX2_lengthOf_9 : decode cX2_lengthOf 9 = .ok (.getfield 9, 3) := by decide +kernel
theorem dX2_lengthOf_12 : decode cX2_lengthOf 12 = .ok (.iload_n 1, 1) := by decide +kernel
theorem dX2_lengthOf_13 : decode cX2_lengthOf 13 = .ok (.iaload, 1) := by decide +kernel
theorem dX2_lengthOf_14 : decode cX2_lengthOf 14 = .ok (.iconst 3, 1) := by decide +kernel
theorem dX2_lengthOf_15 : decode cX2_lengthOf 15 = .ok (.if_icmp .ne 7, 3) := by decide +kernel
theorem dX2_lengthOf_18 : decode cX2_lengthOf 18 = .ok (.iconst 2, 1) := by decide +kernel
theorem dX2_lengthOf_19 : decode cX2_lengthOf 19 = .ok (.goto 4, 3) := by decide +kernel
theorem dX2_lengthOf_22 : decode cX2_lengthOf 22 = .ok (.iconst 1, 1) := by decide +kernel
theorem dX2_lengthOf_23 : decode cX2_lengthOf 23 = .ok (.ireturn, 1) := by decide +kernel
set_option maxRecDepth 20000 in
set_option maxHeartbeats 4000000 in
theorem k_Lp_lengthOf (l : Launch) (w : WT) (σ : MM) (a : Int) (i_a : inr a) : CT SX l w yX2_lengthOf cX2_lengthOf 2 (some .int) 1 21 [.ref (w.2.2 1), .int (iI a)] σ (PI fun z σ1 => σ = σ1 ∧ ((z = 2 ∧ 0 ≤ a ∧ a < σ 53 0 ∧ σ 2 a = 3) ∨ (z = 1 ∧ (a < 0 ∨ σ 53 0 ≤ a ∨ σ 2 a ≠ 3)))) := by
  refine CT.of 0 [some (.ref (w.2.2 1)), some (.int (iI a))] (by decide) (by simp [lg_sl, Value.category]) rfl sh_X (fun G hX => ?_)
  refine r_aload_n hX dX2_lengthOf_0 rfl ?_
  refine r_iload_n hX dX2_lengthOf_1 rfl ?_
  refine r_callV hX dX2_lengthOf_2 (k_Lp_isThere l w σ _ (by omega)) mf_X2_isThere mv_X2_isThere lk_RX2_47 rfl rfl rfl rfl rfl ⟨Nat.le_of_ble_eq_true rfl, Nat.le_of_ble_eq_true rfl⟩ (Nat.le_of_ble_eq_true rfl) (kI fun z2 σ2 hh => ?_)
  obtain ⟨rfl, h2_0⟩ := hh
  refine r_if_eq hX (tgt := 22) dX2_lengthOf_5 (by decide) (by omega) (fun c5 => ?_) (fun c5 => ?_)
  · skip
    refine r_iconst hX dX2_lengthOf_22 ?_
    exact r_iret hX dX2_lengthOf_23 rfl ⟨_, rfl, ⟨rfl, (by omega)⟩⟩
  · skip
    refine r_aload_n hX dX2_lengthOf_8 rfl ?_
    refine fg_X1_9 hX dX2_lengthOf_9 ?_
    refine r_iload_n hX dX2_lengthOf_12 rfl ?_
    refine ld_X2 hX dX2_lengthOf_13 (by omega) (by omega) (fun b13l b13u => ?_)
    refine r_iconst hX dX2_lengthOf_14 ?_
    refine r_icmp_ne hX (tgt := 22) dX2_lengthOf_15 (by decide) (by omega) (by omega) (fun c15 => ?_) (fun c15 => ?_)
    · skip
      refine r_iconst hX dX2_lengthOf_22 ?_
      exact r_iret hX dX2_lengthOf_23 rfl ⟨_, rfl, ⟨rfl, (by omega)⟩⟩
    · skip
      refine r_iconst hX dX2_lengthOf_18 ?_
      refine r_goto hX dX2_lengthOf_19 (tgt := 23) (by decide) ?_
      exact r_iret hX dX2_lengthOf_23 rfl ⟨_, rfl, ⟨rfl, (by omega)⟩⟩
theorem dX2_factorOf_0 : decode cX2_factorOf 0 = .ok (.aload_n 0, 1) := by decide +kernel
theorem dX2_factorOf_1 : decode cX2_factorOf 1 = .ok (.iload_n 1, 1) := by decide +kernel
theorem dX2_factorOf_2 : decode cX2_factorOf 2 = .ok (.invokevirtual 47, 3) := by decide +kernel
theorem dX2_factorOf_5 : decode cX2_factorOf 5 = .ok (.ifCond .eq 12, 3) := by decide +kernel
theorem dX2_factorOf_8 : decode cX2_factorOf 8 = .ok (.aload_n 0, 1) := by decide +kernel
theorem dX2_factorOf_9 : decode cX2_factorOf 9 = .ok (.getfield 15, 3) := by decide +kernel
theorem dX2_factorOf_12 : decode cX2_factorOf 12 = .ok (.iload_n 1, 1) := by decide +kernel
theorem dX2_factorOf_13 : decode cX2_factorOf 13 = .ok (.iaload, 1) := by decide +kernel
theorem dX2_factorOf_14 : decode cX2_factorOf 14 = .ok (.goto 4, 3) := by decide +kernel
theorem dX2_factorOf_17 : decode cX2_factorOf 17 = .ok (.iconst 0, 1) := by decide +kernel
theorem dX2_factorOf_18 : decode cX2_factorOf 18 = .ok (.ireturn, 1) := by decide +kernel
set_option maxRecDepth 20000 in
set_option maxHeartbeats 4000000 in
theorem k_Lp_factorOf (l : Launch) (w : WT) (σ : MM) (a : Int) (i_a : inr a) : CT SX l w yX2_factorOf cX2_factorOf 2 (some .int) 1 21 [.ref (w.2.2 1), .int (iI a)] σ (PI fun z σ1 => σ = σ1 ∧ ((0 ≤ a ∧ a < σ 53 0 ∧ z = σ 3 a) ∨ ((a < 0 ∨ σ 53 0 ≤ a) ∧ z = 0))) := by
  refine CT.of 0 [some (.ref (w.2.2 1)), some (.int (iI a))] (by decide) (by simp [lg_sl, Value.category]) rfl sh_X (fun G hX => ?_)
  refine r_aload_n hX dX2_factorOf_0 rfl ?_
  refine r_iload_n hX dX2_factorOf_1 rfl ?_
  refine r_callV hX dX2_factorOf_2 (k_Lp_isThere l w σ _ (by omega)) mf_X2_isThere mv_X2_isThere lk_RX2_47 rfl rfl rfl rfl rfl ⟨Nat.le_of_ble_eq_true rfl, Nat.le_of_ble_eq_true rfl⟩ (Nat.le_of_ble_eq_true rfl) (kI fun z2 σ2 hh => ?_)
  obtain ⟨rfl, h2_0⟩ := hh
  refine r_if_eq hX (tgt := 17) dX2_factorOf_5 (by decide) (by omega) (fun c5 => ?_) (fun c5 => ?_)
  · skip
    refine r_iconst hX dX2_factorOf_17 ?_
    exact r_iret hX dX2_factorOf_18 rfl ⟨_, rfl, ⟨rfl, (by omega)⟩⟩
  · skip
    refine r_aload_n hX dX2_factorOf_8 rfl ?_
    refine fg_X1_15 hX dX2_factorOf_9 ?_
    refine r_iload_n hX dX2_factorOf_12 rfl ?_
    refine ld_X3 hX dX2_factorOf_13 (by omega) (by omega) ?_
    refine r_goto hX dX2_factorOf_14 (tgt := 18) (by decide) ?_
    exact r_iret hX dX2_factorOf_18 rfl ⟨_, rfl, ⟨rfl, (by omega)⟩⟩
theorem dX2_addendOf_0 : decode cX2_addendOf 0 = .ok (.aload_n 0, 1) := by decide +kernel
theorem dX2_addendOf_1 : decode cX2_addendOf 1 = .ok (.iload_n 1, 1) := by decide +kernel
theorem dX2_addendOf_2 : decode cX2_addendOf 2 = .ok (.invokevirtual 47, 3) := by decide +kernel
theorem dX2_addendOf_5 : decode cX2_addendOf 5 = .ok (.ifCond .eq 12, 3) := by decide +kernel
theorem dX2_addendOf_8 : decode cX2_addendOf 8 = .ok (.aload_n 0, 1) := by decide +kernel
theorem dX2_addendOf_9 : decode cX2_addendOf 9 = .ok (.getfield 18, 3) := by decide +kernel
theorem dX2_addendOf_12 : decode cX2_addendOf 12 = .ok (.iload_n 1, 1) := by decide +kernel
theorem dX2_addendOf_13 : decode cX2_addendOf 13 = .ok (.iaload, 1) := by decide +kernel
theorem dX2_addendOf_14 : decode cX2_addendOf 14 = .ok (.goto 4, 3) := by decide +kernel
theorem dX2_addendOf_17 : decode cX2_addendOf 17 = .ok (.iconst 0, 1) := by decide +kernel
theorem dX2_addendOf_18 : decode cX2_addendOf 18 = .ok (.ireturn, 1) := by decide +kernel
set_option maxRecDepth 20000 in
set_option maxHeartbeats 4000000 in
theorem k_Lp_addendOf (l : Launch) (w : WT) (σ : MM) (a : Int) (i_a : inr a) : CT SX l w yX2_addendOf cX2_addendOf 2 (some .int) 1 21 [.ref (w.2.2 1), .int (iI a)] σ (PI fun z σ1 => σ = σ1 ∧ ((0 ≤ a ∧ a < σ 53 0 ∧ z = σ 4 a) ∨ ((a < 0 ∨ σ 53 0 ≤ a) ∧ z = 0))) := by
  refine CT.of 0 [some (.ref (w.2.2 1)), some (.int (iI a))] (by decide) (by simp [lg_sl, Value.category]) rfl sh_X (fun G hX => ?_)
  refine r_aload_n hX dX2_addendOf_0 rfl ?_
  refine r_iload_n hX dX2_addendOf_1 rfl ?_
  refine r_callV hX dX2_addendOf_2 (k_Lp_isThere l w σ _ (by omega)) mf_X2_isThere mv_X2_isThere lk_RX2_47 rfl rfl rfl rfl rfl ⟨Nat.le_of_ble_eq_true rfl, Nat.le_of_ble_eq_true rfl⟩ (Nat.le_of_ble_eq_true rfl) (kI fun z2 σ2 hh => ?_)
  obtain ⟨rfl, h2_0⟩ := hh
  refine r_if_eq hX (tgt := 17) dX2_addendOf_5 (by decide) (by omega) (fun c5 => ?_) (fun c5 => ?_)
  · skip
    refine r_iconst hX dX2_addendOf_17 ?_
    exact r_iret hX dX2_addendOf_18 rfl ⟨_, rfl, ⟨rfl, (by omega)⟩⟩
  · skip
    refine r_aload_n hX dX2_addendOf_8 rfl ?_
    refine fg_X1_18 hX dX2_addendOf_9 ?_
    refine r_iload_n hX dX2_addendOf_12 rfl ?_
    refine ld_X4 hX dX2_addendOf_13 (by omega) (by omega) ?_
    refine r_goto hX dX2_addendOf_14 (tgt := 18) (by decide) ?_
    exact r_iret hX dX2_addendOf_18 rfl ⟨_, rfl, ⟨rfl, (by omega)⟩⟩
theorem dX2_sourceOf_0 : decode cX2_sourceOf 0 = .ok (.aload_n 0, 1) := by decide +kernel
theorem dX2_sourceOf_1 : decode cX2_sourceOf 1 = .ok (.iload_n 1, 1) := by decide +kernel
theorem dX2_sourceOf_2 : decode cX2_sourceOf 2 = .ok (.invokevirtual 51, 3) := by decide +kernel
theorem dX2_sourceOf_5 : decode cX2_sourceOf 5 = .ok (.ifCond .eq 12, 3) := by decide +kernel
theorem dX2_sourceOf_8 : decode cX2_sourceOf 8 = .ok (.aload_n 0, 1) := by decide +kernel
theorem dX2_sourceOf_9 : decode cX2_sourceOf 9 = .ok (.getfield 21, 3) := by decide +kernel
theorem dX2_sourceOf_12 : decode cX2_sourceOf 12 = .ok (.iload_n 1, 1) := by decide +kernel
theorem dX2_sourceOf_13 : decode cX2_sourceOf 13 = .ok (.iaload, 1) := by decide +kernel
theorem dX2_sourceOf_14 : decode cX2_sourceOf 14 = .ok (.goto 5, 3) := by decide +kernel
theorem dX2_sourceOf_17 : decode cX2_sourceOf 17 = .ok (.bipush (-6), 2) := by decide +kernel
theorem dX2_sourceOf_19 : decode cX2_sourceOf 19 = .ok (.ireturn, 1) := by decide +kernel
set_option maxRecDepth 20000 in
set_option maxHeartbeats 4000000 in
theorem k_Lp_sourceOf (l : Launch) (w : WT) (σ : MM) (a : Int) (i_a : inr a) : CT SX l w yX2_sourceOf cX2_sourceOf 2 (some .int) 1 21 [.ref (w.2.2 1), .int (iI a)] σ (PI fun z σ1 => σ = σ1 ∧ ((0 ≤ a ∧ a < 2 * σ 53 0 ∧ z = σ 5 a) ∨ ((a < 0 ∨ 2 * σ 53 0 ≤ a) ∧ z = -6)) ∧ (-6 ≤ z ∧ z ≤ 7)) := by
  refine CT.of 0 [some (.ref (w.2.2 1)), some (.int (iI a))] (by decide) (by simp [lg_sl, Value.category]) rfl sh_X (fun G hX => ?_)
  refine r_aload_n hX dX2_sourceOf_0 rfl ?_
  refine r_iload_n hX dX2_sourceOf_1 rfl ?_
  refine r_callV hX dX2_sourceOf_2 (k_Lp_isSlot l w σ _ (by omega)) mf_X2_isSlot mv_X2_isSlot lk_RX2_51 rfl rfl rfl rfl rfl ⟨Nat.le_of_ble_eq_true rfl, Nat.le_of_ble_eq_true rfl⟩ (Nat.le_of_ble_eq_true rfl) (kI fun z2 σ2 hh => ?_)
  obtain ⟨rfl, h2_0⟩ := hh
  refine r_if_eq hX (tgt := 17) dX2_sourceOf_5 (by decide) (by omega) (fun c5 => ?_) (fun c5 => ?_)
  · skip
    refine r_bipush hX dX2_sourceOf_17 (by decide) ?_
    exact r_iret hX dX2_sourceOf_19 rfl ⟨_, rfl, ⟨rfl, (by omega), (by omega)⟩⟩
  · skip
    refine r_aload_n hX dX2_sourceOf_8 rfl ?_
    refine fg_X1_21 hX dX2_sourceOf_9 ?_
    refine r_iload_n hX dX2_sourceOf_12 rfl ?_
    refine ld_X5 hX dX2_sourceOf_13 (by omega) (by omega) (fun b13l b13u => ?_)
    refine r_goto hX dX2_sourceOf_14 (tgt := 19) (by decide) ?_
    exact r_iret hX dX2_sourceOf_19 rfl ⟨_, rfl, ⟨rfl, (by omega), (by omega)⟩⟩
theorem dX2_distanceOf_0 : decode cX2_distanceOf 0 = .ok (.aload_n 0, 1) := by decide +kernel
theorem dX2_distanceOf_1 : decode cX2_distanceOf 1 = .ok (.iload_n 1, 1) := by decide +kernel
theorem dX2_distanceOf_2 : decode cX2_distanceOf 2 = .ok (.invokevirtual 51, 3) := by decide +kernel
theorem dX2_distanceOf_5 : decode cX2_distanceOf 5 = .ok (.ifCond .eq 12, 3) := by decide +kernel
theorem dX2_distanceOf_8 : decode cX2_distanceOf 8 = .ok (.aload_n 0, 1) := by decide +kernel
theorem dX2_distanceOf_9 : decode cX2_distanceOf 9 = .ok (.getfield 24, 3) := by decide +kernel
theorem dX2_distanceOf_12 : decode cX2_distanceOf 12 = .ok (.iload_n 1, 1) := by decide +kernel
theorem dX2_distanceOf_13 : decode cX2_distanceOf 13 = .ok (.iaload, 1) := by decide +kernel
theorem dX2_distanceOf_14 : decode cX2_distanceOf 14 = .ok (.goto 4, 3) := by decide +kernel
theorem dX2_distanceOf_17 : decode cX2_distanceOf 17 = .ok (.iconst 0, 1) := by decide +kernel
theorem dX2_distanceOf_18 : decode cX2_distanceOf 18 = .ok (.ireturn, 1) := by decide +kernel
set_option maxRecDepth 20000 in
set_option maxHeartbeats 4000000 in
theorem k_Lp_distanceOf (l : Launch) (w : WT) (σ : MM) (a : Int) (i_a : inr a) : CT SX l w yX2_distanceOf cX2_distanceOf 2 (some .int) 1 21 [.ref (w.2.2 1), .int (iI a)] σ (PI fun z σ1 => σ = σ1 ∧ ((0 ≤ a ∧ a < 2 * σ 53 0 ∧ z = σ 6 a) ∨ ((a < 0 ∨ 2 * σ 53 0 ≤ a) ∧ z = 0)) ∧ (0 ≤ z ∧ z ≤ 3)) := by
  refine CT.of 0 [some (.ref (w.2.2 1)), some (.int (iI a))] (by decide) (by simp [lg_sl, Value.category]) rfl sh_X (fun G hX => ?_)
  refine r_aload_n hX dX2_distanceOf_0 rfl ?_
  refine r_iload_n hX dX2_distanceOf_1 rfl ?_
  refine r_callV hX dX2_distanceOf_2 (k_Lp_isSlot l w σ _ (by omega)) mf_X2_isSlot mv_X2_isSlot lk_RX2_51 rfl rfl rfl rfl rfl ⟨Nat.le_of_ble_eq_true rfl, Nat.le_of_ble_eq_true rfl⟩ (Nat.le_of_ble_eq_true rfl) (kI fun z2 σ2 hh => ?_)
  obtain ⟨rfl, h2_0⟩ := hh
  refine r_if_eq hX (tgt := 17) dX2_distanceOf_5 (by decide) (by omega) (fun c5 => ?_) (fun c5 => ?_)
  · skip
    refine r_iconst hX dX2_distanceOf_17 ?_
    exact r_iret hX dX2_distanceOf_18 rfl ⟨_, rfl, ⟨rfl, (by omega), (by omega)⟩⟩
  · skip
    refine r_aload_n hX dX2_distanceOf_8 rfl ?_
    refine fg_X1_24 hX dX2_distanceOf_9 ?_
    refine r_iload_n hX dX2_distanceOf_12 rfl ?_
    refine ld_X6 hX dX2_distanceOf_13 (by omega) (by omega) (fun b13l b13u => ?_)
    refine r_goto hX dX2_distanceOf_14 (tgt := 18) (by decide) ?_
    exact r_iret hX dX2_distanceOf_18 rfl ⟨_, rfl, ⟨rfl, (by omega), (by omega)⟩⟩
theorem dX2_actInOrder_0 : decode cX2_actInOrder 0 = .ok (.aload_n 0, 1) := by decide +kernel
theorem dX2_actInOrder_1 : decode cX2_actInOrder 1 = .ok (.iload_n 1, 1) := by decide +kernel
theorem dX2_actInOrder_2 : decode cX2_actInOrder 2 = .ok (.invokevirtual 47, 3) := by decide +kernel
theorem dX2_actInOrder_5 : decode cX2_actInOrder 5 = .ok (.ifCond .eq 20, 3) := by decide +kernel
theorem dX2_actInOrder_8 : decode cX2_actInOrder 8 = .ok (.iload_n 1, 1) := by decide +kernel
theorem dX2_actInOrder_9 : decode cX2_actInOrder 9 = .ok (.aload_n 0, 1) := by decide +kernel
theorem dX2_actInOrder_10 : decode cX2_actInOrder 10 = .ok (.getfield 44, 3) := by decide +kernel
theorem dX2_actInOrder_13 : decode cX2_actInOrder 13 = .ok (.if_icmp .ge 12, 3) := by decide +kernel
theorem dX2_actInOrder_16 : decode cX2_actInOrder 16 = .ok (.aload_n 0, 1) := by decide +kernel
theorem dX2_actInOrder_17 : decode cX2_actInOrder 17 = .ok (.getfield 27, 3) := by decide +kernel
theorem dX2_actInOrder_20 : decode cX2_actInOrder 20 = .ok (.iload_n 1, 1) := by decide +kernel
theorem dX2_actInOrder_21 : decode cX2_actInOrder 21 = .ok (.iaload, 1) := by decide +kernel
theorem dX2_actInOrder_22 : decode cX2_actInOrder 22 = .ok (.goto 5, 3) := by decide +kernel
theorem dX2_actInOrder_25 : decode cX2_actInOrder 25 = .ok (.bipush (-6), 2) := by decide +kernel
theorem dX2_actInOrder_27 : decode cX2_actInOrder 27 = .ok (.ireturn, 1) := by decide +kernel
set_option maxRecDepth 20000 in
set_option maxHeartbeats 4000000 in
theorem k_Lp_actInOrder (l : Launch) (w : WT) (σ : MM) (a : Int) (i_a : inr a) : CT SX l w yX2_actInOrder cX2_actInOrder 2 (some .int) 1 21 [.ref (w.2.2 1), .int (iI a)] σ (PI fun z σ1 => σ = σ1 ∧ ((0 ≤ a ∧ a < σ 53 0 ∧ a < σ 54 0 ∧ z = σ 7 a) ∨ ((a < 0 ∨ σ 53 0 ≤ a ∨ σ 54 0 ≤ a) ∧ z = -6)) ∧ (-6 ≤ z ∧ z ≤ 7)) := by
  refine CT.of 0 [some (.ref (w.2.2 1)), some (.int (iI a))] (by decide) (by simp [lg_sl, Value.category]) rfl sh_X (fun G hX => ?_)
  refine r_aload_n hX dX2_actInOrder_0 rfl ?_
  refine r_iload_n hX dX2_actInOrder_1 rfl ?_
  refine r_callV hX dX2_actInOrder_2 (k_Lp_isThere l w σ _ (by omega)) mf_X2_isThere mv_X2_isThere lk_RX2_47 rfl rfl rfl rfl rfl ⟨Nat.le_of_ble_eq_true rfl, Nat.le_of_ble_eq_true rfl⟩ (Nat.le_of_ble_eq_true rfl) (kI fun z2 σ2 hh => ?_)
  obtain ⟨rfl, h2_0⟩ := hh
  refine r_if_eq hX (tgt := 25) dX2_actInOrder_5 (by decide) (by omega) (fun c5 => ?_) (fun c5 => ?_)
  · skip
    refine r_bipush hX dX2_actInOrder_25 (by decide) ?_
    exact r_iret hX dX2_actInOrder_27 rfl ⟨_, rfl, ⟨rfl, (by omega), (by omega)⟩⟩
  · skip
    refine r_iload_n hX dX2_actInOrder_8 rfl ?_
    refine r_aload_n hX dX2_actInOrder_9 rfl ?_
    refine fg_X1_44 hX dX2_actInOrder_10 (fun b10l b10u => ?_)
    refine r_icmp_ge hX (tgt := 25) dX2_actInOrder_13 (by decide) (by omega) (by omega) (fun c13 => ?_) (fun c13 => ?_)
    · skip
      refine r_bipush hX dX2_actInOrder_25 (by decide) ?_
      exact r_iret hX dX2_actInOrder_27 rfl ⟨_, rfl, ⟨rfl, (by omega), (by omega)⟩⟩
    · skip
      refine r_aload_n hX dX2_actInOrder_16 rfl ?_
      refine fg_X1_27 hX dX2_actInOrder_17 ?_
      refine r_iload_n hX dX2_actInOrder_20 rfl ?_
      refine ld_X7 hX dX2_actInOrder_21 (by omega) (by omega) (fun b21l b21u => ?_)
      refine r_goto hX dX2_actInOrder_22 (tgt := 27) (by decide) ?_
      exact r_iret hX dX2_actInOrder_27 rfl ⟨_, rfl, ⟨rfl, (by omega), (by omega)⟩⟩
theorem dX2_setOperand_0 : decode cX2_setOperand 0 = .ok (.iload_n 1, 1) := by decide +kernel
theorem dX2_setOperand_1 : decode cX2_setOperand 1 = .ok (.ifCond .lt 23, 3) := by decide +kernel
theorem dX2_setOperand_4 : decode cX2_setOperand 4 = .ok (.iload_n 1, 1) := by decide +kernel
theorem dX2_setOperand_5 : decode cX2_setOperand 5 = .ok (.bipush 16, 2) := by decide +kernel
theorem dX2_setOperand_7 : decode cX2_setOperand 7 = .ok (.if_icmp .ge 17, 3) := by decide +kernel
theorem dX2_setOperand_10 : decode cX2_setOperand 10 = .ok (.aload_n 0, 1) := by decide +kernel
theorem dX2_setOperand_11 : decode cX2_setOperand 11 = .ok (.getfield 21, 3) := by decide +kernel
theorem dX2_setOperand_14 : decode cX2_setOperand 14 = .ok (.iload_n 1, 1) := by decide +kernel
theorem dX2_setOperand_15 : decode cX2_setOperand 15 = .ok (.iload_n 2, 1) := by decide +kernel
theorem dX2_setOperand_16 : decode cX2_setOperand 16 = .ok (.iastore, 1) := by decide +kernel
theorem dX2_setOperand_17 : decode cX2_setOperand 17 = .ok (.aload_n 0, 1) := by decide +kernel
theorem dX2_setOperand_18 : decode cX2_setOperand 18 = .ok (.getfield 24, 3) := by decide +kernel
theorem dX2_setOperand_21 : decode cX2_setOperand 21 = .ok (.iload_n 1, 1) := by decide +kernel
theorem dX2_setOperand_22 : decode cX2_setOperand 22 = .ok (.iload_n 3, 1) := by decide +kernel
theorem dX2_setOperand_23 : decode cX2_setOperand 23 = .ok (.iastore, 1) := by decide +kernel
theorem dX2_setOperand_24 : decode cX2_setOperand 24 = .ok (.return_, 1) := by decide +kernel
set_option maxRecDepth 20000 in
set_option maxHeartbeats 4000000 in
theorem k_Lp_setOperand (l : Launch) (w : WT) (σ : MM) (a : Int) (u : Int) (d : Int) (i_a : inr a) (i_u : inr u) (i_d : inr d) (ha : 0 ≤ a ∧ a < 16) (hu : -6 ≤ u ∧ u ≤ 7) (hd : 0 ≤ d ∧ d ≤ 3) : CT SX l w yX2_setOperand cX2_setOperand 4 none 0 0 [.ref (w.2.2 1), .int (iI a), .int (iI u), .int (iI d)] σ (PV fun σ1 => Mod [5, 6] σ σ1 ∧ (∀ b : Int, σ1 5 b = if b = a then u else σ 5 b) ∧ (∀ b : Int, σ1 6 b = if b = a then d else σ 6 b)) := by
  refine CT.of 0 [some (.ref (w.2.2 1)), some (.int (iI a)), some (.int (iI u)), some (.int (iI d))] (by decide) (by simp [lg_sl, Value.category]) rfl sh_X (fun G hX => ?_)
  refine r_iload_n hX dX2_setOperand_0 rfl ?_
  refine r_if_lt hX (tgt := 24) dX2_setOperand_1 (by decide) (by omega) (fun c1 => ?_) (fun c1 => ?_)
  · exfalso; omega
  · skip
    refine r_iload_n hX dX2_setOperand_4 rfl ?_
    refine r_bipush hX dX2_setOperand_5 (by decide) ?_
    refine r_icmp_ge hX (tgt := 24) dX2_setOperand_7 (by decide) (by omega) (by omega) (fun c7 => ?_) (fun c7 => ?_)
    · exfalso; omega
    · skip
      refine r_aload_n hX dX2_setOperand_10 rfl ?_
      refine fg_X1_21 hX dX2_setOperand_11 ?_
      refine r_iload_n hX dX2_setOperand_14 rfl ?_
      refine r_iload_n hX dX2_setOperand_15 rfl ?_
      refine st_X5 hX dX2_setOperand_16 (by omega) (by omega) (by omega) (fun σ16 m16 s16 => ?_)
      refine r_aload_n hX dX2_setOperand_17 rfl ?_
      refine fg_X1_24 hX dX2_setOperand_18 ?_
      refine r_iload_n hX dX2_setOperand_21 rfl ?_
      refine r_iload_n hX dX2_setOperand_22 rfl ?_
      refine st_X6 hX dX2_setOperand_23 (by omega) (by omega) (by omega) (fun σ23 m23 s23 => ?_)
      simp only [show σ16 6 = σ 6 from (m16.at 6 rfl)] at s23
      have qr1 : σ23 5 = σ16 5 := (m23.at 5 rfl)
      exact r_ret hX dX2_setOperand_24 rfl ⟨rfl, ⟨(Mod.tr (L := [5, 6]) m16 m23 rfl rfl), (by intro b; simp only [qr1]; simp_all), (by intro b; skip; simp_all)⟩⟩
theorem dX2_canFollow_0 : decode cX2_canFollow 0 = .ok (.aload_n 0, 1) := by decide +kernel
theorem dX2_canFollow_1 : decode cX2_canFollow 1 = .ok (.iload_n 1, 1) := by decide +kernel
theorem dX2_canFollow_2 : decode cX2_canFollow 2 = .ok (.invokevirtual 64, 3) := by decide +kernel
theorem dX2_canFollow_5 : decode cX2_canFollow 5 = .ok (.istore_n 2, 1) := by decide +kernel
theorem dX2_canFollow_6 : decode cX2_canFollow 6 = .ok (.iload_n 2, 1) := by decide +kernel
theorem dX2_canFollow_7 : decode cX2_canFollow 7 = .ok (.bipush (-6), 2) := by decide +kernel
theorem dX2_canFollow_9 : decode cX2_canFollow 9 = .ok (.if_icmp .ne 5, 3) := by decide +kernel
theorem dX2_canFollow_12 : decode cX2_canFollow 12 = .ok (.iconst 1, 1) := by decide +kernel
theorem dX2_canFollow_13 : decode cX2_canFollow 13 = .ok (.ireturn, 1) := by decide +kernel
theorem dX2_canFollow_14 : decode cX2_canFollow 14 = .ok (.aload_n 0, 1) := by decide +kernel
theorem dX2_canFollow_15 : decode cX2_canFollow 15 = .ok (.iload_n 2, 1) := by decide +kernel
theorem dX2_canFollow_16 : decode cX2_canFollow 16 = .ok (.invokevirtual 47, 3) := by decide +kernel
theorem dX2_canFollow_19 : decode cX2_canFollow 19 = .ok (.ifCond .eq 24, 3) := by decide +kernel
theorem dX2_canFollow_22 : decode cX2_canFollow 22 = .ok (.aload_n 0, 1) := by decide +kernel
theorem dX2_canFollow_23 : decode cX2_canFollow 23 = .ok (.iload_n 1, 1) := by decide +kernel
theorem dX2_canFollow_24 : decode cX2_canFollow 24 = .ok (.invokevirtual 68, 3) := by decide +kernel
theorem dX2_canFollow_27 : decode cX2_canFollow 27 = .ok (.ifCond .gt 12, 3) := by decide +kernel
theorem dX2_canFollow_30 : decode cX2_canFollow 30 = .ok (.aload_n 0, 1) := by decide +kernel
theorem dX2_canFollow_31 : decode cX2_canFollow 31 = .ok (.getfield 30, 3) := by decide +kernel
theorem dX2_canFollow_34 : decode cX2_canFollow 34 = .ok (.iload_n 2, 1) := by decide +kernel
theorem dX2_canFollow_35 : decode cX2_canFollow 35 = .ok (.baload, 1) := by decide +kernel
theorem dX2_canFollow_36 : decode cX2_canFollow 36 = .ok (.ifCond .eq 7, 3) := by decide +kernel
theorem dX2_canFollow_39 : decode cX2_canFollow 39 = .ok (.iconst 1, 1) := by decide +kernel
theorem dX2_canFollow_40 : decode cX2_canFollow 40 = .ok (.goto 4, 3) := by decide +kernel
theorem dX2_canFollow_43 : decode cX2_canFollow 43 = .ok (.iconst 0, 1) := by decide +kernel
theorem dX2_canFollow_44 : decode cX2_canFollow 44 = .ok (.ireturn, 1) := by decide +kernel
set_option maxRecDepth 20000 in
set_option maxHeartbeats 4000000 in
theorem k_Lp_canFollow (l : Launch) (w : WT) (σ : MM) (a : Int) (i_a : inr a) (ha : 0 ≤ a ∧ a < 2 * σ 53 0) : CT SX l w yX2_canFollow cX2_canFollow 3 (some .boolean) 2 42 [.ref (w.2.2 1), .int (iI a)] σ (PI fun z σ1 => σ = σ1 ∧ ((z = 1 ∧ CF (σ 5) (σ 6) (σ 53 0) (σ 8) a) ∨ (z = 0 ∧ ¬ CF (σ 5) (σ 6) (σ 53 0) (σ 8) a))) := by
  refine CT.of 1 [some (.ref (w.2.2 1)), some (.int (iI a)), none] (by decide) (by simp [lg_sl, Value.category]) rfl sh_X (fun G hX => ?_)
  refine r_aload_n hX dX2_canFollow_0 rfl ?_
  refine r_iload_n hX dX2_canFollow_1 rfl ?_
  refine r_callV hX dX2_canFollow_2 (k_Lp_sourceOf l w σ _ (by omega)) mf_X2_sourceOf mv_X2_sourceOf lk_RX2_64 rfl rfl rfl rfl rfl ⟨Nat.le_of_ble_eq_true rfl, Nat.le_of_ble_eq_true rfl⟩ (Nat.le_of_ble_eq_true rfl) (kI fun z2 σ2 hh => ?_)
  obtain ⟨rfl, h2_0, h2_1⟩ := hh
  refine r_istore_n hX (fun x5 => [some (.ref (w.2.2 1)), some (.int (iI a)), some (.int (iI x5))]) dX2_canFollow_5 (Nat.le_of_ble_eq_true rfl) rfl rfl (fun _ => rfl) (fun x5 e5 => ?_)
  have e9 : x5 = σ 5 a := by omega
  have e8 : σ 8 x5 = σ 8 (σ 5 a) := congrArg (σ 8) e9
  refine r_iload_n hX dX2_canFollow_6 rfl ?_
  refine r_bipush hX dX2_canFollow_7 (by decide) ?_
  refine r_icmp_ne hX (tgt := 14) dX2_canFollow_9 (by decide) (by omega) (by omega) (fun c9 => ?_) (fun c9 => ?_)
  · skip
    refine r_aload_n hX dX2_canFollow_14 rfl ?_
    refine r_iload_n hX dX2_canFollow_15 rfl ?_
    refine r_callV hX dX2_canFollow_16 (k_Lp_isThere l w σ _ (by omega)) mf_X2_isThere mv_X2_isThere lk_RX2_47 rfl rfl rfl rfl rfl ⟨Nat.le_of_ble_eq_true rfl, Nat.le_of_ble_eq_true rfl⟩ (Nat.le_of_ble_eq_true rfl) (kI fun z16 σ16 hh => ?_)
    obtain ⟨rfl, h16_0⟩ := hh
    refine r_if_eq hX (tgt := 43) dX2_canFollow_19 (by decide) (by omega) (fun c19 => ?_) (fun c19 => ?_)
    · skip
      refine r_iconst hX dX2_canFollow_43 ?_
      exact r_zret hX dX2_canFollow_44 rfl (by omega) ⟨_, rfl, ⟨rfl, (by first | exact Or.inl ⟨rfl, by unfold CF; omega⟩ | exact Or.inr ⟨rfl, by unfold CF; omega⟩)⟩⟩
    · skip
      refine r_aload_n hX dX2_canFollow_22 rfl ?_
      refine r_iload_n hX dX2_canFollow_23 rfl ?_
      refine r_callV hX dX2_canFollow_24 (k_Lp_distanceOf l w σ _ (by omega)) mf_X2_distanceOf mv_X2_distanceOf lk_RX2_68 rfl rfl rfl rfl rfl ⟨Nat.le_of_ble_eq_true rfl, Nat.le_of_ble_eq_true rfl⟩ (Nat.le_of_ble_eq_true rfl) (kI fun z24 σ24 hh => ?_)
      obtain ⟨rfl, h24_0, h24_1⟩ := hh
      refine r_if_gt hX (tgt := 39) dX2_canFollow_27 (by decide) (by omega) (fun c27 => ?_) (fun c27 => ?_)
      · skip
        refine r_iconst hX dX2_canFollow_39 ?_
        refine r_goto hX dX2_canFollow_40 (tgt := 44) (by decide) ?_
        exact r_zret hX dX2_canFollow_44 rfl (by omega) ⟨_, rfl, ⟨rfl, (by first | exact Or.inl ⟨rfl, by unfold CF; omega⟩ | exact Or.inr ⟨rfl, by unfold CF; omega⟩)⟩⟩
      · skip
        refine r_aload_n hX dX2_canFollow_30 rfl ?_
        refine fg_X1_30 hX dX2_canFollow_31 ?_
        refine r_iload_n hX dX2_canFollow_34 rfl ?_
        refine ld_X8 hX dX2_canFollow_35 (by omega) (by omega) (fun b35l b35u => ?_)
        refine r_if_eq hX (tgt := 43) dX2_canFollow_36 (by decide) (by omega) (fun c36 => ?_) (fun c36 => ?_)
        · skip
          refine r_iconst hX dX2_canFollow_43 ?_
          exact r_zret hX dX2_canFollow_44 rfl (by omega) ⟨_, rfl, ⟨rfl, (by first | exact Or.inl ⟨rfl, by unfold CF; omega⟩ | exact Or.inr ⟨rfl, by unfold CF; omega⟩)⟩⟩
        · skip
          refine r_iconst hX dX2_canFollow_39 ?_
          refine r_goto hX dX2_canFollow_40 (tgt := 44) (by decide) ?_
          exact r_zret hX dX2_canFollow_44 rfl (by omega) ⟨_, rfl, ⟨rfl, (by first | exact Or.inl ⟨rfl, by unfold CF; omega⟩ | exact Or.inr ⟨rfl, by unfold CF; omega⟩)⟩⟩
  · skip
    refine r_iconst hX dX2_canFollow_12 ?_
    exact r_zret hX dX2_canFollow_13 rfl (by omega) ⟨_, rfl, ⟨rfl, (by first | exact Or.inl ⟨rfl, by unfold CF; omega⟩ | exact Or.inr ⟨rfl, by unfold CF; omega⟩)⟩⟩
theorem dX2_products_0 : decode cX2_products 0 = .ok (.iconst 0, 1) := by decide +kernel
theorem dX2_products_1 : decode cX2_products 1 = .ok (.istore_n 1, 1) := by decide +kernel
theorem dX2_products_2 : decode cX2_products 2 = .ok (.iconst 0, 1) := by decide +kernel
theorem dX2_products_3 : decode cX2_products 3 = .ok (.istore_n 2, 1) := by decide +kernel
theorem dX2_products_4 : decode cX2_products 4 = .ok (.iload_n 2, 1) := by decide +kernel
theorem dX2_products_5 : decode cX2_products 5 = .ok (.aload_n 0, 1) := by decide +kernel
theorem dX2_products_6 : decode cX2_products 6 = .ok (.getfield 37, 3) := by decide +kernel
theorem dX2_products_9 : decode cX2_products 9 = .ok (.if_icmp .ge 28, 3) := by decide +kernel
theorem dX2_products_12 : decode cX2_products 12 = .ok (.iload_n 2, 1) := by decide +kernel
theorem dX2_products_13 : decode cX2_products 13 = .ok (.bipush 8, 2) := by decide +kernel
theorem dX2_products_15 : decode cX2_products 15 = .ok (.if_icmp .ge 22, 3) := by decide +kernel
theorem dX2_products_18 : decode cX2_products 18 = .ok (.aload_n 0, 1) := by decide +kernel
theorem dX2_products_19 : decode cX2_products 19 = .ok (.getfield 9, 3) := by decide +kernel
theorem dX2_products_22 : decode cX2_products 22 = .ok (.iload_n 2, 1) := by decide +kernel
theorem dX2_products_23 : decode cX2_products 23 = .ok (.iaload, 1) := by decide +kernel
theorem dX2_products_24 : decode cX2_products 24 = .ok (.iconst 3, 1) := by decide +kernel
theorem dX2_products_25 : decode cX2_products 25 = .ok (.if_icmp .ne 6, 3) := by decide +kernel
theorem dX2_products_28 : decode cX2_products 28 = .ok (.iinc 1 1, 3) := by decide +kernel
theorem dX2_products_31 : decode cX2_products 31 = .ok (.iinc 2 1, 3) := by decide +kernel
theorem dX2_products_34 : decode cX2_products 34 = .ok (.goto (-30), 3) := by decide +kernel
theorem dX2_products_37 : decode cX2_products 37 = .ok (.iload_n 1, 1) := by decide +kernel
theorem dX2_products_38 : decode cX2_products 38 = .ok (.ireturn, 1) := by decide +kernel
set_option maxRecDepth 20000 in
set_option maxHeartbeats 4000000 in
theorem k_Lp_products (l : Launch) (w : WT) (σ : MM) : CT SX l w yX2_products cX2_products 3 (some .int) 0 0 [.ref (w.2.2 1)] σ (PI fun z σ1 => σ = σ1 ∧ (0 ≤ z ∧ z ≤ σ 53 0)) := by
  refine CT.of 2 [some (.ref (w.2.2 1)), none, none] (by decide) (by simp [lg_sl, Value.category]) rfl sh_X (fun G hX => ?_)
  refine r_bd hX (fun hB => ?_)
  have b_53 := hB 53 0 8 rfl 0
  refine r_iconst hX dX2_products_0 ?_
  refine r_istore_n hX (fun x1 => [some (.ref (w.2.2 1)), some (.int (iI x1)), none]) dX2_products_1 (Nat.le_of_ble_eq_true rfl) rfl rfl (fun _ => rfl) (fun x1 e1 => ?_)
  refine r_iconst hX dX2_products_2 ?_
  refine r_istore_n hX (fun x3 => [some (.ref (w.2.2 1)), some (.int (iI x1)), some (.int (iI x3))]) dX2_products_3 (Nat.le_of_ble_eq_true rfl) rfl rfl (fun _ => rfl) (fun x3 e3 => ?_)
  have lp4 : ∀ (n : Nat) (found : Int) (act : Int) (hf : 0 ≤ found ∧ found ≤ act) (ha : 0 ≤ act ∧ act ≤ σ 53 0 ∧ σ 53 0 ≤ 8) (hmu : 9 - act < (n : Int)), G 4 [some (.ref (w.2.2 1)), some (.int (iI found)), some (.int (iI act))] [] σ := by
    intro n
    induction n with
    | zero => intro found act hf ha hmu; omega
    | succ n ih =>
      intro found act hf ha hmu
      have ih4 := ih
      clear ih
      refine r_iload_n hX dX2_products_4 rfl ?_
      refine r_aload_n hX dX2_products_5 rfl ?_
      refine fg_X1_37 hX dX2_products_6 (fun b6l b6u => ?_)
      refine r_icmp_ge hX (tgt := 37) dX2_products_9 (by decide) (by omega) (by omega) (fun c9 => ?_) (fun c9 => ?_)
      · skip
        refine r_iload_n hX dX2_products_37 rfl ?_
        exact r_iret hX dX2_products_38 rfl ⟨_, rfl, ⟨rfl, (by omega)⟩⟩
      · skip
        refine r_iload_n hX dX2_products_12 rfl ?_
        refine r_bipush hX dX2_products_13 (by decide) ?_
        refine r_icmp_ge hX (tgt := 37) dX2_products_15 (by decide) (by omega) (by omega) (fun c15 => ?_) (fun c15 => ?_)
        · skip
          refine r_iload_n hX dX2_products_37 rfl ?_
          exact r_iret hX dX2_products_38 rfl ⟨_, rfl, ⟨rfl, (by omega)⟩⟩
        · skip
          refine r_aload_n hX dX2_products_18 rfl ?_
          refine fg_X1_9 hX dX2_products_19 ?_
          refine r_iload_n hX dX2_products_22 rfl ?_
          refine ld_X2 hX dX2_products_23 (by omega) (by omega) (fun b23l b23u => ?_)
          refine r_iconst hX dX2_products_24 ?_
          refine r_icmp_ne hX (tgt := 31) dX2_products_25 (by decide) (by omega) (by omega) (fun c25 => ?_) (fun c25 => ?_)
          · skip
            refine r_iinc hX (fun x31 => [some (.ref (w.2.2 1)), some (.int (iI found)), some (.int (iI x31))]) dX2_products_31 rfl rfl rfl (fun _ => rfl) (fun x31 e31 => ?_)
            refine r_goto hX dX2_products_34 (tgt := 4) (by decide) ?_
            exact ih4 found x31 (by omega) (by omega) (by omega)
          · skip
            refine r_iinc hX (fun x28 => [some (.ref (w.2.2 1)), some (.int (iI x28)), some (.int (iI act))]) dX2_products_28 rfl rfl rfl (fun _ => rfl) (fun x28 e28 => ?_)
            refine r_iinc hX (fun x31 => [some (.ref (w.2.2 1)), some (.int (iI x28)), some (.int (iI x31))]) dX2_products_31 rfl rfl rfl (fun _ => rfl) (fun x31 e31 => ?_)
            refine r_goto hX dX2_products_34 (tgt := 4) (by decide) ?_
            exact ih4 x28 x31 (by omega) (by omega) (by omega)
  exact lp4 ((9 - (x3)) + 1).toNat x1 x3 (by omega) (by omega) (by omega)
theorem dX2_arrange_0 : decode cX2_arrange 0 = .ok (.iconst 0, 1) := by decide +kernel
theorem dX2_arrange_1 : decode cX2_arrange 1 = .ok (.istore_n 1, 1) := by decide +kernel
theorem dX2_arrange_2 : decode cX2_arrange 2 = .ok (.iload_n 1, 1) := by decide +kernel
theorem dX2_arrange_3 : decode cX2_arrange 3 = .ok (.aload_n 0, 1) := by decide +kernel
theorem dX2_arrange_4 : decode cX2_arrange 4 = .ok (.getfield 37, 3) := by decide +kernel
theorem dX2_arrange_7 : decode cX2_arrange 7 = .ok (.if_icmp .ge 22, 3) := by decide +kernel
theorem dX2_arrange_10 : decode cX2_arrange 10 = .ok (.iload_n 1, 1) := by decide +kernel
theorem dX2_arrange_11 : decode cX2_arrange 11 = .ok (.bipush 8, 2) := by decide +kernel
theorem dX2_arrange_13 : decode cX2_arrange 13 = .ok (.if_icmp .ge 16, 3) := by decide +kernel
theorem dX2_arrange_16 : decode cX2_arrange 16 = .ok (.aload_n 0, 1) := by decide +kernel
theorem dX2_arrange_17 : decode cX2_arrange 17 = .ok (.getfield 30, 3) := by decide +kernel
theorem dX2_arrange_20 : decode cX2_arrange 20 = .ok (.iload_n 1, 1) := by decide +kernel
theorem dX2_arrange_21 : decode cX2_arrange 21 = .ok (.iconst 0, 1) := by decide +kernel
theorem dX2_arrange_22 : decode cX2_arrange 22 = .ok (.bastore, 1) := by decide +kernel
theorem dX2_arrange_23 : decode cX2_arrange 23 = .ok (.iinc 1 1, 3) := by decide +kernel
theorem dX2_arrange_26 : decode cX2_arrange 26 = .ok (.goto (-24), 3) := by decide +kernel
theorem dX2_arrange_29 : decode cX2_arrange 29 = .ok (.aload_n 0, 1) := by decide +kernel
theorem dX2_arrange_30 : decode cX2_arrange 30 = .ok (.iconst 0, 1) := by decide +kernel
theorem dX2_arrange_31 : decode cX2_arrange 31 = .ok (.putfield 44, 3) := by decide +kernel
theorem dX2_arrange_34 : decode cX2_arrange 34 = .ok (.iconst 0, 1) := by decide +kernel
theorem dX2_arrange_35 : decode cX2_arrange 35 = .ok (.istore_n 1, 1) := by decide +kernel
theorem dX2_arrange_36 : decode cX2_arrange 36 = .ok (.iload_n 1, 1) := by decide +kernel
theorem dX2_arrange_37 : decode cX2_arrange 37 = .ok (.aload_n 0, 1) := by decide +kernel
theorem dX2_arrange_38 : decode cX2_arrange 38 = .ok (.getfield 37, 3) := by decide +kernel
theorem dX2_arrange_41 : decode cX2_arrange 41 = .ok (.if_icmp .ge 108, 3) := by decide +kernel
theorem dX2_arrange_44 : decode cX2_arrange 44 = .ok (.iconst 0, 1) := by decide +kernel
theorem dX2_arrange_45 : decode cX2_arrange 45 = .ok (.istore_n 2, 1) := by decide +kernel
theorem dX2_arrange_46 : decode cX2_arrange 46 = .ok (.iload_n 2, 1) := by decide +kernel
theorem dX2_arrange_47 : decode cX2_arrange 47 = .ok (.aload_n 0, 1) := by decide +kernel
theorem dX2_arrange_48 : decode cX2_arrange 48 = .ok (.getfield 37, 3) := by decide +kernel
theorem dX2_arrange_51 : decode cX2_arrange 51 = .ok (.if_icmp .ge 92, 3) := by decide +kernel
theorem dX2_arrange_54 : decode cX2_arrange 54 = .ok (.iload_n 2, 1) := by decide +kernel
theorem dX2_arrange_55 : decode cX2_arrange 55 = .ok (.bipush 8, 2) := by decide +kernel
theorem dX2_arrange_57 : decode cX2_arrange 57 = .ok (.if_icmp .ge 86, 3) := by decide +kernel
theorem dX2_arrange_60 : decode cX2_arrange 60 = .ok (.aload_n 0, 1) := by decide +kernel
theorem dX2_arrange_61 : decode cX2_arrange 61 = .ok (.getfield 30, 3) := by decide +kernel
theorem dX2_arrange_64 : decode cX2_arrange 64 = .ok (.iload_n 2, 1) := by decide +kernel
theorem dX2_arrange_65 : decode cX2_arrange 65 = .ok (.baload, 1) := by decide +kernel
theorem dX2_arrange_66 : decode cX2_arrange 66 = .ok (.ifCond .ne 29, 3) := by decide +kernel
theorem dX2_arrange_69 : decode cX2_arrange 69 = .ok (.aload_n 0, 1) := by decide +kernel
theorem dX2_arrange_70 : decode cX2_arrange 70 = .ok (.iconst 2, 1) := by decide +kernel
theorem dX2_arrange_71 : decode cX2_arrange 71 = .ok (.iload_n 2, 1) := by decide +kernel
theorem dX2_arrange_72 : decode cX2_arrange 72 = .ok (.imul, 1) := by decide +kernel
theorem dX2_arrange_73 : decode cX2_arrange 73 = .ok (.invokevirtual 61, 3) := by decide +kernel
theorem dX2_arrange_76 : decode cX2_arrange 76 = .ok (.ifCond .eq 19, 3) := by decide +kernel
theorem dX2_arrange_79 : decode cX2_arrange 79 = .ok (.aload_n 0, 1) := by decide +kernel
theorem dX2_arrange_80 : decode cX2_arrange 80 = .ok (.iconst 2, 1) := by decide +kernel
theorem dX2_arrange_81 : decode cX2_arrange 81 = .ok (.iload_n 2, 1) := by decide +kernel
theorem dX2_arrange_82 : decode cX2_arrange 82 = .ok (.imul, 1) := by decide +kernel
theorem dX2_arrange_83 : decode cX2_arrange 83 = .ok (.iconst 1, 1) := by decide +kernel
theorem dX2_arrange_84 : decode cX2_arrange 84 = .ok (.iadd, 1) := by decide +kernel
theorem dX2_arrange_85 : decode cX2_arrange 85 = .ok (.invokevirtual 61, 3) := by decide +kernel
theorem dX2_arrange_88 : decode cX2_arrange 88 = .ok (.ifCond .eq 7, 3) := by decide +kernel
theorem dX2_arrange_91 : decode cX2_arrange 91 = .ok (.iconst 1, 1) := by decide +kernel
theorem dX2_arrange_92 : decode cX2_arrange 92 = .ok (.goto 4, 3) := by decide +kernel
theorem dX2_arrange_95 : decode cX2_arrange 95 = .ok (.iconst 0, 1) := by decide +kernel
theorem dX2_arrange_96 : decode cX2_arrange 96 = .ok (.istore_n 3, 1) := by decide +kernel
theorem dX2_arrange_97 : decode cX2_arrange 97 = .ok (.iload_n 3, 1) := by decide +kernel
theorem dX2_arrange_98 : decode cX2_arrange 98 = .ok (.ifCond .eq 39, 3) := by decide +kernel
theorem dX2_arrange_101 : decode cX2_arrange 101 = .ok (.aload_n 0, 1) := by decide +kernel
theorem dX2_arrange_102 : decode cX2_arrange 102 = .ok (.getfield 44, 3) := by decide +kernel
theorem dX2_arrange_105 : decode cX2_arrange 105 = .ok (.bipush 8, 2) := by decide +kernel
theorem dX2_arrange_107 : decode cX2_arrange 107 = .ok (.if_icmp .ge 30, 3) := by decide +kernel
theorem dX2_arrange_110 : decode cX2_arrange 110 = .ok (.aload_n 0, 1) := by decide +kernel
theorem dX2_arrange_111 : decode cX2_arrange 111 = .ok (.getfield 30, 3) := by decide +kernel
theorem dX2_arrange_114 : decode cX2_arrange 114 = .ok (.iload_n 2, 1) := by decide +kernel
theorem dX2_arrange_115 : decode cX2_arrange 115 = .ok (.iconst 1, 1) := by decide +kernel
theorem dX2_arrange_116 : decode cX2_arrange 116 = .ok (.bastore, 1) := by decide +kernel
theorem dX2_arrange_117 : decode cX2_arrange 117 = .ok (.aload_n 0, 1) := by decide +kernel
theorem dX2_arrange_118 : decode cX2_arrange 118 = .ok (.getfield 27, 3) := by decide +kernel
theorem dX2_arrange_121 : decode cX2_arrange 121 = .ok (.aload_n 0, 1) := by decide +kernel
theorem dX2_arrange_122 : decode cX2_arrange 122 = .ok (.getfield 44, 3) := by decide +kernel
theorem dX2_arrange_125 : decode cX2_arrange 125 = .ok (.iload_n 2, 1) := by decide +kernel
theorem dX2_arrange_126 : decode cX2_arrange 126 = .ok (.iastore, 1) := by decide +kernel
theorem dX2_arrange_127 : decode cX2_arrange 127 = .ok (.aload_n 0, 1) := by decide +kernel
theorem dX2_arrange_128 : decode cX2_arrange 128 = .ok (.dup, 1) := by decide +kernel
theorem dX2_arrange_129 : decode cX2_arrange 129 = .ok (.getfield 44, 3) := by decide +kernel
theorem dX2_arrange_132 : decode cX2_arrange 132 = .ok (.iconst 1, 1) := by decide +kernel
theorem dX2_arrange_133 : decode cX2_arrange 133 = .ok (.iadd, 1) := by decide +kernel
theorem dX2_arrange_134 : decode cX2_arrange 134 = .ok (.putfield 44, 3) := by decide +kernel
theorem dX2_arrange_137 : decode cX2_arrange 137 = .ok (.iinc 2 1, 3) := by decide +kernel
theorem dX2_arrange_140 : decode cX2_arrange 140 = .ok (.goto (-94), 3) := by decide +kernel
theorem dX2_arrange_143 : decode cX2_arrange 143 = .ok (.iinc 1 1, 3) := by decide +kernel
theorem dX2_arrange_146 : decode cX2_arrange 146 = .ok (.goto (-110), 3) := by decide +kernel
theorem dX2_arrange_149 : decode cX2_arrange 149 = .ok (.return_, 1) := by decide +kernel
set_option maxRecDepth 20000 in
set_option maxHeartbeats 4000000 in
theorem k_Lp_arrange (l : Launch) (w : WT) (σ : MM) : CT SX l w yX2_arrange cX2_arrange 4 none 3 64 [.ref (w.2.2 1)] σ (PV fun σ1 => Mod [7, 8, 54] σ σ1 ∧ (AR (σ 5) (σ 6) (σ 53 0) (σ1 7) (σ1 8) (σ1 54 0)) ∧ (Stuck (σ 5) (σ 6) (σ 53 0) (σ1 8))) := by
  refine CT.of 3 [some (.ref (w.2.2 1)), none, none, none] (by decide) (by simp [lg_sl, Value.category]) rfl sh_X (fun G hX => ?_)
  refine r_bd hX (fun hB => ?_)
  have b_53 := hB 53 0 8 rfl 0
  refine r_iconst hX dX2_arrange_0 ?_
  refine r_istore_n hX (fun x1 => [some (.ref (w.2.2 1)), some (.int (iI x1)), none, none]) dX2_arrange_1 (Nat.le_of_ble_eq_true rfl) rfl rfl (fun _ => rfl) (fun x1 e1 => ?_)
  have lp2 : ∀ (n : Nat) (act : Int) (σ2 : MM) (m2 : Mod [8] σ σ2) (ha : 0 ≤ act ∧ act ≤ σ 53 0) (hz : ∀ a, 0 ≤ a → a < act → σ2 8 a = 0) (hmu : 9 - act < (n : Int)), G 2 [some (.ref (w.2.2 1)), some (.int (iI act)), none, none] [] σ2 := by
    intro n
    induction n with
    | zero => intro act σ2 m2 ha hz hmu; omega
    | succ n ih =>
      intro act σ2 m2 ha hz hmu
      have ih2 := ih
      clear ih
      refine r_iload_n hX dX2_arrange_2 rfl ?_
      refine r_aload_n hX dX2_arrange_3 rfl ?_
      refine fg_X1_37 hX dX2_arrange_4 (fun b4l b4u => ?_)
      have q4 : σ2 53 = σ 53 := (m2.at 53 rfl)
      rw [q4]
      rw [q4] at b4l b4u
      refine r_icmp_ge hX (tgt := 29) dX2_arrange_7 (by decide) (by omega) (by omega) (fun c7 => ?_) (fun c7 => ?_)
      · skip
        refine r_aload_n hX dX2_arrange_29 rfl ?_
        refine r_iconst hX dX2_arrange_30 ?_
        refine fp_X1_44 hX dX2_arrange_31 (by omega) (fun σ31 m31 s31 => ?_)
        refine r_iconst hX dX2_arrange_34 ?_
        refine r_istore_n hX (fun x35 => [some (.ref (w.2.2 1)), some (.int (iI x35)), none, none]) dX2_arrange_35 (Nat.le_of_ble_eq_true rfl) rfl rfl (fun _ => rfl) (fun x35 e35 => ?_)
        have lp36 : ∀ (n : Nat) (pass : Int) (σ36 : MM) (m36 : Mod [7, 8, 54] σ31 σ36) (hp : 0 ≤ pass ∧ pass ≤ σ 53 0) (hA : AR (σ 5) (σ 6) (σ 53 0) (σ36 7) (σ36 8) (σ36 54 0)) (hS : pass ≤ σ36 54 0 ∨ Stuck (σ 5) (σ 6) (σ 53 0) (σ36 8)) (hmu : 9 - pass < (n : Int)), G 36 [some (.ref (w.2.2 1)), some (.int (iI pass)), none, none] [] σ36 := by
          intro n
          induction n with
          | zero => intro pass σ36 m36 hp hA hS hmu; omega
          | succ n ih =>
            intro pass σ36 m36 hp hA hS hmu
            have ih36 := ih
            clear ih
            refine r_iload_n hX dX2_arrange_36 rfl ?_
            refine r_aload_n hX dX2_arrange_37 rfl ?_
            refine fg_X1_37 hX dX2_arrange_38 (fun b38l b38u => ?_)
            have q38 : σ36 53 = σ 53 := ((m36.at 53 rfl).trans ((m31.at 53 rfl).trans (m2.at 53 rfl)))
            rw [q38]
            rw [q38] at b38l b38u
            refine r_icmp_ge hX (tgt := 149) dX2_arrange_41 (by decide) (by omega) (by omega) (fun c41 => ?_) (fun c41 => ?_)
            · skip
              exact r_ret hX dX2_arrange_149 rfl ⟨rfl, ⟨(Mod.tr (L := [7, 8, 54]) (Mod.tr (L := [7, 8, 54]) m2 m31 rfl rfl) m36 rfl rfl), (by exact hA), (by exact hA.stuck (hS.imp (fun q => by omega) id))⟩⟩
            · skip
              refine r_iconst hX dX2_arrange_44 ?_
              refine r_istore_n hX (fun x45 => [some (.ref (w.2.2 1)), some (.int (iI pass)), some (.int (iI x45)), none]) dX2_arrange_45 (Nat.le_of_ble_eq_true rfl) rfl rfl (fun _ => rfl) (fun x45 e45 => ?_)
              have lp46 : ∀ (n : Nat) (act : Int) (σ46 : MM) (m46 : Mod [7, 8, 54] σ36 σ46) (ha : 0 ≤ act ∧ act ≤ σ 53 0) (hPS : PS (σ 5) (σ 6) (σ 53 0) (σ36 8) (σ36 54 0) act (σ46 7) (σ46 8) (σ46 54 0)) (hmu : 9 - act < (n : Int)), G 46 [some (.ref (w.2.2 1)), some (.int (iI pass)), some (.int (iI act)), none] [] σ46 := by
                intro n
                induction n with
                | zero => intro act σ46 m46 ha hPS hmu; omega
                | succ n ih =>
                  intro act σ46 m46 ha hPS hmu
                  have ih46 := ih
                  clear ih
                  refine r_iload_n hX dX2_arrange_46 rfl ?_
                  refine r_aload_n hX dX2_arrange_47 rfl ?_
                  refine fg_X1_37 hX dX2_arrange_48 (fun b48l b48u => ?_)
                  have q48 : σ46 53 = σ 53 := ((m46.at 53 rfl).trans ((m36.at 53 rfl).trans ((m31.at 53 rfl).trans (m2.at 53 rfl))))
                  rw [q48]
                  rw [q48] at b48l b48u
                  refine r_icmp_ge hX (tgt := 143) dX2_arrange_51 (by decide) (by omega) (by omega) (fun c51 => ?_) (fun c51 => ?_)
                  · skip
                    refine r_iinc hX (fun x143 => [some (.ref (w.2.2 1)), some (.int (iI x143)), some (.int (iI act)), none]) dX2_arrange_143 rfl rfl rfl (fun _ => rfl) (fun x143 e143 => ?_)
                    refine r_goto hX dX2_arrange_146 (tgt := 36) (by decide) ?_
                    refine r_wk hX (lv1 := [some (.ref (w.2.2 1)), some (.int (iI x143)), none, none]) ⟨rfl, ⟨rfl, trivial⟩⟩ ?_
                    exact ih36 x143 σ46 (Mod.tr (L := [7, 8, 54]) m36 m46 rfl rfl) (by omega) ((hPS.fin (p := pass) (by omega) hS).1) (by rw [e143]; exact (hPS.fin (p := pass) (by omega) hS).2) (by omega)
                  · skip
                    refine r_iload_n hX dX2_arrange_54 rfl ?_
                    refine r_bipush hX dX2_arrange_55 (by decide) ?_
                    refine r_icmp_ge hX (tgt := 143) dX2_arrange_57 (by decide) (by omega) (by omega) (fun c57 => ?_) (fun c57 => ?_)
                    · exfalso; omega
                    · skip
                      refine r_aload_n hX dX2_arrange_60 rfl ?_
                      refine fg_X1_30 hX dX2_arrange_61 ?_
                      refine r_iload_n hX dX2_arrange_64 rfl ?_
                      refine ld_X8 hX dX2_arrange_65 (by omega) (by omega) (fun b65l b65u => ?_)
                      refine r_if_ne hX (tgt := 95) dX2_arrange_66 (by decide) (by omega) (fun c66 => ?_) (fun c66 => ?_)
                      · skip
                        refine r_iconst hX dX2_arrange_95 ?_
                        refine r_istore_n hX (fun x96 => [some (.ref (w.2.2 1)), some (.int (iI pass)), some (.int (iI act)), some (.int (iI x96))]) dX2_arrange_96 (Nat.le_of_ble_eq_true rfl) rfl rfl (fun _ => rfl) (fun x96 e96 => ?_)
                        refine r_iload_n hX dX2_arrange_97 rfl ?_
                        refine r_if_eq hX (tgt := 137) dX2_arrange_98 (by decide) (by omega) (fun c98 => ?_) (fun c98 => by exfalso; omega)
                        refine r_iinc hX (fun x137 => [some (.ref (w.2.2 1)), some (.int (iI pass)), some (.int (iI x137)), some (.int (iI x96))]) dX2_arrange_137 rfl rfl rfl (fun _ => rfl) (fun x137 e137 => ?_)
                        refine r_goto hX dX2_arrange_140 (tgt := 46) (by decide) ?_
                        refine r_wk hX (lv1 := [some (.ref (w.2.2 1)), some (.int (iI pass)), some (.int (iI x137)), none]) ⟨rfl, ⟨rfl, ⟨rfl, trivial⟩⟩⟩ ?_
                        exact ih46 x137 σ46 (m46.w rfl) (by omega) (by rw [e137]; first | exact hPS.skip (Or.inl (by omega)) | exact hPS.skip (Or.inr fun q => cf_no h73_0 (by omega) q.1) | exact hPS.skip (Or.inr fun q => cf_no h85_0 (by omega) q.2) | (rw [m134.at 7 rfl, m134.at 8 rfl, m126.at 8 rfl, s134]; exact hPS.take (by omega) (by omega) (by omega) ⟨cf_yes h73_0 (by omega), cf_yes h85_0 (by omega)⟩ s116 s126)) (by omega)
                      · skip
                        refine r_aload_n hX dX2_arrange_69 rfl ?_
                        refine r_iconst hX dX2_arrange_70 ?_
                        refine r_iload_n hX dX2_arrange_71 rfl ?_
                        refine r_imul hX dX2_arrange_72 ?_
                        have qp73_53 : σ46 53 = σ 53 := ((m46.at 53 rfl).trans ((m36.at 53 rfl).trans ((m31.at 53 rfl).trans (m2.at 53 rfl))))
                        refine r_callV hX dX2_arrange_73 (k_Lp_canFollow l w σ46 _ (by omega) (by simp only [qp73_53]; omega)) mf_X2_canFollow mv_X2_canFollow lk_RX2_61 rfl rfl rfl rfl rfl ⟨Nat.le_of_ble_eq_true rfl, Nat.le_of_ble_eq_true rfl⟩ (Nat.le_of_ble_eq_true rfl) (kI fun z73 σ73 hh => ?_)
                        obtain ⟨rfl, h73_0⟩ := hh
                        have q73_1 : σ46 5 = σ 5 := ((m46.at 5 rfl).trans ((m36.at 5 rfl).trans ((m31.at 5 rfl).trans (m2.at 5 rfl))))
                        have q73_2 : σ46 6 = σ 6 := ((m46.at 6 rfl).trans ((m36.at 6 rfl).trans ((m31.at 6 rfl).trans (m2.at 6 rfl))))
                        have q73_3 : σ46 53 = σ 53 := ((m46.at 53 rfl).trans ((m36.at 53 rfl).trans ((m31.at 53 rfl).trans (m2.at 53 rfl))))
                        try simp only [q73_1, q73_2, q73_3] at h73_0
                        refine r_if_eq hX (tgt := 95) dX2_arrange_76 (by decide) (by omega) (fun c76 => ?_) (fun c76 => ?_)
                        · skip
                          refine r_iconst hX dX2_arrange_95 ?_
                          refine r_istore_n hX (fun x96 => [some (.ref (w.2.2 1)), some (.int (iI pass)), some (.int (iI act)), some (.int (iI x96))]) dX2_arrange_96 (Nat.le_of_ble_eq_true rfl) rfl rfl (fun _ => rfl) (fun x96 e96 => ?_)
                          refine r_iload_n hX dX2_arrange_97 rfl ?_
                          refine r_if_eq hX (tgt := 137) dX2_arrange_98 (by decide) (by omega) (fun c98 => ?_) (fun c98 => by exfalso; omega)
                          refine r_iinc hX (fun x137 => [some (.ref (w.2.2 1)), some (.int (iI pass)), some (.int (iI x137)), some (.int (iI x96))]) dX2_arrange_137 rfl rfl rfl (fun _ => rfl) (fun x137 e137 => ?_)
                          refine r_goto hX dX2_arrange_140 (tgt := 46) (by decide) ?_
                          refine r_wk hX (lv1 := [some (.ref (w.2.2 1)), some (.int (iI pass)), some (.int (iI x137)), none]) ⟨rfl, ⟨rfl, ⟨rfl, trivial⟩⟩⟩ ?_
                          exact ih46 x137 σ46 (m46.w rfl) (by omega) (by rw [e137]; first | exact hPS.skip (Or.inl (by omega)) | exact hPS.skip (Or.inr fun q => cf_no h73_0 (by omega) q.1) | exact hPS.skip (Or.inr fun q => cf_no h85_0 (by omega) q.2) | (rw [m134.at 7 rfl, m134.at 8 rfl, m126.at 8 rfl, s134]; exact hPS.take (by omega) (by omega) (by omega) ⟨cf_yes h73_0 (by omega), cf_yes h85_0 (by omega)⟩ s116 s126)) (by omega)
                        · skip
                          refine r_aload_n hX dX2_arrange_79 rfl ?_
                          refine r_iconst hX dX2_arrange_80 ?_
                          refine r_iload_n hX dX2_arrange_81 rfl ?_
                          refine r_imul hX dX2_arrange_82 ?_
                          refine r_iconst hX dX2_arrange_83 ?_
                          refine r_iadd hX dX2_arrange_84 ?_
                          have qp85_53 : σ46 53 = σ 53 := ((m46.at 53 rfl).trans ((m36.at 53 rfl).trans ((m31.at 53 rfl).trans (m2.at 53 rfl))))
                          refine r_callV hX dX2_arrange_85 (k_Lp_canFollow l w σ46 _ (by omega) (by simp only [qp85_53]; omega)) mf_X2_canFollow mv_X2_canFollow lk_RX2_61 rfl rfl rfl rfl rfl ⟨Nat.le_of_ble_eq_true rfl, Nat.le_of_ble_eq_true rfl⟩ (Nat.le_of_ble_eq_true rfl) (kI fun z85 σ85 hh => ?_)
                          obtain ⟨rfl, h85_0⟩ := hh
                          have q85_4 : σ46 5 = σ 5 := ((m46.at 5 rfl).trans ((m36.at 5 rfl).trans ((m31.at 5 rfl).trans (m2.at 5 rfl))))
                          have q85_5 : σ46 6 = σ 6 := ((m46.at 6 rfl).trans ((m36.at 6 rfl).trans ((m31.at 6 rfl).trans (m2.at 6 rfl))))
                          have q85_6 : σ46 53 = σ 53 := ((m46.at 53 rfl).trans ((m36.at 53 rfl).trans ((m31.at 53 rfl).trans (m2.at 53 rfl))))
                          try simp only [q85_4, q85_5, q85_6] at h85_0
                          refine r_if_eq hX (tgt := 95) dX2_arrange_88 (by decide) (by omega) (fun c88 => ?_) (fun c88 => ?_)
                          · skip
                            refine r_iconst hX dX2_arrange_95 ?_
                            refine r_istore_n hX (fun x96 => [some (.ref (w.2.2 1)), some (.int (iI pass)), some (.int (iI act)), some (.int (iI x96))]) dX2_arrange_96 (Nat.le_of_ble_eq_true rfl) rfl rfl (fun _ => rfl) (fun x96 e96 => ?_)
                            refine r_iload_n hX dX2_arrange_97 rfl ?_
                            refine r_if_eq hX (tgt := 137) dX2_arrange_98 (by decide) (by omega) (fun c98 => ?_) (fun c98 => by exfalso; omega)
                            refine r_iinc hX (fun x137 => [some (.ref (w.2.2 1)), some (.int (iI pass)), some (.int (iI x137)), some (.int (iI x96))]) dX2_arrange_137 rfl rfl rfl (fun _ => rfl) (fun x137 e137 => ?_)
                            refine r_goto hX dX2_arrange_140 (tgt := 46) (by decide) ?_
                            refine r_wk hX (lv1 := [some (.ref (w.2.2 1)), some (.int (iI pass)), some (.int (iI x137)), none]) ⟨rfl, ⟨rfl, ⟨rfl, trivial⟩⟩⟩ ?_
                            exact ih46 x137 σ46 (m46.w rfl) (by omega) (by rw [e137]; first | exact hPS.skip (Or.inl (by omega)) | exact hPS.skip (Or.inr fun q => cf_no h73_0 (by omega) q.1) | exact hPS.skip (Or.inr fun q => cf_no h85_0 (by omega) q.2) | (rw [m134.at 7 rfl, m134.at 8 rfl, m126.at 8 rfl, s134]; exact hPS.take (by omega) (by omega) (by omega) ⟨cf_yes h73_0 (by omega), cf_yes h85_0 (by omega)⟩ s116 s126)) (by omega)
                          · skip
                            refine r_iconst hX dX2_arrange_91 ?_
                            refine r_goto hX dX2_arrange_92 (tgt := 96) (by decide) ?_
                            refine r_istore_n hX (fun x96 => [some (.ref (w.2.2 1)), some (.int (iI pass)), some (.int (iI act)), some (.int (iI x96))]) dX2_arrange_96 (Nat.le_of_ble_eq_true rfl) rfl rfl (fun _ => rfl) (fun x96 e96 => ?_)
                            refine r_iload_n hX dX2_arrange_97 rfl ?_
                            refine r_if_eq hX (tgt := 137) dX2_arrange_98 (by decide) (by omega) (fun c98 => by exfalso; omega) (fun c98 => ?_)
                            have hlt := hPS.1.lt ha.1 (by omega) (by omega)
                            refine r_aload_n hX dX2_arrange_101 rfl ?_
                            refine fg_X1_44 hX dX2_arrange_102 (fun b102l b102u => ?_)
                            refine r_bipush hX dX2_arrange_105 (by decide) ?_
                            refine r_icmp_ge hX (tgt := 137) dX2_arrange_107 (by decide) (by omega) (by omega) (fun c107 => ?_) (fun c107 => ?_)
                            · exfalso; omega
                            · skip
                              refine r_aload_n hX dX2_arrange_110 rfl ?_
                              refine fg_X1_30 hX dX2_arrange_111 ?_
                              refine r_iload_n hX dX2_arrange_114 rfl ?_
                              refine r_iconst hX dX2_arrange_115 ?_
                              refine st_X8 hX dX2_arrange_116 (by omega) (by omega) (by omega) (fun σ116 m116 s116 => ?_)
                              refine r_aload_n hX dX2_arrange_117 rfl ?_
                              refine fg_X1_27 hX dX2_arrange_118 ?_
                              refine r_aload_n hX dX2_arrange_121 rfl ?_
                              refine fg_X1_44 hX dX2_arrange_122 (fun b122l b122u => ?_)
                              have q122 : σ116 54 = σ46 54 := (m116.at 54 rfl)
                              rw [q122]
                              rw [q122] at b122l b122u
                              refine r_iload_n hX dX2_arrange_125 rfl ?_
                              refine st_X7 hX dX2_arrange_126 (by omega) (by omega) (by omega) (fun σ126 m126 s126 => ?_)
                              simp only [show σ116 7 = σ46 7 from (m116.at 7 rfl)] at s126
                              refine r_aload_n hX dX2_arrange_127 rfl ?_
                              refine r_dup hX dX2_arrange_128 rfl ?_
                              refine fg_X1_44 hX dX2_arrange_129 (fun b129l b129u => ?_)
                              have q129 : σ126 54 = σ46 54 := ((m126.at 54 rfl).trans (m116.at 54 rfl))
                              rw [q129]
                              rw [q129] at b129l b129u
                              refine r_iconst hX dX2_arrange_132 ?_
                              refine r_iadd hX dX2_arrange_133 ?_
                              refine fp_X1_44 hX dX2_arrange_134 (by omega) (fun σ134 m134 s134 => ?_)
                              refine r_iinc hX (fun x137 => [some (.ref (w.2.2 1)), some (.int (iI pass)), some (.int (iI x137)), some (.int (iI x96))]) dX2_arrange_137 rfl rfl rfl (fun _ => rfl) (fun x137 e137 => ?_)
                              refine r_goto hX dX2_arrange_140 (tgt := 46) (by decide) ?_
                              refine r_wk hX (lv1 := [some (.ref (w.2.2 1)), some (.int (iI pass)), some (.int (iI x137)), none]) ⟨rfl, ⟨rfl, ⟨rfl, trivial⟩⟩⟩ ?_
                              exact ih46 x137 σ134 (Mod.tr (L := [7, 8, 54]) (Mod.tr (L := [7, 8, 54]) (Mod.tr (L := [7, 8, 54]) m46 m116 rfl rfl) m126 rfl rfl) m134 rfl rfl) (by omega) (by rw [e137]; first | exact hPS.skip (Or.inl (by omega)) | exact hPS.skip (Or.inr fun q => cf_no h73_0 (by omega) q.1) | exact hPS.skip (Or.inr fun q => cf_no h85_0 (by omega) q.2) | (rw [m134.at 7 rfl, m134.at 8 rfl, m126.at 8 rfl, s134]; exact hPS.take (by omega) (by omega) (by omega) ⟨cf_yes h73_0 (by omega), cf_yes h85_0 (by omega)⟩ s116 s126)) (by omega)
              exact lp46 ((9 - (x45)) + 1).toNat x45 σ36 Mod.rf (by omega) (by rw [e45]; exact PS.init hA) (by omega)
        exact lp36 ((9 - (x35)) + 1).toNat x35 σ31 Mod.rf (by omega) (by rw [s31]; exact AR.init (by omega) (fun a a0 a1 => by rw [m31.at 8 rfl]; exact hz a a0 (by omega))) (Or.inl (by omega)) (by omega)
      · skip
        refine r_iload_n hX dX2_arrange_10 rfl ?_
        refine r_bipush hX dX2_arrange_11 (by decide) ?_
        refine r_icmp_ge hX (tgt := 29) dX2_arrange_13 (by decide) (by omega) (by omega) (fun c13 => ?_) (fun c13 => ?_)
        · exfalso; omega
        · skip
          refine r_aload_n hX dX2_arrange_16 rfl ?_
          refine fg_X1_30 hX dX2_arrange_17 ?_
          refine r_iload_n hX dX2_arrange_20 rfl ?_
          refine r_iconst hX dX2_arrange_21 ?_
          refine st_X8 hX dX2_arrange_22 (by omega) (by omega) (by omega) (fun σ22 m22 s22 => ?_)
          refine r_iinc hX (fun x23 => [some (.ref (w.2.2 1)), some (.int (iI x23)), none, none]) dX2_arrange_23 rfl rfl rfl (fun _ => rfl) (fun x23 e23 => ?_)
          refine r_goto hX dX2_arrange_26 (tgt := 2) (by decide) ?_
          exact ih2 x23 σ22 (Mod.tr (L := [8]) m2 m22 rfl rfl) (by omega) (fun b b0 b1 => by rw [s22]; split; rfl; exact hz b b0 (by omega)) (by omega)
  exact lp2 ((9 - (x1)) + 1).toNat x1 σ Mod.rf (by omega) (fun b b0 b1 => by omega) (by omega)
