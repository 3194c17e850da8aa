theorem dX0_rows_0 : decode cX0_rows 0 = .ok (.aload_n 0, 1) := by decide +kernel
theorem dX0_rows_1 : decode cX0_rows 1 = .ok (.getfield 26, 3) := by decide +kernel
theorem dX0_rows_4 : decode cX0_rows 4 = .ok (.ireturn, 1) := by decide +kernel
set_option maxRecDepth 20000 in
set_option maxHeartbeats 4000000 in
theorem k_Gd_rows (l : Launch) (w : WT) (σ : MM) : CT SX l w yX0_rows cX0_rows 1 (some .int) 0 0 [.ref (w.2.2 10)] σ (PI fun z σ1 => σ = σ1 ∧ (z = σ 56 0) ∧ (1 ≤ z ∧ z ≤ 3)) := by
  refine CT.of 0 [some (.ref (w.2.2 10))] (by decide +kernel) (by simp [lg_sl, Value.category]) rfl sh_X (fun G hX => ?_)
  refine r_aload_n hX dX0_rows_0 rfl ?_
  refine fg_X10_26 hX dX0_rows_1 (fun b1l b1u => ?_)
  exact r_iret hX dX0_rows_4 rfl ⟨_, rfl, ⟨rfl, (by omega), (by omega)⟩⟩
theorem dX0_columns_0 : decode cX0_columns 0 = .ok (.aload_n 0, 1) := by decide +kernel
theorem dX0_columns_1 : decode cX0_columns 1 = .ok (.getfield 30, 3) := by decide +kernel
theorem dX0_columns_4 : decode cX0_columns 4 = .ok (.ireturn, 1) := by decide +kernel
set_option maxRecDepth 20000 in
set_option maxHeartbeats 4000000 in
theorem k_Gd_columns (l : Launch) (w : WT) (σ : MM) : CT SX l w yX0_columns cX0_columns 1 (some .int) 0 0 [.ref (w.2.2 10)] σ (PI fun z σ1 => σ = σ1 ∧ (z = σ 57 0) ∧ (1 ≤ z ∧ z ≤ 3)) := by
  refine CT.of 0 [some (.ref (w.2.2 10))] (by decide +kernel) (by simp [lg_sl, Value.category]) rfl sh_X (fun G hX => ?_)
  refine r_aload_n hX dX0_columns_0 rfl ?_
  refine fg_X10_30 hX dX0_columns_1 (fun b1l b1u => ?_)
  exact r_iret hX dX0_columns_4 rfl ⟨_, rfl, ⟨rfl, (by omega), (by omega)⟩⟩
theorem dX0_cells_0 : decode cX0_cells 0 = .ok (.aload_n 0, 1) := by decide +kernel
theorem dX0_cells_1 : decode cX0_cells 1 = .ok (.getfield 26, 3) := by decide +kernel
theorem dX0_cells_4 : decode cX0_cells 4 = .ok (.aload_n 0, 1) := by decide +kernel
theorem dX0_cells_5 : decode cX0_cells 5 = .ok (.getfield 30, 3) := by decide +kernel
theorem dX0_cells_8 : decode cX0_cells 8 = .ok (.imul, 1) := by decide +kernel
theorem dX0_cells_9 : decode cX0_cells 9 = .ok (.ireturn, 1) := by decide +kernel
set_option maxRecDepth 20000 in
set_option maxHeartbeats 4000000 in
theorem k_Gd_cells (l : Launch) (w : WT) (σ : MM) : CT SX l w yX0_cells cX0_cells 1 (some .int) 0 0 [.ref (w.2.2 10)] σ (PI fun z σ1 => σ = σ1 ∧ (z = σ 56 0 * σ 57 0) ∧ (1 ≤ z ∧ z ≤ 9)) := by
  refine CT.of 0 [some (.ref (w.2.2 10))] (by decide +kernel) (by simp [lg_sl, Value.category]) rfl sh_X (fun G hX => ?_)
  refine r_bd hX (fun hBd => ?_)
  have b_56 := hBd 56 1 3 rfl 0
  have b_57 := hBd 57 1 3 rfl 0
  have hn := mul_bd b_56 b_57
  refine r_aload_n hX dX0_cells_0 rfl ?_
  refine fg_X10_26 hX dX0_cells_1 (fun b1l b1u => ?_)
  refine r_aload_n hX dX0_cells_4 rfl ?_
  refine fg_X10_30 hX dX0_cells_5 (fun b5l b5u => ?_)
  refine r_imul hX dX0_cells_8 ?_
  exact r_iret hX dX0_cells_9 rfl ⟨_, rfl, ⟨rfl, (by omega), (by omega)⟩⟩
theorem dX0_isThere_0 : decode cX0_isThere 0 = .ok (.iload_n 1, 1) := by decide +kernel
theorem dX0_isThere_1 : decode cX0_isThere 1 = .ok (.ifCond .lt 26, 3) := by decide +kernel
theorem dX0_isThere_4 : decode cX0_isThere 4 = .ok (.iload_n 1, 1) := by decide +kernel
theorem dX0_isThere_5 : decode cX0_isThere 5 = .ok (.aload_n 0, 1) := by decide +kernel
theorem dX0_isThere_6 : decode cX0_isThere 6 = .ok (.getfield 26, 3) := by decide +kernel
theorem dX0_isThere_9 : decode cX0_isThere 9 = .ok (.aload_n 0, 1) := by decide +kernel
theorem dX0_isThere_10 : decode cX0_isThere 10 = .ok (.getfield 30, 3) := by decide +kernel
theorem dX0_isThere_13 : decode cX0_isThere 13 = .ok (.imul, 1) := by decide +kernel
theorem dX0_isThere_14 : decode cX0_isThere 14 = .ok (.if_icmp .ge 13, 3) := by decide +kernel
theorem dX0_isThere_17 : decode cX0_isThere 17 = .ok (.iload_n 1, 1) := by decide +kernel
theorem dX0_isThere_18 : decode cX0_isThere 18 = .ok (.bipush 9, 2) := by decide +kernel
theorem dX0_isThere_20 : decode cX0_isThere 20 = .ok (.if_icmp .ge 7, 3) := by decide +kernel
theorem dX0_isThere_23 : decode cX0_isThere 23 = .ok (.iconst 1, 1) := by decide +kernel
theorem dX0_isThere_24 : decode cX0_isThere 24 = .ok (.goto 4, 3) := by decide +kernel
theorem dX0_isThere_27 : decode cX0_isThere 27 = .ok (.iconst 0, 1) := by decide +kernel
theorem dX0_isThere_28 : decode cX0_isThere 28 = .ok (.ireturn, 1) := by decide +kernel
set_option maxRecDepth 20000 in
set_option maxHeartbeats 4000000 in
theorem k_Gd_isThere (l : Launch) (w : WT) (σ : MM) (a : Int) (i_a : inr a) : CT SX l w yX0_isThere cX0_isThere 2 (some .boolean) 0 0 [.ref (w.2.2 10), .int (iI a)] σ (PI fun z σ1 => σ = σ1 ∧ ((z = 1 ∧ 0 ≤ a ∧ a < σ 56 0 * σ 57 0 ∧ a < 9) ∨ (z = 0 ∧ (a < 0 ∨ σ 56 0 * σ 57 0 ≤ a)))) := by
  refine CT.of 0 [some (.ref (w.2.2 10)), some (.int (iI a))] (by decide +kernel) (by simp [lg_sl, Value.category]) rfl sh_X (fun G hX => ?_)
  refine r_bd hX (fun hBd => ?_)
  have b_56 := hBd 56 1 3 rfl 0
  have b_57 := hBd 57 1 3 rfl 0
  have hn := mul_bd b_56 b_57
  refine r_iload_n hX dX0_isThere_0 rfl ?_
  refine r_if_lt hX (tgt := 27) dX0_isThere_1 (by decide) (by omega) (fun c1 => ?_) (fun c1 => ?_)
  · skip
    refine r_iconst hX dX0_isThere_27 ?_
    exact r_zret hX dX0_isThere_28 rfl (by omega) ⟨_, rfl, ⟨rfl, (by omega)⟩⟩
  · skip
    refine r_iload_n hX dX0_isThere_4 rfl ?_
    refine r_aload_n hX dX0_isThere_5 rfl ?_
    refine fg_X10_26 hX dX0_isThere_6 (fun b6l b6u => ?_)
    refine r_aload_n hX dX0_isThere_9 rfl ?_
    refine fg_X10_30 hX dX0_isThere_10 (fun b10l b10u => ?_)
    refine r_imul hX dX0_isThere_13 ?_
    refine r_icmp_ge hX (tgt := 27) dX0_isThere_14 (by decide) (by omega) (by omega) (fun c14 => ?_) (fun c14 => ?_)
    · skip
      refine r_iconst hX dX0_isThere_27 ?_
      exact r_zret hX dX0_isThere_28 rfl (by omega) ⟨_, rfl, ⟨rfl, (by omega)⟩⟩
    · skip
      refine r_iload_n hX dX0_isThere_17 rfl ?_
      refine r_bipush hX dX0_isThere_18 (by decide) ?_
      refine r_icmp_ge hX (tgt := 27) dX0_isThere_20 (by decide) (by omega) (by omega) (fun c20 => ?_) (fun c20 => ?_)
      · skip
        refine r_iconst hX dX0_isThere_27 ?_
        exact r_zret hX dX0_isThere_28 rfl (by omega) ⟨_, rfl, ⟨rfl, (by omega)⟩⟩
      · skip
        refine r_iconst hX dX0_isThere_23 ?_
        refine r_goto hX dX0_isThere_24 (tgt := 28) (by decide) ?_
        exact r_zret hX dX0_isThere_28 rfl (by omega) ⟨_, rfl, ⟨rfl, (by omega)⟩⟩
theorem dX0_isOpen_0 : decode cX0_isOpen 0 = .ok (.aload_n 0, 1) := by decide +kernel
theorem dX0_isOpen_1 : decode cX0_isOpen 1 = .ok (.iload_n 1, 1) := by decide +kernel
theorem dX0_isOpen_2 : decode cX0_isOpen 2 = .ok (.invokevirtual 36, 3) := by decide +kernel
theorem dX0_isOpen_5 : decode cX0_isOpen 5 = .ok (.ifCond .eq 16, 3) := by decide +kernel
theorem dX0_isOpen_8 : decode cX0_isOpen 8 = .ok (.aload_n 0, 1) := by decide +kernel
theorem dX0_isOpen_9 : decode cX0_isOpen 9 = .ok (.getfield 9, 3) := by decide +kernel
theorem dX0_isOpen_12 : decode cX0_isOpen 12 = .ok (.iload_n 1, 1) := by decide +kernel
theorem dX0_isOpen_13 : decode cX0_isOpen 13 = .ok (.baload, 1) := by decide +kernel
theorem dX0_isOpen_14 : decode cX0_isOpen 14 = .ok (.ifCond .ne 7, 3) := by decide +kernel
theorem dX0_isOpen_17 : decode cX0_isOpen 17 = .ok (.iconst 1, 1) := by decide +kernel
theorem dX0_isOpen_18 : decode cX0_isOpen 18 = .ok (.goto 4, 3) := by decide +kernel
theorem dX0_isOpen_21 : decode cX0_isOpen 21 = .ok (.iconst 0, 1) := by decide +kernel
theorem dX0_isOpen_22 : decode cX0_isOpen 22 = .ok (.ireturn, 1) := by decide +kernel
set_option maxRecDepth 20000 in
set_option maxHeartbeats 4000000 in
theorem k_Gd_isOpen (l : Launch) (w : WT) (σ : MM) (a : Int) (i_a : inr a) : CT SX l w yX0_isOpen cX0_isOpen 2 (some .boolean) 1 21 [.ref (w.2.2 10), .int (iI a)] σ (PI fun z σ1 => σ = σ1 ∧ ((z = 1 ∧ 0 ≤ a ∧ a < σ 56 0 * σ 57 0 ∧ σ 11 a = 0) ∨ (z = 0 ∧ (a < 0 ∨ σ 56 0 * σ 57 0 ≤ a ∨ σ 11 a = 1)))) := by
  refine CT.of 0 [some (.ref (w.2.2 10)), some (.int (iI a))] (by decide +kernel) (by simp [lg_sl, Value.category]) rfl sh_X (fun G hX => ?_)
  refine r_aload_n hX dX0_isOpen_0 rfl ?_
  refine r_iload_n hX dX0_isOpen_1 rfl ?_
  refine r_callV hX dX0_isOpen_2 (k_Gd_isThere l w σ _ (by omega)) mf_X0_isThere mv_X0_isThere lk_RX0_36 rfl rfl rfl rfl rfl ⟨Nat.le_of_ble_eq_true rfl, Nat.le_of_ble_eq_true rfl⟩ (Nat.le_of_ble_eq_true rfl) (kI fun z2 σ2 hh => ?_)
  obtain ⟨rfl, h2_0⟩ := hh
  refine r_if_eq hX (tgt := 21) dX0_isOpen_5 (by decide) (by omega) (fun c5 => ?_) (fun c5 => ?_)
  · skip
    refine r_iconst hX dX0_isOpen_21 ?_
    exact r_zret hX dX0_isOpen_22 rfl (by omega) ⟨_, rfl, ⟨rfl, (by omega)⟩⟩
  · skip
    refine r_aload_n hX dX0_isOpen_8 rfl ?_
    refine fg_X10_9 hX dX0_isOpen_9 ?_
    refine r_iload_n hX dX0_isOpen_12 rfl ?_
    refine ld_X11 hX dX0_isOpen_13 (by omega) (by omega) (fun b13l b13u => ?_)
    refine r_if_ne hX (tgt := 21) dX0_isOpen_14 (by decide) (by omega) (fun c14 => ?_) (fun c14 => ?_)
    · skip
      refine r_iconst hX dX0_isOpen_21 ?_
      exact r_zret hX dX0_isOpen_22 rfl (by omega) ⟨_, rfl, ⟨rfl, (by omega)⟩⟩
    · skip
      refine r_iconst hX dX0_isOpen_17 ?_
      refine r_goto hX dX0_isOpen_18 (tgt := 22) (by decide) ?_
      exact r_zret hX dX0_isOpen_22 rfl (by omega) ⟨_, rfl, ⟨rfl, (by omega)⟩⟩
theorem dX0_isBroken_0 : decode cX0_isBroken 0 = .ok (.aload_n 0, 1) := by decide +kernel
theorem dX0_isBroken_1 : decode cX0_isBroken 1 = .ok (.iload_n 1, 1) := by decide +kernel
theorem dX0_isBroken_2 : decode cX0_isBroken 2 = .ok (.invokevirtual 36, 3) := by decide +kernel
theorem dX0_isBroken_5 : decode cX0_isBroken 5 = .ok (.ifCond .eq 16, 3) := by decide +kernel
theorem dX0_isBroken_8 : decode cX0_isBroken 8 = .ok (.aload_n 0, 1) := by decide +kernel
theorem dX0_isBroken_9 : decode cX0_isBroken 9 = .ok (.getfield 9, 3) := by decide +kernel
theorem dX0_isBroken_12 : decode cX0_isBroken 12 = .ok (.iload_n 1, 1) := by decide +kernel
theorem dX0_isBroken_13 : decode cX0_isBroken 13 = .ok (.baload, 1) := by decide +kernel
theorem dX0_isBroken_14 : decode cX0_isBroken 14 = .ok (.ifCond .eq 7, 3) := by decide +kernel
theorem dX0_isBroken_17 : decode cX0_isBroken 17 = .ok (.iconst 1, 1) := by decide +kernel
theorem dX0_isBroken_18 : decode cX0_isBroken 18 = .ok (.goto 4, 3) := by decide +kernel
theorem dX0_isBroken_21 : decode cX0_isBroken 21 = .ok (.iconst 0, 1) := by decide +kernel
theorem dX0_isBroken_22 : decode cX0_isBroken 22 = .ok (.ireturn, 1) := by decide +kernel
set_option maxRecDepth 20000 in
set_option maxHeartbeats 4000000 in
theorem k_Gd_isBroken (l : Launch) (w : WT) (σ : MM) (a : Int) (i_a : inr a) : CT SX l w yX0_isBroken cX0_isBroken 2 (some .boolean) 1 21 [.ref (w.2.2 10), .int (iI a)] σ (PI fun z σ1 => σ = σ1 ∧ ((z = 1 ∧ 0 ≤ a ∧ a < σ 56 0 * σ 57 0 ∧ σ 11 a = 1) ∨ (z = 0 ∧ (a < 0 ∨ σ 56 0 * σ 57 0 ≤ a ∨ σ 11 a = 0)))) := by
  refine CT.of 0 [some (.ref (w.2.2 10)), some (.int (iI a))] (by decide +kernel) (by simp [lg_sl, Value.category]) rfl sh_X (fun G hX => ?_)
  refine r_aload_n hX dX0_isBroken_0 rfl ?_
  refine r_iload_n hX dX0_isBroken_1 rfl ?_
  refine r_callV hX dX0_isBroken_2 (k_Gd_isThere l w σ _ (by omega)) mf_X0_isThere mv_X0_isThere lk_RX0_36 rfl rfl rfl rfl rfl ⟨Nat.le_of_ble_eq_true rfl, Nat.le_of_ble_eq_true rfl⟩ (Nat.le_of_ble_eq_true rfl) (kI fun z2 σ2 hh => ?_)
  obtain ⟨rfl, h2_0⟩ := hh
  refine r_if_eq hX (tgt := 21) dX0_isBroken_5 (by decide) (by omega) (fun c5 => ?_) (fun c5 => ?_)
  · skip
    refine r_iconst hX dX0_isBroken_21 ?_
    exact r_zret hX dX0_isBroken_22 rfl (by omega) ⟨_, rfl, ⟨rfl, (by omega)⟩⟩
  · skip
    refine r_aload_n hX dX0_isBroken_8 rfl ?_
    refine fg_X10_9 hX dX0_isBroken_9 ?_
    refine r_iload_n hX dX0_isBroken_12 rfl ?_
    refine ld_X11 hX dX0_isBroken_13 (by omega) (by omega) (fun b13l b13u => ?_)
    refine r_if_eq hX (tgt := 21) dX0_isBroken_14 (by decide) (by omega) (fun c14 => ?_) (fun c14 => ?_)
    · skip
      refine r_iconst hX dX0_isBroken_21 ?_
      exact r_zret hX dX0_isBroken_22 rfl (by omega) ⟨_, rfl, ⟨rfl, (by omega)⟩⟩
    · skip
      refine r_iconst hX dX0_isBroken_17 ?_
      refine r_goto hX dX0_isBroken_18 (tgt := 22) (by decide) ?_
      exact r_zret hX dX0_isBroken_22 rfl (by omega) ⟨_, rfl, ⟨rfl, (by omega)⟩⟩
theorem dX0_isMultiplying_0 : decode cX0_isMultiplying 0 = .ok (.aload_n 0, 1) := by decide +kernel
theorem dX0_isMultiplying_1 : decode cX0_isMultiplying 1 = .ok (.iload_n 1, 1) := by decide +kernel
theorem dX0_isMultiplying_2 : decode cX0_isMultiplying 2 = .ok (.invokevirtual 36, 3) := by decide +kernel
theorem dX0_isMultiplying_5 : decode cX0_isMultiplying 5 = .ok (.ifCond .eq 16, 3) := by decide +kernel
theorem dX0_isMultiplying_8 : decode cX0_isMultiplying 8 = .ok (.aload_n 0, 1) := by decide +kernel
theorem dX0_isMultiplying_9 : decode cX0_isMultiplying 9 = .ok (.getfield 15, 3) := by decide +kernel
theorem dX0_isMultiplying_12 : decode cX0_isMultiplying 12 = .ok (.iload_n 1, 1) := by decide +kernel
theorem dX0_isMultiplying_13 : decode cX0_isMultiplying 13 = .ok (.baload, 1) := by decide +kernel
theorem dX0_isMultiplying_14 : decode cX0_isMultiplying 14 = .ok (.ifCond .eq 7, 3) := by decide +kernel
theorem dX0_isMultiplying_17 : decode cX0_isMultiplying 17 = .ok (.iconst 1, 1) := by decide +kernel
theorem dX0_isMultiplying_18 : decode cX0_isMultiplying 18 = .ok (.goto 4, 3) := by decide +kernel
theorem dX0_isMultiplying_21 : decode cX0_isMultiplying 21 = .ok (.iconst 0, 1) := by decide +kernel
theorem dX0_isMultiplying_22 : decode cX0_isMultiplying 22 = .ok (.ireturn, 1) := by decide +kernel
set_option maxRecDepth 20000 in
set_option maxHeartbeats 4000000 in
theorem k_Gd_isMultiplying (l : Launch) (w : WT) (σ : MM) (a : Int) (i_a : inr a) : CT SX l w yX0_isMultiplying cX0_isMultiplying 2 (some .boolean) 1 21 [.ref (w.2.2 10), .int (iI a)] σ (PI fun z σ1 => σ = σ1 ∧ ((z = 1 ∧ 0 ≤ a ∧ a < σ 56 0 * σ 57 0 ∧ σ 12 a = 1) ∨ (z = 0 ∧ (a < 0 ∨ σ 56 0 * σ 57 0 ≤ a ∨ σ 12 a = 0)))) := by
  refine CT.of 0 [some (.ref (w.2.2 10)), some (.int (iI a))] (by decide +kernel) (by simp [lg_sl, Value.category]) rfl sh_X (fun G hX => ?_)
  refine r_aload_n hX dX0_isMultiplying_0 rfl ?_
  refine r_iload_n hX dX0_isMultiplying_1 rfl ?_
  refine r_callV hX dX0_isMultiplying_2 (k_Gd_isThere l w σ _ (by omega)) mf_X0_isThere mv_X0_isThere lk_RX0_36 rfl rfl rfl rfl rfl ⟨Nat.le_of_ble_eq_true rfl, Nat.le_of_ble_eq_true rfl⟩ (Nat.le_of_ble_eq_true rfl) (kI fun z2 σ2 hh => ?_)
  obtain ⟨rfl, h2_0⟩ := hh
  refine r_if_eq hX (tgt := 21) dX0_isMultiplying_5 (by decide) (by omega) (fun c5 => ?_) (fun c5 => ?_)
  · skip
    refine r_iconst hX dX0_isMultiplying_21 ?_
    exact r_zret hX dX0_isMultiplying_22 rfl (by omega) ⟨_, rfl, ⟨rfl, (by omega)⟩⟩
  · skip
    refine r_aload_n hX dX0_isMultiplying_8 rfl ?_
    refine fg_X10_15 hX dX0_isMultiplying_9 ?_
    refine r_iload_n hX dX0_isMultiplying_12 rfl ?_
    refine ld_X12 hX dX0_isMultiplying_13 (by omega) (by omega) (fun b13l b13u => ?_)
    refine r_if_eq hX (tgt := 21) dX0_isMultiplying_14 (by decide) (by omega) (fun c14 => ?_) (fun c14 => ?_)
    · skip
      refine r_iconst hX dX0_isMultiplying_21 ?_
      exact r_zret hX dX0_isMultiplying_22 rfl (by omega) ⟨_, rfl, ⟨rfl, (by omega)⟩⟩
    · skip
      refine r_iconst hX dX0_isMultiplying_17 ?_
      refine r_goto hX dX0_isMultiplying_18 (tgt := 22) (by decide) ?_
      exact r_zret hX dX0_isMultiplying_22 rfl (by omega) ⟨_, rfl, ⟨rfl, (by omega)⟩⟩
theorem dX0_suits_0 : decode cX0_suits 0 = .ok (.aload_n 0, 1) := by decide +kernel
theorem dX0_suits_1 : decode cX0_suits 1 = .ok (.iload_n 2, 1) := by decide +kernel
theorem dX0_suits_2 : decode cX0_suits 2 = .ok (.invokevirtual 36, 3) := by decide +kernel
theorem dX0_suits_5 : decode cX0_suits 5 = .ok (.ifCond .eq 21, 3) := by decide +kernel
theorem dX0_suits_8 : decode cX0_suits 8 = .ok (.iload_n 1, 1) := by decide +kernel
theorem dX0_suits_9 : decode cX0_suits 9 = .ok (.iconst 3, 1) := by decide +kernel
theorem dX0_suits_10 : decode cX0_suits 10 = .ok (.if_icmp .ne 12, 3) := by decide +kernel
theorem dX0_suits_13 : decode cX0_suits 13 = .ok (.aload_n 0, 1) := by decide +kernel
theorem dX0_suits_14 : decode cX0_suits 14 = .ok (.getfield 15, 3) := by decide +kernel
theorem dX0_suits_17 : decode cX0_suits 17 = .ok (.iload_n 2, 1) := by decide +kernel
theorem dX0_suits_18 : decode cX0_suits 18 = .ok (.baload, 1) := by decide +kernel
theorem dX0_suits_19 : decode cX0_suits 19 = .ok (.ifCond .eq 7, 3) := by decide +kernel
theorem dX0_suits_22 : decode cX0_suits 22 = .ok (.iconst 1, 1) := by decide +kernel
theorem dX0_suits_23 : decode cX0_suits 23 = .ok (.goto 4, 3) := by decide +kernel
theorem dX0_suits_26 : decode cX0_suits 26 = .ok (.iconst 0, 1) := by decide +kernel
theorem dX0_suits_27 : decode cX0_suits 27 = .ok (.ireturn, 1) := by decide +kernel
set_option maxRecDepth 20000 in
set_option maxHeartbeats 4000000 in
theorem k_Gd_suits (l : Launch) (w : WT) (σ : MM) (k : Int) (a : Int) (i_k : inr k) (i_a : inr a) : CT SX l w yX0_suits cX0_suits 3 (some .boolean) 1 21 [.ref (w.2.2 10), .int (iI k), .int (iI a)] σ (PI fun z σ1 => σ = σ1 ∧ ((z = 1 ∧ 0 ≤ a ∧ a < σ 56 0 * σ 57 0 ∧ (k ≠ 3 ∨ σ 12 a = 1)) ∨ (z = 0 ∧ (a < 0 ∨ σ 56 0 * σ 57 0 ≤ a ∨ (k = 3 ∧ σ 12 a = 0))))) := by
  refine CT.of 0 [some (.ref (w.2.2 10)), some (.int (iI k)), some (.int (iI a))] (by decide +kernel) (by simp [lg_sl, Value.category]) rfl sh_X (fun G hX => ?_)
  refine r_aload_n hX dX0_suits_0 rfl ?_
  refine r_iload_n hX dX0_suits_1 rfl ?_
  refine r_callV hX dX0_suits_2 (k_Gd_isThere l w σ _ (by omega)) mf_X0_isThere mv_X0_isThere lk_RX0_36 rfl rfl rfl rfl rfl ⟨Nat.le_of_ble_eq_true rfl, Nat.le_of_ble_eq_true rfl⟩ (Nat.le_of_ble_eq_true rfl) (kI fun z2 σ2 hh => ?_)
  obtain ⟨rfl, h2_0⟩ := hh
  refine r_if_eq hX (tgt := 26) dX0_suits_5 (by decide) (by omega) (fun c5 => ?_) (fun c5 => ?_)
  · skip
    refine r_iconst hX dX0_suits_26 ?_
    exact r_zret hX dX0_suits_27 rfl (by omega) ⟨_, rfl, ⟨rfl, (by omega)⟩⟩
  · skip
    refine r_iload_n hX dX0_suits_8 rfl ?_
    refine r_iconst hX dX0_suits_9 ?_
    refine r_icmp_ne hX (tgt := 22) dX0_suits_10 (by decide) (by omega) (by omega) (fun c10 => ?_) (fun c10 => ?_)
    · skip
      refine r_iconst hX dX0_suits_22 ?_
      refine r_goto hX dX0_suits_23 (tgt := 27) (by decide) ?_
      exact r_zret hX dX0_suits_27 rfl (by omega) ⟨_, rfl, ⟨rfl, (by omega)⟩⟩
    · skip
      refine r_aload_n hX dX0_suits_13 rfl ?_
      refine fg_X10_15 hX dX0_suits_14 ?_
      refine r_iload_n hX dX0_suits_17 rfl ?_
      refine ld_X12 hX dX0_suits_18 (by omega) (by omega) (fun b18l b18u => ?_)
      refine r_if_eq hX (tgt := 26) dX0_suits_19 (by decide) (by omega) (fun c19 => ?_) (fun c19 => ?_)
      · skip
        refine r_iconst hX dX0_suits_26 ?_
        exact r_zret hX dX0_suits_27 rfl (by omega) ⟨_, rfl, ⟨rfl, (by omega)⟩⟩
      · skip
        refine r_iconst hX dX0_suits_22 ?_
        refine r_goto hX dX0_suits_23 (tgt := 27) (by decide) ?_
        exact r_zret hX dX0_suits_27 rfl (by omega) ⟨_, rfl, ⟨rfl, (by omega)⟩⟩
theorem dX0_setMultiplying_0 : decode cX0_setMultiplying 0 = .ok (.aload_n 0, 1) := by decide +kernel
theorem dX0_setMultiplying_1 : decode cX0_setMultiplying 1 = .ok (.iload_n 1, 1) := by decide +kernel
theorem dX0_setMultiplying_2 : decode cX0_setMultiplying 2 = .ok (.invokevirtual 36, 3) := by decide +kernel
theorem dX0_setMultiplying_5 : decode cX0_setMultiplying 5 = .ok (.ifCond .eq 10, 3) := by decide +kernel
theorem dX0_setMultiplying_8 : decode cX0_setMultiplying 8 = .ok (.aload_n 0, 1) := by decide +kernel
theorem dX0_setMultiplying_9 : decode cX0_setMultiplying 9 = .ok (.getfield 15, 3) := by decide +kernel
theorem dX0_setMultiplying_12 : decode cX0_setMultiplying 12 = .ok (.iload_n 1, 1) := by decide +kernel
theorem dX0_setMultiplying_13 : decode cX0_setMultiplying 13 = .ok (.iload_n 2, 1) := by decide +kernel
theorem dX0_setMultiplying_14 : decode cX0_setMultiplying 14 = .ok (.bastore, 1) := by decide +kernel
theorem dX0_setMultiplying_15 : decode cX0_setMultiplying 15 = .ok (.return_, 1) := by decide +kernel
set_option maxRecDepth 20000 in
set_option maxHeartbeats 4000000 in
theorem k_Gd_setMultiplying (l : Launch) (w : WT) (σ : MM) (a : Int) (v : Int) (i_a : inr a) (i_v : inr v) (ha : 0 ≤ a ∧ a < σ 56 0 * σ 57 0) (hv : v = 0 ∨ v = 1) : CT SX l w yX0_setMultiplying cX0_setMultiplying 3 none 1 21 [.ref (w.2.2 10), .int (iI a), .int (iI v)] σ (PV fun σ1 => Mod [12] σ σ1 ∧ (∀ b : Int, σ1 12 b = if b = a then v else σ 12 b)) := by
  refine CT.of 0 [some (.ref (w.2.2 10)), some (.int (iI a)), some (.int (iI v))] (by decide +kernel) (by simp [lg_sl, Value.category]) rfl sh_X (fun G hX => ?_)
  refine r_aload_n hX dX0_setMultiplying_0 rfl ?_
  refine r_iload_n hX dX0_setMultiplying_1 rfl ?_
  refine r_callV hX dX0_setMultiplying_2 (k_Gd_isThere l w σ _ (by omega)) mf_X0_isThere mv_X0_isThere lk_RX0_36 rfl rfl rfl rfl rfl ⟨Nat.le_of_ble_eq_true rfl, Nat.le_of_ble_eq_true rfl⟩ (Nat.le_of_ble_eq_true rfl) (kI fun z2 σ2 hh => ?_)
  obtain ⟨rfl, h2_0⟩ := hh
  refine r_if_eq hX (tgt := 15) dX0_setMultiplying_5 (by decide) (by omega) (fun c5 => ?_) (fun c5 => ?_)
  · exfalso; omega
  · skip
    refine r_aload_n hX dX0_setMultiplying_8 rfl ?_
    refine fg_X10_15 hX dX0_setMultiplying_9 ?_
    refine r_iload_n hX dX0_setMultiplying_12 rfl ?_
    refine r_iload_n hX dX0_setMultiplying_13 rfl ?_
    refine st_X12 hX dX0_setMultiplying_14 (by omega) (by omega) (by omega) (fun σ14 m14 s14 => ?_)
    exact r_ret hX dX0_setMultiplying_15 rfl ⟨rfl, ⟨(m14.w rfl), (by exact s14)⟩⟩
theorem dX0_unbroken_0 : decode cX0_unbroken 0 = .ok (.iconst 0, 1) := by decide +kernel
theorem dX0_unbroken_1 : decode cX0_unbroken 1 = .ok (.istore_n 1, 1) := by decide +kernel
theorem dX0_unbroken_2 : decode cX0_unbroken 2 = .ok (.iconst 0, 1) := by decide +kernel
theorem dX0_unbroken_3 : decode cX0_unbroken 3 = .ok (.istore_n 2, 1) := by decide +kernel
theorem dX0_unbroken_4 : decode cX0_unbroken 4 = .ok (.iload_n 2, 1) := by decide +kernel
theorem dX0_unbroken_5 : decode cX0_unbroken 5 = .ok (.aload_n 0, 1) := by decide +kernel
theorem dX0_unbroken_6 : decode cX0_unbroken 6 = .ok (.invokevirtual 40, 3) := by decide +kernel
theorem dX0_unbroken_9 : decode cX0_unbroken 9 = .ok (.if_icmp .ge 20, 3) := by decide +kernel
theorem dX0_unbroken_12 : decode cX0_unbroken 12 = .ok (.aload_n 0, 1) := by decide +kernel
theorem dX0_unbroken_13 : decode cX0_unbroken 13 = .ok (.iload_n 2, 1) := by decide +kernel
theorem dX0_unbroken_14 : decode cX0_unbroken 14 = .ok (.invokevirtual 44, 3) := by decide +kernel
theorem dX0_unbroken_17 : decode cX0_unbroken 17 = .ok (.ifCond .eq 6, 3) := by decide +kernel
theorem dX0_unbroken_20 : decode cX0_unbroken 20 = .ok (.iinc 1 1, 3) := by decide +kernel
theorem dX0_unbroken_23 : decode cX0_unbroken 23 = .ok (.iinc 2 1, 3) := by decide +kernel
theorem dX0_unbroken_26 : decode cX0_unbroken 26 = .ok (.goto (-22), 3) := by decide +kernel
theorem dX0_unbroken_29 : decode cX0_unbroken 29 = .ok (.iload_n 1, 1) := by decide +kernel
theorem dX0_unbroken_30 : decode cX0_unbroken 30 = .ok (.ireturn, 1) := by decide +kernel
set_option maxRecDepth 20000 in
set_option maxHeartbeats 4000000 in
theorem k_Gd_unbroken (l : Launch) (w : WT) (σ : MM) : CT SX l w yX0_unbroken cX0_unbroken 3 (some .int) 2 42 [.ref (w.2.2 10)] σ (PI fun z σ1 => σ = σ1 ∧ (z = cn0 (σ 11) (σ 56 0 * σ 57 0)) ∧ (0 ≤ z ∧ z ≤ 9)) := by
  refine CT.of 2 [some (.ref (w.2.2 10)), none, none] (by decide +kernel) (by simp [lg_sl, Value.category]) rfl sh_X (fun G hX => ?_)
  refine r_bd hX (fun hBd => ?_)
  have b_56 := hBd 56 1 3 rfl 0
  have b_57 := hBd 57 1 3 rfl 0
  have hn := mul_bd b_56 b_57
  refine r_iconst hX dX0_unbroken_0 ?_
  refine r_istore_n hX (fun x1 => [some (.ref (w.2.2 10)), some (.int (iI x1)), none]) dX0_unbroken_1 (Nat.le_of_ble_eq_true rfl) rfl rfl (fun _ => rfl) (fun x1 e1 => ?_)
  refine r_iconst hX dX0_unbroken_2 ?_
  refine r_istore_n hX (fun x3 => [some (.ref (w.2.2 10)), some (.int (iI x1)), some (.int (iI x3))]) dX0_unbroken_3 (Nat.le_of_ble_eq_true rfl) rfl rfl (fun _ => rfl) (fun x3 e3 => ?_)
  have lp4 : ∀ (n : Nat) (found : Int) (cell : Int) (hc : 0 ≤ cell ∧ cell ≤ σ 56 0 * σ 57 0) (hf : found = cn0 (σ 11) cell) (hf2 : 0 ≤ found ∧ found ≤ cell) (hmu : 10 - cell < (n : Int)), G 4 [some (.ref (w.2.2 10)), some (.int (iI found)), some (.int (iI cell))] [] σ := by
    intro n
    induction n with
    | zero => intro found cell hc hf hf2 hmu; omega
    | succ n ih =>
      intro found cell hc hf hf2 hmu
      have ih4 := ih
      clear ih
      refine r_iload_n hX dX0_unbroken_4 rfl ?_
      refine r_aload_n hX dX0_unbroken_5 rfl ?_
      refine r_callV hX dX0_unbroken_6 (k_Gd_cells l w σ) mf_X0_cells mv_X0_cells lk_RX0_40 rfl rfl rfl rfl rfl ⟨Nat.le_of_ble_eq_true rfl, Nat.le_of_ble_eq_true rfl⟩ (Nat.le_of_ble_eq_true rfl) (kI fun z6 σ6 hh => ?_)
      obtain ⟨rfl, h6_0, h6_1⟩ := hh
      refine r_icmp_ge hX (tgt := 29) dX0_unbroken_9 (by decide) (by omega) (by omega) (fun c9 => ?_) (fun c9 => ?_)
      · skip
        refine r_iload_n hX dX0_unbroken_29 rfl ?_
        exact r_iret hX dX0_unbroken_30 rfl ⟨_, rfl, ⟨rfl, (by have e : cell = σ 56 0 * σ 57 0 := (by omega); rw [e] at hf; exact hf), (by omega)⟩⟩
      · skip
        refine r_aload_n hX dX0_unbroken_12 rfl ?_
        refine r_iload_n hX dX0_unbroken_13 rfl ?_
        refine r_callV hX dX0_unbroken_14 (k_Gd_isOpen l w σ _ (by omega)) mf_X0_isOpen mv_X0_isOpen lk_RX0_44 rfl rfl rfl rfl rfl ⟨Nat.le_of_ble_eq_true rfl, Nat.le_of_ble_eq_true rfl⟩ (Nat.le_of_ble_eq_true rfl) (kI fun z14 σ14 hh => ?_)
        obtain ⟨rfl, h14_0⟩ := hh
        refine r_if_eq hX (tgt := 23) dX0_unbroken_17 (by decide) (by omega) (fun c17 => ?_) (fun c17 => ?_)
        · skip
          refine r_iinc hX (fun x23 => [some (.ref (w.2.2 10)), some (.int (iI found)), some (.int (iI x23))]) dX0_unbroken_23 rfl rfl rfl (fun _ => rfl) (fun x23 e23 => ?_)
          refine r_goto hX dX0_unbroken_26 (tgt := 4) (by decide) ?_
          exact ih4 found x23 (by omega) (by rw [e23, cn0, sm_succ hc.1, show sm _ cell.toNat = found from hf.symm]; first | (rw [if_neg (by omega)]; omega) | (rw [if_pos (by omega)]; omega)) (by omega) (by omega)
        · skip
          refine r_iinc hX (fun x20 => [some (.ref (w.2.2 10)), some (.int (iI x20)), some (.int (iI cell))]) dX0_unbroken_20 rfl rfl rfl (fun _ => rfl) (fun x20 e20 => ?_)
          refine r_iinc hX (fun x23 => [some (.ref (w.2.2 10)), some (.int (iI x20)), some (.int (iI x23))]) dX0_unbroken_23 rfl rfl rfl (fun _ => rfl) (fun x23 e23 => ?_)
          refine r_goto hX dX0_unbroken_26 (tgt := 4) (by decide) ?_
          exact ih4 x20 x23 (by omega) (by rw [e23, cn0, sm_succ hc.1, show sm _ cell.toNat = found from hf.symm]; first | (rw [if_neg (by omega)]; omega) | (rw [if_pos (by omega)]; omega)) (by omega) (by omega)
  exact lp4 ((10 - (x3)) + 1).toNat x1 x3 (by omega) (by rw [e1, e3]; rfl) (by omega) (by omega)
theorem dX0_unbrokenMultiplying_0 : decode cX0_unbrokenMultiplying 0 = .ok (.iconst 0, 1) := by decide +kernel
theorem dX0_unbrokenMultiplying_1 : decode cX0_unbrokenMultiplying 1 = .ok (.istore_n 1, 1) := by decide +kernel
theorem dX0_unbrokenMultiplying_2 : decode cX0_unbrokenMultiplying 2 = .ok (.iconst 0, 1) := by decide +kernel
theorem dX0_unbrokenMultiplying_3 : decode cX0_unbrokenMultiplying 3 = .ok (.istore_n 2, 1) := by decide +kernel
theorem dX0_unbrokenMultiplying_4 : decode cX0_unbrokenMultiplying 4 = .ok (.iload_n 2, 1) := by decide +kernel
theorem dX0_unbrokenMultiplying_5 : decode cX0_unbrokenMultiplying 5 = .ok (.aload_n 0, 1) := by decide +kernel
theorem dX0_unbrokenMultiplying_6 : decode cX0_unbrokenMultiplying 6 = .ok (.invokevirtual 40, 3) := by decide +kernel
theorem dX0_unbrokenMultiplying_9 : decode cX0_unbrokenMultiplying 9 = .ok (.if_icmp .ge 28, 3) := by decide +kernel
theorem dX0_unbrokenMultiplying_12 : decode cX0_unbrokenMultiplying 12 = .ok (.aload_n 0, 1) := by decide +kernel
theorem dX0_unbrokenMultiplying_13 : decode cX0_unbrokenMultiplying 13 = .ok (.iload_n 2, 1) := by decide +kernel
theorem dX0_unbrokenMultiplying_14 : decode cX0_unbrokenMultiplying 14 = .ok (.invokevirtual 44, 3) := by decide +kernel
theorem dX0_unbrokenMultiplying_17 : decode cX0_unbrokenMultiplying 17 = .ok (.ifCond .eq 14, 3) := by decide +kernel
theorem dX0_unbrokenMultiplying_20 : decode cX0_unbrokenMultiplying 20 = .ok (.aload_n 0, 1) := by decide +kernel
theorem dX0_unbrokenMultiplying_21 : decode cX0_unbrokenMultiplying 21 = .ok (.iload_n 2, 1) := by decide +kernel
theorem dX0_unbrokenMultiplying_22 : decode cX0_unbrokenMultiplying 22 = .ok (.invokevirtual 47, 3) := by decide +kernel
theorem dX0_unbrokenMultiplying_25 : decode cX0_unbrokenMultiplying 25 = .ok (.ifCond .eq 6, 3) := by decide +kernel
theorem dX0_unbrokenMultiplying_28 : decode cX0_unbrokenMultiplying 28 = .ok (.iinc 1 1, 3) := by decide +kernel
theorem dX0_unbrokenMultiplying_31 : decode cX0_unbrokenMultiplying 31 = .ok (.iinc 2 1, 3) := by decide +kernel
theorem dX0_unbrokenMultiplying_34 : decode cX0_unbrokenMultiplying 34 = .ok (.goto (-30), 3) := by decide +kernel
theorem dX0_unbrokenMultiplying_37 : decode cX0_unbrokenMultiplying 37 = .ok (.iload_n 1, 1) := by decide +kernel
theorem dX0_unbrokenMultiplying_38 : decode cX0_unbrokenMultiplying 38 = .ok (.ireturn, 1) := by decide +kernel
set_option maxRecDepth 20000 in
set_option maxHeartbeats 4000000 in
theorem k_Gd_unbrokenMul (l : Launch) (w : WT) (σ : MM) : CT SX l w yX0_unbrokenMultiplying cX0_unbrokenMultiplying 3 (some .int) 2 42 [.ref (w.2.2 10)] σ (PI fun z σ1 => σ = σ1 ∧ (z = cn2 (σ 11) (σ 12) (σ 56 0 * σ 57 0)) ∧ (0 ≤ z ∧ z ≤ 9)) := by
  refine CT.of 2 [some (.ref (w.2.2 10)), none, none] (by decide +kernel) (by simp [lg_sl, Value.category]) rfl sh_X (fun G hX => ?_)
  refine r_bd hX (fun hBd => ?_)
  have b_56 := hBd 56 1 3 rfl 0
  have b_57 := hBd 57 1 3 rfl 0
  have hn := mul_bd b_56 b_57
  refine r_iconst hX dX0_unbrokenMultiplying_0 ?_
  refine r_istore_n hX (fun x1 => [some (.ref (w.2.2 10)), some (.int (iI x1)), none]) dX0_unbrokenMultiplying_1 (Nat.le_of_ble_eq_true rfl) rfl rfl (fun _ => rfl) (fun x1 e1 => ?_)
  refine r_iconst hX dX0_unbrokenMultiplying_2 ?_
  refine r_istore_n hX (fun x3 => [some (.ref (w.2.2 10)), some (.int (iI x1)), some (.int (iI x3))]) dX0_unbrokenMultiplying_3 (Nat.le_of_ble_eq_true rfl) rfl rfl (fun _ => rfl) (fun x3 e3 => ?_)
  have lp4 : ∀ (n : Nat) (found : Int) (cell : Int) (hc : 0 ≤ cell ∧ cell ≤ σ 56 0 * σ 57 0) (hf : found = cn2 (σ 11) (σ 12) cell) (hf2 : 0 ≤ found ∧ found ≤ cell) (hmu : 10 - cell < (n : Int)), G 4 [some (.ref (w.2.2 10)), some (.int (iI found)), some (.int (iI cell))] [] σ := by
    intro n
    induction n with
    | zero => intro found cell hc hf hf2 hmu; omega
    | succ n ih =>
      intro found cell hc hf hf2 hmu
      have ih4 := ih
      clear ih
      refine r_iload_n hX dX0_unbrokenMultiplying_4 rfl ?_
      refine r_aload_n hX dX0_unbrokenMultiplying_5 rfl ?_
      refine r_callV hX dX0_unbrokenMultiplying_6 (k_Gd_cells l w σ) mf_X0_cells mv_X0_cells lk_RX0_40 rfl rfl rfl rfl rfl ⟨Nat.le_of_ble_eq_true rfl, Nat.le_of_ble_eq_true rfl⟩ (Nat.le_of_ble_eq_true rfl) (kI fun z6 σ6 hh => ?_)
      obtain ⟨rfl, h6_0, h6_1⟩ := hh
      refine r_icmp_ge hX (tgt := 37) dX0_unbrokenMultiplying_9 (by decide) (by omega) (by omega) (fun c9 => ?_) (fun c9 => ?_)
      · skip
        refine r_iload_n hX dX0_unbrokenMultiplying_37 rfl ?_
        exact r_iret hX dX0_unbrokenMultiplying_38 rfl ⟨_, rfl, ⟨rfl, (by have e : cell = σ 56 0 * σ 57 0 := (by omega); rw [e] at hf; exact hf), (by omega)⟩⟩
      · skip
        refine r_aload_n hX dX0_unbrokenMultiplying_12 rfl ?_
        refine r_iload_n hX dX0_unbrokenMultiplying_13 rfl ?_
        refine r_callV hX dX0_unbrokenMultiplying_14 (k_Gd_isOpen l w σ _ (by omega)) mf_X0_isOpen mv_X0_isOpen lk_RX0_44 rfl rfl rfl rfl rfl ⟨Nat.le_of_ble_eq_true rfl, Nat.le_of_ble_eq_true rfl⟩ (Nat.le_of_ble_eq_true rfl) (kI fun z14 σ14 hh => ?_)
        obtain ⟨rfl, h14_0⟩ := hh
        refine r_if_eq hX (tgt := 31) dX0_unbrokenMultiplying_17 (by decide) (by omega) (fun c17 => ?_) (fun c17 => ?_)
        · skip
          refine r_iinc hX (fun x31 => [some (.ref (w.2.2 10)), some (.int (iI found)), some (.int (iI x31))]) dX0_unbrokenMultiplying_31 rfl rfl rfl (fun _ => rfl) (fun x31 e31 => ?_)
          refine r_goto hX dX0_unbrokenMultiplying_34 (tgt := 4) (by decide) ?_
          exact ih4 found x31 (by omega) (by rw [e31, cn2, sm_succ hc.1, show sm _ cell.toNat = found from hf.symm]; first | (rw [if_neg (by omega)]; omega) | (rw [if_pos (by omega)]; omega)) (by omega) (by omega)
        · skip
          refine r_aload_n hX dX0_unbrokenMultiplying_20 rfl ?_
          refine r_iload_n hX dX0_unbrokenMultiplying_21 rfl ?_
          refine r_callV hX dX0_unbrokenMultiplying_22 (k_Gd_isMultiplying l w σ _ (by omega)) mf_X0_isMultiplying mv_X0_isMultiplying lk_RX0_47 rfl rfl rfl rfl rfl ⟨Nat.le_of_ble_eq_true rfl, Nat.le_of_ble_eq_true rfl⟩ (Nat.le_of_ble_eq_true rfl) (kI fun z22 σ22 hh => ?_)
          obtain ⟨rfl, h22_0⟩ := hh
          refine r_if_eq hX (tgt := 31) dX0_unbrokenMultiplying_25 (by decide) (by omega) (fun c25 => ?_) (fun c25 => ?_)
          · skip
            refine r_iinc hX (fun x31 => [some (.ref (w.2.2 10)), some (.int (iI found)), some (.int (iI x31))]) dX0_unbrokenMultiplying_31 rfl rfl rfl (fun _ => rfl) (fun x31 e31 => ?_)
            refine r_goto hX dX0_unbrokenMultiplying_34 (tgt := 4) (by decide) ?_
            exact ih4 found x31 (by omega) (by rw [e31, cn2, sm_succ hc.1, show sm _ cell.toNat = found from hf.symm]; first | (rw [if_neg (by omega)]; omega) | (rw [if_pos (by omega)]; omega)) (by omega) (by omega)
          · skip
            refine r_iinc hX (fun x28 => [some (.ref (w.2.2 10)), some (.int (iI x28)), some (.int (iI cell))]) dX0_unbrokenMultiplying_28 rfl rfl rfl (fun _ => rfl) (fun x28 e28 => ?_)
            refine r_iinc hX (fun x31 => [some (.ref (w.2.2 10)), some (.int (iI x28)), some (.int (iI x31))]) dX0_unbrokenMultiplying_31 rfl rfl rfl (fun _ => rfl) (fun x31 e31 => ?_)
            refine r_goto hX dX0_unbrokenMultiplying_34 (tgt := 4) (by decide) ?_
            exact ih4 x28 x31 (by omega) (by rw [e31, cn2, sm_succ hc.1, show sm _ cell.toNat = found from hf.symm]; first | (rw [if_neg (by omega)]; omega) | (rw [if_pos (by omega)]; omega)) (by omega) (by omega)
  exact lp4 ((10 - (x3)) + 1).toNat x1 x3 (by omega) (by rw [e1, e3]; rfl) (by omega) (by omega)
theorem dX0_wayBetween_0 : decode cX0_wayBetween 0 = .ok (.aload_n 0, 1) := by decide +kernel
theorem dX0_wayBetween_1 : decode cX0_wayBetween 1 = .ok (.iload_n 1, 1) := by decide +kernel
theorem dX0_wayBetween_2 : decode cX0_wayBetween 2 = .ok (.invokevirtual 36, 3) := by decide +kernel
theorem dX0_wayBetween_5 : decode cX0_wayBetween 5 = .ok (.ifCond .eq 11, 3) := by decide +kernel
theorem dX0_wayBetween_8 : decode cX0_wayBetween 8 = .ok (.aload_n 0, 1) := by decide +kernel
theorem dX0_wayBetween_9 : decode cX0_wayBetween 9 = .ok (.iload_n 2, 1) := by decide +kernel
theorem dX0_wayBetween_10 : decode cX0_wayBetween 10 = .ok (.invokevirtual 36, 3) := by decide +kernel
theorem dX0_wayBetween_13 : decode cX0_wayBetween 13 = .ok (.ifCond .ne 6, 3) := by decide +kernel
theorem dX0_wayBetween_16 : decode cX0_wayBetween 16 = .ok (.bipush (-6), 2) := by decide +kernel
theorem dX0_wayBetween_18 : decode cX0_wayBetween 18 = .ok (.ireturn, 1) := by decide +kernel
theorem dX0_wayBetween_19 : decode cX0_wayBetween 19 = .ok (.aload_n 0, 1) := by decide +kernel
theorem dX0_wayBetween_20 : decode cX0_wayBetween 20 = .ok (.getfield 18, 3) := by decide +kernel
theorem dX0_wayBetween_23 : decode cX0_wayBetween 23 = .ok (.iload_n 1, 1) := by decide +kernel
theorem dX0_wayBetween_24 : decode cX0_wayBetween 24 = .ok (.bipush 9, 2) := by decide +kernel
theorem dX0_wayBetween_26 : decode cX0_wayBetween 26 = .ok (.imul, 1) := by decide +kernel
theorem dX0_wayBetween_27 : decode cX0_wayBetween 27 = .ok (.iload_n 2, 1) := by decide +kernel
theorem dX0_wayBetween_28 : decode cX0_wayBetween 28 = .ok (.iadd, 1) := by decide +kernel
theorem dX0_wayBetween_29 : decode cX0_wayBetween 29 = .ok (.iaload, 1) := by decide +kernel
theorem dX0_wayBetween_30 : decode cX0_wayBetween 30 = .ok (.istore_n 3, 1) := by decide +kernel
theorem dX0_wayBetween_31 : decode cX0_wayBetween 31 = .ok (.iload_n 3, 1) := by decide +kernel
theorem dX0_wayBetween_32 : decode cX0_wayBetween 32 = .ok (.sipush 1000, 3) := by decide +kernel
theorem dX0_wayBetween_35 : decode cX0_wayBetween 35 = .ok (.if_icmp .ge 7, 3) := by decide +kernel
theorem dX0_wayBetween_38 : decode cX0_wayBetween 38 = .ok (.iload_n 3, 1) := by decide +kernel
theorem dX0_wayBetween_39 : decode cX0_wayBetween 39 = .ok (.goto 5, 3) := by decide +kernel
theorem dX0_wayBetween_42 : decode cX0_wayBetween 42 = .ok (.bipush (-6), 2) := by decide +kernel
theorem dX0_wayBetween_44 : decode cX0_wayBetween 44 = .ok (.ireturn, 1) := by decide +kernel
set_option maxRecDepth 20000 in
set_option maxHeartbeats 4000000 in
theorem k_Gd_wayBetween (l : Launch) (w : WT) (σ : MM) (a : Int) (b : Int) (i_a : inr a) (i_b : inr b) : CT SX l w yX0_wayBetween cX0_wayBetween 4 (some .int) 1 21 [.ref (w.2.2 10), .int (iI a), .int (iI b)] σ (PI fun z σ1 => σ = σ1 ∧ ((0 ≤ a ∧ a < σ 56 0 * σ 57 0 ∧ a < 9 ∧ 0 ≤ b ∧ b < σ 56 0 * σ 57 0 ∧ b < 9 ∧ ((σ 13 (a * 9 + b) < 1000 ∧ 0 ≤ σ 13 (a * 9 + b) ∧ z = σ 13 (a * 9 + b)) ∨ (1000 ≤ σ 13 (a * 9 + b) ∧ z = -6))) ∨ ((a < 0 ∨ σ 56 0 * σ 57 0 ≤ a ∨ b < 0 ∨ σ 56 0 * σ 57 0 ≤ b) ∧ z = -6))) := by
  refine CT.of 1 [some (.ref (w.2.2 10)), some (.int (iI a)), some (.int (iI b)), none] (by decide +kernel) (by simp [lg_sl, Value.category]) rfl sh_X (fun G hX => ?_)
  refine r_aload_n hX dX0_wayBetween_0 rfl ?_
  refine r_iload_n hX dX0_wayBetween_1 rfl ?_
  refine r_callV hX dX0_wayBetween_2 (k_Gd_isThere l w σ _ (by omega)) mf_X0_isThere mv_X0_isThere lk_RX0_36 rfl rfl rfl rfl rfl ⟨Nat.le_of_ble_eq_true rfl, Nat.le_of_ble_eq_true rfl⟩ (Nat.le_of_ble_eq_true rfl) (kI fun z2 σ2 hh => ?_)
  obtain ⟨rfl, h2_0⟩ := hh
  refine r_if_eq hX (tgt := 16) dX0_wayBetween_5 (by decide) (by omega) (fun c5 => ?_) (fun c5 => ?_)
  · skip
    refine r_bipush hX dX0_wayBetween_16 (by decide) ?_
    exact r_iret hX dX0_wayBetween_18 rfl ⟨_, rfl, ⟨rfl, (by omega)⟩⟩
  · skip
    refine r_aload_n hX dX0_wayBetween_8 rfl ?_
    refine r_iload_n hX dX0_wayBetween_9 rfl ?_
    refine r_callV hX dX0_wayBetween_10 (k_Gd_isThere l w σ _ (by omega)) mf_X0_isThere mv_X0_isThere lk_RX0_36 rfl rfl rfl rfl rfl ⟨Nat.le_of_ble_eq_true rfl, Nat.le_of_ble_eq_true rfl⟩ (Nat.le_of_ble_eq_true rfl) (kI fun z10 σ10 hh => ?_)
    obtain ⟨rfl, h10_0⟩ := hh
    refine r_if_ne hX (tgt := 19) dX0_wayBetween_13 (by decide) (by omega) (fun c13 => ?_) (fun c13 => ?_)
    · skip
      refine r_aload_n hX dX0_wayBetween_19 rfl ?_
      refine fg_X10_18 hX dX0_wayBetween_20 ?_
      refine r_iload_n hX dX0_wayBetween_23 rfl ?_
      refine r_bipush hX dX0_wayBetween_24 (by decide) ?_
      refine r_imul hX dX0_wayBetween_26 ?_
      refine r_iload_n hX dX0_wayBetween_27 rfl ?_
      refine r_iadd hX dX0_wayBetween_28 ?_
      refine ld_X13 hX dX0_wayBetween_29 (by omega) (by omega) (fun b29l b29u => ?_)
      refine r_istore_n hX (fun x30 => [some (.ref (w.2.2 10)), some (.int (iI a)), some (.int (iI b)), some (.int (iI x30))]) dX0_wayBetween_30 (Nat.le_of_ble_eq_true rfl) rfl rfl (fun _ => rfl) (fun x30 e30 => ?_)
      refine r_iload_n hX dX0_wayBetween_31 rfl ?_
      refine r_sipush hX dX0_wayBetween_32 (by decide) ?_
      refine r_icmp_ge hX (tgt := 42) dX0_wayBetween_35 (by decide) (by omega) (by omega) (fun c35 => ?_) (fun c35 => ?_)
      · skip
        refine r_bipush hX dX0_wayBetween_42 (by decide) ?_
        exact r_iret hX dX0_wayBetween_44 rfl ⟨_, rfl, ⟨rfl, (by omega)⟩⟩
      · skip
        refine r_iload_n hX dX0_wayBetween_38 rfl ?_
        refine r_goto hX dX0_wayBetween_39 (tgt := 44) (by decide) ?_
        exact r_iret hX dX0_wayBetween_44 rfl ⟨_, rfl, ⟨rfl, (by omega)⟩⟩
    · skip
      refine r_bipush hX dX0_wayBetween_16 (by decide) ?_
      exact r_iret hX dX0_wayBetween_18 rfl ⟨_, rfl, ⟨rfl, (by omega)⟩⟩
theorem dX0_areNeighbours_0 : decode cX0_areNeighbours 0 = .ok (.aload_n 0, 1) := by decide +kernel
theorem dX0_areNeighbours_1 : decode cX0_areNeighbours 1 = .ok (.getfield 30, 3) := by decide +kernel
theorem dX0_areNeighbours_4 : decode cX0_areNeighbours 4 = .ok (.iconst 1, 1) := by decide +kernel
theorem dX0_areNeighbours_5 : decode cX0_areNeighbours 5 = .ok (.if_icmp .ge 5, 3) := by decide +kernel
theorem dX0_areNeighbours_8 : decode cX0_areNeighbours 8 = .ok (.iconst 0, 1) := by decide +kernel
theorem dX0_areNeighbours_9 : decode cX0_areNeighbours 9 = .ok (.ireturn, 1) := by decide +kernel
theorem dX0_areNeighbours_10 : decode cX0_areNeighbours 10 = .ok (.iload_n 1, 1) := by decide +kernel
theorem dX0_areNeighbours_11 : decode cX0_areNeighbours 11 = .ok (.aload_n 0, 1) := by decide +kernel
theorem dX0_areNeighbours_12 : decode cX0_areNeighbours 12 = .ok (.getfield 30, 3) := by decide +kernel
theorem dX0_areNeighbours_15 : decode cX0_areNeighbours 15 = .ok (.idiv, 1) := by decide +kernel
theorem dX0_areNeighbours_16 : decode cX0_areNeighbours 16 = .ok (.iload_n 2, 1) := by decide +kernel
theorem dX0_areNeighbours_17 : decode cX0_areNeighbours 17 = .ok (.aload_n 0, 1) := by decide +kernel
theorem dX0_areNeighbours_18 : decode cX0_areNeighbours 18 = .ok (.getfield 30, 3) := by decide +kernel
theorem dX0_areNeighbours_21 : decode cX0_areNeighbours 21 = .ok (.idiv, 1) := by decide +kernel
theorem dX0_areNeighbours_22 : decode cX0_areNeighbours 22 = .ok (.isub, 1) := by decide +kernel
theorem dX0_areNeighbours_23 : decode cX0_areNeighbours 23 = .ok (.invokestatic 62, 3) := by decide +kernel
theorem dX0_areNeighbours_26 : decode cX0_areNeighbours 26 = .ok (.istore_n 3, 1) := by decide +kernel
theorem dX0_areNeighbours_27 : decode cX0_areNeighbours 27 = .ok (.iload_n 1, 1) := by decide +kernel
theorem dX0_areNeighbours_28 : decode cX0_areNeighbours 28 = .ok (.aload_n 0, 1) := by decide +kernel
theorem dX0_areNeighbours_29 : decode cX0_areNeighbours 29 = .ok (.getfield 30, 3) := by decide +kernel
theorem dX0_areNeighbours_32 : decode cX0_areNeighbours 32 = .ok (.irem, 1) := by decide +kernel
theorem dX0_areNeighbours_33 : decode cX0_areNeighbours 33 = .ok (.iload_n 2, 1) := by decide +kernel
theorem dX0_areNeighbours_34 : decode cX0_areNeighbours 34 = .ok (.aload_n 0, 1) := by decide +kernel
theorem dX0_areNeighbours_35 : decode cX0_areNeighbours 35 = .ok (.getfield 30, 3) := by decide +kernel
theorem dX0_areNeighbours_38 : decode cX0_areNeighbours 38 = .ok (.irem, 1) := by decide +kernel
theorem dX0_areNeighbours_39 : decode cX0_areNeighbours 39 = .ok (.isub, 1) := by decide +kernel
theorem dX0_areNeighbours_40 : decode cX0_areNeighbours 40 = .ok (.invokestatic 62, 3) := by decide +kernel
theorem dX0_areNeighbours_43 : decode cX0_areNeighbours 43 = .ok (.istore 4, 2) := by decide +kernel
theorem dX0_areNeighbours_45 : decode cX0_areNeighbours 45 = .ok (.iload_n 3, 1) := by decide +kernel
theorem dX0_areNeighbours_46 : decode cX0_areNeighbours 46 = .ok (.iload 4, 2) := by decide +kernel
theorem dX0_areNeighbours_48 : decode cX0_areNeighbours 48 = .ok (.iadd, 1) := by decide +kernel
theorem dX0_areNeighbours_49 : decode cX0_areNeighbours 49 = .ok (.iconst 1, 1) := by decide +kernel
theorem dX0_areNeighbours_50 : decode cX0_areNeighbours 50 = .ok (.if_icmp .ne 7, 3) := by decide +kernel
theorem dX0_areNeighbours_53 : decode cX0_areNeighbours 53 = .ok (.iconst 1, 1) := by decide +kernel
theorem dX0_areNeighbours_54 : decode cX0_areNeighbours 54 = .ok (.goto 4, 3) := by decide +kernel
theorem dX0_areNeighbours_57 : decode cX0_areNeighbours 57 = .ok (.iconst 0, 1) := by decide +kernel
theorem dX0_areNeighbours_58 : decode cX0_areNeighbours 58 = .ok (.ireturn, 1) := by decide +kernel
set_option maxRecDepth 20000 in
set_option maxHeartbeats 4000000 in
theorem k_Gd_areNeighbours (l : Launch) (w : WT) (σ : MM) (a : Int) (b : Int) (i_a : inr a) (i_b : inr b) (hab : 0 ≤ a ∧ a < 9 ∧ 0 ≤ b ∧ b < 9) : CT SX l w yX0_areNeighbours cX0_areNeighbours 5 (some .boolean) 1 21 [.ref (w.2.2 10), .int (iI a), .int (iI b)] σ (PI fun z σ1 => σ = σ1 ∧ ((z = 1 ∧ Nbr (σ 57 0) a b) ∨ (z = 0 ∧ ¬ Nbr (σ 57 0) a b))) := by
  refine CT.of 2 [some (.ref (w.2.2 10)), some (.int (iI a)), some (.int (iI b)), none, none] (by decide +kernel) (by simp [lg_sl, Value.category]) rfl sh_X (fun G hX => ?_)
  refine r_bd hX (fun hBd => ?_)
  have b_57 := hBd 57 1 3 rfl 0
  have d1 := Int.ediv_nonneg hab.1 (show (0 : Int) ≤ σ 57 0 by omega)
  have d2 := Int.ediv_nonneg hab.2.2.1 (show (0 : Int) ≤ σ 57 0 by omega)
  have d3 := Int.ediv_le_self (b := σ 57 0) hab.1
  have d4 := Int.ediv_le_self (b := σ 57 0) hab.2.2.1
  have d5 := Int.emod_nonneg a (show σ 57 0 ≠ 0 by omega)
  have d6 := Int.emod_nonneg b (show σ 57 0 ≠ 0 by omega)
  have d7 := Int.emod_lt_of_pos a (show (0 : Int) < σ 57 0 by omega)
  have d8 := Int.emod_lt_of_pos b (show (0 : Int) < σ 57 0 by omega)
  refine r_aload_n hX dX0_areNeighbours_0 rfl ?_
  refine fg_X10_30 hX dX0_areNeighbours_1 (fun b1l b1u => ?_)
  refine r_iconst hX dX0_areNeighbours_4 ?_
  refine r_icmp_ge hX (tgt := 10) dX0_areNeighbours_5 (by decide) (by omega) (by omega) (fun c5 => ?_) (fun c5 => ?_)
  · skip
    refine r_iload_n hX dX0_areNeighbours_10 rfl ?_
    refine r_aload_n hX dX0_areNeighbours_11 rfl ?_
    refine fg_X10_30 hX dX0_areNeighbours_12 (fun b12l b12u => ?_)
    refine r_idiv hX dX0_areNeighbours_15 (by omega) (by omega) (by omega) (by omega) ?_
    refine r_iload_n hX dX0_areNeighbours_16 rfl ?_
    refine r_aload_n hX dX0_areNeighbours_17 rfl ?_
    refine fg_X10_30 hX dX0_areNeighbours_18 (fun b18l b18u => ?_)
    refine r_idiv hX dX0_areNeighbours_21 (by omega) (by omega) (by omega) (by omega) ?_
    refine r_isub hX dX0_areNeighbours_22 ?_
    refine r_abs hX dX0_areNeighbours_23 lq_RX0_62 ma_abs_s ma_i ma_abs_c (Nat.le_of_ble_eq_true rfl) (Nat.le_of_ble_eq_true rfl) (by omega) (fun z23 h23 => ?_)
    refine r_istore_n hX (fun x26 => [some (.ref (w.2.2 10)), some (.int (iI a)), some (.int (iI b)), some (.int (iI x26)), none]) dX0_areNeighbours_26 (Nat.le_of_ble_eq_true rfl) rfl rfl (fun _ => rfl) (fun x26 e26 => ?_)
    refine r_iload_n hX dX0_areNeighbours_27 rfl ?_
    refine r_aload_n hX dX0_areNeighbours_28 rfl ?_
    refine fg_X10_30 hX dX0_areNeighbours_29 (fun b29l b29u => ?_)
    refine r_irem hX dX0_areNeighbours_32 (by omega) (by omega) (by omega) (by omega) ?_
    refine r_iload_n hX dX0_areNeighbours_33 rfl ?_
    refine r_aload_n hX dX0_areNeighbours_34 rfl ?_
    refine fg_X10_30 hX dX0_areNeighbours_35 (fun b35l b35u => ?_)
    refine r_irem hX dX0_areNeighbours_38 (by omega) (by omega) (by omega) (by omega) ?_
    refine r_isub hX dX0_areNeighbours_39 ?_
    refine r_abs hX dX0_areNeighbours_40 lq_RX0_62 ma_abs_s ma_i ma_abs_c (Nat.le_of_ble_eq_true rfl) (Nat.le_of_ble_eq_true rfl) (by omega) (fun z40 h40 => ?_)
    refine r_istore hX (fun x43 => [some (.ref (w.2.2 10)), some (.int (iI a)), some (.int (iI b)), some (.int (iI x26)), some (.int (iI x43))]) dX0_areNeighbours_43 (Nat.le_of_ble_eq_true rfl) rfl rfl (fun _ => rfl) (fun x43 e43 => ?_)
    refine r_iload_n hX dX0_areNeighbours_45 rfl ?_
    refine r_iload hX dX0_areNeighbours_46 rfl ?_
    refine r_iadd hX dX0_areNeighbours_48 ?_
    refine r_iconst hX dX0_areNeighbours_49 ?_
    refine r_icmp_ne hX (tgt := 57) dX0_areNeighbours_50 (by decide) (by omega) (by omega) (fun c50 => ?_) (fun c50 => ?_)
    · skip
      refine r_iconst hX dX0_areNeighbours_57 ?_
      exact r_zret hX dX0_areNeighbours_58 rfl (by omega) ⟨_, rfl, ⟨rfl, (by first | exact Or.inl ⟨rfl, by unfold Nbr; omega⟩ | exact Or.inr ⟨rfl, by unfold Nbr; omega⟩)⟩⟩
    · skip
      refine r_iconst hX dX0_areNeighbours_53 ?_
      refine r_goto hX dX0_areNeighbours_54 (tgt := 58) (by decide) ?_
      exact r_zret hX dX0_areNeighbours_58 rfl (by omega) ⟨_, rfl, ⟨rfl, (by first | exact Or.inl ⟨rfl, by unfold Nbr; omega⟩ | exact Or.inr ⟨rfl, by unfold Nbr; omega⟩)⟩⟩
  · exfalso; omega
theorem dX0_singleStep_0 : decode cX0_singleStep 0 = .ok (.iload_n 1, 1) := by decide +kernel
theorem dX0_singleStep_1 : decode cX0_singleStep 1 = .ok (.iload_n 2, 1) := by decide +kernel
theorem dX0_singleStep_2 : decode cX0_singleStep 2 = .ok (.if_icmp .ne 5, 3) := by decide +kernel
theorem dX0_singleStep_5 : decode cX0_singleStep 5 = .ok (.iconst 0, 1) := by decide +kernel
theorem dX0_singleStep_6 : decode cX0_singleStep 6 = .ok (.ireturn, 1) := by decide +kernel
theorem dX0_singleStep_7 : decode cX0_singleStep 7 = .ok (.aload_n 0, 1) := by decide +kernel
theorem dX0_singleStep_8 : decode cX0_singleStep 8 = .ok (.iload_n 1, 1) := by decide +kernel
theorem dX0_singleStep_9 : decode cX0_singleStep 9 = .ok (.invokevirtual 44, 3) := by decide +kernel
theorem dX0_singleStep_12 : decode cX0_singleStep 12 = .ok (.ifCond .eq 24, 3) := by decide +kernel
theorem dX0_singleStep_15 : decode cX0_singleStep 15 = .ok (.aload_n 0, 1) := by decide +kernel
theorem dX0_singleStep_16 : decode cX0_singleStep 16 = .ok (.iload_n 2, 1) := by decide +kernel
theorem dX0_singleStep_17 : decode cX0_singleStep 17 = .ok (.invokevirtual 44, 3) := by decide +kernel
theorem dX0_singleStep_20 : decode cX0_singleStep 20 = .ok (.ifCond .eq 16, 3) := by decide +kernel
theorem dX0_singleStep_23 : decode cX0_singleStep 23 = .ok (.aload_n 0, 1) := by decide +kernel
theorem dX0_singleStep_24 : decode cX0_singleStep 24 = .ok (.iload_n 1, 1) := by decide +kernel
theorem dX0_singleStep_25 : decode cX0_singleStep 25 = .ok (.iload_n 2, 1) := by decide +kernel
theorem dX0_singleStep_26 : decode cX0_singleStep 26 = .ok (.invokevirtual 58, 3) := by decide +kernel
theorem dX0_singleStep_29 : decode cX0_singleStep 29 = .ok (.ifCond .eq 7, 3) := by decide +kernel
theorem dX0_singleStep_32 : decode cX0_singleStep 32 = .ok (.iconst 1, 1) := by decide +kernel
theorem dX0_singleStep_33 : decode cX0_singleStep 33 = .ok (.goto 6, 3) := by decide +kernel
theorem dX0_singleStep_36 : decode cX0_singleStep 36 = .ok (.sipush 1000, 3) := by decide +kernel
theorem dX0_singleStep_39 : decode cX0_singleStep 39 = .ok (.ireturn, 1) := by decide +kernel
set_option maxRecDepth 20000 in
set_option maxHeartbeats 4000000 in
theorem k_Gd_singleStep (l : Launch) (w : WT) (σ : MM) (a : Int) (b : Int) (i_a : inr a) (i_b : inr b) (hab : 0 ≤ a ∧ a < 9 ∧ 0 ≤ b ∧ b < 9) : CT SX l w yX0_singleStep cX0_singleStep 3 (some .int) 2 45 [.ref (w.2.2 10), .int (iI a), .int (iI b)] σ (PI fun z σ1 => σ = σ1 ∧ (SSt (σ 11) (σ 56 0 * σ 57 0) (σ 57 0) a b z) ∧ (0 ≤ z ∧ z ≤ 1000)) := by
  refine CT.of 0 [some (.ref (w.2.2 10)), some (.int (iI a)), some (.int (iI b))] (by decide +kernel) (by simp [lg_sl, Value.category]) rfl sh_X (fun G hX => ?_)
  refine r_iload_n hX dX0_singleStep_0 rfl ?_
  refine r_iload_n hX dX0_singleStep_1 rfl ?_
  refine r_icmp_ne hX (tgt := 7) dX0_singleStep_2 (by decide) (by omega) (by omega) (fun c2 => ?_) (fun c2 => ?_)
  · skip
    refine r_aload_n hX dX0_singleStep_7 rfl ?_
    refine r_iload_n hX dX0_singleStep_8 rfl ?_
    refine r_callV hX dX0_singleStep_9 (k_Gd_isOpen l w σ _ (by omega)) mf_X0_isOpen mv_X0_isOpen lk_RX0_44 rfl rfl rfl rfl rfl ⟨Nat.le_of_ble_eq_true rfl, Nat.le_of_ble_eq_true rfl⟩ (Nat.le_of_ble_eq_true rfl) (kI fun z9 σ9 hh => ?_)
    obtain ⟨rfl, h9_0⟩ := hh
    refine r_if_eq hX (tgt := 36) dX0_singleStep_12 (by decide) (by omega) (fun c12 => ?_) (fun c12 => ?_)
    · skip
      refine r_sipush hX dX0_singleStep_36 (by decide) ?_
      exact r_iret hX dX0_singleStep_39 rfl ⟨_, rfl, ⟨rfl, (by first | exact Or.inr (Or.inl ⟨c2, ⟨⟨by omega, by omega, by omega⟩, ⟨by omega, by omega, by omega⟩, cf_yes h26_0 (by omega)⟩, rfl⟩) | exact Or.inr (Or.inr ⟨c2, fun q => (by have q1 := q.1.1; have q2 := q.1.2.1; have q3 := q.1.2.2; have q4 := q.2.1.1; have q5 := q.2.1.2.1; have q6 := q.2.1.2.2; first | omega | exact cf_no h26_0 (by omega) q.2.2), rfl⟩)), (by omega)⟩⟩
    · skip
      refine r_aload_n hX dX0_singleStep_15 rfl ?_
      refine r_iload_n hX dX0_singleStep_16 rfl ?_
      refine r_callV hX dX0_singleStep_17 (k_Gd_isOpen l w σ _ (by omega)) mf_X0_isOpen mv_X0_isOpen lk_RX0_44 rfl rfl rfl rfl rfl ⟨Nat.le_of_ble_eq_true rfl, Nat.le_of_ble_eq_true rfl⟩ (Nat.le_of_ble_eq_true rfl) (kI fun z17 σ17 hh => ?_)
      obtain ⟨rfl, h17_0⟩ := hh
      refine r_if_eq hX (tgt := 36) dX0_singleStep_20 (by decide) (by omega) (fun c20 => ?_) (fun c20 => ?_)
      · skip
        refine r_sipush hX dX0_singleStep_36 (by decide) ?_
        exact r_iret hX dX0_singleStep_39 rfl ⟨_, rfl, ⟨rfl, (by first | exact Or.inr (Or.inl ⟨c2, ⟨⟨by omega, by omega, by omega⟩, ⟨by omega, by omega, by omega⟩, cf_yes h26_0 (by omega)⟩, rfl⟩) | exact Or.inr (Or.inr ⟨c2, fun q => (by have q1 := q.1.1; have q2 := q.1.2.1; have q3 := q.1.2.2; have q4 := q.2.1.1; have q5 := q.2.1.2.1; have q6 := q.2.1.2.2; first | omega | exact cf_no h26_0 (by omega) q.2.2), rfl⟩)), (by omega)⟩⟩
      · skip
        refine r_aload_n hX dX0_singleStep_23 rfl ?_
        refine r_iload_n hX dX0_singleStep_24 rfl ?_
        refine r_iload_n hX dX0_singleStep_25 rfl ?_
        refine r_callV hX dX0_singleStep_26 (k_Gd_areNeighbours l w σ _ _ (by omega) (by omega) (by omega)) mf_X0_areNeighbours mv_X0_areNeighbours lk_RX0_58 rfl rfl rfl rfl rfl ⟨Nat.le_of_ble_eq_true rfl, Nat.le_of_ble_eq_true rfl⟩ (Nat.le_of_ble_eq_true rfl) (kI fun z26 σ26 hh => ?_)
        obtain ⟨rfl, h26_0⟩ := hh
        refine r_if_eq hX (tgt := 36) dX0_singleStep_29 (by decide) (by omega) (fun c29 => ?_) (fun c29 => ?_)
        · skip
          refine r_sipush hX dX0_singleStep_36 (by decide) ?_
          exact r_iret hX dX0_singleStep_39 rfl ⟨_, rfl, ⟨rfl, (by first | exact Or.inr (Or.inl ⟨c2, ⟨⟨by omega, by omega, by omega⟩, ⟨by omega, by omega, by omega⟩, cf_yes h26_0 (by omega)⟩, rfl⟩) | exact Or.inr (Or.inr ⟨c2, fun q => (by have q1 := q.1.1; have q2 := q.1.2.1; have q3 := q.1.2.2; have q4 := q.2.1.1; have q5 := q.2.1.2.1; have q6 := q.2.1.2.2; first | omega | exact cf_no h26_0 (by omega) q.2.2), rfl⟩)), (by omega)⟩⟩
        · skip
          refine r_iconst hX dX0_singleStep_32 ?_
          refine r_goto hX dX0_singleStep_33 (tgt := 39) (by decide) ?_
          exact r_iret hX dX0_singleStep_39 rfl ⟨_, rfl, ⟨rfl, (by first | exact Or.inr (Or.inl ⟨c2, ⟨⟨by omega, by omega, by omega⟩, ⟨by omega, by omega, by omega⟩, cf_yes h26_0 (by omega)⟩, rfl⟩) | exact Or.inr (Or.inr ⟨c2, fun q => (by have q1 := q.1.1; have q2 := q.1.2.1; have q3 := q.1.2.2; have q4 := q.2.1.1; have q5 := q.2.1.2.1; have q6 := q.2.1.2.2; first | omega | exact cf_no h26_0 (by omega) q.2.2), rfl⟩)), (by omega)⟩⟩
  · skip
    refine r_iconst hX dX0_singleStep_5 ?_
    exact r_iret hX dX0_singleStep_6 rfl ⟨_, rfl, ⟨rfl, (by exact Or.inl ⟨c2, rfl⟩), (by omega)⟩⟩
theorem dX0_shortenThrough_0 : decode cX0_shortenThrough 0 = .ok (.iconst 0, 1) := by decide +kernel
theorem dX0_shortenThrough_1 : decode cX0_shortenThrough 1 = .ok (.istore_n 2, 1) := by decide +kernel
theorem dX0_shortenThrough_2 : decode cX0_shortenThrough 2 = .ok (.iload_n 2, 1) := by decide +kernel
theorem dX0_shortenThrough_3 : decode cX0_shortenThrough 3 = .ok (.bipush 9, 2) := by decide +kernel
theorem dX0_shortenThrough_5 : decode cX0_shortenThrough 5 = .ok (.if_icmp .ge 77, 3) := by decide +kernel
theorem dX0_shortenThrough_8 : decode cX0_shortenThrough 8 = .ok (.iconst 0, 1) := by decide +kernel
theorem dX0_shortenThrough_9 : decode cX0_shortenThrough 9 = .ok (.istore_n 3, 1) := by decide +kernel
theorem dX0_shortenThrough_10 : decode cX0_shortenThrough 10 = .ok (.iload_n 3, 1) := by decide +kernel
theorem dX0_shortenThrough_11 : decode cX0_shortenThrough 11 = .ok (.bipush 9, 2) := by decide +kernel
theorem dX0_shortenThrough_13 : decode cX0_shortenThrough 13 = .ok (.if_icmp .ge 63, 3) := by decide +kernel
theorem dX0_shortenThrough_16 : decode cX0_shortenThrough 16 = .ok (.aload_n 0, 1) := by decide +kernel
theorem dX0_shortenThrough_17 : decode cX0_shortenThrough 17 = .ok (.getfield 18, 3) := by decide +kernel
theorem dX0_shortenThrough_20 : decode cX0_shortenThrough 20 = .ok (.iload_n 2, 1) := by decide +kernel
theorem dX0_shortenThrough_21 : decode cX0_shortenThrough 21 = .ok (.bipush 9, 2) := by decide +kernel
theorem dX0_shortenThrough_23 : decode cX0_shortenThrough 23 = .ok (.imul, 1) := by decide +kernel
theorem dX0_shortenThrough_24 : decode cX0_shortenThrough 24 = .ok (.iload_n 1, 1) := by decide +kernel
theorem dX0_shortenThrough_25 : decode cX0_shortenThrough 25 = .ok (.iadd, 1) := by decide +kernel
theorem dX0_shortenThrough_26 : decode cX0_shortenThrough 26 = .ok (.iaload, 1) := by decide +kernel
theorem dX0_shortenThrough_27 : decode cX0_shortenThrough 27 = .ok (.aload_n 0, 1) := by decide +kernel
theorem dX0_shortenThrough_28 : decode cX0_shortenThrough 28 = .ok (.getfield 18, 3) := by decide +kernel
theorem dX0_shortenThrough_31 : decode cX0_shortenThrough 31 = .ok (.iload_n 1, 1) := by decide +kernel
theorem dX0_shortenThrough_32 : decode cX0_shortenThrough 32 = .ok (.bipush 9, 2) := by decide +kernel
theorem dX0_shortenThrough_34 : decode cX0_shortenThrough 34 = .ok (.imul, 1) := by decide +kernel
theorem dX0_shortenThrough_35 : decode cX0_shortenThrough 35 = .ok (.iload_n 3, 1) := by decide +kernel
theorem dX0_shortenThrough_36 : decode cX0_shortenThrough 36 = .ok (.iadd, 1) := by decide +kernel
theorem dX0_shortenThrough_37 : decode cX0_shortenThrough 37 = .ok (.iaload, 1) := by decide +kernel
theorem dX0_shortenThrough_38 : decode cX0_shortenThrough 38 = .ok (.iadd, 1) := by decide +kernel
theorem dX0_shortenThrough_39 : decode cX0_shortenThrough 39 = .ok (.istore 4, 2) := by decide +kernel
theorem dX0_shortenThrough_41 : decode cX0_shortenThrough 41 = .ok (.iload 4, 2) := by decide +kernel
theorem dX0_shortenThrough_43 : decode cX0_shortenThrough 43 = .ok (.aload_n 0, 1) := by decide +kernel
theorem dX0_shortenThrough_44 : decode cX0_shortenThrough 44 = .ok (.getfield 18, 3) := by decide +kernel
theorem dX0_shortenThrough_47 : decode cX0_shortenThrough 47 = .ok (.iload_n 2, 1) := by decide +kernel
theorem dX0_shortenThrough_48 : decode cX0_shortenThrough 48 = .ok (.bipush 9, 2) := by decide +kernel
theorem dX0_shortenThrough_50 : decode cX0_shortenThrough 50 = .ok (.imul, 1) := by decide +kernel
theorem dX0_shortenThrough_51 : decode cX0_shortenThrough 51 = .ok (.iload_n 3, 1) := by decide +kernel
theorem dX0_shortenThrough_52 : decode cX0_shortenThrough 52 = .ok (.iadd, 1) := by decide +kernel
theorem dX0_shortenThrough_53 : decode cX0_shortenThrough 53 = .ok (.iaload, 1) := by decide +kernel
theorem dX0_shortenThrough_54 : decode cX0_shortenThrough 54 = .ok (.if_icmp .ge 16, 3) := by decide +kernel
theorem dX0_shortenThrough_57 : decode cX0_shortenThrough 57 = .ok (.aload_n 0, 1) := by decide +kernel
theorem dX0_shortenThrough_58 : decode cX0_shortenThrough 58 = .ok (.getfield 18, 3) := by decide +kernel
theorem dX0_shortenThrough_61 : decode cX0_shortenThrough 61 = .ok (.iload_n 2, 1) := by decide +kernel
theorem dX0_shortenThrough_62 : decode cX0_shortenThrough 62 = .ok (.bipush 9, 2) := by decide +kernel
theorem dX0_shortenThrough_64 : decode cX0_shortenThrough 64 = .ok (.imul, 1) := by decide +kernel
theorem dX0_shortenThrough_65 : decode cX0_shortenThrough 65 = .ok (.iload_n 3, 1) := by decide +kernel
theorem dX0_shortenThrough_66 : decode cX0_shortenThrough 66 = .ok (.iadd, 1) := by decide +kernel
theorem dX0_shortenThrough_67 : decode cX0_shortenThrough 67 = .ok (.iload 4, 2) := by decide +kernel
theorem dX0_shortenThrough_69 : decode cX0_shortenThrough 69 = .ok (.iastore, 1) := by decide +kernel
theorem dX0_shortenThrough_70 : decode cX0_shortenThrough 70 = .ok (.iinc 3 1, 3) := by decide +kernel
theorem dX0_shortenThrough_73 : decode cX0_shortenThrough 73 = .ok (.goto (-63), 3) := by decide +kernel
theorem dX0_shortenThrough_76 : decode cX0_shortenThrough 76 = .ok (.iinc 2 1, 3) := by decide +kernel
theorem dX0_shortenThrough_79 : decode cX0_shortenThrough 79 = .ok (.goto (-77), 3) := by decide +kernel
theorem dX0_shortenThrough_82 : decode cX0_shortenThrough 82 = .ok (.return_, 1) := by decide +kernel
set_option maxRecDepth 20000 in
set_option maxHeartbeats 4000000 in
theorem k_Gd_shortenThrough (l : Launch) (w : WT) (σ : MM) (m : Int) (i_m : inr m) (hm : 0 ≤ m ∧ m < 9) (hz : ∀ a : Int, 0 ≤ a → a < 9 → σ 13 (a * 9 + a) = 0) : CT SX l w yX0_shortenThrough cX0_shortenThrough 5 none 0 0 [.ref (w.2.2 10), .int (iI m)] σ (PV fun σ1 => Mod [13] σ σ1 ∧ (Fw (σ 13) (σ1 13) m)) := by
  refine CT.of 3 [some (.ref (w.2.2 10)), some (.int (iI m)), none, none, none] (by decide +kernel) (by simp [lg_sl, Value.category]) rfl sh_X (fun G hX => ?_)
  refine r_iconst hX dX0_shortenThrough_0 ?_
  refine r_istore_n hX (fun x1 => [some (.ref (w.2.2 10)), some (.int (iI m)), some (.int (iI x1)), none, none]) dX0_shortenThrough_1 (Nat.le_of_ble_eq_true rfl) rfl rfl (fun _ => rfl) (fun x1 e1 => ?_)
  have lp2 : ∀ (n : Nat) (f : Int) (σ2 : MM) (m2 : Mod [13] σ σ2) (hf : 0 ≤ f ∧ f ≤ 9) (hW : ∀ a b : Int, 0 ≤ a → a < 9 → 0 ≤ b → b < 9 → σ2 13 (a * 9 + b) = if a < f ∨ (a = f ∧ b < 0) then (if σ 13 (a * 9 + m) + σ 13 (m * 9 + b) < σ 13 (a * 9 + b) then σ 13 (a * 9 + m) + σ 13 (m * 9 + b) else σ 13 (a * 9 + b)) else σ 13 (a * 9 + b)) (hmu : 10 - f < (n : Int)), G 2 [some (.ref (w.2.2 10)), some (.int (iI m)), some (.int (iI f)), none, none] [] σ2 := by
    intro n
    induction n with
    | zero => intro f σ2 m2 hf hW hmu; omega
    | succ n ih =>
      intro f σ2 m2 hf hW hmu
      have ih2 := ih
      clear ih
      refine r_iload_n hX dX0_shortenThrough_2 rfl ?_
      refine r_bipush hX dX0_shortenThrough_3 (by decide) ?_
      refine r_icmp_ge hX (tgt := 82) dX0_shortenThrough_5 (by decide) (by omega) (by omega) (fun c5 => ?_) (fun c5 => ?_)
      · skip
        exact r_ret hX dX0_shortenThrough_82 rfl ⟨rfl, ⟨(m2.w rfl), (fun a b a0 a1 b0 b1 => by rw [hW a b a0 a1 b0 b1, if_pos (by omega)])⟩⟩
      · skip
        refine r_iconst hX dX0_shortenThrough_8 ?_
        refine r_istore_n hX (fun x9 => [some (.ref (w.2.2 10)), some (.int (iI m)), some (.int (iI f)), some (.int (iI x9)), none]) dX0_shortenThrough_9 (Nat.le_of_ble_eq_true rfl) rfl rfl (fun _ => rfl) (fun x9 e9 => ?_)
        have lp10 : ∀ (n : Nat) (t : Int) (σ10 : MM) (m10 : Mod [13] σ2 σ10) (ht : 0 ≤ t ∧ t ≤ 9) (hW2 : ∀ a b : Int, 0 ≤ a → a < 9 → 0 ≤ b → b < 9 → σ10 13 (a * 9 + b) = if a < f ∨ (a = f ∧ b < t) then (if σ 13 (a * 9 + m) + σ 13 (m * 9 + b) < σ 13 (a * 9 + b) then σ 13 (a * 9 + m) + σ 13 (m * 9 + b) else σ 13 (a * 9 + b)) else σ 13 (a * 9 + b)) (hmu : 10 - t < (n : Int)), G 10 [some (.ref (w.2.2 10)), some (.int (iI m)), some (.int (iI f)), some (.int (iI t)), none] [] σ10 := by
          intro n
          induction n with
          | zero => intro t σ10 m10 ht hW2 hmu; omega
          | succ n ih =>
            intro t σ10 m10 ht hW2 hmu
            have ih10 := ih
            clear ih
            refine r_iload_n hX dX0_shortenThrough_10 rfl ?_
            refine r_bipush hX dX0_shortenThrough_11 (by decide) ?_
            refine r_icmp_ge hX (tgt := 76) dX0_shortenThrough_13 (by decide) (by omega) (by omega) (fun c13 => ?_) (fun c13 => ?_)
            · skip
              refine r_iinc hX (fun x76 => [some (.ref (w.2.2 10)), some (.int (iI m)), some (.int (iI x76)), some (.int (iI t)), none]) dX0_shortenThrough_76 rfl rfl rfl (fun _ => rfl) (fun x76 e76 => ?_)
              refine r_goto hX dX0_shortenThrough_79 (tgt := 2) (by decide) ?_
              refine r_wk hX (lv1 := [some (.ref (w.2.2 10)), some (.int (iI m)), some (.int (iI x76)), none, none]) ⟨rfl, ⟨rfl, ⟨rfl, trivial⟩⟩⟩ ?_
              exact ih2 x76 σ10 (Mod.tr (L := [13]) m2 m10 rfl rfl) (by omega) (fun a b a0 a1 b0 b1 => by rw [hW2 a b a0 a1 b0 b1]; exact if_iff _ _ (by omega)) (by omega)
            · skip
              refine r_aload_n hX dX0_shortenThrough_16 rfl ?_
              refine fg_X10_18 hX dX0_shortenThrough_17 ?_
              refine r_iload_n hX dX0_shortenThrough_20 rfl ?_
              refine r_bipush hX dX0_shortenThrough_21 (by decide) ?_
              refine r_imul hX dX0_shortenThrough_23 ?_
              refine r_iload_n hX dX0_shortenThrough_24 rfl ?_
              refine r_iadd hX dX0_shortenThrough_25 ?_
              refine ld_X13 hX dX0_shortenThrough_26 (by omega) (by omega) (fun b26l b26u => ?_)
              refine r_aload_n hX dX0_shortenThrough_27 rfl ?_
              refine fg_X10_18 hX dX0_shortenThrough_28 ?_
              refine r_iload_n hX dX0_shortenThrough_31 rfl ?_
              refine r_bipush hX dX0_shortenThrough_32 (by decide) ?_
              refine r_imul hX dX0_shortenThrough_34 ?_
              refine r_iload_n hX dX0_shortenThrough_35 rfl ?_
              refine r_iadd hX dX0_shortenThrough_36 ?_
              refine ld_X13 hX dX0_shortenThrough_37 (by omega) (by omega) (fun b37l b37u => ?_)
              refine r_iadd hX dX0_shortenThrough_38 ?_
              refine r_istore hX (fun x39 => [some (.ref (w.2.2 10)), some (.int (iI m)), some (.int (iI f)), some (.int (iI t)), some (.int (iI x39))]) dX0_shortenThrough_39 (Nat.le_of_ble_eq_true rfl) rfl rfl (fun _ => rfl) (fun x39 e39 => ?_)
              refine r_iload hX dX0_shortenThrough_41 rfl ?_
              refine r_aload_n hX dX0_shortenThrough_43 rfl ?_
              refine fg_X10_18 hX dX0_shortenThrough_44 ?_
              refine r_iload_n hX dX0_shortenThrough_47 rfl ?_
              refine r_bipush hX dX0_shortenThrough_48 (by decide) ?_
              refine r_imul hX dX0_shortenThrough_50 ?_
              refine r_iload_n hX dX0_shortenThrough_51 rfl ?_
              refine r_iadd hX dX0_shortenThrough_52 ?_
              refine ld_X13 hX dX0_shortenThrough_53 (by omega) (by omega) (fun b53l b53u => ?_)
              refine r_icmp_ge hX (tgt := 70) dX0_shortenThrough_54 (by decide) (by omega) (by omega) (fun c54 => ?_) (fun c54 => ?_)
              · skip
                refine r_iinc hX (fun x70 => [some (.ref (w.2.2 10)), some (.int (iI m)), some (.int (iI f)), some (.int (iI x70)), some (.int (iI x39))]) dX0_shortenThrough_70 rfl rfl rfl (fun _ => rfl) (fun x70 e70 => ?_)
                refine r_goto hX dX0_shortenThrough_73 (tgt := 10) (by decide) ?_
                refine r_wk hX (lv1 := [some (.ref (w.2.2 10)), some (.int (iI m)), some (.int (iI f)), some (.int (iI x70)), none]) ⟨rfl, ⟨rfl, ⟨rfl, ⟨rfl, trivial⟩⟩⟩⟩ ?_
                exact ih10 x70 σ10 (m10.w rfl) (by omega) (fun a b a0 a1 b0 b1 => fw_step (f := f) (t := t) (m := m) hm (by omega) (by omega) hW2 hz e39 (by first | exact Or.inl ⟨s69, by omega⟩ | exact Or.inr ⟨rfl, by omega⟩) e70 a b a0 a1 b0 b1) (by omega)
              · skip
                refine r_aload_n hX dX0_shortenThrough_57 rfl ?_
                refine fg_X10_18 hX dX0_shortenThrough_58 ?_
                refine r_iload_n hX dX0_shortenThrough_61 rfl ?_
                refine r_bipush hX dX0_shortenThrough_62 (by decide) ?_
                refine r_imul hX dX0_shortenThrough_64 ?_
                refine r_iload_n hX dX0_shortenThrough_65 rfl ?_
                refine r_iadd hX dX0_shortenThrough_66 ?_
                refine r_iload hX dX0_shortenThrough_67 rfl ?_
                refine st_X13 hX dX0_shortenThrough_69 (by omega) (by omega) (by omega) (fun σ69 m69 s69 => ?_)
                refine r_iinc hX (fun x70 => [some (.ref (w.2.2 10)), some (.int (iI m)), some (.int (iI f)), some (.int (iI x70)), some (.int (iI x39))]) dX0_shortenThrough_70 rfl rfl rfl (fun _ => rfl) (fun x70 e70 => ?_)
                refine r_goto hX dX0_shortenThrough_73 (tgt := 10) (by decide) ?_
                refine r_wk hX (lv1 := [some (.ref (w.2.2 10)), some (.int (iI m)), some (.int (iI f)), some (.int (iI x70)), none]) ⟨rfl, ⟨rfl, ⟨rfl, ⟨rfl, trivial⟩⟩⟩⟩ ?_
                exact ih10 x70 σ69 (Mod.tr (L := [13]) m10 m69 rfl rfl) (by omega) (fun a b a0 a1 b0 b1 => fw_step (f := f) (t := t) (m := m) hm (by omega) (by omega) hW2 hz e39 (by first | exact Or.inl ⟨s69, by omega⟩ | exact Or.inr ⟨rfl, by omega⟩) e70 a b a0 a1 b0 b1) (by omega)
        exact lp10 ((10 - (x9)) + 1).toNat x9 σ2 Mod.rf (by omega) (fun a b a0 a1 b0 b1 => by rw [hW a b a0 a1 b0 b1]; exact if_iff _ _ (by omega)) (by omega)
  exact lp2 ((10 - (x1)) + 1).toNat x1 σ Mod.rf (by omega) (fun a b a0 a1 b0 b1 => by rw [if_neg (by omega)]) (by omega)
theorem dX0_measure_0 : decode cX0_measure 0 = .ok (.iconst 0, 1) := by decide +kernel
theorem dX0_measure_1 : decode cX0_measure 1 = .ok (.istore_n 1, 1) := by decide +kernel
theorem dX0_measure_2 : decode cX0_measure 2 = .ok (.iload_n 1, 1) := by decide +kernel
theorem dX0_measure_3 : decode cX0_measure 3 = .ok (.bipush 9, 2) := by decide +kernel
theorem dX0_measure_5 : decode cX0_measure 5 = .ok (.if_icmp .ge 40, 3) := by decide +kernel
theorem dX0_measure_8 : decode cX0_measure 8 = .ok (.iconst 0, 1) := by decide +kernel
theorem dX0_measure_9 : decode cX0_measure 9 = .ok (.istore_n 2, 1) := by decide +kernel
theorem dX0_measure_10 : decode cX0_measure 10 = .ok (.iload_n 2, 1) := by decide +kernel
theorem dX0_measure_11 : decode cX0_measure 11 = .ok (.bipush 9, 2) := by decide +kernel
theorem dX0_measure_13 : decode cX0_measure 13 = .ok (.if_icmp .ge 26, 3) := by decide +kernel
theorem dX0_measure_16 : decode cX0_measure 16 = .ok (.aload_n 0, 1) := by decide +kernel
theorem dX0_measure_17 : decode cX0_measure 17 = .ok (.getfield 18, 3) := by decide +kernel
theorem dX0_measure_20 : decode cX0_measure 20 = .ok (.iload_n 1, 1) := by decide +kernel
theorem dX0_measure_21 : decode cX0_measure 21 = .ok (.bipush 9, 2) := by decide +kernel
theorem dX0_measure_23 : decode cX0_measure 23 = .ok (.imul, 1) := by decide +kernel
theorem dX0_measure_24 : decode cX0_measure 24 = .ok (.iload_n 2, 1) := by decide +kernel
theorem dX0_measure_25 : decode cX0_measure 25 = .ok (.iadd, 1) := by decide +kernel
theorem dX0_measure_26 : decode cX0_measure 26 = .ok (.aload_n 0, 1) := by decide +kernel
theorem dX0_measure_27 : decode cX0_measure 27 = .ok (.iload_n 1, 1) := by decide +kernel
theorem dX0_measure_28 : decode cX0_measure 28 = .ok (.iload_n 2, 1) := by decide +kernel
theorem dX0_measure_29 : decode cX0_measure 29 = .ok (.invokevirtual 50, 3) := by decide +kernel
theorem dX0_measure_32 : decode cX0_measure 32 = .ok (.iastore, 1) := by decide +kernel
theorem dX0_measure_33 : decode cX0_measure 33 = .ok (.iinc 2 1, 3) := by decide +kernel
theorem dX0_measure_36 : decode cX0_measure 36 = .ok (.goto (-26), 3) := by decide +kernel
theorem dX0_measure_39 : decode cX0_measure 39 = .ok (.iinc 1 1, 3) := by decide +kernel
theorem dX0_measure_42 : decode cX0_measure 42 = .ok (.goto (-40), 3) := by decide +kernel
theorem dX0_measure_45 : decode cX0_measure 45 = .ok (.iconst 0, 1) := by decide +kernel
theorem dX0_measure_46 : decode cX0_measure 46 = .ok (.istore_n 1, 1) := by decide +kernel
theorem dX0_measure_47 : decode cX0_measure 47 = .ok (.iload_n 1, 1) := by decide +kernel
theorem dX0_measure_48 : decode cX0_measure 48 = .ok (.aload_n 0, 1) := by decide +kernel
theorem dX0_measure_49 : decode cX0_measure 49 = .ok (.invokevirtual 40, 3) := by decide +kernel
theorem dX0_measure_52 : decode cX0_measure 52 = .ok (.if_icmp .ge 20, 3) := by decide +kernel
theorem dX0_measure_55 : decode cX0_measure 55 = .ok (.iload_n 1, 1) := by decide +kernel
theorem dX0_measure_56 : decode cX0_measure 56 = .ok (.bipush 9, 2) := by decide +kernel
theorem dX0_measure_58 : decode cX0_measure 58 = .ok (.if_icmp .ge 14, 3) := by decide +kernel
theorem dX0_measure_61 : decode cX0_measure 61 = .ok (.aload_n 0, 1) := by decide +kernel
theorem dX0_measure_62 : decode cX0_measure 62 = .ok (.iload_n 1, 1) := by decide +kernel
theorem dX0_measure_63 : decode cX0_measure 63 = .ok (.invokevirtual 54, 3) := by decide +kernel
theorem dX0_measure_66 : decode cX0_measure 66 = .ok (.iinc 1 1, 3) := by decide +kernel
theorem dX0_measure_69 : decode cX0_measure 69 = .ok (.goto (-22), 3) := by decide +kernel
theorem dX0_measure_72 : decode cX0_measure 72 = .ok (.return_, 1) := by decide +kernel
set_option maxRecDepth 20000 in
set_option maxHeartbeats 4000000 in
theorem k_Gd_measure (l : Launch) (w : WT) (σ : MM) : CT SX l w yX0_measure cX0_measure 3 none 3 67 [.ref (w.2.2 10)] σ (PV fun σ1 => Mod [13] σ σ1 ∧ (WayOK (σ 11) (σ 56 0 * σ 57 0) (σ 57 0) (σ1 13))) := by
  refine CT.of 2 [some (.ref (w.2.2 10)), none, none] (by decide +kernel) (by simp [lg_sl, Value.category]) rfl sh_X (fun G hX => ?_)
  refine r_bd hX (fun hBd => ?_)
  have b_56 := hBd 56 1 3 rfl 0
  have b_57 := hBd 57 1 3 rfl 0
  have hn := mul_bd b_56 b_57
  refine r_iconst hX dX0_measure_0 ?_
  refine r_istore_n hX (fun x1 => [some (.ref (w.2.2 10)), some (.int (iI x1)), none]) dX0_measure_1 (Nat.le_of_ble_eq_true rfl) rfl rfl (fun _ => rfl) (fun x1 e1 => ?_)
  have lp2 : ∀ (n : Nat) (f : Int) (σ2 : MM) (m2 : Mod [13] σ σ2) (hf : 0 ≤ f ∧ f ≤ 9) (hS : ∀ a b : Int, 0 ≤ a → a < f → 0 ≤ b → b < 9 → SSt (σ 11) (σ 56 0 * σ 57 0) (σ 57 0) a b (σ2 13 (a * 9 + b))) (hmu : 10 - f < (n : Int)), G 2 [some (.ref (w.2.2 10)), some (.int (iI f)), none] [] σ2 := by
    intro n
    induction n with
    | zero => intro f σ2 m2 hf hS hmu; omega
    | succ n ih =>
      intro f σ2 m2 hf hS hmu
      have ih2 := ih
      clear ih
      refine r_iload_n hX dX0_measure_2 rfl ?_
      refine r_bipush hX dX0_measure_3 (by decide) ?_
      refine r_icmp_ge hX (tgt := 45) dX0_measure_5 (by decide) (by omega) (by omega) (fun c5 => ?_) (fun c5 => ?_)
      · skip
        refine r_iconst hX dX0_measure_45 ?_
        refine r_istore_n hX (fun x46 => [some (.ref (w.2.2 10)), some (.int (iI x46)), none]) dX0_measure_46 (Nat.le_of_ble_eq_true rfl) rfl rfl (fun _ => rfl) (fun x46 e46 => ?_)
        have lp47 : ∀ (n : Nat) (k : Int) (σ47 : MM) (m47 : Mod [13] σ2 σ47) (hk : 0 ≤ k ∧ k ≤ (σ 56 0 * σ 57 0)) (hF : FWI (σ 11) (σ 56 0 * σ 57 0) (σ 57 0) k (σ47 13)) (hmu : 10 - k < (n : Int)), G 47 [some (.ref (w.2.2 10)), some (.int (iI k)), none] [] σ47 := by
          intro n
          induction n with
          | zero => intro k σ47 m47 hk hF hmu; omega
          | succ n ih =>
            intro k σ47 m47 hk hF hmu
            have ih47 := ih
            clear ih
            refine r_iload_n hX dX0_measure_47 rfl ?_
            refine r_aload_n hX dX0_measure_48 rfl ?_
            refine r_callV hX dX0_measure_49 (k_Gd_cells l w σ47) mf_X0_cells mv_X0_cells lk_RX0_40 rfl rfl rfl rfl rfl ⟨Nat.le_of_ble_eq_true rfl, Nat.le_of_ble_eq_true rfl⟩ (Nat.le_of_ble_eq_true rfl) (kI fun z49 σ49 hh => ?_)
            obtain ⟨rfl, h49_0, h49_1⟩ := hh
            have q49_1 : σ47 56 = σ 56 := ((m47.at 56 rfl).trans (m2.at 56 rfl))
            have q49_2 : σ47 57 = σ 57 := ((m47.at 57 rfl).trans (m2.at 57 rfl))
            try simp only [q49_1, q49_2] at h49_0
            refine r_icmp_ge hX (tgt := 72) dX0_measure_52 (by decide) (by omega) (by omega) (fun c52 => ?_) (fun c52 => ?_)
            · skip
              exact r_ret hX dX0_measure_72 rfl ⟨rfl, ⟨(Mod.tr (L := [13]) m2 m47 rfl rfl), (by exact hF.fin (by omega) (by omega))⟩⟩
            · skip
              refine r_iload_n hX dX0_measure_55 rfl ?_
              refine r_bipush hX dX0_measure_56 (by decide) ?_
              refine r_icmp_ge hX (tgt := 72) dX0_measure_58 (by decide) (by omega) (by omega) (fun c58 => ?_) (fun c58 => ?_)
              · exfalso; omega
              · skip
                refine r_aload_n hX dX0_measure_61 rfl ?_
                refine r_iload_n hX dX0_measure_62 rfl ?_
                refine r_callV hX dX0_measure_63 (k_Gd_shortenThrough l w σ47 _ (by omega) (by omega) (hF.2.1)) mf_X0_shortenThrough mv_X0_shortenThrough lk_RX0_54 rfl rfl rfl rfl rfl ⟨Nat.le_of_ble_eq_true rfl, Nat.le_of_ble_eq_true rfl⟩ (Nat.le_of_ble_eq_true rfl) (kV fun σ63 hh => ?_)
                obtain ⟨m63, h63_0⟩ := hh
                refine r_iinc hX (fun x66 => [some (.ref (w.2.2 10)), some (.int (iI x66)), none]) dX0_measure_66 rfl rfl rfl (fun _ => rfl) (fun x66 e66 => ?_)
                refine r_goto hX dX0_measure_69 (tgt := 47) (by decide) ?_
                exact ih47 x66 σ63 (Mod.tr (L := [13]) m47 m63 rfl rfl) (by omega) (by rw [e66]; exact hF.next (by omega) (by omega) h63_0) (by omega)
        exact lp47 ((10 - (x46)) + 1).toNat x46 σ2 Mod.rf (by omega) (by rw [e46]; exact FWI.init (fun a b a0 a1 b0 b1 => hS a b a0 (by omega) b0 b1)) (by omega)
      · skip
        refine r_iconst hX dX0_measure_8 ?_
        refine r_istore_n hX (fun x9 => [some (.ref (w.2.2 10)), some (.int (iI f)), some (.int (iI x9))]) dX0_measure_9 (Nat.le_of_ble_eq_true rfl) rfl rfl (fun _ => rfl) (fun x9 e9 => ?_)
        have lp10 : ∀ (n : Nat) (t : Int) (σ10 : MM) (m10 : Mod [13] σ2 σ10) (ht : 0 ≤ t ∧ t ≤ 9) (hS2 : ∀ a b : Int, 0 ≤ a → a < 9 → 0 ≤ b → b < 9 → (a < f ∨ (a = f ∧ b < t)) → SSt (σ 11) (σ 56 0 * σ 57 0) (σ 57 0) a b (σ10 13 (a * 9 + b))) (hmu : 10 - t < (n : Int)), G 10 [some (.ref (w.2.2 10)), some (.int (iI f)), some (.int (iI t))] [] σ10 := by
          intro n
          induction n with
          | zero => intro t σ10 m10 ht hS2 hmu; omega
          | succ n ih =>
            intro t σ10 m10 ht hS2 hmu
            have ih10 := ih
            clear ih
            refine r_iload_n hX dX0_measure_10 rfl ?_
            refine r_bipush hX dX0_measure_11 (by decide) ?_
            refine r_icmp_ge hX (tgt := 39) dX0_measure_13 (by decide) (by omega) (by omega) (fun c13 => ?_) (fun c13 => ?_)
            · skip
              refine r_iinc hX (fun x39 => [some (.ref (w.2.2 10)), some (.int (iI x39)), some (.int (iI t))]) dX0_measure_39 rfl rfl rfl (fun _ => rfl) (fun x39 e39 => ?_)
              refine r_goto hX dX0_measure_42 (tgt := 2) (by decide) ?_
              refine r_wk hX (lv1 := [some (.ref (w.2.2 10)), some (.int (iI x39)), none]) ⟨rfl, ⟨rfl, trivial⟩⟩ ?_
              exact ih2 x39 σ10 (Mod.tr (L := [13]) m2 m10 rfl rfl) (by omega) (fun a b a0 a1 b0 b1 => hS2 a b a0 (by omega) b0 b1 (by omega)) (by omega)
            · skip
              refine r_aload_n hX dX0_measure_16 rfl ?_
              refine fg_X10_18 hX dX0_measure_17 ?_
              refine r_iload_n hX dX0_measure_20 rfl ?_
              refine r_bipush hX dX0_measure_21 (by decide) ?_
              refine r_imul hX dX0_measure_23 ?_
              refine r_iload_n hX dX0_measure_24 rfl ?_
              refine r_iadd hX dX0_measure_25 ?_
              refine r_aload_n hX dX0_measure_26 rfl ?_
              refine r_iload_n hX dX0_measure_27 rfl ?_
              refine r_iload_n hX dX0_measure_28 rfl ?_
              refine r_callV hX dX0_measure_29 (k_Gd_singleStep l w σ10 _ _ (by omega) (by omega) (by omega)) mf_X0_singleStep mv_X0_singleStep lk_RX0_50 rfl rfl rfl rfl rfl ⟨Nat.le_of_ble_eq_true rfl, Nat.le_of_ble_eq_true rfl⟩ (Nat.le_of_ble_eq_true rfl) (kI fun z29 σ29 hh => ?_)
              obtain ⟨rfl, h29_0, h29_1⟩ := hh
              have q29_3 : σ10 11 = σ 11 := ((m10.at 11 rfl).trans (m2.at 11 rfl))
              have q29_4 : σ10 56 = σ 56 := ((m10.at 56 rfl).trans (m2.at 56 rfl))
              have q29_5 : σ10 57 = σ 57 := ((m10.at 57 rfl).trans (m2.at 57 rfl))
              try simp only [q29_3, q29_4, q29_5] at h29_0
              refine st_X13 hX dX0_measure_32 (by omega) (by omega) (by omega) (fun σ32 m32 s32 => ?_)
              refine r_iinc hX (fun x33 => [some (.ref (w.2.2 10)), some (.int (iI f)), some (.int (iI x33))]) dX0_measure_33 rfl rfl rfl (fun _ => rfl) (fun x33 e33 => ?_)
              refine r_goto hX dX0_measure_36 (tgt := 10) (by decide) ?_
              exact ih10 x33 σ32 (Mod.tr (L := [13]) m10 m32 rfl rfl) (by omega) (pair_step hS2 s32 h29_0 e33 (by omega) (by omega)) (by omega)
        exact lp10 ((10 - (x9)) + 1).toNat x9 σ2 Mod.rf (by omega) (fun a b a0 a1 b0 b1 q => hS a b a0 (by omega) b0 b1) (by omega)
  exact lp2 ((10 - (x1)) + 1).toNat x1 σ Mod.rf (by omega) (fun a b a0 a1 b0 b1 => by omega) (by omega)
theorem dX0_renew_0 : decode cX0_renew 0 = .ok (.aload_n 0, 1) := by decide +kernel
theorem dX0_renew_1 : decode cX0_renew 1 = .ok (.iload_n 1, 1) := by decide +kernel
theorem dX0_renew_2 : decode cX0_renew 2 = .ok (.putfield 26, 3) := by decide +kernel
theorem dX0_renew_5 : decode cX0_renew 5 = .ok (.aload_n 0, 1) := by decide +kernel
theorem dX0_renew_6 : decode cX0_renew 6 = .ok (.iload_n 2, 1) := by decide +kernel
theorem dX0_renew_7 : decode cX0_renew 7 = .ok (.putfield 30, 3) := by decide +kernel
theorem dX0_renew_10 : decode cX0_renew 10 = .ok (.iconst 0, 1) := by decide +kernel
theorem dX0_renew_11 : decode cX0_renew 11 = .ok (.istore_n 3, 1) := by decide +kernel
theorem dX0_renew_12 : decode cX0_renew 12 = .ok (.iload_n 3, 1) := by decide +kernel
theorem dX0_renew_13 : decode cX0_renew 13 = .ok (.bipush 9, 2) := by decide +kernel
theorem dX0_renew_15 : decode cX0_renew 15 = .ok (.if_icmp .ge 23, 3) := by decide +kernel
theorem dX0_renew_18 : decode cX0_renew 18 = .ok (.aload_n 0, 1) := by decide +kernel
theorem dX0_renew_19 : decode cX0_renew 19 = .ok (.getfield 9, 3) := by decide +kernel
theorem dX0_renew_22 : decode cX0_renew 22 = .ok (.iload_n 3, 1) := by decide +kernel
theorem dX0_renew_23 : decode cX0_renew 23 = .ok (.iconst 0, 1) := by decide +kernel
theorem dX0_renew_24 : decode cX0_renew 24 = .ok (.bastore, 1) := by decide +kernel
theorem dX0_renew_25 : decode cX0_renew 25 = .ok (.aload_n 0, 1) := by decide +kernel
theorem dX0_renew_26 : decode cX0_renew 26 = .ok (.getfield 15, 3) := by decide +kernel
theorem dX0_renew_29 : decode cX0_renew 29 = .ok (.iload_n 3, 1) := by decide +kernel
theorem dX0_renew_30 : decode cX0_renew 30 = .ok (.iconst 1, 1) := by decide +kernel
theorem dX0_renew_31 : decode cX0_renew 31 = .ok (.bastore, 1) := by decide +kernel
theorem dX0_renew_32 : decode cX0_renew 32 = .ok (.iinc 3 1, 3) := by decide +kernel
theorem dX0_renew_35 : decode cX0_renew 35 = .ok (.goto (-23), 3) := by decide +kernel
theorem dX0_renew_38 : decode cX0_renew 38 = .ok (.aload_n 0, 1) := by decide +kernel
theorem dX0_renew_39 : decode cX0_renew 39 = .ok (.invokevirtual 33, 3) := by decide +kernel
theorem dX0_renew_42 : decode cX0_renew 42 = .ok (.return_, 1) := by decide +kernel
set_option maxRecDepth 20000 in
set_option maxHeartbeats 4000000 in
theorem k_Gd_renew (l : Launch) (w : WT) (σ : MM) (r : Int) (c : Int) (i_r : inr r) (i_c : inr c) (hr : 1 ≤ r ∧ r ≤ 3) (hc : 1 ≤ c ∧ c ≤ 3) : CT SX l w yX0_renew cX0_renew 4 none 4 89 [.ref (w.2.2 10), .int (iI r), .int (iI c)] σ (PV fun σ1 => Mod [11, 12, 13, 56, 57] σ σ1 ∧ (σ1 56 0 = r) ∧ (σ1 57 0 = c) ∧ (∀ b : Int, 0 ≤ b → b < 9 → σ1 11 b = 0 ∧ σ1 12 b = 1) ∧ (WayOK (σ1 11) (σ1 56 0 * σ1 57 0) (σ1 57 0) (σ1 13))) := by
  refine CT.of 1 [some (.ref (w.2.2 10)), some (.int (iI r)), some (.int (iI c)), none] (by decide +kernel) (by simp [lg_sl, Value.category]) rfl sh_X (fun G hX => ?_)
  refine r_aload_n hX dX0_renew_0 rfl ?_
  refine r_iload_n hX dX0_renew_1 rfl ?_
  refine fp_X10_26 hX dX0_renew_2 (by omega) (fun σ2 m2 s2 => ?_)
  refine r_aload_n hX dX0_renew_5 rfl ?_
  refine r_iload_n hX dX0_renew_6 rfl ?_
  refine fp_X10_30 hX dX0_renew_7 (by omega) (fun σ7 m7 s7 => ?_)
  refine r_iconst hX dX0_renew_10 ?_
  refine r_istore_n hX (fun x11 => [some (.ref (w.2.2 10)), some (.int (iI r)), some (.int (iI c)), some (.int (iI x11))]) dX0_renew_11 (Nat.le_of_ble_eq_true rfl) rfl rfl (fun _ => rfl) (fun x11 e11 => ?_)
  have lp12 : ∀ (n : Nat) (i : Int) (σ12 : MM) (m12 : Mod [11, 12] σ7 σ12) (hi : 0 ≤ i ∧ i ≤ 9) (hz : ∀ b : Int, 0 ≤ b → b < i → σ12 11 b = 0 ∧ σ12 12 b = 1) (hmu : 10 - i < (n : Int)), G 12 [some (.ref (w.2.2 10)), some (.int (iI r)), some (.int (iI c)), some (.int (iI i))] [] σ12 := by
    intro n
    induction n with
    | zero => intro i σ12 m12 hi hz hmu; omega
    | succ n ih =>
      intro i σ12 m12 hi hz hmu
      have ih12 := ih
      clear ih
      refine r_iload_n hX dX0_renew_12 rfl ?_
      refine r_bipush hX dX0_renew_13 (by decide) ?_
      refine r_icmp_ge hX (tgt := 38) dX0_renew_15 (by decide) (by omega) (by omega) (fun c15 => ?_) (fun c15 => ?_)
      · skip
        refine r_aload_n hX dX0_renew_38 rfl ?_
        refine r_callV hX dX0_renew_39 (k_Gd_measure l w σ12) mf_X0_measure mv_X0_measure lk_RX0_33 rfl rfl rfl rfl rfl ⟨Nat.le_of_ble_eq_true rfl, Nat.le_of_ble_eq_true rfl⟩ (Nat.le_of_ble_eq_true rfl) (kV fun σ39 hh => ?_)
        obtain ⟨m39, h39_0⟩ := hh
        have q39_1 : σ12 56 = σ2 56 := ((m12.at 56 rfl).trans (m7.at 56 rfl))
        have q39_2 : σ12 57 = σ7 57 := (m12.at 57 rfl)
        try simp only [q39_1, q39_2] at h39_0
        exact r_ret hX dX0_renew_42 rfl ⟨rfl, ⟨(Mod.tr (L := [11, 12, 13, 56, 57]) (Mod.tr (L := [11, 12, 13, 56, 57]) (Mod.tr (L := [11, 12, 13, 56, 57]) m2 m7 rfl rfl) m12 rfl rfl) m39 rfl rfl), (by rw [m39.at 56 rfl, m12.at 56 rfl, m7.at 56 rfl]; exact s2), (by rw [m39.at 57 rfl, m12.at 57 rfl]; exact s7), (fun b b0 b1 => by rw [m39.at 11 rfl, m39.at 12 rfl]; exact hz b b0 (by omega)), (by rw [m39.at 11 rfl, m39.at 56 rfl, m39.at 57 rfl, m12.at 56 rfl, m12.at 57 rfl, m7.at 56 rfl]; exact h39_0)⟩⟩
      · skip
        refine r_aload_n hX dX0_renew_18 rfl ?_
        refine fg_X10_9 hX dX0_renew_19 ?_
        refine r_iload_n hX dX0_renew_22 rfl ?_
        refine r_iconst hX dX0_renew_23 ?_
        refine st_X11 hX dX0_renew_24 (by omega) (by omega) (by omega) (fun σ24 m24 s24 => ?_)
        refine r_aload_n hX dX0_renew_25 rfl ?_
        refine fg_X10_15 hX dX0_renew_26 ?_
        refine r_iload_n hX dX0_renew_29 rfl ?_
        refine r_iconst hX dX0_renew_30 ?_
        refine st_X12 hX dX0_renew_31 (by omega) (by omega) (by omega) (fun σ31 m31 s31 => ?_)
        simp only [show σ24 12 = σ12 12 from (m24.at 12 rfl)] at s31
        refine r_iinc hX (fun x32 => [some (.ref (w.2.2 10)), some (.int (iI r)), some (.int (iI c)), some (.int (iI x32))]) dX0_renew_32 rfl rfl rfl (fun _ => rfl) (fun x32 e32 => ?_)
        refine r_goto hX dX0_renew_35 (tgt := 12) (by decide) ?_
        exact ih12 x32 σ31 (Mod.tr (L := [11, 12]) (Mod.tr (L := [11, 12]) m12 m24 rfl rfl) m31 rfl rfl) (by omega) (by rw [e32, m31.at 11 rfl]; exact two_step hz s24 s31) (by omega)
  exact lp12 ((10 - (x11)) + 1).toNat x11 σ7 Mod.rf (by omega) (fun b b0 b1 => by omega) (by omega)
theorem dX0_setBroken_0 : decode cX0_setBroken 0 = .ok (.aload_n 0, 1) := by decide +kernel
theorem dX0_setBroken_1 : decode cX0_setBroken 1 = .ok (.iload_n 1, 1) := by decide +kernel
theorem dX0_setBroken_2 : decode cX0_setBroken 2 = .ok (.invokevirtual 36, 3) := by decide +kernel
theorem dX0_setBroken_5 : decode cX0_setBroken 5 = .ok (.ifCond .eq 14, 3) := by decide +kernel
theorem dX0_setBroken_8 : decode cX0_setBroken 8 = .ok (.aload_n 0, 1) := by decide +kernel
theorem dX0_setBroken_9 : decode cX0_setBroken 9 = .ok (.getfield 9, 3) := by decide +kernel
theorem dX0_setBroken_12 : decode cX0_setBroken 12 = .ok (.iload_n 1, 1) := by decide +kernel
theorem dX0_setBroken_13 : decode cX0_setBroken 13 = .ok (.iload_n 2, 1) := by decide +kernel
theorem dX0_setBroken_14 : decode cX0_setBroken 14 = .ok (.bastore, 1) := by decide +kernel
theorem dX0_setBroken_15 : decode cX0_setBroken 15 = .ok (.aload_n 0, 1) := by decide +kernel
theorem dX0_setBroken_16 : decode cX0_setBroken 16 = .ok (.invokevirtual 33, 3) := by decide +kernel
theorem dX0_setBroken_19 : decode cX0_setBroken 19 = .ok (.return_, 1) := by decide +kernel
set_option maxRecDepth 20000 in
set_option maxHeartbeats 4000000 in
theorem k_Gd_setBroken (l : Launch) (w : WT) (σ : MM) (a : Int) (v : Int) (i_a : inr a) (i_v : inr v) (ha : 0 ≤ a ∧ a < σ 56 0 * σ 57 0) (hv : v = 0 ∨ v = 1) : CT SX l w yX0_setBroken cX0_setBroken 3 none 4 89 [.ref (w.2.2 10), .int (iI a), .int (iI v)] σ (PV fun σ1 => Mod [11, 13] σ σ1 ∧ (∀ b : Int, σ1 11 b = if b = a then v else σ 11 b) ∧ (WayOK (σ1 11) (σ1 56 0 * σ1 57 0) (σ1 57 0) (σ1 13))) := by
  refine CT.of 0 [some (.ref (w.2.2 10)), some (.int (iI a)), some (.int (iI v))] (by decide +kernel) (by simp [lg_sl, Value.category]) rfl sh_X (fun G hX => ?_)
  refine r_aload_n hX dX0_setBroken_0 rfl ?_
  refine r_iload_n hX dX0_setBroken_1 rfl ?_
  refine r_callV hX dX0_setBroken_2 (k_Gd_isThere l w σ _ (by omega)) mf_X0_isThere mv_X0_isThere lk_RX0_36 rfl rfl rfl rfl rfl ⟨Nat.le_of_ble_eq_true rfl, Nat.le_of_ble_eq_true rfl⟩ (Nat.le_of_ble_eq_true rfl) (kI fun z2 σ2 hh => ?_)
  obtain ⟨rfl, h2_0⟩ := hh
  refine r_if_eq hX (tgt := 19) dX0_setBroken_5 (by decide) (by omega) (fun c5 => ?_) (fun c5 => ?_)
  · exfalso; omega
  · skip
    refine r_aload_n hX dX0_setBroken_8 rfl ?_
    refine fg_X10_9 hX dX0_setBroken_9 ?_
    refine r_iload_n hX dX0_setBroken_12 rfl ?_
    refine r_iload_n hX dX0_setBroken_13 rfl ?_
    refine st_X11 hX dX0_setBroken_14 (by omega) (by omega) (by omega) (fun σ14 m14 s14 => ?_)
    refine r_aload_n hX dX0_setBroken_15 rfl ?_
    refine r_callV hX dX0_setBroken_16 (k_Gd_measure l w σ14) mf_X0_measure mv_X0_measure lk_RX0_33 rfl rfl rfl rfl rfl ⟨Nat.le_of_ble_eq_true rfl, Nat.le_of_ble_eq_true rfl⟩ (Nat.le_of_ble_eq_true rfl) (kV fun σ16 hh => ?_)
    obtain ⟨m16, h16_0⟩ := hh
    have q16_1 : σ14 56 = σ 56 := (m14.at 56 rfl)
    have q16_2 : σ14 57 = σ 57 := (m14.at 57 rfl)
    try simp only [q16_1, q16_2] at h16_0
    exact r_ret hX dX0_setBroken_19 rfl ⟨rfl, ⟨(Mod.tr (L := [11, 13]) m14 m16 rfl rfl), (by rw [m16.at 11 rfl]; exact s14), (by rw [m16.at 11 rfl, m16.at 56 rfl, m16.at 57 rfl, m14.at 56 rfl, m14.at 57 rfl]; exact h16_0)⟩⟩
set_option maxRecDepth 20000 in
set_option maxHeartbeats 4000000 in
theorem k_GG_cells (l : Launch) (w : WT) (σ : MM) (hbd : 1 ≤ σ 56 0 ∧ σ 56 0 ≤ 3 ∧ 1 ≤ σ 57 0 ∧ σ 57 0 ≤ 3) : CT SG l w yX0_cells cX0_cells 1 (some .int) 0 0 [.ref (w.2.2 0)] σ (PI fun z σ1 => σ = σ1 ∧ (z = σ 56 0 * σ 57 0) ∧ (1 ≤ z ∧ z ≤ 9)) := by
  refine CT.of 0 [some (.ref (w.2.2 0))] (by decide +kernel) (by simp [lg_sl, Value.category]) rfl sh_G (fun G hX => ?_)
  refine r_bd hX (fun hBd => ?_)
  have b_56 : 1 ≤ σ 56 0 ∧ σ 56 0 ≤ 3 := ⟨hbd.1, hbd.2.1⟩
  have b_57 : 1 ≤ σ 57 0 ∧ σ 57 0 ≤ 3 := ⟨hbd.2.2.1, hbd.2.2.2⟩
  have hn := mul_bd b_56 b_57
  refine r_aload_n hX dX0_cells_0 rfl ?_
  refine fg_G10_26 hX dX0_cells_1 ?_
  refine r_aload_n hX dX0_cells_4 rfl ?_
  refine fg_G10_30 hX dX0_cells_5 ?_
  refine r_imul hX dX0_cells_8 ?_
  exact r_iret hX dX0_cells_9 rfl ⟨_, rfl, ⟨rfl, (by omega), (by omega)⟩⟩
set_option maxRecDepth 20000 in
set_option maxHeartbeats 4000000 in
theorem k_GG_isThere (l : Launch) (w : WT) (σ : MM) (a : Int) (i_a : inr a) (hbd : 1 ≤ σ 56 0 ∧ σ 56 0 ≤ 3 ∧ 1 ≤ σ 57 0 ∧ σ 57 0 ≤ 3) : CT SG l w yX0_isThere cX0_isThere 2 (some .boolean) 0 0 [.ref (w.2.2 0), .int (iI a)] σ (PI fun z σ1 => σ = σ1 ∧ ((z = 1 ∧ 0 ≤ a ∧ a < σ 56 0 * σ 57 0 ∧ a < 9) ∨ (z = 0 ∧ (a < 0 ∨ σ 56 0 * σ 57 0 ≤ a)))) := by
  refine CT.of 0 [some (.ref (w.2.2 0)), some (.int (iI a))] (by decide +kernel) (by simp [lg_sl, Value.category]) rfl sh_G (fun G hX => ?_)
  refine r_bd hX (fun hBd => ?_)
  have b_56 : 1 ≤ σ 56 0 ∧ σ 56 0 ≤ 3 := ⟨hbd.1, hbd.2.1⟩
  have b_57 : 1 ≤ σ 57 0 ∧ σ 57 0 ≤ 3 := ⟨hbd.2.2.1, hbd.2.2.2⟩
  have hn := mul_bd b_56 b_57
  refine r_iload_n hX dX0_isThere_0 rfl ?_
  refine r_if_lt hX (tgt := 27) dX0_isThere_1 (by decide) (by omega) (fun c1 => ?_) (fun c1 => ?_)
  · skip
    refine r_iconst hX dX0_isThere_27 ?_
    exact r_zret hX dX0_isThere_28 rfl (by omega) ⟨_, rfl, ⟨rfl, (by omega)⟩⟩
  · skip
    refine r_iload_n hX dX0_isThere_4 rfl ?_
    refine r_aload_n hX dX0_isThere_5 rfl ?_
    refine fg_G10_26 hX dX0_isThere_6 ?_
    refine r_aload_n hX dX0_isThere_9 rfl ?_
    refine fg_G10_30 hX dX0_isThere_10 ?_
    refine r_imul hX dX0_isThere_13 ?_
    refine r_icmp_ge hX (tgt := 27) dX0_isThere_14 (by decide) (by omega) (by omega) (fun c14 => ?_) (fun c14 => ?_)
    · skip
      refine r_iconst hX dX0_isThere_27 ?_
      exact r_zret hX dX0_isThere_28 rfl (by omega) ⟨_, rfl, ⟨rfl, (by omega)⟩⟩
    · skip
      refine r_iload_n hX dX0_isThere_17 rfl ?_
      refine r_bipush hX dX0_isThere_18 (by decide) ?_
      refine r_icmp_ge hX (tgt := 27) dX0_isThere_20 (by decide) (by omega) (by omega) (fun c20 => ?_) (fun c20 => ?_)
      · skip
        refine r_iconst hX dX0_isThere_27 ?_
        exact r_zret hX dX0_isThere_28 rfl (by omega) ⟨_, rfl, ⟨rfl, (by omega)⟩⟩
      · skip
        refine r_iconst hX dX0_isThere_23 ?_
        refine r_goto hX dX0_isThere_24 (tgt := 28) (by decide) ?_
        exact r_zret hX dX0_isThere_28 rfl (by omega) ⟨_, rfl, ⟨rfl, (by omega)⟩⟩
set_option maxRecDepth 20000 in
set_option maxHeartbeats 4000000 in
theorem k_GG_isOpen (l : Launch) (w : WT) (σ : MM) (a : Int) (i_a : inr a) (hbd : 1 ≤ σ 56 0 ∧ σ 56 0 ≤ 3 ∧ 1 ≤ σ 57 0 ∧ σ 57 0 ≤ 3) : CT SG l w yX0_isOpen cX0_isOpen 2 (some .boolean) 1 21 [.ref (w.2.2 0), .int (iI a)] σ (PI fun z σ1 => σ = σ1 ∧ ((z = 1 ∧ 0 ≤ a ∧ a < σ 56 0 * σ 57 0 ∧ σ 11 a = 0) ∨ (z = 0 ∧ (a < 0 ∨ σ 56 0 * σ 57 0 ≤ a ∨ σ 11 a = 1)))) := by
  refine CT.of 0 [some (.ref (w.2.2 0)), some (.int (iI a))] (by decide +kernel) (by simp [lg_sl, Value.category]) rfl sh_G (fun G hX => ?_)
  refine r_aload_n hX dX0_isOpen_0 rfl ?_
  refine r_iload_n hX dX0_isOpen_1 rfl ?_
  refine r_callV hX dX0_isOpen_2 (k_GG_isThere l w σ _ (by omega) (by omega)) mf_X0_isThere mv_X0_isThere lk_RX0_36 rfl rfl rfl rfl rfl ⟨Nat.le_of_ble_eq_true rfl, Nat.le_of_ble_eq_true rfl⟩ (Nat.le_of_ble_eq_true rfl) (kI fun z2 σ2 hh => ?_)
  obtain ⟨rfl, h2_0⟩ := hh
  refine r_if_eq hX (tgt := 21) dX0_isOpen_5 (by decide) (by omega) (fun c5 => ?_) (fun c5 => ?_)
  · skip
    refine r_iconst hX dX0_isOpen_21 ?_
    exact r_zret hX dX0_isOpen_22 rfl (by omega) ⟨_, rfl, ⟨rfl, (by omega)⟩⟩
  · skip
    refine r_aload_n hX dX0_isOpen_8 rfl ?_
    refine fg_G10_9 hX dX0_isOpen_9 ?_
    refine r_iload_n hX dX0_isOpen_12 rfl ?_
    refine ld_G11 hX dX0_isOpen_13 (by omega) (by omega) (fun b13l b13u => ?_)
    refine r_if_ne hX (tgt := 21) dX0_isOpen_14 (by decide) (by omega) (fun c14 => ?_) (fun c14 => ?_)
    · skip
      refine r_iconst hX dX0_isOpen_21 ?_
      exact r_zret hX dX0_isOpen_22 rfl (by omega) ⟨_, rfl, ⟨rfl, (by omega)⟩⟩
    · skip
      refine r_iconst hX dX0_isOpen_17 ?_
      refine r_goto hX dX0_isOpen_18 (tgt := 22) (by decide) ?_
      exact r_zret hX dX0_isOpen_22 rfl (by omega) ⟨_, rfl, ⟨rfl, (by omega)⟩⟩
set_option maxRecDepth 20000 in
set_option maxHeartbeats 4000000 in
theorem k_GG_areNeighbours (l : Launch) (w : WT) (σ : MM) (a : Int) (b : Int) (i_a : inr a) (i_b : inr b) (hab : 0 ≤ a ∧ a < 9 ∧ 0 ≤ b ∧ b < 9) (hbd : 1 ≤ σ 56 0 ∧ σ 56 0 ≤ 3 ∧ 1 ≤ σ 57 0 ∧ σ 57 0 ≤ 3) : CT SG l w yX0_areNeighbours cX0_areNeighbours 5 (some .boolean) 1 21 [.ref (w.2.2 0), .int (iI a), .int (iI b)] σ (PI fun z σ1 => σ = σ1 ∧ ((z = 1 ∧ Nbr (σ 57 0) a b) ∨ (z = 0 ∧ ¬ Nbr (σ 57 0) a b))) := by
  refine CT.of 2 [some (.ref (w.2.2 0)), some (.int (iI a)), some (.int (iI b)), none, none] (by decide +kernel) (by simp [lg_sl, Value.category]) rfl sh_G (fun G hX => ?_)
  refine r_bd hX (fun hBd => ?_)
  have b_57 : 1 ≤ σ 57 0 ∧ σ 57 0 ≤ 3 := ⟨hbd.2.2.1, hbd.2.2.2⟩
  have d1 := Int.ediv_nonneg hab.1 (show (0 : Int) ≤ σ 57 0 by omega)
  have d2 := Int.ediv_nonneg hab.2.2.1 (show (0 : Int) ≤ σ 57 0 by omega)
  have d3 := Int.ediv_le_self (b := σ 57 0) hab.1
  have d4 := Int.ediv_le_self (b := σ 57 0) hab.2.2.1
  have d5 := Int.emod_nonneg a (show σ 57 0 ≠ 0 by omega)
  have d6 := Int.emod_nonneg b (show σ 57 0 ≠ 0 by omega)
  have d7 := Int.emod_lt_of_pos a (show (0 : Int) < σ 57 0 by omega)
  have d8 := Int.emod_lt_of_pos b (show (0 : Int) < σ 57 0 by omega)
  refine r_aload_n hX dX0_areNeighbours_0 rfl ?_
  refine fg_G10_30 hX dX0_areNeighbours_1 ?_
  refine r_iconst hX dX0_areNeighbours_4 ?_
  refine r_icmp_ge hX (tgt := 10) dX0_areNeighbours_5 (by decide) (by omega) (by omega) (fun c5 => ?_) (fun c5 => ?_)
  · skip
    refine r_iload_n hX dX0_areNeighbours_10 rfl ?_
    refine r_aload_n hX dX0_areNeighbours_11 rfl ?_
    refine fg_G10_30 hX dX0_areNeighbours_12 ?_
    refine r_idiv hX dX0_areNeighbours_15 (by omega) (by omega) (by omega) (by omega) ?_
    refine r_iload_n hX dX0_areNeighbours_16 rfl ?_
    refine r_aload_n hX dX0_areNeighbours_17 rfl ?_
    refine fg_G10_30 hX dX0_areNeighbours_18 ?_
    refine r_idiv hX dX0_areNeighbours_21 (by omega) (by omega) (by omega) (by omega) ?_
    refine r_isub hX dX0_areNeighbours_22 ?_
    refine r_abs hX dX0_areNeighbours_23 lq_RX0_62 ma_abs_s ma_i ma_abs_c (Nat.le_of_ble_eq_true rfl) (Nat.le_of_ble_eq_true rfl) (by omega) (fun z23 h23 => ?_)
    refine r_istore_n hX (fun x26 => [some (.ref (w.2.2 0)), some (.int (iI a)), some (.int (iI b)), some (.int (iI x26)), none]) dX0_areNeighbours_26 (Nat.le_of_ble_eq_true rfl) rfl rfl (fun _ => rfl) (fun x26 e26 => ?_)
    refine r_iload_n hX dX0_areNeighbours_27 rfl ?_
    refine r_aload_n hX dX0_areNeighbours_28 rfl ?_
    refine fg_G10_30 hX dX0_areNeighbours_29 ?_
    refine r_irem hX dX0_areNeighbours_32 (by omega) (by omega) (by omega) (by omega) ?_
    refine r_iload_n hX dX0_areNeighbours_33 rfl ?_
    refine r_aload_n hX dX0_areNeighbours_34 rfl ?_
    refine fg_G10_30 hX dX0_areNeighbours_35 ?_
    refine r_irem hX dX0_areNeighbours_38 (by omega) (by omega) (by omega) (by omega) ?_
    refine r_isub hX dX0_areNeighbours_39 ?_
    refine r_abs hX dX0_areNeighbours_40 lq_RX0_62 ma_abs_s ma_i ma_abs_c (Nat.le_of_ble_eq_true rfl) (Nat.le_of_ble_eq_true rfl) (by omega) (fun z40 h40 => ?_)
    refine r_istore hX (fun x43 => [some (.ref (w.2.2 0)), some (.int (iI a)), some (.int (iI b)), some (.int (iI x26)), some (.int (iI x43))]) dX0_areNeighbours_43 (Nat.le_of_ble_eq_true rfl) rfl rfl (fun _ => rfl) (fun x43 e43 => ?_)
    refine r_iload_n hX dX0_areNeighbours_45 rfl ?_
    refine r_iload hX dX0_areNeighbours_46 rfl ?_
    refine r_iadd hX dX0_areNeighbours_48 ?_
    refine r_iconst hX dX0_areNeighbours_49 ?_
    refine r_icmp_ne hX (tgt := 57) dX0_areNeighbours_50 (by decide) (by omega) (by omega) (fun c50 => ?_) (fun c50 => ?_)
    · skip
      refine r_iconst hX dX0_areNeighbours_57 ?_
      exact r_zret hX dX0_areNeighbours_58 rfl (by omega) ⟨_, rfl, ⟨rfl, (by first | exact Or.inl ⟨rfl, by unfold Nbr; omega⟩ | exact Or.inr ⟨rfl, by unfold Nbr; omega⟩)⟩⟩
    · skip
      refine r_iconst hX dX0_areNeighbours_53 ?_
      refine r_goto hX dX0_areNeighbours_54 (tgt := 58) (by decide) ?_
      exact r_zret hX dX0_areNeighbours_58 rfl (by omega) ⟨_, rfl, ⟨rfl, (by first | exact Or.inl ⟨rfl, by unfold Nbr; omega⟩ | exact Or.inr ⟨rfl, by unfold Nbr; omega⟩)⟩⟩
  · exfalso; omega
set_option maxRecDepth 20000 in
set_option maxHeartbeats 4000000 in
theorem k_GG_singleStep (l : Launch) (w : WT) (σ : MM) (a : Int) (b : Int) (i_a : inr a) (i_b : inr b) (hab : 0 ≤ a ∧ a < 9 ∧ 0 ≤ b ∧ b < 9) (hbd : 1 ≤ σ 56 0 ∧ σ 56 0 ≤ 3 ∧ 1 ≤ σ 57 0 ∧ σ 57 0 ≤ 3) : CT SG l w yX0_singleStep cX0_singleStep 3 (some .int) 2 45 [.ref (w.2.2 0), .int (iI a), .int (iI b)] σ (PI fun z σ1 => σ = σ1 ∧ (SSt (σ 11) (σ 56 0 * σ 57 0) (σ 57 0) a b z) ∧ (0 ≤ z ∧ z ≤ 1000)) := by
  refine CT.of 0 [some (.ref (w.2.2 0)), some (.int (iI a)), some (.int (iI b))] (by decide +kernel) (by simp [lg_sl, Value.category]) rfl sh_G (fun G hX => ?_)
  refine r_iload_n hX dX0_singleStep_0 rfl ?_
  refine r_iload_n hX dX0_singleStep_1 rfl ?_
  refine r_icmp_ne hX (tgt := 7) dX0_singleStep_2 (by decide) (by omega) (by omega) (fun c2 => ?_) (fun c2 => ?_)
  · skip
    refine r_aload_n hX dX0_singleStep_7 rfl ?_
    refine r_iload_n hX dX0_singleStep_8 rfl ?_
    refine r_callV hX dX0_singleStep_9 (k_GG_isOpen l w σ _ (by omega) (by omega)) mf_X0_isOpen mv_X0_isOpen lk_RX0_44 rfl rfl rfl rfl rfl ⟨Nat.le_of_ble_eq_true rfl, Nat.le_of_ble_eq_true rfl⟩ (Nat.le_of_ble_eq_true rfl) (kI fun z9 σ9 hh => ?_)
    obtain ⟨rfl, h9_0⟩ := hh
    refine r_if_eq hX (tgt := 36) dX0_singleStep_12 (by decide) (by omega) (fun c12 => ?_) (fun c12 => ?_)
    · skip
      refine r_sipush hX dX0_singleStep_36 (by decide) ?_
      exact r_iret hX dX0_singleStep_39 rfl ⟨_, rfl, ⟨rfl, (by first | exact Or.inr (Or.inl ⟨c2, ⟨⟨by omega, by omega, by omega⟩, ⟨by omega, by omega, by omega⟩, cf_yes h26_0 (by omega)⟩, rfl⟩) | exact Or.inr (Or.inr ⟨c2, fun q => (by have q1 := q.1.1; have q2 := q.1.2.1; have q3 := q.1.2.2; have q4 := q.2.1.1; have q5 := q.2.1.2.1; have q6 := q.2.1.2.2; first | omega | exact cf_no h26_0 (by omega) q.2.2), rfl⟩)), (by omega)⟩⟩
    · skip
      refine r_aload_n hX dX0_singleStep_15 rfl ?_
      refine r_iload_n hX dX0_singleStep_16 rfl ?_
      refine r_callV hX dX0_singleStep_17 (k_GG_isOpen l w σ _ (by omega) (by omega)) mf_X0_isOpen mv_X0_isOpen lk_RX0_44 rfl rfl rfl rfl rfl ⟨Nat.le_of_ble_eq_true rfl, Nat.le_of_ble_eq_true rfl⟩ (Nat.le_of_ble_eq_true rfl) (kI fun z17 σ17 hh => ?_)
      obtain ⟨rfl, h17_0⟩ := hh
      refine r_if_eq hX (tgt := 36) dX0_singleStep_20 (by decide) (by omega) (fun c20 => ?_) (fun c20 => ?_)
      · skip
        refine r_sipush hX dX0_singleStep_36 (by decide) ?_
        exact r_iret hX dX0_singleStep_39 rfl ⟨_, rfl, ⟨rfl, (by first | exact Or.inr (Or.inl ⟨c2, ⟨⟨by omega, by omega, by omega⟩, ⟨by omega, by omega, by omega⟩, cf_yes h26_0 (by omega)⟩, rfl⟩) | exact Or.inr (Or.inr ⟨c2, fun q => (by have q1 := q.1.1; have q2 := q.1.2.1; have q3 := q.1.2.2; have q4 := q.2.1.1; have q5 := q.2.1.2.1; have q6 := q.2.1.2.2; first | omega | exact cf_no h26_0 (by omega) q.2.2), rfl⟩)), (by omega)⟩⟩
      · skip
        refine r_aload_n hX dX0_singleStep_23 rfl ?_
        refine r_iload_n hX dX0_singleStep_24 rfl ?_
        refine r_iload_n hX dX0_singleStep_25 rfl ?_
        refine r_callV hX dX0_singleStep_26 (k_GG_areNeighbours l w σ _ _ (by omega) (by omega) (by omega) (by omega)) mf_X0_areNeighbours mv_X0_areNeighbours lk_RX0_58 rfl rfl rfl rfl rfl ⟨Nat.le_of_ble_eq_true rfl, Nat.le_of_ble_eq_true rfl⟩ (Nat.le_of_ble_eq_true rfl) (kI fun z26 σ26 hh => ?_)
        obtain ⟨rfl, h26_0⟩ := hh
        refine r_if_eq hX (tgt := 36) dX0_singleStep_29 (by decide) (by omega) (fun c29 => ?_) (fun c29 => ?_)
        · skip
          refine r_sipush hX dX0_singleStep_36 (by decide) ?_
          exact r_iret hX dX0_singleStep_39 rfl ⟨_, rfl, ⟨rfl, (by first | exact Or.inr (Or.inl ⟨c2, ⟨⟨by omega, by omega, by omega⟩, ⟨by omega, by omega, by omega⟩, cf_yes h26_0 (by omega)⟩, rfl⟩) | exact Or.inr (Or.inr ⟨c2, fun q => (by have q1 := q.1.1; have q2 := q.1.2.1; have q3 := q.1.2.2; have q4 := q.2.1.1; have q5 := q.2.1.2.1; have q6 := q.2.1.2.2; first | omega | exact cf_no h26_0 (by omega) q.2.2), rfl⟩)), (by omega)⟩⟩
        · skip
          refine r_iconst hX dX0_singleStep_32 ?_
          refine r_goto hX dX0_singleStep_33 (tgt := 39) (by decide) ?_
          exact r_iret hX dX0_singleStep_39 rfl ⟨_, rfl, ⟨rfl, (by first | exact Or.inr (Or.inl ⟨c2, ⟨⟨by omega, by omega, by omega⟩, ⟨by omega, by omega, by omega⟩, cf_yes h26_0 (by omega)⟩, rfl⟩) | exact Or.inr (Or.inr ⟨c2, fun q => (by have q1 := q.1.1; have q2 := q.1.2.1; have q3 := q.1.2.2; have q4 := q.2.1.1; have q5 := q.2.1.2.1; have q6 := q.2.1.2.2; first | omega | exact cf_no h26_0 (by omega) q.2.2), rfl⟩)), (by omega)⟩⟩
  · skip
    refine r_iconst hX dX0_singleStep_5 ?_
    exact r_iret hX dX0_singleStep_6 rfl ⟨_, rfl, ⟨rfl, (by exact Or.inl ⟨c2, rfl⟩), (by omega)⟩⟩
set_option maxRecDepth 20000 in
set_option maxHeartbeats 4000000 in
theorem k_GG_shortenThrough (l : Launch) (w : WT) (σ : MM) (m : Int) (i_m : inr m) (hm : 0 ≤ m ∧ m < 9) (hz : ∀ a : Int, 0 ≤ a → a < 9 → σ 13 (a * 9 + a) = 0) (hbd : 1 ≤ σ 56 0 ∧ σ 56 0 ≤ 3 ∧ 1 ≤ σ 57 0 ∧ σ 57 0 ≤ 3) : CT SG l w yX0_shortenThrough cX0_shortenThrough 5 none 0 0 [.ref (w.2.2 0), .int (iI m)] σ (PV fun σ1 => Mod [13] σ σ1 ∧ (Fw (σ 13) (σ1 13) m)) := by
  refine CT.of 3 [some (.ref (w.2.2 0)), some (.int (iI m)), none, none, none] (by decide +kernel) (by simp [lg_sl, Value.category]) rfl sh_G (fun G hX => ?_)
  refine r_iconst hX dX0_shortenThrough_0 ?_
  refine r_istore_n hX (fun x1 => [some (.ref (w.2.2 0)), some (.int (iI m)), some (.int (iI x1)), none, none]) dX0_shortenThrough_1 (Nat.le_of_ble_eq_true rfl) rfl rfl (fun _ => rfl) (fun x1 e1 => ?_)
  have lp2 : ∀ (n : Nat) (f : Int) (σ2 : MM) (m2 : Mod [13] σ σ2) (hf : 0 ≤ f ∧ f ≤ 9) (hW : ∀ a b : Int, 0 ≤ a → a < 9 → 0 ≤ b → b < 9 → σ2 13 (a * 9 + b) = if a < f ∨ (a = f ∧ b < 0) then (if σ 13 (a * 9 + m) + σ 13 (m * 9 + b) < σ 13 (a * 9 + b) then σ 13 (a * 9 + m) + σ 13 (m * 9 + b) else σ 13 (a * 9 + b)) else σ 13 (a * 9 + b)) (hmu : 10 - f < (n : Int)), G 2 [some (.ref (w.2.2 0)), some (.int (iI m)), some (.int (iI f)), none, none] [] σ2 := by
    intro n
    induction n with
    | zero => intro f σ2 m2 hf hW hmu; omega
    | succ n ih =>
      intro f σ2 m2 hf hW hmu
      have ih2 := ih
      clear ih
      refine r_iload_n hX dX0_shortenThrough_2 rfl ?_
      refine r_bipush hX dX0_shortenThrough_3 (by decide) ?_
      refine r_icmp_ge hX (tgt := 82) dX0_shortenThrough_5 (by decide) (by omega) (by omega) (fun c5 => ?_) (fun c5 => ?_)
      · skip
        exact r_ret hX dX0_shortenThrough_82 rfl ⟨rfl, ⟨(m2.w rfl), (fun a b a0 a1 b0 b1 => by rw [hW a b a0 a1 b0 b1, if_pos (by omega)])⟩⟩
      · skip
        refine r_iconst hX dX0_shortenThrough_8 ?_
        refine r_istore_n hX (fun x9 => [some (.ref (w.2.2 0)), some (.int (iI m)), some (.int (iI f)), some (.int (iI x9)), none]) dX0_shortenThrough_9 (Nat.le_of_ble_eq_true rfl) rfl rfl (fun _ => rfl) (fun x9 e9 => ?_)
        have lp10 : ∀ (n : Nat) (t : Int) (σ10 : MM) (m10 : Mod [13] σ2 σ10) (ht : 0 ≤ t ∧ t ≤ 9) (hW2 : ∀ a b : Int, 0 ≤ a → a < 9 → 0 ≤ b → b < 9 → σ10 13 (a * 9 + b) = if a < f ∨ (a = f ∧ b < t) then (if σ 13 (a * 9 + m) + σ 13 (m * 9 + b) < σ 13 (a * 9 + b) then σ 13 (a * 9 + m) + σ 13 (m * 9 + b) else σ 13 (a * 9 + b)) else σ 13 (a * 9 + b)) (hmu : 10 - t < (n : Int)), G 10 [some (.ref (w.2.2 0)), some (.int (iI m)), some (.int (iI f)), some (.int (iI t)), none] [] σ10 := by
          intro n
          induction n with
          | zero => intro t σ10 m10 ht hW2 hmu; omega
          | succ n ih =>
            intro t σ10 m10 ht hW2 hmu
            have ih10 := ih
            clear ih
            refine r_iload_n hX dX0_shortenThrough_10 rfl ?_
            refine r_bipush hX dX0_shortenThrough_11 (by decide) ?_
            refine r_icmp_ge hX (tgt := 76) dX0_shortenThrough_13 (by decide) (by omega) (by omega) (fun c13 => ?_) (fun c13 => ?_)
            · skip
              refine r_iinc hX (fun x76 => [some (.ref (w.2.2 0)), some (.int (iI m)), some (.int (iI x76)), some (.int (iI t)), none]) dX0_shortenThrough_76 rfl rfl rfl (fun _ => rfl) (fun x76 e76 => ?_)
              refine r_goto hX dX0_shortenThrough_79 (tgt := 2) (by decide) ?_
              refine r_wk hX (lv1 := [some (.ref (w.2.2 0)), some (.int (iI m)), some (.int (iI x76)), none, none]) ⟨rfl, ⟨rfl, ⟨rfl, trivial⟩⟩⟩ ?_
              exact ih2 x76 σ10 (Mod.tr (L := [13]) m2 m10 rfl rfl) (by omega) (fun a b a0 a1 b0 b1 => by rw [hW2 a b a0 a1 b0 b1]; exact if_iff _ _ (by omega)) (by omega)
            · skip
              refine r_aload_n hX dX0_shortenThrough_16 rfl ?_
              refine fg_G10_18 hX dX0_shortenThrough_17 ?_
              refine r_iload_n hX dX0_shortenThrough_20 rfl ?_
              refine r_bipush hX dX0_shortenThrough_21 (by decide) ?_
              refine r_imul hX dX0_shortenThrough_23 ?_
              refine r_iload_n hX dX0_shortenThrough_24 rfl ?_
              refine r_iadd hX dX0_shortenThrough_25 ?_
              refine ld_G13 hX dX0_shortenThrough_26 (by omega) (by omega) (fun b26l b26u => ?_)
              refine r_aload_n hX dX0_shortenThrough_27 rfl ?_
              refine fg_G10_18 hX dX0_shortenThrough_28 ?_
              refine r_iload_n hX dX0_shortenThrough_31 rfl ?_
              refine r_bipush hX dX0_shortenThrough_32 (by decide) ?_
              refine r_imul hX dX0_shortenThrough_34 ?_
              refine r_iload_n hX dX0_shortenThrough_35 rfl ?_
              refine r_iadd hX dX0_shortenThrough_36 ?_
              refine ld_G13 hX dX0_shortenThrough_37 (by omega) (by omega) (fun b37l b37u => ?_)
              refine r_iadd hX dX0_shortenThrough_38 ?_
              refine r_istore hX (fun x39 => [some (.ref (w.2.2 0)), some (.int (iI m)), some (.int (iI f)), some (.int (iI t)), some (.int (iI x39))]) dX0_shortenThrough_39 (Nat.le_of_ble_eq_true rfl) rfl rfl (fun _ => rfl) (fun x39 e39 => ?_)
              refine r_iload hX dX0_shortenThrough_41 rfl ?_
              refine r_aload_n hX dX0_shortenThrough_43 rfl ?_
              refine fg_G10_18 hX dX0_shortenThrough_44 ?_
              refine r_iload_n hX dX0_shortenThrough_47 rfl ?_
              refine r_bipush hX dX0_shortenThrough_48 (by decide) ?_
              refine r_imul hX dX0_shortenThrough_50 ?_
              refine r_iload_n hX dX0_shortenThrough_51 rfl ?_
              refine r_iadd hX dX0_shortenThrough_52 ?_
              refine ld_G13 hX dX0_shortenThrough_53 (by omega) (by omega) (fun b53l b53u => ?_)
              refine r_icmp_ge hX (tgt := 70) dX0_shortenThrough_54 (by decide) (by omega) (by omega) (fun c54 => ?_) (fun c54 => ?_)
              · skip
                refine r_iinc hX (fun x70 => [some (.ref (w.2.2 0)), some (.int (iI m)), some (.int (iI f)), some (.int (iI x70)), some (.int (iI x39))]) dX0_shortenThrough_70 rfl rfl rfl (fun _ => rfl) (fun x70 e70 => ?_)
                refine r_goto hX dX0_shortenThrough_73 (tgt := 10) (by decide) ?_
                refine r_wk hX (lv1 := [some (.ref (w.2.2 0)), some (.int (iI m)), some (.int (iI f)), some (.int (iI x70)), none]) ⟨rfl, ⟨rfl, ⟨rfl, ⟨rfl, trivial⟩⟩⟩⟩ ?_
                exact ih10 x70 σ10 (m10.w rfl) (by omega) (fun a b a0 a1 b0 b1 => fw_step (f := f) (t := t) (m := m) hm (by omega) (by omega) hW2 hz e39 (by first | exact Or.inl ⟨s69, by omega⟩ | exact Or.inr ⟨rfl, by omega⟩) e70 a b a0 a1 b0 b1) (by omega)
              · skip
                refine r_aload_n hX dX0_shortenThrough_57 rfl ?_
                refine fg_G10_18 hX dX0_shortenThrough_58 ?_
                refine r_iload_n hX dX0_shortenThrough_61 rfl ?_
                refine r_bipush hX dX0_shortenThrough_62 (by decide) ?_
                refine r_imul hX dX0_shortenThrough_64 ?_
                refine r_iload_n hX dX0_shortenThrough_65 rfl ?_
                refine r_iadd hX dX0_shortenThrough_66 ?_
                refine r_iload hX dX0_shortenThrough_67 rfl ?_
                refine st_G13 hX dX0_shortenThrough_69 (by omega) (by omega) (by omega) (fun σ69 m69 s69 => ?_)
                refine r_iinc hX (fun x70 => [some (.ref (w.2.2 0)), some (.int (iI m)), some (.int (iI f)), some (.int (iI x70)), some (.int (iI x39))]) dX0_shortenThrough_70 rfl rfl rfl (fun _ => rfl) (fun x70 e70 => ?_)
                refine r_goto hX dX0_shortenThrough_73 (tgt := 10) (by decide) ?_
                refine r_wk hX (lv1 := [some (.ref (w.2.2 0)), some (.int (iI m)), some (.int (iI f)), some (.int (iI x70)), none]) ⟨rfl, ⟨rfl, ⟨rfl, ⟨rfl, trivial⟩⟩⟩⟩ ?_
                exact ih10 x70 σ69 (Mod.tr (L := [13]) m10 m69 rfl rfl) (by omega) (fun a b a0 a1 b0 b1 => fw_step (f := f) (t := t) (m := m) hm (by omega) (by omega) hW2 hz e39 (by first | exact Or.inl ⟨s69, by omega⟩ | exact Or.inr ⟨rfl, by omega⟩) e70 a b a0 a1 b0 b1) (by omega)
        exact lp10 ((10 - (x9)) + 1).toNat x9 σ2 Mod.rf (by omega) (fun a b a0 a1 b0 b1 => by rw [hW a b a0 a1 b0 b1]; exact if_iff _ _ (by omega)) (by omega)
  exact lp2 ((10 - (x1)) + 1).toNat x1 σ Mod.rf (by omega) (fun a b a0 a1 b0 b1 => by rw [if_neg (by omega)]) (by omega)
set_option maxRecDepth 20000 in
set_option maxHeartbeats 4000000 in
theorem k_GG_measure (l : Launch) (w : WT) (σ : MM) (hbd : 1 ≤ σ 56 0 ∧ σ 56 0 ≤ 3 ∧ 1 ≤ σ 57 0 ∧ σ 57 0 ≤ 3) : CT SG l w yX0_measure cX0_measure 3 none 3 67 [.ref (w.2.2 0)] σ (PV fun σ1 => Mod [13] σ σ1 ∧ (WayOK (σ 11) (σ 56 0 * σ 57 0) (σ 57 0) (σ1 13))) := by
  refine CT.of 2 [some (.ref (w.2.2 0)), none, none] (by decide +kernel) (by simp [lg_sl, Value.category]) rfl sh_G (fun G hX => ?_)
  refine r_bd hX (fun hBd => ?_)
  have b_56 : 1 ≤ σ 56 0 ∧ σ 56 0 ≤ 3 := ⟨hbd.1, hbd.2.1⟩
  have b_57 : 1 ≤ σ 57 0 ∧ σ 57 0 ≤ 3 := ⟨hbd.2.2.1, hbd.2.2.2⟩
  have hn := mul_bd b_56 b_57
  refine r_iconst hX dX0_measure_0 ?_
  refine r_istore_n hX (fun x1 => [some (.ref (w.2.2 0)), some (.int (iI x1)), none]) dX0_measure_1 (Nat.le_of_ble_eq_true rfl) rfl rfl (fun _ => rfl) (fun x1 e1 => ?_)
  have lp2 : ∀ (n : Nat) (f : Int) (σ2 : MM) (m2 : Mod [13] σ σ2) (hf : 0 ≤ f ∧ f ≤ 9) (hS : ∀ a b : Int, 0 ≤ a → a < f → 0 ≤ b → b < 9 → SSt (σ 11) (σ 56 0 * σ 57 0) (σ 57 0) a b (σ2 13 (a * 9 + b))) (hmu : 10 - f < (n : Int)), G 2 [some (.ref (w.2.2 0)), some (.int (iI f)), none] [] σ2 := by
    intro n
    induction n with
    | zero => intro f σ2 m2 hf hS hmu; omega
    | succ n ih =>
      intro f σ2 m2 hf hS hmu
      have ih2 := ih
      clear ih
      refine r_iload_n hX dX0_measure_2 rfl ?_
      refine r_bipush hX dX0_measure_3 (by decide) ?_
      refine r_icmp_ge hX (tgt := 45) dX0_measure_5 (by decide) (by omega) (by omega) (fun c5 => ?_) (fun c5 => ?_)
      · skip
        refine r_iconst hX dX0_measure_45 ?_
        refine r_istore_n hX (fun x46 => [some (.ref (w.2.2 0)), some (.int (iI x46)), none]) dX0_measure_46 (Nat.le_of_ble_eq_true rfl) rfl rfl (fun _ => rfl) (fun x46 e46 => ?_)
        have lp47 : ∀ (n : Nat) (k : Int) (σ47 : MM) (m47 : Mod [13] σ2 σ47) (hk : 0 ≤ k ∧ k ≤ (σ 56 0 * σ 57 0)) (hF : FWI (σ 11) (σ 56 0 * σ 57 0) (σ 57 0) k (σ47 13)) (hmu : 10 - k < (n : Int)), G 47 [some (.ref (w.2.2 0)), some (.int (iI k)), none] [] σ47 := by
          intro n
          induction n with
          | zero => intro k σ47 m47 hk hF hmu; omega
          | succ n ih =>
            intro k σ47 m47 hk hF hmu
            have ih47 := ih
            clear ih
            refine r_iload_n hX dX0_measure_47 rfl ?_
            refine r_aload_n hX dX0_measure_48 rfl ?_
            have qp49_56 : σ47 56 = σ 56 := ((m47.at 56 rfl).trans (m2.at 56 rfl))
            have qp49_57 : σ47 57 = σ 57 := ((m47.at 57 rfl).trans (m2.at 57 rfl))
            refine r_callV hX dX0_measure_49 (k_GG_cells l w σ47 (by simp only [qp49_56, qp49_57]; omega)) mf_X0_cells mv_X0_cells lk_RX0_40 rfl rfl rfl rfl rfl ⟨Nat.le_of_ble_eq_true rfl, Nat.le_of_ble_eq_true rfl⟩ (Nat.le_of_ble_eq_true rfl) (kI fun z49 σ49 hh => ?_)
            obtain ⟨rfl, h49_0, h49_1⟩ := hh
            have q49_1 : σ47 56 = σ 56 := ((m47.at 56 rfl).trans (m2.at 56 rfl))
            have q49_2 : σ47 57 = σ 57 := ((m47.at 57 rfl).trans (m2.at 57 rfl))
            try simp only [q49_1, q49_2] at h49_0
            refine r_icmp_ge hX (tgt := 72) dX0_measure_52 (by decide) (by omega) (by omega) (fun c52 => ?_) (fun c52 => ?_)
            · skip
              exact r_ret hX dX0_measure_72 rfl ⟨rfl, ⟨(Mod.tr (L := [13]) m2 m47 rfl rfl), (by exact hF.fin (by omega) (by omega))⟩⟩
            · skip
              refine r_iload_n hX dX0_measure_55 rfl ?_
              refine r_bipush hX dX0_measure_56 (by decide) ?_
              refine r_icmp_ge hX (tgt := 72) dX0_measure_58 (by decide) (by omega) (by omega) (fun c58 => ?_) (fun c58 => ?_)
              · exfalso; omega
              · skip
                refine r_aload_n hX dX0_measure_61 rfl ?_
                refine r_iload_n hX dX0_measure_62 rfl ?_
                have qp63_56 : σ47 56 = σ 56 := ((m47.at 56 rfl).trans (m2.at 56 rfl))
                have qp63_57 : σ47 57 = σ 57 := ((m47.at 57 rfl).trans (m2.at 57 rfl))
                refine r_callV hX dX0_measure_63 (k_GG_shortenThrough l w σ47 _ (by omega) (by omega) (hF.2.1) (by simp only [qp63_56, qp63_57]; omega)) mf_X0_shortenThrough mv_X0_shortenThrough lk_RX0_54 rfl rfl rfl rfl rfl ⟨Nat.le_of_ble_eq_true rfl, Nat.le_of_ble_eq_true rfl⟩ (Nat.le_of_ble_eq_true rfl) (kV fun σ63 hh => ?_)
                obtain ⟨m63, h63_0⟩ := hh
                refine r_iinc hX (fun x66 => [some (.ref (w.2.2 0)), some (.int (iI x66)), none]) dX0_measure_66 rfl rfl rfl (fun _ => rfl) (fun x66 e66 => ?_)
                refine r_goto hX dX0_measure_69 (tgt := 47) (by decide) ?_
                exact ih47 x66 σ63 (Mod.tr (L := [13]) m47 m63 rfl rfl) (by omega) (by rw [e66]; exact hF.next (by omega) (by omega) h63_0) (by omega)
        exact lp47 ((10 - (x46)) + 1).toNat x46 σ2 Mod.rf (by omega) (by rw [e46]; exact FWI.init (fun a b a0 a1 b0 b1 => hS a b a0 (by omega) b0 b1)) (by omega)
      · skip
        refine r_iconst hX dX0_measure_8 ?_
        refine r_istore_n hX (fun x9 => [some (.ref (w.2.2 0)), some (.int (iI f)), some (.int (iI x9))]) dX0_measure_9 (Nat.le_of_ble_eq_true rfl) rfl rfl (fun _ => rfl) (fun x9 e9 => ?_)
        have lp10 : ∀ (n : Nat) (t : Int) (σ10 : MM) (m10 : Mod [13] σ2 σ10) (ht : 0 ≤ t ∧ t ≤ 9) (hS2 : ∀ a b : Int, 0 ≤ a → a < 9 → 0 ≤ b → b < 9 → (a < f ∨ (a = f ∧ b < t)) → SSt (σ 11) (σ 56 0 * σ 57 0) (σ 57 0) a b (σ10 13 (a * 9 + b))) (hmu : 10 - t < (n : Int)), G 10 [some (.ref (w.2.2 0)), some (.int (iI f)), some (.int (iI t))] [] σ10 := by
          intro n
          induction n with
          | zero => intro t σ10 m10 ht hS2 hmu; omega
          | succ n ih =>
            intro t σ10 m10 ht hS2 hmu
            have ih10 := ih
            clear ih
            refine r_iload_n hX dX0_measure_10 rfl ?_
            refine r_bipush hX dX0_measure_11 (by decide) ?_
            refine r_icmp_ge hX (tgt := 39) dX0_measure_13 (by decide) (by omega) (by omega) (fun c13 => ?_) (fun c13 => ?_)
            · skip
              refine r_iinc hX (fun x39 => [some (.ref (w.2.2 0)), some (.int (iI x39)), some (.int (iI t))]) dX0_measure_39 rfl rfl rfl (fun _ => rfl) (fun x39 e39 => ?_)
              refine r_goto hX dX0_measure_42 (tgt := 2) (by decide) ?_
              refine r_wk hX (lv1 := [some (.ref (w.2.2 0)), some (.int (iI x39)), none]) ⟨rfl, ⟨rfl, trivial⟩⟩ ?_
              exact ih2 x39 σ10 (Mod.tr (L := [13]) m2 m10 rfl rfl) (by omega) (fun a b a0 a1 b0 b1 => hS2 a b a0 (by omega) b0 b1 (by omega)) (by omega)
            · skip
              refine r_aload_n hX dX0_measure_16 rfl ?_
              refine fg_G10_18 hX dX0_measure_17 ?_
              refine r_iload_n hX dX0_measure_20 rfl ?_
              refine r_bipush hX dX0_measure_21 (by decide) ?_
              refine r_imul hX dX0_measure_23 ?_
              refine r_iload_n hX dX0_measure_24 rfl ?_
              refine r_iadd hX dX0_measure_25 ?_
              refine r_aload_n hX dX0_measure_26 rfl ?_
              refine r_iload_n hX dX0_measure_27 rfl ?_
              refine r_iload_n hX dX0_measure_28 rfl ?_
              have qp29_56 : σ10 56 = σ 56 := ((m10.at 56 rfl).trans (m2.at 56 rfl))
              have qp29_57 : σ10 57 = σ 57 := ((m10.at 57 rfl).trans (m2.at 57 rfl))
              refine r_callV hX dX0_measure_29 (k_GG_singleStep l w σ10 _ _ (by omega) (by omega) (by omega) (by simp only [qp29_56, qp29_57]; omega)) mf_X0_singleStep mv_X0_singleStep lk_RX0_50 rfl rfl rfl rfl rfl ⟨Nat.le_of_ble_eq_true rfl, Nat.le_of_ble_eq_true rfl⟩ (Nat.le_of_ble_eq_true rfl) (kI fun z29 σ29 hh => ?_)
              obtain ⟨rfl, h29_0, h29_1⟩ := hh
              have q29_3 : σ10 11 = σ 11 := ((m10.at 11 rfl).trans (m2.at 11 rfl))
              have q29_4 : σ10 56 = σ 56 := ((m10.at 56 rfl).trans (m2.at 56 rfl))
              have q29_5 : σ10 57 = σ 57 := ((m10.at 57 rfl).trans (m2.at 57 rfl))
              try simp only [q29_3, q29_4, q29_5] at h29_0
              refine st_G13 hX dX0_measure_32 (by omega) (by omega) (by omega) (fun σ32 m32 s32 => ?_)
              refine r_iinc hX (fun x33 => [some (.ref (w.2.2 0)), some (.int (iI f)), some (.int (iI x33))]) dX0_measure_33 rfl rfl rfl (fun _ => rfl) (fun x33 e33 => ?_)
              refine r_goto hX dX0_measure_36 (tgt := 10) (by decide) ?_
              exact ih10 x33 σ32 (Mod.tr (L := [13]) m10 m32 rfl rfl) (by omega) (pair_step hS2 s32 h29_0 e33 (by omega) (by omega)) (by omega)
        exact lp10 ((10 - (x9)) + 1).toNat x9 σ2 Mod.rf (by omega) (fun a b a0 a1 b0 b1 q => hS a b a0 (by omega) b0 b1) (by omega)
  exact lp2 ((10 - (x1)) + 1).toNat x1 σ Mod.rf (by omega) (fun a b a0 a1 b0 b1 => by omega) (by omega)
set_option maxRecDepth 20000 in
set_option maxHeartbeats 4000000 in
theorem k_GG_renew (l : Launch) (w : WT) (σ : MM) (r : Int) (c : Int) (i_r : inr r) (i_c : inr c) (hr : 1 ≤ r ∧ r ≤ 3) (hc : 1 ≤ c ∧ c ≤ 3) : CT SG l w yX0_renew cX0_renew 4 none 4 89 [.ref (w.2.2 0), .int (iI r), .int (iI c)] σ (PV fun σ1 => Mod [11, 12, 13, 56, 57] σ σ1 ∧ (σ1 56 0 = r) ∧ (σ1 57 0 = c) ∧ (∀ b : Int, 0 ≤ b → b < 9 → σ1 11 b = 0 ∧ σ1 12 b = 1) ∧ (WayOK (σ1 11) (σ1 56 0 * σ1 57 0) (σ1 57 0) (σ1 13))) := by
  refine CT.of 1 [some (.ref (w.2.2 0)), some (.int (iI r)), some (.int (iI c)), none] (by decide +kernel) (by simp [lg_sl, Value.category]) rfl sh_G (fun G hX => ?_)
  refine r_aload_n hX dX0_renew_0 rfl ?_
  refine r_iload_n hX dX0_renew_1 rfl ?_
  refine fp_G10_26 hX dX0_renew_2 (fun σ2 m2 s2 => ?_)
  refine r_aload_n hX dX0_renew_5 rfl ?_
  refine r_iload_n hX dX0_renew_6 rfl ?_
  refine fp_G10_30 hX dX0_renew_7 (fun σ7 m7 s7 => ?_)
  refine r_iconst hX dX0_renew_10 ?_
  refine r_istore_n hX (fun x11 => [some (.ref (w.2.2 0)), some (.int (iI r)), some (.int (iI c)), some (.int (iI x11))]) dX0_renew_11 (Nat.le_of_ble_eq_true rfl) rfl rfl (fun _ => rfl) (fun x11 e11 => ?_)
  have lp12 : ∀ (n : Nat) (i : Int) (σ12 : MM) (m12 : Mod [11, 12] σ7 σ12) (hi : 0 ≤ i ∧ i ≤ 9) (hz : ∀ b : Int, 0 ≤ b → b < i → σ12 11 b = 0 ∧ σ12 12 b = 1) (hmu : 10 - i < (n : Int)), G 12 [some (.ref (w.2.2 0)), some (.int (iI r)), some (.int (iI c)), some (.int (iI i))] [] σ12 := by
    intro n
    induction n with
    | zero => intro i σ12 m12 hi hz hmu; omega
    | succ n ih =>
      intro i σ12 m12 hi hz hmu
      have ih12 := ih
      clear ih
      refine r_iload_n hX dX0_renew_12 rfl ?_
      refine r_bipush hX dX0_renew_13 (by decide) ?_
      refine r_icmp_ge hX (tgt := 38) dX0_renew_15 (by decide) (by omega) (by omega) (fun c15 => ?_) (fun c15 => ?_)
      · skip
        refine r_aload_n hX dX0_renew_38 rfl ?_
        have qp39_56 : σ12 56 = σ2 56 := ((m12.at 56 rfl).trans (m7.at 56 rfl))
        have qp39_57 : σ12 57 = σ7 57 := (m12.at 57 rfl)
        refine r_callV hX dX0_renew_39 (k_GG_measure l w σ12 (by simp only [qp39_56, qp39_57]; omega)) mf_X0_measure mv_X0_measure lk_RX0_33 rfl rfl rfl rfl rfl ⟨Nat.le_of_ble_eq_true rfl, Nat.le_of_ble_eq_true rfl⟩ (Nat.le_of_ble_eq_true rfl) (kV fun σ39 hh => ?_)
        obtain ⟨m39, h39_0⟩ := hh
        have q39_1 : σ12 56 = σ2 56 := ((m12.at 56 rfl).trans (m7.at 56 rfl))
        have q39_2 : σ12 57 = σ7 57 := (m12.at 57 rfl)
        try simp only [q39_1, q39_2] at h39_0
        exact r_ret hX dX0_renew_42 rfl ⟨rfl, ⟨(Mod.tr (L := [11, 12, 13, 56, 57]) (Mod.tr (L := [11, 12, 13, 56, 57]) (Mod.tr (L := [11, 12, 13, 56, 57]) m2 m7 rfl rfl) m12 rfl rfl) m39 rfl rfl), (by rw [m39.at 56 rfl, m12.at 56 rfl, m7.at 56 rfl]; exact s2), (by rw [m39.at 57 rfl, m12.at 57 rfl]; exact s7), (fun b b0 b1 => by rw [m39.at 11 rfl, m39.at 12 rfl]; exact hz b b0 (by omega)), (by rw [m39.at 11 rfl, m39.at 56 rfl, m39.at 57 rfl, m12.at 56 rfl, m12.at 57 rfl, m7.at 56 rfl]; exact h39_0)⟩⟩
      · skip
        refine r_aload_n hX dX0_renew_18 rfl ?_
        refine fg_G10_9 hX dX0_renew_19 ?_
        refine r_iload_n hX dX0_renew_22 rfl ?_
        refine r_iconst hX dX0_renew_23 ?_
        refine st_G11 hX dX0_renew_24 (by omega) (by omega) (by omega) (fun σ24 m24 s24 => ?_)
        refine r_aload_n hX dX0_renew_25 rfl ?_
        refine fg_G10_15 hX dX0_renew_26 ?_
        refine r_iload_n hX dX0_renew_29 rfl ?_
        refine r_iconst hX dX0_renew_30 ?_
        refine st_G12 hX dX0_renew_31 (by omega) (by omega) (by omega) (fun σ31 m31 s31 => ?_)
        simp only [show σ24 12 = σ12 12 from (m24.at 12 rfl)] at s31
        refine r_iinc hX (fun x32 => [some (.ref (w.2.2 0)), some (.int (iI r)), some (.int (iI c)), some (.int (iI x32))]) dX0_renew_32 rfl rfl rfl (fun _ => rfl) (fun x32 e32 => ?_)
        refine r_goto hX dX0_renew_35 (tgt := 12) (by decide) ?_
        exact ih12 x32 σ31 (Mod.tr (L := [11, 12]) (Mod.tr (L := [11, 12]) m12 m24 rfl rfl) m31 rfl rfl) (by omega) (by rw [e32, m31.at 11 rfl]; exact two_step hz s24 s31) (by omega)
  exact lp12 ((10 - (x11)) + 1).toNat x11 σ7 Mod.rf (by omega) (fun b b0 b1 => by omega) (by omega)
