theorem dX4_isPlace_0 : decode cX4_isPlace 0 = .ok (.iload_n 0, 1) := by decide +kernel
theorem dX4_isPlace_1 : decode cX4_isPlace 1 = .ok (.ifCond .lt 23, 3) := by decide +kernel
theorem dX4_isPlace_4 : decode cX4_isPlace 4 = .ok (.iload_n 0, 1) := by decide +kernel
theorem dX4_isPlace_5 : decode cX4_isPlace 5 = .ok (.bipush 8, 2) := by decide +kernel
theorem dX4_isPlace_7 : decode cX4_isPlace 7 = .ok (.if_icmp .ge 17, 3) := by decide +kernel
theorem dX4_isPlace_10 : decode cX4_isPlace 10 = .ok (.iload_n 1, 1) := by decide +kernel
theorem dX4_isPlace_11 : decode cX4_isPlace 11 = .ok (.ifCond .lt 13, 3) := by decide +kernel
theorem dX4_isPlace_14 : decode cX4_isPlace 14 = .ok (.iload_n 1, 1) := by decide +kernel
theorem dX4_isPlace_15 : decode cX4_isPlace 15 = .ok (.bipush 60, 2) := by decide +kernel
theorem dX4_isPlace_17 : decode cX4_isPlace 17 = .ok (.if_icmp .gt 7, 3) := by decide +kernel
theorem dX4_isPlace_20 : decode cX4_isPlace 20 = .ok (.iconst 1, 1) := by decide +kernel
theorem dX4_isPlace_21 : decode cX4_isPlace 21 = .ok (.goto 4, 3) := by decide +kernel
theorem dX4_isPlace_24 : decode cX4_isPlace 24 = .ok (.iconst 0, 1) := by decide +kernel
theorem dX4_isPlace_25 : decode cX4_isPlace 25 = .ok (.ireturn, 1) := by decide +kernel
set_option maxRecDepth 20000 in
set_option maxHeartbeats 4000000 in
theorem k_V_isPlace (l : Launch) (w : WT) (σ : MM) (a : Int) (t : Int) (i_a : inr a) (i_t : inr t) : CT SX l w yX4_isPlace cX4_isPlace 2 (some .boolean) 0 0 [.int (iI a), .int (iI t)] σ (PI fun z σ1 => σ = σ1 ∧ ((z = 1 ∧ 0 ≤ a ∧ a < 8 ∧ 0 ≤ t ∧ t ≤ 60) ∨ (z = 0 ∧ (a < 0 ∨ 8 ≤ a ∨ t < 0 ∨ 60 < t)))) := by
  refine CT.of 0 [some (.int (iI a)), some (.int (iI t))] (by decide +kernel) (by simp [lg_sl, Value.category]) rfl sh_X (fun G hX => ?_)
  refine r_iload_n hX dX4_isPlace_0 rfl ?_
  refine r_if_lt hX (tgt := 24) dX4_isPlace_1 (by decide) (by omega) (fun c1 => ?_) (fun c1 => ?_)
  · skip
    refine r_iconst hX dX4_isPlace_24 ?_
    exact r_zret hX dX4_isPlace_25 rfl (by omega) ⟨_, rfl, ⟨rfl, (by omega)⟩⟩
  · skip
    refine r_iload_n hX dX4_isPlace_4 rfl ?_
    refine r_bipush hX dX4_isPlace_5 (by decide) ?_
    refine r_icmp_ge hX (tgt := 24) dX4_isPlace_7 (by decide) (by omega) (by omega) (fun c7 => ?_) (fun c7 => ?_)
    · skip
      refine r_iconst hX dX4_isPlace_24 ?_
      exact r_zret hX dX4_isPlace_25 rfl (by omega) ⟨_, rfl, ⟨rfl, (by omega)⟩⟩
    · skip
      refine r_iload_n hX dX4_isPlace_10 rfl ?_
      refine r_if_lt hX (tgt := 24) dX4_isPlace_11 (by decide) (by omega) (fun c11 => ?_) (fun c11 => ?_)
      · skip
        refine r_iconst hX dX4_isPlace_24 ?_
        exact r_zret hX dX4_isPlace_25 rfl (by omega) ⟨_, rfl, ⟨rfl, (by omega)⟩⟩
      · skip
        refine r_iload_n hX dX4_isPlace_14 rfl ?_
        refine r_bipush hX dX4_isPlace_15 (by decide) ?_
        refine r_icmp_gt hX (tgt := 24) dX4_isPlace_17 (by decide) (by omega) (by omega) (fun c17 => ?_) (fun c17 => ?_)
        · skip
          refine r_iconst hX dX4_isPlace_24 ?_
          exact r_zret hX dX4_isPlace_25 rfl (by omega) ⟨_, rfl, ⟨rfl, (by omega)⟩⟩
        · skip
          refine r_iconst hX dX4_isPlace_20 ?_
          refine r_goto hX dX4_isPlace_21 (tgt := 25) (by decide) ?_
          exact r_zret hX dX4_isPlace_25 rfl (by omega) ⟨_, rfl, ⟨rfl, (by omega)⟩⟩
theorem dX4_at_0 : decode cX4_at 0 = .ok (.iload_n 1, 1) := by decide +kernel
theorem dX4_at_1 : decode cX4_at 1 = .ok (.iload_n 2, 1) := by decide +kernel
theorem dX4_at_2 : decode cX4_at 2 = .ok (.invokestatic 19, 3) := by decide +kernel
theorem dX4_at_5 : decode cX4_at 5 = .ok (.ifCond .eq 17, 3) := by decide +kernel
theorem dX4_at_8 : decode cX4_at 8 = .ok (.aload_n 0, 1) := by decide +kernel
theorem dX4_at_9 : decode cX4_at 9 = .ok (.getfield 9, 3) := by decide +kernel
theorem dX4_at_12 : decode cX4_at 12 = .ok (.iload_n 1, 1) := by decide +kernel
theorem dX4_at_13 : decode cX4_at 13 = .ok (.bipush 61, 2) := by decide +kernel
theorem dX4_at_15 : decode cX4_at 15 = .ok (.imul, 1) := by decide +kernel
theorem dX4_at_16 : decode cX4_at 16 = .ok (.iload_n 2, 1) := by decide +kernel
theorem dX4_at_17 : decode cX4_at 17 = .ok (.iadd, 1) := by decide +kernel
theorem dX4_at_18 : decode cX4_at 18 = .ok (.iaload, 1) := by decide +kernel
theorem dX4_at_19 : decode cX4_at 19 = .ok (.goto 4, 3) := by decide +kernel
theorem dX4_at_22 : decode cX4_at 22 = .ok (.iconst 0, 1) := by decide +kernel
theorem dX4_at_23 : decode cX4_at 23 = .ok (.ireturn, 1) := by decide +kernel
set_option maxRecDepth 20000 in
set_option maxHeartbeats 4000000 in
theorem k_V1_at (l : Launch) (w : WT) (σ : MM) (a : Int) (t : Int) (i_a : inr a) (i_t : inr t) : CT SX l w yX4_at cX4_at 3 (some .int) 1 21 [.ref (w.2.2 23), .int (iI a), .int (iI t)] σ (PI fun z σ1 => σ = σ1 ∧ ((0 ≤ a ∧ a < 8 ∧ 0 ≤ t ∧ t ≤ 60 ∧ z = σ 24 (a * 61 + t)) ∨ ((a < 0 ∨ 8 ≤ a ∨ t < 0 ∨ 60 < t) ∧ z = 0))) := by
  refine CT.of 0 [some (.ref (w.2.2 23)), some (.int (iI a)), some (.int (iI t))] (by decide +kernel) (by simp [lg_sl, Value.category]) rfl sh_X (fun G hX => ?_)
  refine r_iload_n hX dX4_at_0 rfl ?_
  refine r_iload_n hX dX4_at_1 rfl ?_
  refine r_callS hX dX4_at_2 (k_V_isPlace l w σ _ _ (by omega) (by omega)) mf_X4_isPlace ms_X4_isPlace lk_RX4_19 rfl rfl ⟨Nat.le_of_ble_eq_true rfl, Nat.le_of_ble_eq_true rfl⟩ (Nat.le_of_ble_eq_true rfl) (kI fun z2 σ2 hh => ?_)
  obtain ⟨rfl, h2_0⟩ := hh
  refine r_if_eq hX (tgt := 22) dX4_at_5 (by decide) (by omega) (fun c5 => ?_) (fun c5 => ?_)
  · skip
    refine r_iconst hX dX4_at_22 ?_
    exact r_iret hX dX4_at_23 rfl ⟨_, rfl, ⟨rfl, (by omega)⟩⟩
  · skip
    refine r_aload_n hX dX4_at_8 rfl ?_
    refine fg_X23_9 hX dX4_at_9 ?_
    refine r_iload_n hX dX4_at_12 rfl ?_
    refine r_bipush hX dX4_at_13 (by decide) ?_
    refine r_imul hX dX4_at_15 ?_
    refine r_iload_n hX dX4_at_16 rfl ?_
    refine r_iadd hX dX4_at_17 ?_
    refine ld_X24 hX dX4_at_18 (by omega) (by omega) ?_
    refine r_goto hX dX4_at_19 (tgt := 23) (by decide) ?_
    exact r_iret hX dX4_at_23 rfl ⟨_, rfl, ⟨rfl, (by omega)⟩⟩
theorem dX4_operand_0 : decode cX4_operand 0 = .ok (.iload_n 2, 1) := by decide +kernel
theorem dX4_operand_1 : decode cX4_operand 1 = .ok (.aload_n 0, 1) := by decide +kernel
theorem dX4_operand_2 : decode cX4_operand 2 = .ok (.getfield 15, 3) := by decide +kernel
theorem dX4_operand_5 : decode cX4_operand 5 = .ok (.iload_n 1, 1) := by decide +kernel
theorem dX4_operand_6 : decode cX4_operand 6 = .ok (.invokevirtual 61, 3) := by decide +kernel
theorem dX4_operand_9 : decode cX4_operand 9 = .ok (.isub, 1) := by decide +kernel
theorem dX4_operand_10 : decode cX4_operand 10 = .ok (.istore_n 3, 1) := by decide +kernel
theorem dX4_operand_11 : decode cX4_operand 11 = .ok (.iload_n 3, 1) := by decide +kernel
theorem dX4_operand_12 : decode cX4_operand 12 = .ok (.ifCond .ge 13, 3) := by decide +kernel
theorem dX4_operand_15 : decode cX4_operand 15 = .ok (.aload_n 0, 1) := by decide +kernel
theorem dX4_operand_16 : decode cX4_operand 16 = .ok (.getfield 15, 3) := by decide +kernel
theorem dX4_operand_19 : decode cX4_operand 19 = .ok (.invokevirtual 64, 3) := by decide +kernel
theorem dX4_operand_22 : decode cX4_operand 22 = .ok (.goto 16, 3) := by decide +kernel
theorem dX4_operand_25 : decode cX4_operand 25 = .ok (.aload_n 0, 1) := by decide +kernel
theorem dX4_operand_26 : decode cX4_operand 26 = .ok (.aload_n 0, 1) := by decide +kernel
theorem dX4_operand_27 : decode cX4_operand 27 = .ok (.getfield 15, 3) := by decide +kernel
theorem dX4_operand_30 : decode cX4_operand 30 = .ok (.iload_n 1, 1) := by decide +kernel
theorem dX4_operand_31 : decode cX4_operand 31 = .ok (.invokevirtual 67, 3) := by decide +kernel
theorem dX4_operand_34 : decode cX4_operand 34 = .ok (.iload_n 3, 1) := by decide +kernel
theorem dX4_operand_35 : decode cX4_operand 35 = .ok (.invokevirtual 70, 3) := by decide +kernel
theorem dX4_operand_38 : decode cX4_operand 38 = .ok (.ireturn, 1) := by decide +kernel
set_option maxRecDepth 20000 in
set_option maxHeartbeats 4000000 in
theorem k_V1_operand (l : Launch) (w : WT) (σ : MM) (s : Int) (t : Int) (i_s : inr s) (i_t : inr t) (hs : 0 ≤ s ∧ s < 2 * σ 53 0) (hu : 0 ≤ σ 5 s ∧ σ 5 s < 8) (ht : 0 ≤ t ∧ t ≤ 60) : CT SX l w yX4_operand cX4_operand 4 (some .int) 2 43 [.ref (w.2.2 23), .int (iI s), .int (iI t)] σ (PI fun z σ1 => σ = σ1 ∧ (z = opV (σ 5) (σ 6) (σ 24) (σ 55 0) s t)) := by
  refine CT.of 1 [some (.ref (w.2.2 23)), some (.int (iI s)), some (.int (iI t)), none] (by decide +kernel) (by simp [lg_sl, Value.category]) rfl sh_X (fun G hX => ?_)
  refine r_iload_n hX dX4_operand_0 rfl ?_
  refine r_aload_n hX dX4_operand_1 rfl ?_
  refine fg_X23_15 hX dX4_operand_2 ?_
  refine r_iload_n hX dX4_operand_5 rfl ?_
  refine r_callV hX dX4_operand_6 (k_Lp_distanceOf l w σ _ (by omega)) mf_X2_distanceOf mv_X2_distanceOf lk_RX4_61 rfl rfl rfl rfl rfl ⟨Nat.le_of_ble_eq_true rfl, Nat.le_of_ble_eq_true rfl⟩ (Nat.le_of_ble_eq_true rfl) (kI fun z6 σ6 hh => ?_)
  obtain ⟨rfl, h6_0, h6_1⟩ := hh
  obtain rfl : z6 = σ 6 s := by omega
  refine r_isub hX dX4_operand_9 ?_
  refine r_istore_n hX (fun x10 => [some (.ref (w.2.2 23)), some (.int (iI s)), some (.int (iI t)), some (.int (iI x10))]) dX4_operand_10 (Nat.le_of_ble_eq_true rfl) rfl rfl (fun _ => rfl) (fun x10 e10 => ?_)
  refine r_iload_n hX dX4_operand_11 rfl ?_
  refine r_if_ge hX (tgt := 25) dX4_operand_12 (by decide) (by omega) (fun c12 => ?_) (fun c12 => ?_)
  · skip
    refine r_aload_n hX dX4_operand_25 rfl ?_
    refine r_aload_n hX dX4_operand_26 rfl ?_
    refine fg_X23_15 hX dX4_operand_27 ?_
    refine r_iload_n hX dX4_operand_30 rfl ?_
    refine r_callV hX dX4_operand_31 (k_Lp_sourceOf l w σ _ (by omega)) mf_X2_sourceOf mv_X2_sourceOf lk_RX4_67 rfl rfl rfl rfl rfl ⟨Nat.le_of_ble_eq_true rfl, Nat.le_of_ble_eq_true rfl⟩ (Nat.le_of_ble_eq_true rfl) (kI fun z31 σ31 hh => ?_)
    obtain ⟨rfl, h31_0, h31_1⟩ := hh
    obtain rfl : z31 = σ 5 s := by omega
    refine r_iload_n hX dX4_operand_34 rfl ?_
    refine r_callV hX dX4_operand_35 (k_V1_at l w σ _ _ (by omega) (by omega)) mf_X4_at mv_X4_at lk_RX4_70 rfl rfl rfl rfl rfl ⟨Nat.le_of_ble_eq_true rfl, Nat.le_of_ble_eq_true rfl⟩ (Nat.le_of_ble_eq_true rfl) (kI fun z35 σ35 hh => ?_)
    obtain ⟨rfl, h35_0⟩ := hh
    exact r_iret hX dX4_operand_38 rfl ⟨_, rfl, ⟨rfl, (by unfold opV; rw [e10] at *; first | (rw [if_pos (by omega)]; omega) | (rw [if_neg (by omega)]; omega))⟩⟩
  · skip
    refine r_aload_n hX dX4_operand_15 rfl ?_
    refine fg_X23_15 hX dX4_operand_16 ?_
    refine r_callV hX dX4_operand_19 (k_Lp_first l w σ) mf_X2_firstNumber mv_X2_firstNumber lk_RX4_64 rfl rfl rfl rfl rfl ⟨Nat.le_of_ble_eq_true rfl, Nat.le_of_ble_eq_true rfl⟩ (Nat.le_of_ble_eq_true rfl) (kI fun z19 σ19 hh => ?_)
    obtain ⟨rfl, h19_0⟩ := hh
    refine r_goto hX dX4_operand_22 (tgt := 38) (by decide) ?_
    exact r_iret hX dX4_operand_38 rfl ⟨_, rfl, ⟨rfl, (by unfold opV; rw [e10] at *; first | (rw [if_pos (by omega)]; omega) | (rw [if_neg (by omega)]; omega))⟩⟩
theorem dX4_valueOf_0 : decode cX4_valueOf 0 = .ok (.aload_n 0, 1) := by decide +kernel
theorem dX4_valueOf_1 : decode cX4_valueOf 1 = .ok (.getfield 15, 3) := by decide +kernel
theorem dX4_valueOf_4 : decode cX4_valueOf 4 = .ok (.iload_n 1, 1) := by decide +kernel
theorem dX4_valueOf_5 : decode cX4_valueOf 5 = .ok (.invokevirtual 41, 3) := by decide +kernel
theorem dX4_valueOf_8 : decode cX4_valueOf 8 = .ok (.ifCond .ne 23, 3) := by decide +kernel
theorem dX4_valueOf_11 : decode cX4_valueOf 11 = .ok (.aload_n 0, 1) := by decide +kernel
theorem dX4_valueOf_12 : decode cX4_valueOf 12 = .ok (.getfield 15, 3) := by decide +kernel
theorem dX4_valueOf_15 : decode cX4_valueOf 15 = .ok (.iload_n 1, 1) := by decide +kernel
theorem dX4_valueOf_16 : decode cX4_valueOf 16 = .ok (.invokevirtual 44, 3) := by decide +kernel
theorem dX4_valueOf_19 : decode cX4_valueOf 19 = .ok (.iload_n 2, 1) := by decide +kernel
theorem dX4_valueOf_20 : decode cX4_valueOf 20 = .ok (.imul, 1) := by decide +kernel
theorem dX4_valueOf_21 : decode cX4_valueOf 21 = .ok (.aload_n 0, 1) := by decide +kernel
theorem dX4_valueOf_22 : decode cX4_valueOf 22 = .ok (.getfield 15, 3) := by decide +kernel
theorem dX4_valueOf_25 : decode cX4_valueOf 25 = .ok (.iload_n 1, 1) := by decide +kernel
theorem dX4_valueOf_26 : decode cX4_valueOf 26 = .ok (.invokevirtual 47, 3) := by decide +kernel
theorem dX4_valueOf_29 : decode cX4_valueOf 29 = .ok (.iadd, 1) := by decide +kernel
theorem dX4_valueOf_30 : decode cX4_valueOf 30 = .ok (.ireturn, 1) := by decide +kernel
theorem dX4_valueOf_31 : decode cX4_valueOf 31 = .ok (.aload_n 0, 1) := by decide +kernel
theorem dX4_valueOf_32 : decode cX4_valueOf 32 = .ok (.iconst 2, 1) := by decide +kernel
theorem dX4_valueOf_33 : decode cX4_valueOf 33 = .ok (.iload_n 1, 1) := by decide +kernel
theorem dX4_valueOf_34 : decode cX4_valueOf 34 = .ok (.imul, 1) := by decide +kernel
theorem dX4_valueOf_35 : decode cX4_valueOf 35 = .ok (.iload_n 2, 1) := by decide +kernel
theorem dX4_valueOf_36 : decode cX4_valueOf 36 = .ok (.invokevirtual 50, 3) := by decide +kernel
theorem dX4_valueOf_39 : decode cX4_valueOf 39 = .ok (.istore_n 3, 1) := by decide +kernel
theorem dX4_valueOf_40 : decode cX4_valueOf 40 = .ok (.aload_n 0, 1) := by decide +kernel
theorem dX4_valueOf_41 : decode cX4_valueOf 41 = .ok (.iconst 2, 1) := by decide +kernel
theorem dX4_valueOf_42 : decode cX4_valueOf 42 = .ok (.iload_n 1, 1) := by decide +kernel
theorem dX4_valueOf_43 : decode cX4_valueOf 43 = .ok (.imul, 1) := by decide +kernel
theorem dX4_valueOf_44 : decode cX4_valueOf 44 = .ok (.iconst 1, 1) := by decide +kernel
theorem dX4_valueOf_45 : decode cX4_valueOf 45 = .ok (.iadd, 1) := by decide +kernel
theorem dX4_valueOf_46 : decode cX4_valueOf 46 = .ok (.iload_n 2, 1) := by decide +kernel
theorem dX4_valueOf_47 : decode cX4_valueOf 47 = .ok (.invokevirtual 50, 3) := by decide +kernel
theorem dX4_valueOf_50 : decode cX4_valueOf 50 = .ok (.istore 4, 2) := by decide +kernel
theorem dX4_valueOf_52 : decode cX4_valueOf 52 = .ok (.aload_n 0, 1) := by decide +kernel
theorem dX4_valueOf_53 : decode cX4_valueOf 53 = .ok (.getfield 15, 3) := by decide +kernel
theorem dX4_valueOf_56 : decode cX4_valueOf 56 = .ok (.iload_n 1, 1) := by decide +kernel
theorem dX4_valueOf_57 : decode cX4_valueOf 57 = .ok (.invokevirtual 41, 3) := by decide +kernel
theorem dX4_valueOf_60 : decode cX4_valueOf 60 = .ok (.tableswitch 54 1 4 #[32, 37, 42, 47], 32) := by decide +kernel
theorem dX4_valueOf_92 : decode cX4_valueOf 92 = .ok (.iload_n 3, 1) := by decide +kernel
theorem dX4_valueOf_93 : decode cX4_valueOf 93 = .ok (.iload 4, 2) := by decide +kernel
theorem dX4_valueOf_95 : decode cX4_valueOf 95 = .ok (.iadd, 1) := by decide +kernel
theorem dX4_valueOf_96 : decode cX4_valueOf 96 = .ok (.ireturn, 1) := by decide +kernel
theorem dX4_valueOf_97 : decode cX4_valueOf 97 = .ok (.iload_n 3, 1) := by decide +kernel
theorem dX4_valueOf_98 : decode cX4_valueOf 98 = .ok (.iload 4, 2) := by decide +kernel
theorem dX4_valueOf_100 : decode cX4_valueOf 100 = .ok (.isub, 1) := by decide +kernel
theorem dX4_valueOf_101 : decode cX4_valueOf 101 = .ok (.ireturn, 1) := by decide +kernel
theorem dX4_valueOf_102 : decode cX4_valueOf 102 = .ok (.iload_n 3, 1) := by decide +kernel
theorem dX4_valueOf_103 : decode cX4_valueOf 103 = .ok (.iload 4, 2) := by decide +kernel
theorem dX4_valueOf_105 : decode cX4_valueOf 105 = .ok (.imul, 1) := by decide +kernel
theorem dX4_valueOf_106 : decode cX4_valueOf 106 = .ok (.ireturn, 1) := by decide +kernel
theorem dX4_valueOf_107 : decode cX4_valueOf 107 = .ok (.iload_n 3, 1) := by decide +kernel
theorem dX4_valueOf_108 : decode cX4_valueOf 108 = .ok (.iload 4, 2) := by decide +kernel
theorem dX4_valueOf_110 : decode cX4_valueOf 110 = .ok (.invokestatic 53, 3) := by decide +kernel
theorem dX4_valueOf_113 : decode cX4_valueOf 113 = .ok (.ireturn, 1) := by decide +kernel
theorem dX4_valueOf_114 : decode cX4_valueOf 114 = .ok (.iload_n 3, 1) := by decide +kernel
theorem dX4_valueOf_115 : decode cX4_valueOf 115 = .ok (.iload 4, 2) := by decide +kernel
theorem dX4_valueOf_117 : decode cX4_valueOf 117 = .ok (.invokestatic 58, 3) := by decide +kernel
theorem dX4_valueOf_120 : decode cX4_valueOf 120 = .ok (.ireturn, 1) := by decide +kernel
set_option maxRecDepth 20000 in
set_option maxHeartbeats 4000000 in
theorem k_V1_valueOf (l : Launch) (w : WT) (σ : MM) (a : Int) (t : Int) (i_a : inr a) (i_t : inr t) (ha : 0 ≤ a ∧ a < σ 53 0) (hd : σ 2 a ≠ 0 → 0 ≤ σ 5 (2 * a) ∧ σ 5 (2 * a) < 8 ∧ 0 ≤ σ 5 (2 * a + 1) ∧ σ 5 (2 * a + 1) < 8) (ht : 0 ≤ t ∧ t ≤ 60) : CT SX l w yX4_valueOf cX4_valueOf 5 (some .int) 3 66 [.ref (w.2.2 23), .int (iI a), .int (iI t)] σ (PI fun z σ1 => σ = σ1 ∧ (iI z = VALx σ (σ 24) a t)) := by
  refine CT.of 2 [some (.ref (w.2.2 23)), some (.int (iI a)), some (.int (iI t)), none, none] (by decide +kernel) (by simp [lg_sl, Value.category]) rfl sh_X (fun G hX => ?_)
  refine r_bd hX (fun hBd => ?_)
  have b_53 := hBd 53 0 8 rfl 0
  have b2 := hBd 2 0 5 rfl a
  refine r_aload_n hX dX4_valueOf_0 rfl ?_
  refine fg_X23_15 hX dX4_valueOf_1 ?_
  refine r_iload_n hX dX4_valueOf_4 rfl ?_
  refine r_callV hX dX4_valueOf_5 (k_Lp_kindOf l w σ _ (by omega)) mf_X2_kindOf mv_X2_kindOf lk_RX4_41 rfl rfl rfl rfl rfl ⟨Nat.le_of_ble_eq_true rfl, Nat.le_of_ble_eq_true rfl⟩ (Nat.le_of_ble_eq_true rfl) (kI fun z5 σ5 hh => ?_)
  obtain ⟨rfl, h5_0, h5_1⟩ := hh
  obtain rfl : z5 = σ 2 a := by omega
  refine r_if_ne hX (tgt := 31) dX4_valueOf_8 (by decide) (by omega) (fun c8 => ?_) (fun c8 => ?_)
  · skip
    have hd1 := hd (by omega)
    refine r_aload_n hX dX4_valueOf_31 rfl ?_
    refine r_iconst hX dX4_valueOf_32 ?_
    refine r_iload_n hX dX4_valueOf_33 rfl ?_
    refine r_imul hX dX4_valueOf_34 ?_
    refine r_iload_n hX dX4_valueOf_35 rfl ?_
    refine r_callV hX dX4_valueOf_36 (k_V1_operand l w σ _ _ (by omega) (by omega) (by omega) (by omega) (by omega)) mf_X4_operand mv_X4_operand lk_RX4_50 rfl rfl rfl rfl rfl ⟨Nat.le_of_ble_eq_true rfl, Nat.le_of_ble_eq_true rfl⟩ (Nat.le_of_ble_eq_true rfl) (kI fun z36 σ36 hh => ?_)
    obtain ⟨rfl, h36_0⟩ := hh
    refine r_istore_n hX (fun x39 => [some (.ref (w.2.2 23)), some (.int (iI a)), some (.int (iI t)), some (.int (iI x39)), none]) dX4_valueOf_39 (Nat.le_of_ble_eq_true rfl) rfl rfl (fun _ => rfl) (fun x39 e39 => ?_)
    refine r_aload_n hX dX4_valueOf_40 rfl ?_
    refine r_iconst hX dX4_valueOf_41 ?_
    refine r_iload_n hX dX4_valueOf_42 rfl ?_
    refine r_imul hX dX4_valueOf_43 ?_
    refine r_iconst hX dX4_valueOf_44 ?_
    refine r_iadd hX dX4_valueOf_45 ?_
    refine r_iload_n hX dX4_valueOf_46 rfl ?_
    refine r_callV hX dX4_valueOf_47 (k_V1_operand l w σ _ _ (by omega) (by omega) (by omega) (by omega) (by omega)) mf_X4_operand mv_X4_operand lk_RX4_50 rfl rfl rfl rfl rfl ⟨Nat.le_of_ble_eq_true rfl, Nat.le_of_ble_eq_true rfl⟩ (Nat.le_of_ble_eq_true rfl) (kI fun z47 σ47 hh => ?_)
    obtain ⟨rfl, h47_0⟩ := hh
    refine r_istore hX (fun x50 => [some (.ref (w.2.2 23)), some (.int (iI a)), some (.int (iI t)), some (.int (iI x39)), some (.int (iI x50))]) dX4_valueOf_50 (Nat.le_of_ble_eq_true rfl) rfl rfl (fun _ => rfl) (fun x50 e50 => ?_)
    refine r_aload_n hX dX4_valueOf_52 rfl ?_
    refine fg_X23_15 hX dX4_valueOf_53 ?_
    refine r_iload_n hX dX4_valueOf_56 rfl ?_
    refine r_callV hX dX4_valueOf_57 (k_Lp_kindOf l w σ _ (by omega)) mf_X2_kindOf mv_X2_kindOf lk_RX4_41 rfl rfl rfl rfl rfl ⟨Nat.le_of_ble_eq_true rfl, Nat.le_of_ble_eq_true rfl⟩ (Nat.le_of_ble_eq_true rfl) (kI fun z57 σ57 hh => ?_)
    obtain ⟨rfl, h57_0, h57_1⟩ := hh
    obtain rfl : z57 = σ 2 a := by omega
    refine r_nm hX (fun x60 e60 => ?_)
    rcases (by omega : x60 < 1 ∨ 4 < x60 ∨ x60 = 1 ∨ x60 = 2 ∨ x60 = 3 ∨ x60 = 4) with c60 | c60 | c60 | c60 | c60 | c60
    · skip
      refine r_tblOut hX dX4_valueOf_60 (by omega) (Or.inl c60) (tgt := 114) (by decide) ?_
      refine r_iload_n hX dX4_valueOf_114 rfl ?_
      refine r_iload hX dX4_valueOf_115 rfl ?_
      refine r_max hX dX4_valueOf_117 lq_RX4_58 ma_max_s ma_i ma_max_c (Nat.le_of_ble_eq_true rfl) (Nat.le_of_ble_eq_true rfl) (fun z117 h117 => ?_)
      exact r_iret hX dX4_valueOf_120 rfl ⟨_, rfl, ⟨rfl, (by unfold VALx VAL; rw [if_neg (by omega), if_neg (by omega), if_neg (by omega), if_neg (by omega), if_neg (by omega), ← h36_0, ← h47_0]; rw [e39, e50] at *; rcases h117 with ⟨q1, q2⟩ | ⟨q1, q2⟩ <;> simp [q1, q2])⟩⟩
    · skip
      refine r_tblOut hX dX4_valueOf_60 (by omega) (Or.inr c60) (tgt := 114) (by decide) ?_
      refine r_iload_n hX dX4_valueOf_114 rfl ?_
      refine r_iload hX dX4_valueOf_115 rfl ?_
      refine r_max hX dX4_valueOf_117 lq_RX4_58 ma_max_s ma_i ma_max_c (Nat.le_of_ble_eq_true rfl) (Nat.le_of_ble_eq_true rfl) (fun z117 h117 => ?_)
      exact r_iret hX dX4_valueOf_120 rfl ⟨_, rfl, ⟨rfl, (by unfold VALx VAL; rw [if_neg (by omega), if_neg (by omega), if_neg (by omega), if_neg (by omega), if_neg (by omega), ← h36_0, ← h47_0]; rw [e39, e50] at *; rcases h117 with ⟨q1, q2⟩ | ⟨q1, q2⟩ <;> simp [q1, q2])⟩⟩
    · skip
      refine r_tblIn hX 1 dX4_valueOf_60 c60 (by decide) rfl (tgt := 92) (by decide) ?_
      refine r_iload_n hX dX4_valueOf_92 rfl ?_
      refine r_iload hX dX4_valueOf_93 rfl ?_
      refine r_iadd hX dX4_valueOf_95 ?_
      exact r_iret hX dX4_valueOf_96 rfl ⟨_, rfl, ⟨rfl, (by unfold VALx VAL; rw [if_neg (by omega), if_pos (by omega), ← h36_0, ← h47_0, e39, e50])⟩⟩
    · skip
      refine r_tblIn hX 2 dX4_valueOf_60 c60 (by decide) rfl (tgt := 97) (by decide) ?_
      refine r_iload_n hX dX4_valueOf_97 rfl ?_
      refine r_iload hX dX4_valueOf_98 rfl ?_
      refine r_isub hX dX4_valueOf_100 ?_
      exact r_iret hX dX4_valueOf_101 rfl ⟨_, rfl, ⟨rfl, (by unfold VALx VAL; rw [if_neg (by omega), if_neg (by omega), if_pos (by omega), ← h36_0, ← h47_0, e39, e50])⟩⟩
    · skip
      refine r_tblIn hX 3 dX4_valueOf_60 c60 (by decide) rfl (tgt := 102) (by decide) ?_
      refine r_iload_n hX dX4_valueOf_102 rfl ?_
      refine r_iload hX dX4_valueOf_103 rfl ?_
      refine r_imul hX dX4_valueOf_105 ?_
      exact r_iret hX dX4_valueOf_106 rfl ⟨_, rfl, ⟨rfl, (by unfold VALx VAL; rw [if_neg (by omega), if_neg (by omega), if_neg (by omega), if_pos (by omega), ← h36_0, ← h47_0, e39, e50])⟩⟩
    · skip
      refine r_tblIn hX 4 dX4_valueOf_60 c60 (by decide) rfl (tgt := 107) (by decide) ?_
      refine r_iload_n hX dX4_valueOf_107 rfl ?_
      refine r_iload hX dX4_valueOf_108 rfl ?_
      refine r_min hX dX4_valueOf_110 lq_RX4_53 ma_min_s ma_i ma_min_c (Nat.le_of_ble_eq_true rfl) (Nat.le_of_ble_eq_true rfl) (fun z110 h110 => ?_)
      exact r_iret hX dX4_valueOf_113 rfl ⟨_, rfl, ⟨rfl, (by unfold VALx VAL; rw [if_neg (by omega), if_neg (by omega), if_neg (by omega), if_neg (by omega), if_pos (by omega), ← h36_0, ← h47_0]; rw [e39, e50] at *; rcases h110 with ⟨q1, q2⟩ | ⟨q1, q2⟩ <;> simp [q1, q2])⟩⟩
  · skip
    refine r_aload_n hX dX4_valueOf_11 rfl ?_
    refine fg_X23_15 hX dX4_valueOf_12 ?_
    refine r_iload_n hX dX4_valueOf_15 rfl ?_
    refine r_callV hX dX4_valueOf_16 (k_Lp_factorOf l w σ _ (by omega)) mf_X2_factorOf mv_X2_factorOf lk_RX4_44 rfl rfl rfl rfl rfl ⟨Nat.le_of_ble_eq_true rfl, Nat.le_of_ble_eq_true rfl⟩ (Nat.le_of_ble_eq_true rfl) (kI fun z16 σ16 hh => ?_)
    obtain ⟨rfl, h16_0⟩ := hh
    obtain rfl : z16 = σ 3 a := by omega
    refine r_iload_n hX dX4_valueOf_19 rfl ?_
    refine r_imul hX dX4_valueOf_20 ?_
    refine r_aload_n hX dX4_valueOf_21 rfl ?_
    refine fg_X23_15 hX dX4_valueOf_22 ?_
    refine r_iload_n hX dX4_valueOf_25 rfl ?_
    refine r_callV hX dX4_valueOf_26 (k_Lp_addendOf l w σ _ (by omega)) mf_X2_addendOf mv_X2_addendOf lk_RX4_47 rfl rfl rfl rfl rfl ⟨Nat.le_of_ble_eq_true rfl, Nat.le_of_ble_eq_true rfl⟩ (Nat.le_of_ble_eq_true rfl) (kI fun z26 σ26 hh => ?_)
    obtain ⟨rfl, h26_0⟩ := hh
    obtain rfl : z26 = σ 4 a := by omega
    refine r_iadd hX dX4_valueOf_29 ?_
    exact r_iret hX dX4_valueOf_30 rfl ⟨_, rfl, ⟨rfl, (by unfold VALx VAL; rw [if_pos (by omega)])⟩⟩
theorem dX4_make_0 : decode cX4_make 0 = .ok (.iload_n 1, 1) := by decide +kernel
theorem dX4_make_1 : decode cX4_make 1 = .ok (.iload_n 2, 1) := by decide +kernel
theorem dX4_make_2 : decode cX4_make 2 = .ok (.invokestatic 19, 3) := by decide +kernel
theorem dX4_make_5 : decode cX4_make 5 = .ok (.ifCond .eq 20, 3) := by decide +kernel
theorem dX4_make_8 : decode cX4_make 8 = .ok (.aload_n 0, 1) := by decide +kernel
theorem dX4_make_9 : decode cX4_make 9 = .ok (.getfield 9, 3) := by decide +kernel
theorem dX4_make_12 : decode cX4_make 12 = .ok (.iload_n 1, 1) := by decide +kernel
theorem dX4_make_13 : decode cX4_make 13 = .ok (.bipush 61, 2) := by decide +kernel
theorem dX4_make_15 : decode cX4_make 15 = .ok (.imul, 1) := by decide +kernel
theorem dX4_make_16 : decode cX4_make 16 = .ok (.iload_n 2, 1) := by decide +kernel
theorem dX4_make_17 : decode cX4_make 17 = .ok (.iadd, 1) := by decide +kernel
theorem dX4_make_18 : decode cX4_make 18 = .ok (.aload_n 0, 1) := by decide +kernel
theorem dX4_make_19 : decode cX4_make 19 = .ok (.iload_n 1, 1) := by decide +kernel
theorem dX4_make_20 : decode cX4_make 20 = .ok (.iload_n 2, 1) := by decide +kernel
theorem dX4_make_21 : decode cX4_make 21 = .ok (.invokevirtual 37, 3) := by decide +kernel
theorem dX4_make_24 : decode cX4_make 24 = .ok (.iastore, 1) := by decide +kernel
theorem dX4_make_25 : decode cX4_make 25 = .ok (.return_, 1) := by decide +kernel
set_option maxRecDepth 20000 in
set_option maxHeartbeats 4000000 in
theorem k_V1_make (l : Launch) (w : WT) (σ : MM) (a : Int) (t : Int) (i_a : inr a) (i_t : inr t) (ha : 0 ≤ a ∧ a < σ 53 0) (hc : σ 53 0 ≤ 8) (hd : σ 2 a ≠ 0 → 0 ≤ σ 5 (2 * a) ∧ σ 5 (2 * a) < 8 ∧ 0 ≤ σ 5 (2 * a + 1) ∧ σ 5 (2 * a + 1) < 8) (ht : 0 ≤ t ∧ t ≤ 60) : CT SX l w yX4_make cX4_make 3 none 4 90 [.ref (w.2.2 23), .int (iI a), .int (iI t)] σ (PV fun σ1 => Mod [24] σ σ1 ∧ (∃ v : Int, iI v = VALx σ (σ 24) a t ∧ ∀ b : Int, σ1 24 b = if b = a * 61 + t then v else σ 24 b)) := by
  refine CT.of 0 [some (.ref (w.2.2 23)), some (.int (iI a)), some (.int (iI t))] (by decide +kernel) (by simp [lg_sl, Value.category]) rfl sh_X (fun G hX => ?_)
  refine r_iload_n hX dX4_make_0 rfl ?_
  refine r_iload_n hX dX4_make_1 rfl ?_
  refine r_callS hX dX4_make_2 (k_V_isPlace l w σ _ _ (by omega) (by omega)) mf_X4_isPlace ms_X4_isPlace lk_RX4_19 rfl rfl ⟨Nat.le_of_ble_eq_true rfl, Nat.le_of_ble_eq_true rfl⟩ (Nat.le_of_ble_eq_true rfl) (kI fun z2 σ2 hh => ?_)
  obtain ⟨rfl, h2_0⟩ := hh
  refine r_if_eq hX (tgt := 25) dX4_make_5 (by decide) (by omega) (fun c5 => ?_) (fun c5 => ?_)
  · exfalso; omega
  · skip
    refine r_aload_n hX dX4_make_8 rfl ?_
    refine fg_X23_9 hX dX4_make_9 ?_
    refine r_iload_n hX dX4_make_12 rfl ?_
    refine r_bipush hX dX4_make_13 (by decide) ?_
    refine r_imul hX dX4_make_15 ?_
    refine r_iload_n hX dX4_make_16 rfl ?_
    refine r_iadd hX dX4_make_17 ?_
    refine r_aload_n hX dX4_make_18 rfl ?_
    refine r_iload_n hX dX4_make_19 rfl ?_
    refine r_iload_n hX dX4_make_20 rfl ?_
    refine r_callV hX dX4_make_21 (k_V1_valueOf l w σ _ _ (by omega) (by omega) (by omega) (hd) (by omega)) mf_X4_valueOf mv_X4_valueOf lk_RX4_37 rfl rfl rfl rfl rfl ⟨Nat.le_of_ble_eq_true rfl, Nat.le_of_ble_eq_true rfl⟩ (Nat.le_of_ble_eq_true rfl) (kI fun z21 σ21 hh => ?_)
    obtain ⟨rfl, h21_0⟩ := hh
    refine st_X24 hX dX4_make_24 (by omega) (by omega) (fun σ24 m24 s24 => ?_)
    exact r_ret hX dX4_make_25 rfl ⟨rfl, ⟨(m24.w rfl), (by exact ⟨_, h21_0, s24⟩)⟩⟩
theorem dX4_makeRound_0 : decode cX4_makeRound 0 = .ok (.iconst 0, 1) := by decide +kernel
theorem dX4_makeRound_1 : decode cX4_makeRound 1 = .ok (.istore_n 2, 1) := by decide +kernel
theorem dX4_makeRound_2 : decode cX4_makeRound 2 = .ok (.iload_n 2, 1) := by decide +kernel
theorem dX4_makeRound_3 : decode cX4_makeRound 3 = .ok (.aload_n 0, 1) := by decide +kernel
theorem dX4_makeRound_4 : decode cX4_makeRound 4 = .ok (.getfield 15, 3) := by decide +kernel
theorem dX4_makeRound_7 : decode cX4_makeRound 7 = .ok (.invokevirtual 23, 3) := by decide +kernel
theorem dX4_makeRound_10 : decode cX4_makeRound 10 = .ok (.if_icmp .ge 22, 3) := by decide +kernel
theorem dX4_makeRound_13 : decode cX4_makeRound 13 = .ok (.aload_n 0, 1) := by decide +kernel
theorem dX4_makeRound_14 : decode cX4_makeRound 14 = .ok (.aload_n 0, 1) := by decide +kernel
theorem dX4_makeRound_15 : decode cX4_makeRound 15 = .ok (.getfield 15, 3) := by decide +kernel
theorem dX4_makeRound_18 : decode cX4_makeRound 18 = .ok (.iload_n 2, 1) := by decide +kernel
theorem dX4_makeRound_19 : decode cX4_makeRound 19 = .ok (.invokevirtual 29, 3) := by decide +kernel
theorem dX4_makeRound_22 : decode cX4_makeRound 22 = .ok (.iload_n 1, 1) := by decide +kernel
theorem dX4_makeRound_23 : decode cX4_makeRound 23 = .ok (.invokevirtual 33, 3) := by decide +kernel
theorem dX4_makeRound_26 : decode cX4_makeRound 26 = .ok (.iinc 2 1, 3) := by decide +kernel
theorem dX4_makeRound_29 : decode cX4_makeRound 29 = .ok (.goto (-27), 3) := by decide +kernel
theorem dX4_makeRound_32 : decode cX4_makeRound 32 = .ok (.return_, 1) := by decide +kernel
set_option maxRecDepth 20000 in
set_option maxHeartbeats 4000000 in
theorem k_V1_makeRound (l : Launch) (w : WT) (σ : MM) (t : Int) (i_t : inr t) (hLO : LoopOK σ) (hso : σ 54 0 = σ 53 0) (hD : DatOK σ) (ht : 0 ≤ t ∧ t ≤ 60) : CT SX l w yX4_makeRound cX4_makeRound 3 none 5 112 [.ref (w.2.2 23), .int (iI t)] σ (PV fun σ1 => Mod [24] σ σ1 ∧ (EQs σ (σ 24) t → EQs σ (σ1 24) (t + 1))) := by
  refine CT.of 1 [some (.ref (w.2.2 23)), some (.int (iI t)), none] (by decide +kernel) (by simp [lg_sl, Value.category]) rfl sh_X (fun G hX => ?_)
  refine r_bd hX (fun hBd => ?_)
  have b_53 := hBd 53 0 8 rfl 0
  have hdi : ∀ s : Int, 0 ≤ σ 6 s ∧ σ 6 s ≤ 3 := fun s => hBd 6 0 3 rfl s
  refine r_iconst hX dX4_makeRound_0 ?_
  refine r_istore_n hX (fun x1 => [some (.ref (w.2.2 23)), some (.int (iI t)), some (.int (iI x1))]) dX4_makeRound_1 (Nat.le_of_ble_eq_true rfl) rfl rfl (fun _ => rfl) (fun x1 e1 => ?_)
  have lp2 : ∀ (n : Nat) (p : Int) (σ2 : MM) (m2 : Mod [24] σ σ2) (hp : 0 ≤ p ∧ p ≤ σ 53 0) (hM : MR σ (σ 24) t p (σ2 24)) (hmu : 9 - p < (n : Int)), G 2 [some (.ref (w.2.2 23)), some (.int (iI t)), some (.int (iI p))] [] σ2 := by
    intro n
    induction n with
    | zero => intro p σ2 m2 hp hM hmu; omega
    | succ n ih =>
      intro p σ2 m2 hp hM hmu
      have ih2 := ih
      clear ih
      refine r_iload_n hX dX4_makeRound_2 rfl ?_
      refine r_aload_n hX dX4_makeRound_3 rfl ?_
      refine fg_X23_15 hX dX4_makeRound_4 ?_
      refine r_callV hX dX4_makeRound_7 (k_Lp_count l w σ2) mf_X2_count mv_X2_count lk_RX4_23 rfl rfl rfl rfl rfl ⟨Nat.le_of_ble_eq_true rfl, Nat.le_of_ble_eq_true rfl⟩ (Nat.le_of_ble_eq_true rfl) (kI fun z7 σ7 hh => ?_)
      obtain ⟨rfl, h7_0, h7_1⟩ := hh
      have q7_1 : σ2 53 = σ 53 := (m2.at 53 rfl)
      try simp only [q7_1] at h7_0
      refine r_icmp_ge hX (tgt := 32) dX4_makeRound_10 (by decide) (by omega) (by omega) (fun c10 => ?_) (fun c10 => ?_)
      · skip
        exact r_ret hX dX4_makeRound_32 rfl ⟨rfl, ⟨(m2.w rfl), (by intro hE; exact hM.fin hLO hso hD b_53.2 hdi ht hE (by omega))⟩⟩
      · skip
        refine r_aload_n hX dX4_makeRound_13 rfl ?_
        refine r_aload_n hX dX4_makeRound_14 rfl ?_
        refine fg_X23_15 hX dX4_makeRound_15 ?_
        refine r_iload_n hX dX4_makeRound_18 rfl ?_
        refine r_callV hX dX4_makeRound_19 (k_Lp_actInOrder l w σ2 _ (by omega)) mf_X2_actInOrder mv_X2_actInOrder lk_RX4_29 rfl rfl rfl rfl rfl ⟨Nat.le_of_ble_eq_true rfl, Nat.le_of_ble_eq_true rfl⟩ (Nat.le_of_ble_eq_true rfl) (kI fun z19 σ19 hh => ?_)
        obtain ⟨rfl, h19_0, h19_1⟩ := hh
        have q19_2 : σ2 7 = σ 7 := (m2.at 7 rfl)
        have q19_3 : σ2 53 = σ 53 := (m2.at 53 rfl)
        have q19_4 : σ2 54 = σ 54 := (m2.at 54 rfl)
        try simp only [q19_2, q19_3, q19_4] at h19_0
        have ho := ar_ord hLO hso b_53.2 (i := p) (by omega) (by omega)
        obtain rfl : z19 = σ 7 p := by omega
        have hsr := srcOK_of hLO hso
        have hdp := hD (σ 7 p) ho.1 ho.2.1
        have hs1 := hsr (2 * σ 7 p) (by omega) (by omega)
        have hs2 := hsr (2 * σ 7 p + 1) (by omega) (by omega)
        refine r_iload_n hX dX4_makeRound_22 rfl ?_
        have qp23_53 : σ2 53 = σ 53 := (m2.at 53 rfl)
        have qp23_53 : σ2 53 = σ 53 := (m2.at 53 rfl)
        have qp23_2 : σ2 2 = σ 2 := (m2.at 2 rfl)
        have qp23_5 : σ2 5 = σ 5 := (m2.at 5 rfl)
        refine r_callV hX dX4_makeRound_23 (k_V1_make l w σ2 _ _ (by omega) (by omega) (by simp only [qp23_53]; omega) (by simp only [qp23_53]; omega) (by simp only [qp23_2, qp23_5]; intro q; omega) (by omega)) mf_X4_make mv_X4_make lk_RX4_33 rfl rfl rfl rfl rfl ⟨Nat.le_of_ble_eq_true rfl, Nat.le_of_ble_eq_true rfl⟩ (Nat.le_of_ble_eq_true rfl) (kV fun σ23 hh => ?_)
        obtain ⟨m23, h23_0⟩ := hh
        obtain ⟨v, hv, hw⟩ := h23_0
        rw [VALx_of m2 rfl] at hv
        refine r_iinc hX (fun x26 => [some (.ref (w.2.2 23)), some (.int (iI t)), some (.int (iI x26))]) dX4_makeRound_26 rfl rfl rfl (fun _ => rfl) (fun x26 e26 => ?_)
        refine r_goto hX dX4_makeRound_29 (tgt := 2) (by decide) ?_
        exact ih2 x26 σ23 (Mod.tr (L := [24]) m2 m23 rfl rfl) (by omega) (by rw [e26]; exact hM.next hLO hso hD b_53.2 hdi ht (by omega) hv hw) (by omega)
  exact lp2 ((9 - (x1)) + 1).toNat x1 σ Mod.rf (by omega) (by rw [e1]; exact MR.init) (by omega)
set_option maxRecDepth 20000 in
set_option maxHeartbeats 4000000 in
theorem k_V2_at (l : Launch) (w : WT) (σ : MM) (a : Int) (t : Int) (i_a : inr a) (i_t : inr t) : CT SX l w yX4_at cX4_at 3 (some .int) 1 21 [.ref (w.2.2 25), .int (iI a), .int (iI t)] σ (PI fun z σ1 => σ = σ1 ∧ ((0 ≤ a ∧ a < 8 ∧ 0 ≤ t ∧ t ≤ 60 ∧ z = σ 26 (a * 61 + t)) ∨ ((a < 0 ∨ 8 ≤ a ∨ t < 0 ∨ 60 < t) ∧ z = 0))) := by
  refine CT.of 0 [some (.ref (w.2.2 25)), some (.int (iI a)), some (.int (iI t))] (by decide +kernel) (by simp [lg_sl, Value.category]) rfl sh_X (fun G hX => ?_)
  refine r_iload_n hX dX4_at_0 rfl ?_
  refine r_iload_n hX dX4_at_1 rfl ?_
  refine r_callS hX dX4_at_2 (k_V_isPlace l w σ _ _ (by omega) (by omega)) mf_X4_isPlace ms_X4_isPlace lk_RX4_19 rfl rfl ⟨Nat.le_of_ble_eq_true rfl, Nat.le_of_ble_eq_true rfl⟩ (Nat.le_of_ble_eq_true rfl) (kI fun z2 σ2 hh => ?_)
  obtain ⟨rfl, h2_0⟩ := hh
  refine r_if_eq hX (tgt := 22) dX4_at_5 (by decide) (by omega) (fun c5 => ?_) (fun c5 => ?_)
  · skip
    refine r_iconst hX dX4_at_22 ?_
    exact r_iret hX dX4_at_23 rfl ⟨_, rfl, ⟨rfl, (by omega)⟩⟩
  · skip
    refine r_aload_n hX dX4_at_8 rfl ?_
    refine fg_X25_9 hX dX4_at_9 ?_
    refine r_iload_n hX dX4_at_12 rfl ?_
    refine r_bipush hX dX4_at_13 (by decide) ?_
    refine r_imul hX dX4_at_15 ?_
    refine r_iload_n hX dX4_at_16 rfl ?_
    refine r_iadd hX dX4_at_17 ?_
    refine ld_X26 hX dX4_at_18 (by omega) (by omega) ?_
    refine r_goto hX dX4_at_19 (tgt := 23) (by decide) ?_
    exact r_iret hX dX4_at_23 rfl ⟨_, rfl, ⟨rfl, (by omega)⟩⟩
set_option maxRecDepth 20000 in
set_option maxHeartbeats 4000000 in
theorem k_V2_operand (l : Launch) (w : WT) (σ : MM) (s : Int) (t : Int) (i_s : inr s) (i_t : inr t) (hs : 0 ≤ s ∧ s < 2 * σ 53 0) (hu : 0 ≤ σ 5 s ∧ σ 5 s < 8) (ht : 0 ≤ t ∧ t ≤ 60) : CT SX l w yX4_operand cX4_operand 4 (some .int) 2 43 [.ref (w.2.2 25), .int (iI s), .int (iI t)] σ (PI fun z σ1 => σ = σ1 ∧ (z = opV (σ 5) (σ 6) (σ 26) (σ 55 0) s t)) := by
  refine CT.of 1 [some (.ref (w.2.2 25)), some (.int (iI s)), some (.int (iI t)), none] (by decide +kernel) (by simp [lg_sl, Value.category]) rfl sh_X (fun G hX => ?_)
  refine r_iload_n hX dX4_operand_0 rfl ?_
  refine r_aload_n hX dX4_operand_1 rfl ?_
  refine fg_X25_15 hX dX4_operand_2 ?_
  refine r_iload_n hX dX4_operand_5 rfl ?_
  refine r_callV hX dX4_operand_6 (k_Lp_distanceOf l w σ _ (by omega)) mf_X2_distanceOf mv_X2_distanceOf lk_RX4_61 rfl rfl rfl rfl rfl ⟨Nat.le_of_ble_eq_true rfl, Nat.le_of_ble_eq_true rfl⟩ (Nat.le_of_ble_eq_true rfl) (kI fun z6 σ6 hh => ?_)
  obtain ⟨rfl, h6_0, h6_1⟩ := hh
  obtain rfl : z6 = σ 6 s := by omega
  refine r_isub hX dX4_operand_9 ?_
  refine r_istore_n hX (fun x10 => [some (.ref (w.2.2 25)), some (.int (iI s)), some (.int (iI t)), some (.int (iI x10))]) dX4_operand_10 (Nat.le_of_ble_eq_true rfl) rfl rfl (fun _ => rfl) (fun x10 e10 => ?_)
  refine r_iload_n hX dX4_operand_11 rfl ?_
  refine r_if_ge hX (tgt := 25) dX4_operand_12 (by decide) (by omega) (fun c12 => ?_) (fun c12 => ?_)
  · skip
    refine r_aload_n hX dX4_operand_25 rfl ?_
    refine r_aload_n hX dX4_operand_26 rfl ?_
    refine fg_X25_15 hX dX4_operand_27 ?_
    refine r_iload_n hX dX4_operand_30 rfl ?_
    refine r_callV hX dX4_operand_31 (k_Lp_sourceOf l w σ _ (by omega)) mf_X2_sourceOf mv_X2_sourceOf lk_RX4_67 rfl rfl rfl rfl rfl ⟨Nat.le_of_ble_eq_true rfl, Nat.le_of_ble_eq_true rfl⟩ (Nat.le_of_ble_eq_true rfl) (kI fun z31 σ31 hh => ?_)
    obtain ⟨rfl, h31_0, h31_1⟩ := hh
    obtain rfl : z31 = σ 5 s := by omega
    refine r_iload_n hX dX4_operand_34 rfl ?_
    refine r_callV hX dX4_operand_35 (k_V2_at l w σ _ _ (by omega) (by omega)) mf_X4_at mv_X4_at lk_RX4_70 rfl rfl rfl rfl rfl ⟨Nat.le_of_ble_eq_true rfl, Nat.le_of_ble_eq_true rfl⟩ (Nat.le_of_ble_eq_true rfl) (kI fun z35 σ35 hh => ?_)
    obtain ⟨rfl, h35_0⟩ := hh
    exact r_iret hX dX4_operand_38 rfl ⟨_, rfl, ⟨rfl, (by unfold opV; rw [e10] at *; first | (rw [if_pos (by omega)]; omega) | (rw [if_neg (by omega)]; omega))⟩⟩
  · skip
    refine r_aload_n hX dX4_operand_15 rfl ?_
    refine fg_X25_15 hX dX4_operand_16 ?_
    refine r_callV hX dX4_operand_19 (k_Lp_first l w σ) mf_X2_firstNumber mv_X2_firstNumber lk_RX4_64 rfl rfl rfl rfl rfl ⟨Nat.le_of_ble_eq_true rfl, Nat.le_of_ble_eq_true rfl⟩ (Nat.le_of_ble_eq_true rfl) (kI fun z19 σ19 hh => ?_)
    obtain ⟨rfl, h19_0⟩ := hh
    refine r_goto hX dX4_operand_22 (tgt := 38) (by decide) ?_
    exact r_iret hX dX4_operand_38 rfl ⟨_, rfl, ⟨rfl, (by unfold opV; rw [e10] at *; first | (rw [if_pos (by omega)]; omega) | (rw [if_neg (by omega)]; omega))⟩⟩
set_option maxRecDepth 20000 in
set_option maxHeartbeats 4000000 in
theorem k_V2_valueOf (l : Launch) (w : WT) (σ : MM) (a : Int) (t : Int) (i_a : inr a) (i_t : inr t) (ha : 0 ≤ a ∧ a < σ 53 0) (hd : σ 2 a ≠ 0 → 0 ≤ σ 5 (2 * a) ∧ σ 5 (2 * a) < 8 ∧ 0 ≤ σ 5 (2 * a + 1) ∧ σ 5 (2 * a + 1) < 8) (ht : 0 ≤ t ∧ t ≤ 60) : CT SX l w yX4_valueOf cX4_valueOf 5 (some .int) 3 66 [.ref (w.2.2 25), .int (iI a), .int (iI t)] σ (PI fun z σ1 => σ = σ1 ∧ (iI z = VALx σ (σ 26) a t)) := by
  refine CT.of 2 [some (.ref (w.2.2 25)), some (.int (iI a)), some (.int (iI t)), none, none] (by decide +kernel) (by simp [lg_sl, Value.category]) rfl sh_X (fun G hX => ?_)
  refine r_bd hX (fun hBd => ?_)
  have b_53 := hBd 53 0 8 rfl 0
  have b2 := hBd 2 0 5 rfl a
  refine r_aload_n hX dX4_valueOf_0 rfl ?_
  refine fg_X25_15 hX dX4_valueOf_1 ?_
  refine r_iload_n hX dX4_valueOf_4 rfl ?_
  refine r_callV hX dX4_valueOf_5 (k_Lp_kindOf l w σ _ (by omega)) mf_X2_kindOf mv_X2_kindOf lk_RX4_41 rfl rfl rfl rfl rfl ⟨Nat.le_of_ble_eq_true rfl, Nat.le_of_ble_eq_true rfl⟩ (Nat.le_of_ble_eq_true rfl) (kI fun z5 σ5 hh => ?_)
  obtain ⟨rfl, h5_0, h5_1⟩ := hh
  obtain rfl : z5 = σ 2 a := by omega
  refine r_if_ne hX (tgt := 31) dX4_valueOf_8 (by decide) (by omega) (fun c8 => ?_) (fun c8 => ?_)
  · skip
    have hd1 := hd (by omega)
    refine r_aload_n hX dX4_valueOf_31 rfl ?_
    refine r_iconst hX dX4_valueOf_32 ?_
    refine r_iload_n hX dX4_valueOf_33 rfl ?_
    refine r_imul hX dX4_valueOf_34 ?_
    refine r_iload_n hX dX4_valueOf_35 rfl ?_
    refine r_callV hX dX4_valueOf_36 (k_V2_operand l w σ _ _ (by omega) (by omega) (by omega) (by omega) (by omega)) mf_X4_operand mv_X4_operand lk_RX4_50 rfl rfl rfl rfl rfl ⟨Nat.le_of_ble_eq_true rfl, Nat.le_of_ble_eq_true rfl⟩ (Nat.le_of_ble_eq_true rfl) (kI fun z36 σ36 hh => ?_)
    obtain ⟨rfl, h36_0⟩ := hh
    refine r_istore_n hX (fun x39 => [some (.ref (w.2.2 25)), some (.int (iI a)), some (.int (iI t)), some (.int (iI x39)), none]) dX4_valueOf_39 (Nat.le_of_ble_eq_true rfl) rfl rfl (fun _ => rfl) (fun x39 e39 => ?_)
    refine r_aload_n hX dX4_valueOf_40 rfl ?_
    refine r_iconst hX dX4_valueOf_41 ?_
    refine r_iload_n hX dX4_valueOf_42 rfl ?_
    refine r_imul hX dX4_valueOf_43 ?_
    refine r_iconst hX dX4_valueOf_44 ?_
    refine r_iadd hX dX4_valueOf_45 ?_
    refine r_iload_n hX dX4_valueOf_46 rfl ?_
    refine r_callV hX dX4_valueOf_47 (k_V2_operand l w σ _ _ (by omega) (by omega) (by omega) (by omega) (by omega)) mf_X4_operand mv_X4_operand lk_RX4_50 rfl rfl rfl rfl rfl ⟨Nat.le_of_ble_eq_true rfl, Nat.le_of_ble_eq_true rfl⟩ (Nat.le_of_ble_eq_true rfl) (kI fun z47 σ47 hh => ?_)
    obtain ⟨rfl, h47_0⟩ := hh
    refine r_istore hX (fun x50 => [some (.ref (w.2.2 25)), some (.int (iI a)), some (.int (iI t)), some (.int (iI x39)), some (.int (iI x50))]) dX4_valueOf_50 (Nat.le_of_ble_eq_true rfl) rfl rfl (fun _ => rfl) (fun x50 e50 => ?_)
    refine r_aload_n hX dX4_valueOf_52 rfl ?_
    refine fg_X25_15 hX dX4_valueOf_53 ?_
    refine r_iload_n hX dX4_valueOf_56 rfl ?_
    refine r_callV hX dX4_valueOf_57 (k_Lp_kindOf l w σ _ (by omega)) mf_X2_kindOf mv_X2_kindOf lk_RX4_41 rfl rfl rfl rfl rfl ⟨Nat.le_of_ble_eq_true rfl, Nat.le_of_ble_eq_true rfl⟩ (Nat.le_of_ble_eq_true rfl) (kI fun z57 σ57 hh => ?_)
    obtain ⟨rfl, h57_0, h57_1⟩ := hh
    obtain rfl : z57 = σ 2 a := by omega
    refine r_nm hX (fun x60 e60 => ?_)
    rcases (by omega : x60 < 1 ∨ 4 < x60 ∨ x60 = 1 ∨ x60 = 2 ∨ x60 = 3 ∨ x60 = 4) with c60 | c60 | c60 | c60 | c60 | c60
    · skip
      refine r_tblOut hX dX4_valueOf_60 (by omega) (Or.inl c60) (tgt := 114) (by decide) ?_
      refine r_iload_n hX dX4_valueOf_114 rfl ?_
      refine r_iload hX dX4_valueOf_115 rfl ?_
      refine r_max hX dX4_valueOf_117 lq_RX4_58 ma_max_s ma_i ma_max_c (Nat.le_of_ble_eq_true rfl) (Nat.le_of_ble_eq_true rfl) (fun z117 h117 => ?_)
      exact r_iret hX dX4_valueOf_120 rfl ⟨_, rfl, ⟨rfl, (by unfold VALx VAL; rw [if_neg (by omega), if_neg (by omega), if_neg (by omega), if_neg (by omega), if_neg (by omega), ← h36_0, ← h47_0]; rw [e39, e50] at *; rcases h117 with ⟨q1, q2⟩ | ⟨q1, q2⟩ <;> simp [q1, q2])⟩⟩
    · skip
      refine r_tblOut hX dX4_valueOf_60 (by omega) (Or.inr c60) (tgt := 114) (by decide) ?_
      refine r_iload_n hX dX4_valueOf_114 rfl ?_
      refine r_iload hX dX4_valueOf_115 rfl ?_
      refine r_max hX dX4_valueOf_117 lq_RX4_58 ma_max_s ma_i ma_max_c (Nat.le_of_ble_eq_true rfl) (Nat.le_of_ble_eq_true rfl) (fun z117 h117 => ?_)
      exact r_iret hX dX4_valueOf_120 rfl ⟨_, rfl, ⟨rfl, (by unfold VALx VAL; rw [if_neg (by omega), if_neg (by omega), if_neg (by omega), if_neg (by omega), if_neg (by omega), ← h36_0, ← h47_0]; rw [e39, e50] at *; rcases h117 with ⟨q1, q2⟩ | ⟨q1, q2⟩ <;> simp [q1, q2])⟩⟩
    · skip
      refine r_tblIn hX 1 dX4_valueOf_60 c60 (by decide) rfl (tgt := 92) (by decide) ?_
      refine r_iload_n hX dX4_valueOf_92 rfl ?_
      refine r_iload hX dX4_valueOf_93 rfl ?_
      refine r_iadd hX dX4_valueOf_95 ?_
      exact r_iret hX dX4_valueOf_96 rfl ⟨_, rfl, ⟨rfl, (by unfold VALx VAL; rw [if_neg (by omega), if_pos (by omega), ← h36_0, ← h47_0, e39, e50])⟩⟩
    · skip
      refine r_tblIn hX 2 dX4_valueOf_60 c60 (by decide) rfl (tgt := 97) (by decide) ?_
      refine r_iload_n hX dX4_valueOf_97 rfl ?_
      refine r_iload hX dX4_valueOf_98 rfl ?_
      refine r_isub hX dX4_valueOf_100 ?_
      exact r_iret hX dX4_valueOf_101 rfl ⟨_, rfl, ⟨rfl, (by unfold VALx VAL; rw [if_neg (by omega), if_neg (by omega), if_pos (by omega), ← h36_0, ← h47_0, e39, e50])⟩⟩
    · skip
      refine r_tblIn hX 3 dX4_valueOf_60 c60 (by decide) rfl (tgt := 102) (by decide) ?_
      refine r_iload_n hX dX4_valueOf_102 rfl ?_
      refine r_iload hX dX4_valueOf_103 rfl ?_
      refine r_imul hX dX4_valueOf_105 ?_
      exact r_iret hX dX4_valueOf_106 rfl ⟨_, rfl, ⟨rfl, (by unfold VALx VAL; rw [if_neg (by omega), if_neg (by omega), if_neg (by omega), if_pos (by omega), ← h36_0, ← h47_0, e39, e50])⟩⟩
    · skip
      refine r_tblIn hX 4 dX4_valueOf_60 c60 (by decide) rfl (tgt := 107) (by decide) ?_
      refine r_iload_n hX dX4_valueOf_107 rfl ?_
      refine r_iload hX dX4_valueOf_108 rfl ?_
      refine r_min hX dX4_valueOf_110 lq_RX4_53 ma_min_s ma_i ma_min_c (Nat.le_of_ble_eq_true rfl) (Nat.le_of_ble_eq_true rfl) (fun z110 h110 => ?_)
      exact r_iret hX dX4_valueOf_113 rfl ⟨_, rfl, ⟨rfl, (by unfold VALx VAL; rw [if_neg (by omega), if_neg (by omega), if_neg (by omega), if_neg (by omega), if_pos (by omega), ← h36_0, ← h47_0]; rw [e39, e50] at *; rcases h110 with ⟨q1, q2⟩ | ⟨q1, q2⟩ <;> simp [q1, q2])⟩⟩
  · skip
    refine r_aload_n hX dX4_valueOf_11 rfl ?_
    refine fg_X25_15 hX dX4_valueOf_12 ?_
    refine r_iload_n hX dX4_valueOf_15 rfl ?_
    refine r_callV hX dX4_valueOf_16 (k_Lp_factorOf l w σ _ (by omega)) mf_X2_factorOf mv_X2_factorOf lk_RX4_44 rfl rfl rfl rfl rfl ⟨Nat.le_of_ble_eq_true rfl, Nat.le_of_ble_eq_true rfl⟩ (Nat.le_of_ble_eq_true rfl) (kI fun z16 σ16 hh => ?_)
    obtain ⟨rfl, h16_0⟩ := hh
    obtain rfl : z16 = σ 3 a := by omega
    refine r_iload_n hX dX4_valueOf_19 rfl ?_
    refine r_imul hX dX4_valueOf_20 ?_
    refine r_aload_n hX dX4_valueOf_21 rfl ?_
    refine fg_X25_15 hX dX4_valueOf_22 ?_
    refine r_iload_n hX dX4_valueOf_25 rfl ?_
    refine r_callV hX dX4_valueOf_26 (k_Lp_addendOf l w σ _ (by omega)) mf_X2_addendOf mv_X2_addendOf lk_RX4_47 rfl rfl rfl rfl rfl ⟨Nat.le_of_ble_eq_true rfl, Nat.le_of_ble_eq_true rfl⟩ (Nat.le_of_ble_eq_true rfl) (kI fun z26 σ26 hh => ?_)
    obtain ⟨rfl, h26_0⟩ := hh
    obtain rfl : z26 = σ 4 a := by omega
    refine r_iadd hX dX4_valueOf_29 ?_
    exact r_iret hX dX4_valueOf_30 rfl ⟨_, rfl, ⟨rfl, (by unfold VALx VAL; rw [if_pos (by omega)])⟩⟩
set_option maxRecDepth 20000 in
set_option maxHeartbeats 4000000 in
theorem k_V2_make (l : Launch) (w : WT) (σ : MM) (a : Int) (t : Int) (i_a : inr a) (i_t : inr t) (ha : 0 ≤ a ∧ a < σ 53 0) (hc : σ 53 0 ≤ 8) (hd : σ 2 a ≠ 0 → 0 ≤ σ 5 (2 * a) ∧ σ 5 (2 * a) < 8 ∧ 0 ≤ σ 5 (2 * a + 1) ∧ σ 5 (2 * a + 1) < 8) (ht : 0 ≤ t ∧ t ≤ 60) : CT SX l w yX4_make cX4_make 3 none 4 90 [.ref (w.2.2 25), .int (iI a), .int (iI t)] σ (PV fun σ1 => Mod [26] σ σ1 ∧ (∃ v : Int, iI v = VALx σ (σ 26) a t ∧ ∀ b : Int, σ1 26 b = if b = a * 61 + t then v else σ 26 b)) := by
  refine CT.of 0 [some (.ref (w.2.2 25)), some (.int (iI a)), some (.int (iI t))] (by decide +kernel) (by simp [lg_sl, Value.category]) rfl sh_X (fun G hX => ?_)
  refine r_iload_n hX dX4_make_0 rfl ?_
  refine r_iload_n hX dX4_make_1 rfl ?_
  refine r_callS hX dX4_make_2 (k_V_isPlace l w σ _ _ (by omega) (by omega)) mf_X4_isPlace ms_X4_isPlace lk_RX4_19 rfl rfl ⟨Nat.le_of_ble_eq_true rfl, Nat.le_of_ble_eq_true rfl⟩ (Nat.le_of_ble_eq_true rfl) (kI fun z2 σ2 hh => ?_)
  obtain ⟨rfl, h2_0⟩ := hh
  refine r_if_eq hX (tgt := 25) dX4_make_5 (by decide) (by omega) (fun c5 => ?_) (fun c5 => ?_)
  · exfalso; omega
  · skip
    refine r_aload_n hX dX4_make_8 rfl ?_
    refine fg_X25_9 hX dX4_make_9 ?_
    refine r_iload_n hX dX4_make_12 rfl ?_
    refine r_bipush hX dX4_make_13 (by decide) ?_
    refine r_imul hX dX4_make_15 ?_
    refine r_iload_n hX dX4_make_16 rfl ?_
    refine r_iadd hX dX4_make_17 ?_
    refine r_aload_n hX dX4_make_18 rfl ?_
    refine r_iload_n hX dX4_make_19 rfl ?_
    refine r_iload_n hX dX4_make_20 rfl ?_
    refine r_callV hX dX4_make_21 (k_V2_valueOf l w σ _ _ (by omega) (by omega) (by omega) (hd) (by omega)) mf_X4_valueOf mv_X4_valueOf lk_RX4_37 rfl rfl rfl rfl rfl ⟨Nat.le_of_ble_eq_true rfl, Nat.le_of_ble_eq_true rfl⟩ (Nat.le_of_ble_eq_true rfl) (kI fun z21 σ21 hh => ?_)
    obtain ⟨rfl, h21_0⟩ := hh
    refine st_X26 hX dX4_make_24 (by omega) (by omega) (fun σ24 m24 s24 => ?_)
    exact r_ret hX dX4_make_25 rfl ⟨rfl, ⟨(m24.w rfl), (by exact ⟨_, h21_0, s24⟩)⟩⟩
set_option maxRecDepth 20000 in
set_option maxHeartbeats 4000000 in
theorem k_V2_makeRound (l : Launch) (w : WT) (σ : MM) (t : Int) (i_t : inr t) (hLO : LoopOK σ) (hso : σ 54 0 = σ 53 0) (hD : DatOK σ) (ht : 0 ≤ t ∧ t ≤ 60) : CT SX l w yX4_makeRound cX4_makeRound 3 none 5 112 [.ref (w.2.2 25), .int (iI t)] σ (PV fun σ1 => Mod [26] σ σ1 ∧ (EQs σ (σ 26) t → EQs σ (σ1 26) (t + 1))) := by
  refine CT.of 1 [some (.ref (w.2.2 25)), some (.int (iI t)), none] (by decide +kernel) (by simp [lg_sl, Value.category]) rfl sh_X (fun G hX => ?_)
  refine r_bd hX (fun hBd => ?_)
  have b_53 := hBd 53 0 8 rfl 0
  have hdi : ∀ s : Int, 0 ≤ σ 6 s ∧ σ 6 s ≤ 3 := fun s => hBd 6 0 3 rfl s
  refine r_iconst hX dX4_makeRound_0 ?_
  refine r_istore_n hX (fun x1 => [some (.ref (w.2.2 25)), some (.int (iI t)), some (.int (iI x1))]) dX4_makeRound_1 (Nat.le_of_ble_eq_true rfl) rfl rfl (fun _ => rfl) (fun x1 e1 => ?_)
  have lp2 : ∀ (n : Nat) (p : Int) (σ2 : MM) (m2 : Mod [26] σ σ2) (hp : 0 ≤ p ∧ p ≤ σ 53 0) (hM : MR σ (σ 26) t p (σ2 26)) (hmu : 9 - p < (n : Int)), G 2 [some (.ref (w.2.2 25)), some (.int (iI t)), some (.int (iI p))] [] σ2 := by
    intro n
    induction n with
    | zero => intro p σ2 m2 hp hM hmu; omega
    | succ n ih =>
      intro p σ2 m2 hp hM hmu
      have ih2 := ih
      clear ih
      refine r_iload_n hX dX4_makeRound_2 rfl ?_
      refine r_aload_n hX dX4_makeRound_3 rfl ?_
      refine fg_X25_15 hX dX4_makeRound_4 ?_
      refine r_callV hX dX4_makeRound_7 (k_Lp_count l w σ2) mf_X2_count mv_X2_count lk_RX4_23 rfl rfl rfl rfl rfl ⟨Nat.le_of_ble_eq_true rfl, Nat.le_of_ble_eq_true rfl⟩ (Nat.le_of_ble_eq_true rfl) (kI fun z7 σ7 hh => ?_)
      obtain ⟨rfl, h7_0, h7_1⟩ := hh
      have q7_1 : σ2 53 = σ 53 := (m2.at 53 rfl)
      try simp only [q7_1] at h7_0
      refine r_icmp_ge hX (tgt := 32) dX4_makeRound_10 (by decide) (by omega) (by omega) (fun c10 => ?_) (fun c10 => ?_)
      · skip
        exact r_ret hX dX4_makeRound_32 rfl ⟨rfl, ⟨(m2.w rfl), (by intro hE; exact hM.fin hLO hso hD b_53.2 hdi ht hE (by omega))⟩⟩
      · skip
        refine r_aload_n hX dX4_makeRound_13 rfl ?_
        refine r_aload_n hX dX4_makeRound_14 rfl ?_
        refine fg_X25_15 hX dX4_makeRound_15 ?_
        refine r_iload_n hX dX4_makeRound_18 rfl ?_
        refine r_callV hX dX4_makeRound_19 (k_Lp_actInOrder l w σ2 _ (by omega)) mf_X2_actInOrder mv_X2_actInOrder lk_RX4_29 rfl rfl rfl rfl rfl ⟨Nat.le_of_ble_eq_true rfl, Nat.le_of_ble_eq_true rfl⟩ (Nat.le_of_ble_eq_true rfl) (kI fun z19 σ19 hh => ?_)
        obtain ⟨rfl, h19_0, h19_1⟩ := hh
        have q19_2 : σ2 7 = σ 7 := (m2.at 7 rfl)
        have q19_3 : σ2 53 = σ 53 := (m2.at 53 rfl)
        have q19_4 : σ2 54 = σ 54 := (m2.at 54 rfl)
        try simp only [q19_2, q19_3, q19_4] at h19_0
        have ho := ar_ord hLO hso b_53.2 (i := p) (by omega) (by omega)
        obtain rfl : z19 = σ 7 p := by omega
        have hsr := srcOK_of hLO hso
        have hdp := hD (σ 7 p) ho.1 ho.2.1
        have hs1 := hsr (2 * σ 7 p) (by omega) (by omega)
        have hs2 := hsr (2 * σ 7 p + 1) (by omega) (by omega)
        refine r_iload_n hX dX4_makeRound_22 rfl ?_
        have qp23_53 : σ2 53 = σ 53 := (m2.at 53 rfl)
        have qp23_53 : σ2 53 = σ 53 := (m2.at 53 rfl)
        have qp23_2 : σ2 2 = σ 2 := (m2.at 2 rfl)
        have qp23_5 : σ2 5 = σ 5 := (m2.at 5 rfl)
        refine r_callV hX dX4_makeRound_23 (k_V2_make l w σ2 _ _ (by omega) (by omega) (by simp only [qp23_53]; omega) (by simp only [qp23_53]; omega) (by simp only [qp23_2, qp23_5]; intro q; omega) (by omega)) mf_X4_make mv_X4_make lk_RX4_33 rfl rfl rfl rfl rfl ⟨Nat.le_of_ble_eq_true rfl, Nat.le_of_ble_eq_true rfl⟩ (Nat.le_of_ble_eq_true rfl) (kV fun σ23 hh => ?_)
        obtain ⟨m23, h23_0⟩ := hh
        obtain ⟨v, hv, hw⟩ := h23_0
        rw [VALx_of m2 rfl] at hv
        refine r_iinc hX (fun x26 => [some (.ref (w.2.2 25)), some (.int (iI t)), some (.int (iI x26))]) dX4_makeRound_26 rfl rfl rfl (fun _ => rfl) (fun x26 e26 => ?_)
        refine r_goto hX dX4_makeRound_29 (tgt := 2) (by decide) ?_
        exact ih2 x26 σ23 (Mod.tr (L := [26]) m2 m23 rfl rfl) (by omega) (by rw [e26]; exact hM.next hLO hso hD b_53.2 hdi ht (by omega) hv hw) (by omega)
  exact lp2 ((9 - (x1)) + 1).toNat x1 σ Mod.rf (by omega) (by rw [e1]; exact MR.init) (by omega)
