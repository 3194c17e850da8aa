theorem dJ9_floorDiv_7cf53_0 : decode cJ9_floorDiv_7cf53 0 = .ok (.iload_n 0, 1) := by decide +kernel
theorem dJ9_floorDiv_7cf53_1 : decode cJ9_floorDiv_7cf53 1 = .ok (.iload_n 1, 1) := by decide +kernel
theorem dJ9_floorDiv_7cf53_2 : decode cJ9_floorDiv_7cf53 2 = .ok (.idiv, 1) := by decide +kernel
theorem dJ9_floorDiv_7cf53_3 : decode cJ9_floorDiv_7cf53 3 = .ok (.istore_n 2, 1) := by decide +kernel
theorem dJ9_floorDiv_7cf53_4 : decode cJ9_floorDiv_7cf53 4 = .ok (.iload_n 0, 1) := by decide +kernel
theorem dJ9_floorDiv_7cf53_5 : decode cJ9_floorDiv_7cf53 5 = .ok (.iload_n 1, 1) := by decide +kernel
theorem dJ9_floorDiv_7cf53_6 : decode cJ9_floorDiv_7cf53 6 = .ok (.ixor, 1) := by decide +kernel
theorem dJ9_floorDiv_7cf53_7 : decode cJ9_floorDiv_7cf53 7 = .ok (.ifCond .ge 14, 3) := by decide +kernel
theorem dJ9_floorDiv_7cf53_10 : decode cJ9_floorDiv_7cf53 10 = .ok (.iload_n 2, 1) := by decide +kernel
theorem dJ9_floorDiv_7cf53_11 : decode cJ9_floorDiv_7cf53 11 = .ok (.iload_n 1, 1) := by decide +kernel
theorem dJ9_floorDiv_7cf53_12 : decode cJ9_floorDiv_7cf53 12 = .ok (.imul, 1) := by decide +kernel
theorem dJ9_floorDiv_7cf53_13 : decode cJ9_floorDiv_7cf53 13 = .ok (.iload_n 0, 1) := by decide +kernel
theorem dJ9_floorDiv_7cf53_14 : decode cJ9_floorDiv_7cf53 14 = .ok (.if_icmp .eq 7, 3) := by decide +kernel
theorem dJ9_floorDiv_7cf53_17 : decode cJ9_floorDiv_7cf53 17 = .ok (.iload_n 2, 1) := by decide +kernel
theorem dJ9_floorDiv_7cf53_18 : decode cJ9_floorDiv_7cf53 18 = .ok (.iconst 1, 1) := by decide +kernel
theorem dJ9_floorDiv_7cf53_19 : decode cJ9_floorDiv_7cf53 19 = .ok (.isub, 1) := by decide +kernel
theorem dJ9_floorDiv_7cf53_20 : decode cJ9_floorDiv_7cf53 20 = .ok (.ireturn, 1) := by decide +kernel
theorem dJ9_floorDiv_7cf53_21 : decode cJ9_floorDiv_7cf53 21 = .ok (.iload_n 2, 1) := by decide +kernel
theorem dJ9_floorDiv_7cf53_22 : decode cJ9_floorDiv_7cf53 22 = .ok (.ireturn, 1) := by decide +kernel
set_option maxRecDepth 20000 in
set_option maxHeartbeats 4000000 in
theorem k_floorDiv (l : Launch) (w : WT) (σ : MM) (x : Int) (y : Int) (i_x : inr x) (i_y : inr y) (hx : -1000000 ≤ x ∧ x ≤ 1000000) (hy : 1 ≤ y ∧ y ≤ 1000000) : CT SX l w yJ9_floorDiv_7cf53 cJ9_floorDiv_7cf53 3 (some .int) 0 0 [.int (iI x), .int (iI y)] σ (PI fun z σ1 => σ = σ1 ∧ (z = x / y)) := by
  refine CT.of 1 [some (.int (iI x)), some (.int (iI y)), none] (by decide +kernel) (by simp [lg_sl, Value.category]) rfl sh_X (fun G hX => ?_)
  refine r_iload_n hX dJ9_floorDiv_7cf53_0 rfl ?_
  refine r_iload_n hX dJ9_floorDiv_7cf53_1 rfl ?_
  refine r_idivT hX dJ9_floorDiv_7cf53_2 (by omega) (by omega) (by omega) ?_
  refine r_istore_n hX (fun x3 => [some (.int (iI x)), some (.int (iI y)), some (.int (iI x3))]) dJ9_floorDiv_7cf53_3 (Nat.le_of_ble_eq_true rfl) rfl rfl (fun _ => rfl) (fun x3 e3 => ?_)
  have hq : 0 ≤ x → x3 = x / y := fun h => by rw [e3]; exact Int.tdiv_eq_ediv_of_nonneg h
  have hq2 := fun h : x < 0 => fd_of h (show 0 < y by omega)
  rw [← e3] at hq2
  refine r_iload_n hX dJ9_floorDiv_7cf53_4 rfl ?_
  refine r_iload_n hX dJ9_floorDiv_7cf53_5 rfl ?_
  refine r_ixor hX dJ9_floorDiv_7cf53_6 (by omega) (by omega) (by omega) (fun z6 i6 h6 => ?_)
  refine r_if_ge hX (tgt := 21) dJ9_floorDiv_7cf53_7 (by decide) (by omega) (fun c7 => ?_) (fun c7 => ?_)
  · skip
    refine r_iload_n hX dJ9_floorDiv_7cf53_21 rfl ?_
    exact r_iret hX dJ9_floorDiv_7cf53_22 rfl ⟨_, rfl, ⟨rfl, (by first | (have h0 := hq (by omega); omega) | (have h9 := (hq2 (by omega)).1 (by omega); omega))⟩⟩
  · skip
    refine r_iload_n hX dJ9_floorDiv_7cf53_10 rfl ?_
    refine r_iload_n hX dJ9_floorDiv_7cf53_11 rfl ?_
    refine r_imul hX dJ9_floorDiv_7cf53_12 ?_
    have hq3 := hq2 (by omega)
    refine r_iload_n hX dJ9_floorDiv_7cf53_13 rfl ?_
    refine r_icmp_eq hX (tgt := 21) dJ9_floorDiv_7cf53_14 (by decide) (by omega) (by omega) (fun c14 => ?_) (fun c14 => ?_)
    · skip
      refine r_iload_n hX dJ9_floorDiv_7cf53_21 rfl ?_
      exact r_iret hX dJ9_floorDiv_7cf53_22 rfl ⟨_, rfl, ⟨rfl, (by first | (have h0 := hq (by omega); omega) | (have h9 := (hq2 (by omega)).1 (by omega); omega))⟩⟩
    · skip
      refine r_iload_n hX dJ9_floorDiv_7cf53_17 rfl ?_
      refine r_iconst hX dJ9_floorDiv_7cf53_18 ?_
      refine r_isub hX dJ9_floorDiv_7cf53_19 ?_
      exact r_iret hX dJ9_floorDiv_7cf53_20 rfl ⟨_, rfl, ⟨rfl, (by have h9 := hq3.2.1 (by omega); omega)⟩⟩
theorem dX5_cutUp_0 : decode cX5_cutUp 0 = .ok (.iload_n 1, 1) := by decide +kernel
theorem dX5_cutUp_1 : decode cX5_cutUp 1 = .ok (.ifCond .le 13, 3) := by decide +kernel
theorem dX5_cutUp_4 : decode cX5_cutUp 4 = .ok (.iload_n 0, 1) := by decide +kernel
theorem dX5_cutUp_5 : decode cX5_cutUp 5 = .ok (.ineg, 1) := by decide +kernel
theorem dX5_cutUp_6 : decode cX5_cutUp 6 = .ok (.iload_n 1, 1) := by decide +kernel
theorem dX5_cutUp_7 : decode cX5_cutUp 7 = .ok (.invokestatic 226, 3) := by decide +kernel
theorem dX5_cutUp_10 : decode cX5_cutUp 10 = .ok (.ineg, 1) := by decide +kernel
theorem dX5_cutUp_11 : decode cX5_cutUp 11 = .ok (.goto 5, 3) := by decide +kernel
theorem dX5_cutUp_14 : decode cX5_cutUp 14 = .ok (.bipush (-6), 2) := by decide +kernel
theorem dX5_cutUp_16 : decode cX5_cutUp 16 = .ok (.ireturn, 1) := by decide +kernel
set_option maxRecDepth 20000 in
set_option maxHeartbeats 4000000 in
theorem k_cutUp (l : Launch) (w : WT) (σ : MM) (x : Int) (n : Int) (i_x : inr x) (i_n : inr n) (hx : -1000000 ≤ x ∧ x ≤ 1000000) (hn : 1 ≤ n ∧ n ≤ 1000000) : CT SX l w yX5_cutUp cX5_cutUp 2 (some .int) 1 22 [.int (iI x), .int (iI n)] σ (PI fun z σ1 => σ = σ1 ∧ (z = cdiv x n)) := by
  refine CT.of 0 [some (.int (iI x)), some (.int (iI n))] (by decide +kernel) (by simp [lg_sl, Value.category]) rfl sh_X (fun G hX => ?_)
  refine r_iload_n hX dX5_cutUp_0 rfl ?_
  refine r_if_le hX (tgt := 14) dX5_cutUp_1 (by decide) (by omega) (fun c1 => ?_) (fun c1 => ?_)
  · exfalso; omega
  · skip
    refine r_iload_n hX dX5_cutUp_4 rfl ?_
    refine r_ineg hX dX5_cutUp_5 ?_
    refine r_iload_n hX dX5_cutUp_6 rfl ?_
    refine r_callS hX dX5_cutUp_7 (k_floorDiv l w σ _ _ (by omega) (by omega) (by omega) (by omega)) mf_J9_floorDiv_7cf53 ms_J9_floorDiv_7cf53 lk_RX5_226 rfl rfl ⟨Nat.le_of_ble_eq_true rfl, Nat.le_of_ble_eq_true rfl⟩ (Nat.le_of_ble_eq_true rfl) (kI fun z7 σ7 hh => ?_)
    obtain ⟨rfl, h7_0⟩ := hh
    obtain rfl : z7 = -x / n := h7_0
    have hb0 := cdiv_bd (x := x) (n := n) (B := 1000000) (by omega) hx (by omega)
    unfold cdiv at hb0
    refine r_ineg hX dX5_cutUp_10 ?_
    have hb := cdiv_bd (x := x) (n := n) (B := 1000000) (by omega) hx (by omega)
    refine r_goto hX dX5_cutUp_11 (tgt := 16) (by decide) ?_
    exact r_iret hX dX5_cutUp_16 rfl ⟨_, rfl, ⟨rfl, (by rfl)⟩⟩
theorem dX3_triesMade_0 : decode cX3_triesMade 0 = .ok (.aload_n 0, 1) := by decide +kernel
theorem dX3_triesMade_1 : decode cX3_triesMade 1 = .ok (.getfield 35, 3) := by decide +kernel
theorem dX3_triesMade_4 : decode cX3_triesMade 4 = .ok (.ireturn, 1) := by decide +kernel
set_option maxRecDepth 20000 in
set_option maxHeartbeats 4000000 in
theorem k_Sr_triesMade (l : Launch) (w : WT) (σ : MM) : CT SX l w yX3_triesMade cX3_triesMade 1 (some .int) 0 0 [.ref (w.2.2 17)] σ (PI fun z σ1 => σ = σ1 ∧ (z = σ 60 0) ∧ (0 ≤ z ∧ z ≤ 20000)) := by
  refine CT.of 0 [some (.ref (w.2.2 17))] (by decide +kernel) (by simp [lg_sl, Value.category]) rfl sh_X (fun G hX => ?_)
  refine r_aload_n hX dX3_triesMade_0 rfl ?_
  refine fg_X17_35 hX dX3_triesMade_1 (fun b1l b1u => ?_)
  exact r_iret hX dX3_triesMade_4 rfl ⟨_, rfl, ⟨rfl, (by omega), (by omega)⟩⟩
theorem dX3_cellOf_0 : decode cX3_cellOf 0 = .ok (.aload_n 0, 1) := by decide +kernel
theorem dX3_cellOf_1 : decode cX3_cellOf 1 = .ok (.getfield 27, 3) := by decide +kernel
theorem dX3_cellOf_4 : decode cX3_cellOf 4 = .ok (.iload_n 1, 1) := by decide +kernel
theorem dX3_cellOf_5 : decode cX3_cellOf 5 = .ok (.invokevirtual 39, 3) := by decide +kernel
theorem dX3_cellOf_8 : decode cX3_cellOf 8 = .ok (.ifCond .eq 12, 3) := by decide +kernel
theorem dX3_cellOf_11 : decode cX3_cellOf 11 = .ok (.aload_n 0, 1) := by decide +kernel
theorem dX3_cellOf_12 : decode cX3_cellOf 12 = .ok (.getfield 9, 3) := by decide +kernel
theorem dX3_cellOf_15 : decode cX3_cellOf 15 = .ok (.iload_n 1, 1) := by decide +kernel
theorem dX3_cellOf_16 : decode cX3_cellOf 16 = .ok (.iaload, 1) := by decide +kernel
theorem dX3_cellOf_17 : decode cX3_cellOf 17 = .ok (.goto 5, 3) := by decide +kernel
theorem dX3_cellOf_20 : decode cX3_cellOf 20 = .ok (.bipush (-6), 2) := by decide +kernel
theorem dX3_cellOf_22 : decode cX3_cellOf 22 = .ok (.ireturn, 1) := by decide +kernel
set_option maxRecDepth 20000 in
set_option maxHeartbeats 4000000 in
theorem k_Sr_cellOf (l : Launch) (w : WT) (σ : MM) (a : Int) (i_a : inr a) : CT SX l w yX3_cellOf cX3_cellOf 2 (some .int) 1 21 [.ref (w.2.2 17), .int (iI a)] σ (PI fun z σ1 => σ = σ1 ∧ ((0 ≤ a ∧ a < σ 53 0 ∧ 0 ≤ z ∧ z = σ 18 a) ∨ ((a < 0 ∨ σ 53 0 ≤ a) ∧ z = -6)) ∧ (-6 ≤ z ∧ z ≤ 8)) := by
  refine CT.of 0 [some (.ref (w.2.2 17)), some (.int (iI a))] (by decide +kernel) (by simp [lg_sl, Value.category]) rfl sh_X (fun G hX => ?_)
  refine r_aload_n hX dX3_cellOf_0 rfl ?_
  refine fg_X17_27 hX dX3_cellOf_1 ?_
  refine r_iload_n hX dX3_cellOf_4 rfl ?_
  refine r_callV hX dX3_cellOf_5 (k_Lp_isThere l w σ _ (by omega)) mf_X2_isThere mv_X2_isThere lk_RX3_39 rfl rfl rfl rfl rfl ⟨Nat.le_of_ble_eq_true rfl, Nat.le_of_ble_eq_true rfl⟩ (Nat.le_of_ble_eq_true rfl) (kI fun z5 σ5 hh => ?_)
  obtain ⟨rfl, h5_0⟩ := hh
  refine r_if_eq hX (tgt := 20) dX3_cellOf_8 (by decide) (by omega) (fun c8 => ?_) (fun c8 => ?_)
  · skip
    refine r_bipush hX dX3_cellOf_20 (by decide) ?_
    exact r_iret hX dX3_cellOf_22 rfl ⟨_, rfl, ⟨rfl, (by omega), (by omega)⟩⟩
  · skip
    refine r_aload_n hX dX3_cellOf_11 rfl ?_
    refine fg_X17_9 hX dX3_cellOf_12 ?_
    refine r_iload_n hX dX3_cellOf_15 rfl ?_
    refine ld_X18 hX dX3_cellOf_16 (by omega) (by omega) (fun b16l b16u => ?_)
    refine r_goto hX dX3_cellOf_17 (tgt := 22) (by decide) ?_
    exact r_iret hX dX3_cellOf_22 rfl ⟨_, rfl, ⟨rfl, (by omega), (by omega)⟩⟩
theorem dX3_startOf_0 : decode cX3_startOf 0 = .ok (.aload_n 0, 1) := by decide +kernel
theorem dX3_startOf_1 : decode cX3_startOf 1 = .ok (.getfield 27, 3) := by decide +kernel
theorem dX3_startOf_4 : decode cX3_startOf 4 = .ok (.iload_n 1, 1) := by decide +kernel
theorem dX3_startOf_5 : decode cX3_startOf 5 = .ok (.invokevirtual 39, 3) := by decide +kernel
theorem dX3_startOf_8 : decode cX3_startOf 8 = .ok (.ifCond .ne 6, 3) := by decide +kernel
theorem dX3_startOf_11 : decode cX3_startOf 11 = .ok (.bipush (-6), 2) := by decide +kernel
theorem dX3_startOf_13 : decode cX3_startOf 13 = .ok (.ireturn, 1) := by decide +kernel
theorem dX3_startOf_14 : decode cX3_startOf 14 = .ok (.aload_n 0, 1) := by decide +kernel
theorem dX3_startOf_15 : decode cX3_startOf 15 = .ok (.getfield 15, 3) := by decide +kernel
theorem dX3_startOf_18 : decode cX3_startOf 18 = .ok (.iload_n 1, 1) := by decide +kernel
theorem dX3_startOf_19 : decode cX3_startOf 19 = .ok (.iaload, 1) := by decide +kernel
theorem dX3_startOf_20 : decode cX3_startOf 20 = .ok (.aload_n 0, 1) := by decide +kernel
theorem dX3_startOf_21 : decode cX3_startOf 21 = .ok (.getfield 45, 3) := by decide +kernel
theorem dX3_startOf_24 : decode cX3_startOf 24 = .ok (.aload_n 0, 1) := by decide +kernel
theorem dX3_startOf_25 : decode cX3_startOf 25 = .ok (.getfield 24, 3) := by decide +kernel
theorem dX3_startOf_28 : decode cX3_startOf 28 = .ok (.aload_n 0, 1) := by decide +kernel
theorem dX3_startOf_29 : decode cX3_startOf 29 = .ok (.getfield 27, 3) := by decide +kernel
theorem dX3_startOf_32 : decode cX3_startOf 32 = .ok (.invokevirtual 48, 3) := by decide +kernel
theorem dX3_startOf_35 : decode cX3_startOf 35 = .ok (.iconst 1, 1) := by decide +kernel
theorem dX3_startOf_36 : decode cX3_startOf 36 = .ok (.isub, 1) := by decide +kernel
theorem dX3_startOf_37 : decode cX3_startOf 37 = .ok (.bipush 8, 2) := by decide +kernel
theorem dX3_startOf_39 : decode cX3_startOf 39 = .ok (.imul, 1) := by decide +kernel
theorem dX3_startOf_40 : decode cX3_startOf 40 = .ok (.iload_n 1, 1) := by decide +kernel
theorem dX3_startOf_41 : decode cX3_startOf 41 = .ok (.iadd, 1) := by decide +kernel
theorem dX3_startOf_42 : decode cX3_startOf 42 = .ok (.iaload, 1) := by decide +kernel
theorem dX3_startOf_43 : decode cX3_startOf 43 = .ok (.imul, 1) := by decide +kernel
theorem dX3_startOf_44 : decode cX3_startOf 44 = .ok (.iadd, 1) := by decide +kernel
theorem dX3_startOf_45 : decode cX3_startOf 45 = .ok (.ireturn, 1) := by decide +kernel
set_option maxRecDepth 20000 in
set_option maxHeartbeats 4000000 in
theorem k_Sr_startOf (l : Launch) (w : WT) (σ : MM) (a : Int) (i_a : inr a) (ha : 0 ≤ a ∧ a < σ 53 0) : CT SX l w yX3_startOf cX3_startOf 2 (some .int) 1 21 [.ref (w.2.2 17), .int (iI a)] σ (PI fun z σ1 => σ = σ1 ∧ (z = σ 19 a + σ 59 0 * σ 22 ((σ 53 0 - 1) * 8 + a)) ∧ (0 ≤ z ∧ z ≤ 20000000)) := by
  refine CT.of 0 [some (.ref (w.2.2 17)), some (.int (iI a))] (by decide +kernel) (by simp [lg_sl, Value.category]) rfl sh_X (fun G hX => ?_)
  refine r_bd hX (fun hBd => ?_)
  have b_53 := hBd 53 0 8 rfl 0
  refine r_aload_n hX dX3_startOf_0 rfl ?_
  refine fg_X17_27 hX dX3_startOf_1 ?_
  refine r_iload_n hX dX3_startOf_4 rfl ?_
  refine r_callV hX dX3_startOf_5 (k_Lp_isThere l w σ _ (by omega)) mf_X2_isThere mv_X2_isThere lk_RX3_39 rfl rfl rfl rfl rfl ⟨Nat.le_of_ble_eq_true rfl, Nat.le_of_ble_eq_true rfl⟩ (Nat.le_of_ble_eq_true rfl) (kI fun z5 σ5 hh => ?_)
  obtain ⟨rfl, h5_0⟩ := hh
  refine r_if_ne hX (tgt := 14) dX3_startOf_8 (by decide) (by omega) (fun c8 => ?_) (fun c8 => ?_)
  · skip
    refine r_aload_n hX dX3_startOf_14 rfl ?_
    refine fg_X17_15 hX dX3_startOf_15 ?_
    refine r_iload_n hX dX3_startOf_18 rfl ?_
    refine ld_X19 hX dX3_startOf_19 (by omega) (by omega) (fun b19l b19u => ?_)
    refine r_aload_n hX dX3_startOf_20 rfl ?_
    refine fg_X17_45 hX dX3_startOf_21 (fun b21l b21u => ?_)
    refine r_aload_n hX dX3_startOf_24 rfl ?_
    refine fg_X17_24 hX dX3_startOf_25 ?_
    refine r_aload_n hX dX3_startOf_28 rfl ?_
    refine fg_X17_27 hX dX3_startOf_29 ?_
    refine r_callV hX dX3_startOf_32 (k_Lp_count l w σ) mf_X2_count mv_X2_count lk_RX3_48 rfl rfl rfl rfl rfl ⟨Nat.le_of_ble_eq_true rfl, Nat.le_of_ble_eq_true rfl⟩ (Nat.le_of_ble_eq_true rfl) (kI fun z32 σ32 hh => ?_)
    obtain ⟨rfl, h32_0, h32_1⟩ := hh
    obtain rfl : z32 = σ 53 0 := by omega
    refine r_iconst hX dX3_startOf_35 ?_
    refine r_isub hX dX3_startOf_36 ?_
    refine r_bipush hX dX3_startOf_37 (by decide) ?_
    refine r_imul hX dX3_startOf_39 ?_
    refine r_iload_n hX dX3_startOf_40 rfl ?_
    refine r_iadd hX dX3_startOf_41 ?_
    refine ld_X22 hX dX3_startOf_42 (by omega) (by omega) (fun b42l b42u => ?_)
    have hp := pm (a := σ 59 0) (A := 12) (b := σ 22 ((σ 53 0 - 1) * 8 + a)) (B := 1300000) (by omega) (by omega)
    refine r_imul hX dX3_startOf_43 ?_
    refine r_iadd hX dX3_startOf_44 ?_
    exact r_iret hX dX3_startOf_45 rfl ⟨_, rfl, ⟨rfl, (by rfl), (by omega)⟩⟩
  · exfalso; omega
theorem dX3_isFree_0 : decode cX3_isFree 0 = .ok (.aload_n 0, 1) := by decide +kernel
theorem dX3_isFree_1 : decode cX3_isFree 1 = .ok (.getfield 27, 3) := by decide +kernel
theorem dX3_isFree_4 : decode cX3_isFree 4 = .ok (.iload_n 1, 1) := by decide +kernel
theorem dX3_isFree_5 : decode cX3_isFree 5 = .ok (.invokevirtual 39, 3) := by decide +kernel
theorem dX3_isFree_8 : decode cX3_isFree 8 = .ok (.ifCond .eq 43, 3) := by decide +kernel
theorem dX3_isFree_11 : decode cX3_isFree 11 = .ok (.aload_n 0, 1) := by decide +kernel
theorem dX3_isFree_12 : decode cX3_isFree 12 = .ok (.getfield 31, 3) := by decide +kernel
theorem dX3_isFree_15 : decode cX3_isFree 15 = .ok (.aload_n 0, 1) := by decide +kernel
theorem dX3_isFree_16 : decode cX3_isFree 16 = .ok (.getfield 9, 3) := by decide +kernel
theorem dX3_isFree_19 : decode cX3_isFree 19 = .ok (.iload_n 1, 1) := by decide +kernel
theorem dX3_isFree_20 : decode cX3_isFree 20 = .ok (.iaload, 1) := by decide +kernel
theorem dX3_isFree_21 : decode cX3_isFree 21 = .ok (.invokevirtual 69, 3) := by decide +kernel
theorem dX3_isFree_24 : decode cX3_isFree 24 = .ok (.ifCond .ne 27, 3) := by decide +kernel
theorem dX3_isFree_27 : decode cX3_isFree 27 = .ok (.aload_n 0, 1) := by decide +kernel
theorem dX3_isFree_28 : decode cX3_isFree 28 = .ok (.getfield 31, 3) := by decide +kernel
theorem dX3_isFree_31 : decode cX3_isFree 31 = .ok (.aload_n 0, 1) := by decide +kernel
theorem dX3_isFree_32 : decode cX3_isFree 32 = .ok (.getfield 27, 3) := by decide +kernel
theorem dX3_isFree_35 : decode cX3_isFree 35 = .ok (.iload_n 1, 1) := by decide +kernel
theorem dX3_isFree_36 : decode cX3_isFree 36 = .ok (.invokevirtual 72, 3) := by decide +kernel
theorem dX3_isFree_39 : decode cX3_isFree 39 = .ok (.aload_n 0, 1) := by decide +kernel
theorem dX3_isFree_40 : decode cX3_isFree 40 = .ok (.getfield 9, 3) := by decide +kernel
theorem dX3_isFree_43 : decode cX3_isFree 43 = .ok (.iload_n 1, 1) := by decide +kernel
theorem dX3_isFree_44 : decode cX3_isFree 44 = .ok (.iaload, 1) := by decide +kernel
theorem dX3_isFree_45 : decode cX3_isFree 45 = .ok (.invokevirtual 76, 3) := by decide +kernel
theorem dX3_isFree_48 : decode cX3_isFree 48 = .ok (.ifCond .ne 5, 3) := by decide +kernel
theorem dX3_isFree_51 : decode cX3_isFree 51 = .ok (.iconst 0, 1) := by decide +kernel
theorem dX3_isFree_52 : decode cX3_isFree 52 = .ok (.ireturn, 1) := by decide +kernel
theorem dX3_isFree_53 : decode cX3_isFree 53 = .ok (.iconst 0, 1) := by decide +kernel
theorem dX3_isFree_54 : decode cX3_isFree 54 = .ok (.istore_n 2, 1) := by decide +kernel
theorem dX3_isFree_55 : decode cX3_isFree 55 = .ok (.iload_n 2, 1) := by decide +kernel
theorem dX3_isFree_56 : decode cX3_isFree 56 = .ok (.iload_n 1, 1) := by decide +kernel
theorem dX3_isFree_57 : decode cX3_isFree 57 = .ok (.if_icmp .ge 41, 3) := by decide +kernel
theorem dX3_isFree_60 : decode cX3_isFree 60 = .ok (.aload_n 0, 1) := by decide +kernel
theorem dX3_isFree_61 : decode cX3_isFree 61 = .ok (.getfield 9, 3) := by decide +kernel
theorem dX3_isFree_64 : decode cX3_isFree 64 = .ok (.iload_n 2, 1) := by decide +kernel
theorem dX3_isFree_65 : decode cX3_isFree 65 = .ok (.iaload, 1) := by decide +kernel
theorem dX3_isFree_66 : decode cX3_isFree 66 = .ok (.aload_n 0, 1) := by decide +kernel
theorem dX3_isFree_67 : decode cX3_isFree 67 = .ok (.getfield 9, 3) := by decide +kernel
theorem dX3_isFree_70 : decode cX3_isFree 70 = .ok (.iload_n 1, 1) := by decide +kernel
theorem dX3_isFree_71 : decode cX3_isFree 71 = .ok (.iaload, 1) := by decide +kernel
theorem dX3_isFree_72 : decode cX3_isFree 72 = .ok (.if_icmp .ne 20, 3) := by decide +kernel
theorem dX3_isFree_75 : decode cX3_isFree 75 = .ok (.aload_n 0, 1) := by decide +kernel
theorem dX3_isFree_76 : decode cX3_isFree 76 = .ok (.getfield 15, 3) := by decide +kernel
theorem dX3_isFree_79 : decode cX3_isFree 79 = .ok (.iload_n 2, 1) := by decide +kernel
theorem dX3_isFree_80 : decode cX3_isFree 80 = .ok (.iaload, 1) := by decide +kernel
theorem dX3_isFree_81 : decode cX3_isFree 81 = .ok (.aload_n 0, 1) := by decide +kernel
theorem dX3_isFree_82 : decode cX3_isFree 82 = .ok (.getfield 15, 3) := by decide +kernel
theorem dX3_isFree_85 : decode cX3_isFree 85 = .ok (.iload_n 1, 1) := by decide +kernel
theorem dX3_isFree_86 : decode cX3_isFree 86 = .ok (.iaload, 1) := by decide +kernel
theorem dX3_isFree_87 : decode cX3_isFree 87 = .ok (.if_icmp .ne 5, 3) := by decide +kernel
theorem dX3_isFree_90 : decode cX3_isFree 90 = .ok (.iconst 0, 1) := by decide +kernel
theorem dX3_isFree_91 : decode cX3_isFree 91 = .ok (.ireturn, 1) := by decide +kernel
theorem dX3_isFree_92 : decode cX3_isFree 92 = .ok (.iinc 2 1, 3) := by decide +kernel
theorem dX3_isFree_95 : decode cX3_isFree 95 = .ok (.goto (-40), 3) := by decide +kernel
theorem dX3_isFree_98 : decode cX3_isFree 98 = .ok (.iconst 1, 1) := by decide +kernel
theorem dX3_isFree_99 : decode cX3_isFree 99 = .ok (.ireturn, 1) := by decide +kernel
set_option maxRecDepth 20000 in
set_option maxHeartbeats 4000000 in
theorem k_Sr_isFree (l : Launch) (w : WT) (σ : MM) (a : Int) (i_a : inr a) (ha : 0 ≤ a ∧ a < σ 53 0) (hl : ∀ l : Int, 0 ≤ l → l ≤ a → σ 18 l < σ 56 0 * σ 57 0) : CT SX l w yX3_isFree cX3_isFree 3 (some .boolean) 2 43 [.ref (w.2.2 17), .int (iI a)] σ (PI fun z σ1 => σ = σ1 ∧ ((z = 1 ∧ FreeS (σ 11) (σ 12) (σ 2) (σ 18) (σ 19) a) ∨ (z = 0 ∧ ¬ FreeS (σ 11) (σ 12) (σ 2) (σ 18) (σ 19) a))) := by
  refine CT.of 1 [some (.ref (w.2.2 17)), some (.int (iI a)), none] (by decide +kernel) (by simp [lg_sl, Value.category]) rfl sh_X (fun G hX => ?_)
  refine r_bd hX (fun hBd => ?_)
  have b_53 := hBd 53 0 8 rfl 0
  refine r_aload_n hX dX3_isFree_0 rfl ?_
  refine fg_X17_27 hX dX3_isFree_1 ?_
  refine r_iload_n hX dX3_isFree_4 rfl ?_
  refine r_callV hX dX3_isFree_5 (k_Lp_isThere l w σ _ (by omega)) mf_X2_isThere mv_X2_isThere lk_RX3_39 rfl rfl rfl rfl rfl ⟨Nat.le_of_ble_eq_true rfl, Nat.le_of_ble_eq_true rfl⟩ (Nat.le_of_ble_eq_true rfl) (kI fun z5 σ5 hh => ?_)
  obtain ⟨rfl, h5_0⟩ := hh
  refine r_if_eq hX (tgt := 51) dX3_isFree_8 (by decide) (by omega) (fun c8 => ?_) (fun c8 => ?_)
  · exfalso; omega
  · skip
    refine r_aload_n hX dX3_isFree_11 rfl ?_
    refine fg_X17_31 hX dX3_isFree_12 ?_
    refine r_aload_n hX dX3_isFree_15 rfl ?_
    refine fg_X17_9 hX dX3_isFree_16 ?_
    refine r_iload_n hX dX3_isFree_19 rfl ?_
    refine ld_X18 hX dX3_isFree_20 (by omega) (by omega) (fun b20l b20u => ?_)
    refine r_callV hX dX3_isFree_21 (k_Gd_isBroken l w σ _ (by omega)) mf_X0_isBroken mv_X0_isBroken lk_RX3_69 rfl rfl rfl rfl rfl ⟨Nat.le_of_ble_eq_true rfl, Nat.le_of_ble_eq_true rfl⟩ (Nat.le_of_ble_eq_true rfl) (kI fun z21 σ21 hh => ?_)
    obtain ⟨rfl, h21_0⟩ := hh
    have hla0 := hl a (by omega) (by omega)
    refine r_if_ne hX (tgt := 51) dX3_isFree_24 (by decide) (by omega) (fun c24 => ?_) (fun c24 => ?_)
    · skip
      refine r_iconst hX dX3_isFree_51 ?_
      exact r_zret hX dX3_isFree_52 rfl (by omega) ⟨_, rfl, ⟨rfl, (by exact Or.inr ⟨rfl, fun q => (by have q1 := q.1; have q2 := q.2.1; first | omega | (have q3 := q2 (by omega); omega))⟩)⟩⟩
    · skip
      have hla := hl a (by omega) (by omega)
      refine r_aload_n hX dX3_isFree_27 rfl ?_
      refine fg_X17_31 hX dX3_isFree_28 ?_
      refine r_aload_n hX dX3_isFree_31 rfl ?_
      refine fg_X17_27 hX dX3_isFree_32 ?_
      refine r_iload_n hX dX3_isFree_35 rfl ?_
      refine r_callV hX dX3_isFree_36 (k_Lp_kindOf l w σ _ (by omega)) mf_X2_kindOf mv_X2_kindOf lk_RX3_72 rfl rfl rfl rfl rfl ⟨Nat.le_of_ble_eq_true rfl, Nat.le_of_ble_eq_true rfl⟩ (Nat.le_of_ble_eq_true rfl) (kI fun z36 σ36 hh => ?_)
      obtain ⟨rfl, h36_0, h36_1⟩ := hh
      obtain rfl : z36 = σ 2 a := by omega
      refine r_aload_n hX dX3_isFree_39 rfl ?_
      refine fg_X17_9 hX dX3_isFree_40 ?_
      refine r_iload_n hX dX3_isFree_43 rfl ?_
      refine ld_X18 hX dX3_isFree_44 (by omega) (by omega) (fun b44l b44u => ?_)
      refine r_callV hX dX3_isFree_45 (k_Gd_suits l w σ _ _ (by omega) (by omega)) mf_X0_suits mv_X0_suits lk_RX3_76 rfl rfl rfl rfl rfl ⟨Nat.le_of_ble_eq_true rfl, Nat.le_of_ble_eq_true rfl⟩ (Nat.le_of_ble_eq_true rfl) (kI fun z45 σ45 hh => ?_)
      obtain ⟨rfl, h45_0⟩ := hh
      refine r_if_ne hX (tgt := 53) dX3_isFree_48 (by decide) (by omega) (fun c48 => ?_) (fun c48 => ?_)
      · skip
        refine r_iconst hX dX3_isFree_53 ?_
        refine r_istore_n hX (fun x54 => [some (.ref (w.2.2 17)), some (.int (iI a)), some (.int (iI x54))]) dX3_isFree_54 (Nat.le_of_ble_eq_true rfl) rfl rfl (fun _ => rfl) (fun x54 e54 => ?_)
        have lp55 : ∀ (n : Nat) (o : Int) (ho : 0 ≤ o ∧ o ≤ a) (hn : ∀ x, 0 ≤ x → x < o → ¬ (σ 18 x = σ 18 a ∧ σ 19 x = σ 19 a)) (hmu : 9 - o < (n : Int)), G 55 [some (.ref (w.2.2 17)), some (.int (iI a)), some (.int (iI o))] [] σ := by
          intro n
          induction n with
          | zero => intro o ho hn hmu; omega
          | succ n ih =>
            intro o ho hn hmu
            have ih55 := ih
            clear ih
            refine r_iload_n hX dX3_isFree_55 rfl ?_
            refine r_iload_n hX dX3_isFree_56 rfl ?_
            refine r_icmp_ge hX (tgt := 98) dX3_isFree_57 (by decide) (by omega) (by omega) (fun c57 => ?_) (fun c57 => ?_)
            · skip
              refine r_iconst hX dX3_isFree_98 ?_
              exact r_zret hX dX3_isFree_99 rfl (by omega) ⟨_, rfl, ⟨rfl, (by exact Or.inl ⟨rfl, by omega, by omega, (show o = a by omega) ▸ hn⟩)⟩⟩
            · skip
              refine r_aload_n hX dX3_isFree_60 rfl ?_
              refine fg_X17_9 hX dX3_isFree_61 ?_
              refine r_iload_n hX dX3_isFree_64 rfl ?_
              refine ld_X18 hX dX3_isFree_65 (by omega) (by omega) (fun b65l b65u => ?_)
              refine r_aload_n hX dX3_isFree_66 rfl ?_
              refine fg_X17_9 hX dX3_isFree_67 ?_
              refine r_iload_n hX dX3_isFree_70 rfl ?_
              refine ld_X18 hX dX3_isFree_71 (by omega) (by omega) (fun b71l b71u => ?_)
              refine r_icmp_ne hX (tgt := 92) dX3_isFree_72 (by decide) (by omega) (by omega) (fun c72 => ?_) (fun c72 => ?_)
              · skip
                refine r_iinc hX (fun x92 => [some (.ref (w.2.2 17)), some (.int (iI a)), some (.int (iI x92))]) dX3_isFree_92 rfl rfl rfl (fun _ => rfl) (fun x92 e92 => ?_)
                refine r_goto hX dX3_isFree_95 (tgt := 55) (by decide) ?_
                exact ih55 x92 (by omega) (Non.next (P := fun x => σ 18 x = σ 18 a ∧ σ 19 x = σ 19 a) hn (by omega) e92) (by omega)
              · skip
                refine r_aload_n hX dX3_isFree_75 rfl ?_
                refine fg_X17_15 hX dX3_isFree_76 ?_
                refine r_iload_n hX dX3_isFree_79 rfl ?_
                refine ld_X19 hX dX3_isFree_80 (by omega) (by omega) (fun b80l b80u => ?_)
                refine r_aload_n hX dX3_isFree_81 rfl ?_
                refine fg_X17_15 hX dX3_isFree_82 ?_
                refine r_iload_n hX dX3_isFree_85 rfl ?_
                refine ld_X19 hX dX3_isFree_86 (by omega) (by omega) (fun b86l b86u => ?_)
                refine r_icmp_ne hX (tgt := 92) dX3_isFree_87 (by decide) (by omega) (by omega) (fun c87 => ?_) (fun c87 => ?_)
                · skip
                  refine r_iinc hX (fun x92 => [some (.ref (w.2.2 17)), some (.int (iI a)), some (.int (iI x92))]) dX3_isFree_92 rfl rfl rfl (fun _ => rfl) (fun x92 e92 => ?_)
                  refine r_goto hX dX3_isFree_95 (tgt := 55) (by decide) ?_
                  exact ih55 x92 (by omega) (Non.next (P := fun x => σ 18 x = σ 18 a ∧ σ 19 x = σ 19 a) hn (by omega) e92) (by omega)
                · skip
                  refine r_iconst hX dX3_isFree_90 ?_
                  exact r_zret hX dX3_isFree_91 rfl (by omega) ⟨_, rfl, ⟨rfl, (by exact Or.inr ⟨rfl, fun q => q.2.2 o (by omega) (by omega) ⟨by omega, by omega⟩⟩)⟩⟩
        exact lp55 ((9 - (x54)) + 1).toNat x54 (by omega) (fun x x0 x1 => by omega) (by omega)
      · skip
        refine r_iconst hX dX3_isFree_51 ?_
        exact r_zret hX dX3_isFree_52 rfl (by omega) ⟨_, rfl, ⟨rfl, (by exact Or.inr ⟨rfl, fun q => (by have q1 := q.1; have q2 := q.2.1; first | omega | (have q3 := q2 (by omega); omega))⟩)⟩⟩
theorem dX3_measureGaps_0 : decode cX3_measureGaps 0 = .ok (.iconst 0, 1) := by decide +kernel
theorem dX3_measureGaps_1 : decode cX3_measureGaps 1 = .ok (.istore_n 2, 1) := by decide +kernel
theorem dX3_measureGaps_2 : decode cX3_measureGaps 2 = .ok (.iload_n 2, 1) := by decide +kernel
theorem dX3_measureGaps_3 : decode cX3_measureGaps 3 = .ok (.iconst 2, 1) := by decide +kernel
theorem dX3_measureGaps_4 : decode cX3_measureGaps 4 = .ok (.iload_n 1, 1) := by decide +kernel
theorem dX3_measureGaps_5 : decode cX3_measureGaps 5 = .ok (.imul, 1) := by decide +kernel
theorem dX3_measureGaps_6 : decode cX3_measureGaps 6 = .ok (.iconst 2, 1) := by decide +kernel
theorem dX3_measureGaps_7 : decode cX3_measureGaps 7 = .ok (.iadd, 1) := by decide +kernel
theorem dX3_measureGaps_8 : decode cX3_measureGaps 8 = .ok (.if_icmp .ge 137, 3) := by decide +kernel
theorem dX3_measureGaps_11 : decode cX3_measureGaps 11 = .ok (.iload_n 2, 1) := by decide +kernel
theorem dX3_measureGaps_12 : decode cX3_measureGaps 12 = .ok (.bipush 16, 2) := by decide +kernel
theorem dX3_measureGaps_14 : decode cX3_measureGaps 14 = .ok (.if_icmp .ge 131, 3) := by decide +kernel
theorem dX3_measureGaps_17 : decode cX3_measureGaps 17 = .ok (.aload_n 0, 1) := by decide +kernel
theorem dX3_measureGaps_18 : decode cX3_measureGaps 18 = .ok (.getfield 27, 3) := by decide +kernel
theorem dX3_measureGaps_21 : decode cX3_measureGaps 21 = .ok (.iload_n 2, 1) := by decide +kernel
theorem dX3_measureGaps_22 : decode cX3_measureGaps 22 = .ok (.invokevirtual 80, 3) := by decide +kernel
theorem dX3_measureGaps_25 : decode cX3_measureGaps 25 = .ok (.istore_n 3, 1) := by decide +kernel
theorem dX3_measureGaps_26 : decode cX3_measureGaps 26 = .ok (.iload_n 2, 1) := by decide +kernel
theorem dX3_measureGaps_27 : decode cX3_measureGaps 27 = .ok (.iconst 2, 1) := by decide +kernel
theorem dX3_measureGaps_28 : decode cX3_measureGaps 28 = .ok (.idiv, 1) := by decide +kernel
theorem dX3_measureGaps_29 : decode cX3_measureGaps 29 = .ok (.istore 4, 2) := by decide +kernel
theorem dX3_measureGaps_31 : decode cX3_measureGaps 31 = .ok (.iload_n 3, 1) := by decide +kernel
theorem dX3_measureGaps_32 : decode cX3_measureGaps 32 = .ok (.ifCond .lt 107, 3) := by decide +kernel
theorem dX3_measureGaps_35 : decode cX3_measureGaps 35 = .ok (.iload_n 3, 1) := by decide +kernel
theorem dX3_measureGaps_36 : decode cX3_measureGaps 36 = .ok (.iload_n 1, 1) := by decide +kernel
theorem dX3_measureGaps_37 : decode cX3_measureGaps 37 = .ok (.if_icmp .gt 102, 3) := by decide +kernel
theorem dX3_measureGaps_40 : decode cX3_measureGaps 40 = .ok (.iload_n 3, 1) := by decide +kernel
theorem dX3_measureGaps_41 : decode cX3_measureGaps 41 = .ok (.iload_n 1, 1) := by decide +kernel
theorem dX3_measureGaps_42 : decode cX3_measureGaps 42 = .ok (.if_icmp .eq 9, 3) := by decide +kernel
theorem dX3_measureGaps_45 : decode cX3_measureGaps 45 = .ok (.iload 4, 2) := by decide +kernel
theorem dX3_measureGaps_47 : decode cX3_measureGaps 47 = .ok (.iload_n 1, 1) := by decide +kernel
theorem dX3_measureGaps_48 : decode cX3_measureGaps 48 = .ok (.if_icmp .ne 91, 3) := by decide +kernel
theorem dX3_measureGaps_51 : decode cX3_measureGaps 51 = .ok (.aload_n 0, 1) := by decide +kernel
theorem dX3_measureGaps_52 : decode cX3_measureGaps 52 = .ok (.getfield 31, 3) := by decide +kernel
theorem dX3_measureGaps_55 : decode cX3_measureGaps 55 = .ok (.aload_n 0, 1) := by decide +kernel
theorem dX3_measureGaps_56 : decode cX3_measureGaps 56 = .ok (.getfield 9, 3) := by decide +kernel
theorem dX3_measureGaps_59 : decode cX3_measureGaps 59 = .ok (.iload_n 3, 1) := by decide +kernel
theorem dX3_measureGaps_60 : decode cX3_measureGaps 60 = .ok (.iaload, 1) := by decide +kernel
theorem dX3_measureGaps_61 : decode cX3_measureGaps 61 = .ok (.aload_n 0, 1) := by decide +kernel
theorem dX3_measureGaps_62 : decode cX3_measureGaps 62 = .ok (.getfield 9, 3) := by decide +kernel
theorem dX3_measureGaps_65 : decode cX3_measureGaps 65 = .ok (.iload 4, 2) := by decide +kernel
theorem dX3_measureGaps_67 : decode cX3_measureGaps 67 = .ok (.iaload, 1) := by decide +kernel
theorem dX3_measureGaps_68 : decode cX3_measureGaps 68 = .ok (.invokevirtual 83, 3) := by decide +kernel
theorem dX3_measureGaps_71 : decode cX3_measureGaps 71 = .ok (.istore 5, 2) := by decide +kernel
theorem dX3_measureGaps_73 : decode cX3_measureGaps 73 = .ok (.iload 5, 2) := by decide +kernel
theorem dX3_measureGaps_75 : decode cX3_measureGaps 75 = .ok (.bipush (-6), 2) := by decide +kernel
theorem dX3_measureGaps_77 : decode cX3_measureGaps 77 = .ok (.if_icmp .ne 5, 3) := by decide +kernel
theorem dX3_measureGaps_80 : decode cX3_measureGaps 80 = .ok (.iconst 0, 1) := by decide +kernel
theorem dX3_measureGaps_81 : decode cX3_measureGaps 81 = .ok (.ireturn, 1) := by decide +kernel
theorem dX3_measureGaps_82 : decode cX3_measureGaps 82 = .ok (.aload_n 0, 1) := by decide +kernel
theorem dX3_measureGaps_83 : decode cX3_measureGaps 83 = .ok (.getfield 15, 3) := by decide +kernel
theorem dX3_measureGaps_86 : decode cX3_measureGaps 86 = .ok (.iload 4, 2) := by decide +kernel
theorem dX3_measureGaps_88 : decode cX3_measureGaps 88 = .ok (.iaload, 1) := by decide +kernel
theorem dX3_measureGaps_89 : decode cX3_measureGaps 89 = .ok (.aload_n 0, 1) := by decide +kernel
theorem dX3_measureGaps_90 : decode cX3_measureGaps 90 = .ok (.getfield 45, 3) := by decide +kernel
theorem dX3_measureGaps_93 : decode cX3_measureGaps 93 = .ok (.aload_n 0, 1) := by decide +kernel
theorem dX3_measureGaps_94 : decode cX3_measureGaps 94 = .ok (.getfield 27, 3) := by decide +kernel
theorem dX3_measureGaps_97 : decode cX3_measureGaps 97 = .ok (.iload_n 2, 1) := by decide +kernel
theorem dX3_measureGaps_98 : decode cX3_measureGaps 98 = .ok (.invokevirtual 87, 3) := by decide +kernel
theorem dX3_measureGaps_101 : decode cX3_measureGaps 101 = .ok (.imul, 1) := by decide +kernel
theorem dX3_measureGaps_102 : decode cX3_measureGaps 102 = .ok (.iadd, 1) := by decide +kernel
theorem dX3_measureGaps_103 : decode cX3_measureGaps 103 = .ok (.aload_n 0, 1) := by decide +kernel
theorem dX3_measureGaps_104 : decode cX3_measureGaps 104 = .ok (.getfield 15, 3) := by decide +kernel
theorem dX3_measureGaps_107 : decode cX3_measureGaps 107 = .ok (.iload_n 3, 1) := by decide +kernel
theorem dX3_measureGaps_108 : decode cX3_measureGaps 108 = .ok (.iaload, 1) := by decide +kernel
theorem dX3_measureGaps_109 : decode cX3_measureGaps 109 = .ok (.isub, 1) := by decide +kernel
theorem dX3_measureGaps_110 : decode cX3_measureGaps 110 = .ok (.istore 6, 2) := by decide +kernel
theorem dX3_measureGaps_112 : decode cX3_measureGaps 112 = .ok (.aload_n 0, 1) := by decide +kernel
theorem dX3_measureGaps_113 : decode cX3_measureGaps 113 = .ok (.getfield 21, 3) := by decide +kernel
theorem dX3_measureGaps_116 : decode cX3_measureGaps 116 = .ok (.iload_n 2, 1) := by decide +kernel
theorem dX3_measureGaps_117 : decode cX3_measureGaps 117 = .ok (.aload_n 0, 1) := by decide +kernel
theorem dX3_measureGaps_118 : decode cX3_measureGaps 118 = .ok (.getfield 27, 3) := by decide +kernel
theorem dX3_measureGaps_121 : decode cX3_measureGaps 121 = .ok (.iload_n 3, 1) := by decide +kernel
theorem dX3_measureGaps_122 : decode cX3_measureGaps 122 = .ok (.invokevirtual 90, 3) := by decide +kernel
theorem dX3_measureGaps_125 : decode cX3_measureGaps 125 = .ok (.iload 5, 2) := by decide +kernel
theorem dX3_measureGaps_127 : decode cX3_measureGaps 127 = .ok (.iadd, 1) := by decide +kernel
theorem dX3_measureGaps_128 : decode cX3_measureGaps 128 = .ok (.iload 6, 2) := by decide +kernel
theorem dX3_measureGaps_130 : decode cX3_measureGaps 130 = .ok (.isub, 1) := by decide +kernel
theorem dX3_measureGaps_131 : decode cX3_measureGaps 131 = .ok (.aload_n 0, 1) := by decide +kernel
theorem dX3_measureGaps_132 : decode cX3_measureGaps 132 = .ok (.getfield 45, 3) := by decide +kernel
theorem dX3_measureGaps_135 : decode cX3_measureGaps 135 = .ok (.invokestatic 93, 3) := by decide +kernel
theorem dX3_measureGaps_138 : decode cX3_measureGaps 138 = .ok (.iastore, 1) := by decide +kernel
theorem dX3_measureGaps_139 : decode cX3_measureGaps 139 = .ok (.iinc 2 1, 3) := by decide +kernel
theorem dX3_measureGaps_142 : decode cX3_measureGaps 142 = .ok (.goto (-140), 3) := by decide +kernel
theorem dX3_measureGaps_145 : decode cX3_measureGaps 145 = .ok (.iconst 1, 1) := by decide +kernel
theorem dX3_measureGaps_146 : decode cX3_measureGaps 146 = .ok (.ireturn, 1) := by decide +kernel
set_option maxRecDepth 20000 in
set_option maxHeartbeats 4000000 in
theorem k_Sr_measureGaps (l : Launch) (w : WT) (σ : MM) (a : Int) (i_a : inr a) (ha : 0 ≤ a ∧ a < σ 53 0) (hl : ∀ l : Int, 0 ≤ l → l ≤ a → σ 18 l < σ 56 0 * σ 57 0) (hbt : 1 ≤ σ 59 0) : CT SX l w yX3_measureGaps cX3_measureGaps 7 (some .boolean) 2 44 [.ref (w.2.2 17), .int (iI a)] σ (PI fun z σ1 => Mod [21] σ σ1 ∧ (∀ s : Int, ¬ (0 ≤ s ∧ s < 2 * (a + 1) ∧ 0 ≤ σ 5 s ∧ σ 5 s ≤ a ∧ (σ 5 s = a ∨ s / 2 = a)) → σ1 21 s = σ 21 s) ∧ ((z = 1 ∧ (∀ s : Int, 0 ≤ s → s < 2 * (a + 1) → 0 ≤ σ 5 s → σ 5 s ≤ a → (σ 5 s = a ∨ s / 2 = a) → σ 13 (σ 18 (σ 5 s) * 9 + σ 18 (s / 2)) < 1000 ∧ σ1 21 s = gapS (σ 2) (σ 5) (σ 6) (σ 13) (σ 18) (σ 19) (σ 59 0) s)) ∨ (z = 0 ∧ ∃ s : Int, 0 ≤ s ∧ s < 2 * (a + 1) ∧ 0 ≤ σ 5 s ∧ σ 5 s ≤ a ∧ 1000 ≤ σ 13 (σ 18 (σ 5 s) * 9 + σ 18 (s / 2))))) := by
  refine CT.of 5 [some (.ref (w.2.2 17)), some (.int (iI a)), none, none, none, none, none] (by decide +kernel) (by simp [lg_sl, Value.category]) rfl sh_X (fun G hX => ?_)
  refine r_bd hX (fun hBd => ?_)
  have b_53 := hBd 53 0 8 rfl 0
  have b_59 := hBd 59 0 12 rfl 0
  refine r_iconst hX dX3_measureGaps_0 ?_
  refine r_istore_n hX (fun x1 => [some (.ref (w.2.2 17)), some (.int (iI a)), some (.int (iI x1)), none, none, none, none]) dX3_measureGaps_1 (Nat.le_of_ble_eq_true rfl) rfl rfl (fun _ => rfl) (fun x1 e1 => ?_)
  have lp2 : ∀ (n : Nat) (p : Int) (σ2 : MM) (m2 : Mod [21] σ σ2) (hp : 0 ≤ p ∧ p ≤ 2 * a + 2) (hK : ∀ s : Int, ¬ (0 ≤ s ∧ s < 2 * (a + 1) ∧ 0 ≤ σ 5 s ∧ σ 5 s ≤ a ∧ (σ 5 s = a ∨ s / 2 = a)) → σ2 21 s = σ 21 s) (hG : ∀ s : Int, 0 ≤ s → s < p → 0 ≤ σ 5 s → σ 5 s ≤ a → (σ 5 s = a ∨ s / 2 = a) → σ 13 (σ 18 (σ 5 s) * 9 + σ 18 (s / 2)) < 1000 ∧ σ2 21 s = gapS (σ 2) (σ 5) (σ 6) (σ 13) (σ 18) (σ 19) (σ 59 0) s) (hmu : 17 - p < (n : Int)), G 2 [some (.ref (w.2.2 17)), some (.int (iI a)), some (.int (iI p)), none, none, none, none] [] σ2 := by
    intro n
    induction n with
    | zero => intro p σ2 m2 hp hK hG hmu; omega
    | succ n ih =>
      intro p σ2 m2 hp hK hG hmu
      have ih2 := ih
      clear ih
      refine r_iload_n hX dX3_measureGaps_2 rfl ?_
      refine r_iconst hX dX3_measureGaps_3 ?_
      refine r_iload_n hX dX3_measureGaps_4 rfl ?_
      refine r_imul hX dX3_measureGaps_5 ?_
      refine r_iconst hX dX3_measureGaps_6 ?_
      refine r_iadd hX dX3_measureGaps_7 ?_
      refine r_icmp_ge hX (tgt := 145) dX3_measureGaps_8 (by decide) (by omega) (by omega) (fun c8 => ?_) (fun c8 => ?_)
      · skip
        refine r_iconst hX dX3_measureGaps_145 ?_
        exact r_zret hX dX3_measureGaps_146 rfl (by omega) ⟨_, rfl, ⟨(m2.w rfl), (by exact hK), (by exact Or.inl ⟨rfl, fun s s0 s1 => hG s s0 (by omega)⟩)⟩⟩
      · skip
        refine r_iload_n hX dX3_measureGaps_11 rfl ?_
        refine r_bipush hX dX3_measureGaps_12 (by decide) ?_
        refine r_icmp_ge hX (tgt := 145) dX3_measureGaps_14 (by decide) (by omega) (by omega) (fun c14 => ?_) (fun c14 => ?_)
        · exfalso; omega
        · skip
          refine r_aload_n hX dX3_measureGaps_17 rfl ?_
          refine fg_X17_27 hX dX3_measureGaps_18 ?_
          refine r_iload_n hX dX3_measureGaps_21 rfl ?_
          refine r_callV hX dX3_measureGaps_22 (k_Lp_sourceOf l w σ2 _ (by omega)) mf_X2_sourceOf mv_X2_sourceOf lk_RX3_80 rfl rfl rfl rfl rfl ⟨Nat.le_of_ble_eq_true rfl, Nat.le_of_ble_eq_true rfl⟩ (Nat.le_of_ble_eq_true rfl) (kI fun z22 σ22 hh => ?_)
          obtain ⟨rfl, h22_0, h22_1⟩ := hh
          have q22_1 : σ2 5 = σ 5 := (m2.at 5 rfl)
          have q22_2 : σ2 53 = σ 53 := (m2.at 53 rfl)
          try simp only [q22_1, q22_2] at h22_0
          refine r_istore_n hX (fun x25 => [some (.ref (w.2.2 17)), some (.int (iI a)), some (.int (iI p)), some (.int (iI x25)), none, none, none]) dX3_measureGaps_25 (Nat.le_of_ble_eq_true rfl) rfl rfl (fun _ => rfl) (fun x25 e25 => ?_)
          refine r_iload_n hX dX3_measureGaps_26 rfl ?_
          refine r_iconst hX dX3_measureGaps_27 ?_
          refine r_idiv hX dX3_measureGaps_28 (by omega) (by omega) (by omega) (by omega) ?_
          refine r_istore hX (fun x29 => [some (.ref (w.2.2 17)), some (.int (iI a)), some (.int (iI p)), some (.int (iI x25)), some (.int (iI x29)), none, none]) dX3_measureGaps_29 (Nat.le_of_ble_eq_true rfl) rfl rfl (fun _ => rfl) (fun x29 e29 => ?_)
          refine r_iload_n hX dX3_measureGaps_31 rfl ?_
          refine r_if_lt hX (tgt := 139) dX3_measureGaps_32 (by decide) (by omega) (fun c32 => ?_) (fun c32 => ?_)
          · skip
            refine r_iinc hX (fun x139 => [some (.ref (w.2.2 17)), some (.int (iI a)), some (.int (iI x139)), some (.int (iI x25)), some (.int (iI x29)), none, none]) dX3_measureGaps_139 rfl rfl rfl (fun _ => rfl) (fun x139 e139 => ?_)
            refine r_goto hX dX3_measureGaps_142 (tgt := 2) (by decide) ?_
            refine r_wk hX (lv1 := [some (.ref (w.2.2 17)), some (.int (iI a)), some (.int (iI x139)), none, none, none, none]) ⟨rfl, ⟨rfl, ⟨rfl, trivial⟩⟩⟩ ?_
            exact ih2 x139 σ2 (m2.w rfl) (by omega) (by first | exact hK | exact fun s q => by rw [s138, if_neg (fun e => q (by rw [e]; omega))]; exact hK s q) (by first | exact mg_skip hG e139 (by omega) | exact mg_put hG e139 s138 hgap (by omega)) (by omega)
          · skip
            refine r_iload_n hX dX3_measureGaps_35 rfl ?_
            refine r_iload_n hX dX3_measureGaps_36 rfl ?_
            refine r_icmp_gt hX (tgt := 139) dX3_measureGaps_37 (by decide) (by omega) (by omega) (fun c37 => ?_) (fun c37 => ?_)
            · skip
              refine r_iinc hX (fun x139 => [some (.ref (w.2.2 17)), some (.int (iI a)), some (.int (iI x139)), some (.int (iI x25)), some (.int (iI x29)), none, none]) dX3_measureGaps_139 rfl rfl rfl (fun _ => rfl) (fun x139 e139 => ?_)
              refine r_goto hX dX3_measureGaps_142 (tgt := 2) (by decide) ?_
              refine r_wk hX (lv1 := [some (.ref (w.2.2 17)), some (.int (iI a)), some (.int (iI x139)), none, none, none, none]) ⟨rfl, ⟨rfl, ⟨rfl, trivial⟩⟩⟩ ?_
              exact ih2 x139 σ2 (m2.w rfl) (by omega) (by first | exact hK | exact fun s q => by rw [s138, if_neg (fun e => q (by rw [e]; omega))]; exact hK s q) (by first | exact mg_skip hG e139 (by omega) | exact mg_put hG e139 s138 hgap (by omega)) (by omega)
            · skip
              refine r_iload_n hX dX3_measureGaps_40 rfl ?_
              refine r_iload_n hX dX3_measureGaps_41 rfl ?_
              refine r_icmp_eq hX (tgt := 51) dX3_measureGaps_42 (by decide) (by omega) (by omega) (fun c42 => ?_) (fun c42 => ?_)
              · skip
                obtain rfl : x25 = σ 5 p := by omega
                obtain rfl : x29 = p / 2 := e29
                have hl1 := hl (σ 5 p) (by omega) (by omega)
                have hl2 := hl (p / 2) (by omega) (by omega)
                refine r_aload_n hX dX3_measureGaps_51 rfl ?_
                refine fg_X17_31 hX dX3_measureGaps_52 ?_
                refine r_aload_n hX dX3_measureGaps_55 rfl ?_
                refine fg_X17_9 hX dX3_measureGaps_56 ?_
                refine r_iload_n hX dX3_measureGaps_59 rfl ?_
                refine ld_X18 hX dX3_measureGaps_60 (by omega) (by omega) (fun b60l b60u => ?_)
                have q60 : σ2 18 = σ 18 := (m2.at 18 rfl)
                rw [q60]
                rw [q60] at b60l b60u
                refine r_aload_n hX dX3_measureGaps_61 rfl ?_
                refine fg_X17_9 hX dX3_measureGaps_62 ?_
                refine r_iload hX dX3_measureGaps_65 rfl ?_
                refine ld_X18 hX dX3_measureGaps_67 (by omega) (by omega) (fun b67l b67u => ?_)
                have q67 : σ2 18 = σ 18 := (m2.at 18 rfl)
                rw [q67]
                rw [q67] at b67l b67u
                refine r_callV hX dX3_measureGaps_68 (k_Gd_wayBetween l w σ2 _ _ (by omega) (by omega)) mf_X0_wayBetween mv_X0_wayBetween lk_RX3_83 rfl rfl rfl rfl rfl ⟨Nat.le_of_ble_eq_true rfl, Nat.le_of_ble_eq_true rfl⟩ (Nat.le_of_ble_eq_true rfl) (kI fun z68 σ68 hh => ?_)
                obtain ⟨rfl, h68_0⟩ := hh
                have q68_3 : σ2 13 = σ 13 := (m2.at 13 rfl)
                have q68_4 : σ2 56 = σ 56 := (m2.at 56 rfl)
                have q68_5 : σ2 57 = σ 57 := (m2.at 57 rfl)
                try simp only [q68_3, q68_4, q68_5] at h68_0
                refine r_istore hX (fun x71 => [some (.ref (w.2.2 17)), some (.int (iI a)), some (.int (iI p)), some (.int (iI (σ 5 p))), some (.int (iI (p / 2))), some (.int (iI x71)), none]) dX3_measureGaps_71 (Nat.le_of_ble_eq_true rfl) rfl rfl (fun _ => rfl) (fun x71 e71 => ?_)
                refine r_iload hX dX3_measureGaps_73 rfl ?_
                refine r_bipush hX dX3_measureGaps_75 (by decide) ?_
                refine r_icmp_ne hX (tgt := 82) dX3_measureGaps_77 (by decide) (by omega) (by omega) (fun c77 => ?_) (fun c77 => ?_)
                · skip
                  refine r_aload_n hX dX3_measureGaps_82 rfl ?_
                  refine fg_X17_15 hX dX3_measureGaps_83 ?_
                  refine r_iload hX dX3_measureGaps_86 rfl ?_
                  refine ld_X19 hX dX3_measureGaps_88 (by omega) (by omega) (fun b88l b88u => ?_)
                  have q88 : σ2 19 = σ 19 := (m2.at 19 rfl)
                  rw [q88]
                  rw [q88] at b88l b88u
                  refine r_aload_n hX dX3_measureGaps_89 rfl ?_
                  refine fg_X17_45 hX dX3_measureGaps_90 (fun b90l b90u => ?_)
                  have q90 : σ2 59 = σ 59 := (m2.at 59 rfl)
                  rw [q90]
                  rw [q90] at b90l b90u
                  refine r_aload_n hX dX3_measureGaps_93 rfl ?_
                  refine fg_X17_27 hX dX3_measureGaps_94 ?_
                  refine r_iload_n hX dX3_measureGaps_97 rfl ?_
                  refine r_callV hX dX3_measureGaps_98 (k_Lp_distanceOf l w σ2 _ (by omega)) mf_X2_distanceOf mv_X2_distanceOf lk_RX3_87 rfl rfl rfl rfl rfl ⟨Nat.le_of_ble_eq_true rfl, Nat.le_of_ble_eq_true rfl⟩ (Nat.le_of_ble_eq_true rfl) (kI fun z98 σ98 hh => ?_)
                  obtain ⟨rfl, h98_0, h98_1⟩ := hh
                  have q98_6 : σ2 6 = σ 6 := (m2.at 6 rfl)
                  have q98_7 : σ2 53 = σ 53 := (m2.at 53 rfl)
                  try simp only [q98_6, q98_7] at h98_0
                  obtain rfl : z98 = σ 6 p := by omega
                  have hp2 := pm (a := σ 59 0) (A := 12) (b := σ 6 p) (B := 3) (by omega) (by omega)
                  refine r_imul hX dX3_measureGaps_101 ?_
                  refine r_iadd hX dX3_measureGaps_102 ?_
                  refine r_aload_n hX dX3_measureGaps_103 rfl ?_
                  refine fg_X17_15 hX dX3_measureGaps_104 ?_
                  refine r_iload_n hX dX3_measureGaps_107 rfl ?_
                  refine ld_X19 hX dX3_measureGaps_108 (by omega) (by omega) (fun b108l b108u => ?_)
                  have q108 : σ2 19 = σ 19 := (m2.at 19 rfl)
                  rw [q108]
                  rw [q108] at b108l b108u
                  refine r_isub hX dX3_measureGaps_109 ?_
                  refine r_istore hX (fun x110 => [some (.ref (w.2.2 17)), some (.int (iI a)), some (.int (iI p)), some (.int (iI (σ 5 p))), some (.int (iI (p / 2))), some (.int (iI x71)), some (.int (iI x110))]) dX3_measureGaps_110 (Nat.le_of_ble_eq_true rfl) rfl rfl (fun _ => rfl) (fun x110 e110 => ?_)
                  refine r_aload_n hX dX3_measureGaps_112 rfl ?_
                  refine fg_X17_21 hX dX3_measureGaps_113 ?_
                  refine r_iload_n hX dX3_measureGaps_116 rfl ?_
                  refine r_aload_n hX dX3_measureGaps_117 rfl ?_
                  refine fg_X17_27 hX dX3_measureGaps_118 ?_
                  refine r_iload_n hX dX3_measureGaps_121 rfl ?_
                  refine r_callV hX dX3_measureGaps_122 (k_Lp_lengthOf l w σ2 _ (by omega)) mf_X2_lengthOf mv_X2_lengthOf lk_RX3_90 rfl rfl rfl rfl rfl ⟨Nat.le_of_ble_eq_true rfl, Nat.le_of_ble_eq_true rfl⟩ (Nat.le_of_ble_eq_true rfl) (kI fun z122 σ122 hh => ?_)
                  obtain ⟨rfl, h122_0⟩ := hh
                  have q122_8 : σ2 2 = σ 2 := (m2.at 2 rfl)
                  have q122_9 : σ2 53 = σ 53 := (m2.at 53 rfl)
                  try simp only [q122_8, q122_9] at h122_0
                  have hle := lenF_of h122_0 (by omega) (by omega)
                  subst hle
                  refine r_iload hX dX3_measureGaps_125 rfl ?_
                  refine r_iadd hX dX3_measureGaps_127 ?_
                  refine r_iload hX dX3_measureGaps_128 rfl ?_
                  refine r_isub hX dX3_measureGaps_130 ?_
                  refine r_aload_n hX dX3_measureGaps_131 rfl ?_
                  refine fg_X17_45 hX dX3_measureGaps_132 (fun b132l b132u => ?_)
                  have q132 : σ2 59 = σ 59 := (m2.at 59 rfl)
                  rw [q132]
                  rw [q132] at b132l b132u
                  have hlb := @lenF_bd (σ 2) (σ 5 p)
                  refine r_callSN hX dX3_measureGaps_135 (k_cutUp l w σ2 _ _ (by omega) (by omega) (by omega) (by omega)) mf_X5_cutUp ms_X5_cutUp rfl rfl rfl ⟨Nat.le_of_ble_eq_true rfl, Nat.le_of_ble_eq_true rfl⟩ (Nat.le_of_ble_eq_true rfl) (kI fun z135 σ135 hh => ?_)
                  obtain ⟨rfl, h135_0⟩ := hh
                  have hgap : z135 = gapS (σ 2) (σ 5) (σ 6) (σ 13) (σ 18) (σ 19) (σ 59 0) p := by
                    rw [h135_0, e110]
                    unfold gapS
                    rw [show x71 = σ 13 (σ 18 (σ 5 p) * 9 + σ 18 (p / 2)) by omega]
                  have hcb := cdiv_bd (n := σ 59 0) (B := 1100) (x := lenF (σ 2) (σ 5 p) + x71 - x110) (by have := @lenF_bd (σ 2) (σ 5 p); omega) (by have := @lenF_bd (σ 2) (σ 5 p); omega) (by omega)
                  refine st_X21 hX dX3_measureGaps_138 (by omega) (by omega) (by rw [h135_0]; exact hcb) (fun σ138 m138 s138 => ?_)
                  refine r_iinc hX (fun x139 => [some (.ref (w.2.2 17)), some (.int (iI a)), some (.int (iI x139)), some (.int (iI (σ 5 p))), some (.int (iI (p / 2))), some (.int (iI x71)), some (.int (iI x110))]) dX3_measureGaps_139 rfl rfl rfl (fun _ => rfl) (fun x139 e139 => ?_)
                  refine r_goto hX dX3_measureGaps_142 (tgt := 2) (by decide) ?_
                  refine r_wk hX (lv1 := [some (.ref (w.2.2 17)), some (.int (iI a)), some (.int (iI x139)), none, none, none, none]) ⟨rfl, ⟨rfl, ⟨rfl, trivial⟩⟩⟩ ?_
                  exact ih2 x139 σ138 (Mod.tr (L := [21]) m2 m138 rfl rfl) (by omega) (by first | exact hK | exact fun s q => by rw [s138, if_neg (fun e => q (by rw [e]; omega))]; exact hK s q) (by first | exact mg_skip hG e139 (by omega) | exact mg_put hG e139 s138 hgap (by omega)) (by omega)
                · skip
                  refine r_iconst hX dX3_measureGaps_80 ?_
                  exact r_zret hX dX3_measureGaps_81 rfl (by omega) ⟨_, rfl, ⟨(m2.w rfl), (by exact hK), (by exact Or.inr ⟨rfl, p, by omega, by omega, by omega, by omega, by omega⟩)⟩⟩
              · skip
                refine r_iload hX dX3_measureGaps_45 rfl ?_
                refine r_iload_n hX dX3_measureGaps_47 rfl ?_
                refine r_icmp_ne hX (tgt := 139) dX3_measureGaps_48 (by decide) (by omega) (by omega) (fun c48 => ?_) (fun c48 => ?_)
                · skip
                  refine r_iinc hX (fun x139 => [some (.ref (w.2.2 17)), some (.int (iI a)), some (.int (iI x139)), some (.int (iI x25)), some (.int (iI x29)), none, none]) dX3_measureGaps_139 rfl rfl rfl (fun _ => rfl) (fun x139 e139 => ?_)
                  refine r_goto hX dX3_measureGaps_142 (tgt := 2) (by decide) ?_
                  refine r_wk hX (lv1 := [some (.ref (w.2.2 17)), some (.int (iI a)), some (.int (iI x139)), none, none, none, none]) ⟨rfl, ⟨rfl, ⟨rfl, trivial⟩⟩⟩ ?_
                  exact ih2 x139 σ2 (m2.w rfl) (by omega) (by first | exact hK | exact fun s q => by rw [s138, if_neg (fun e => q (by rw [e]; omega))]; exact hK s q) (by first | exact mg_skip hG e139 (by omega) | exact mg_put hG e139 s138 hgap (by omega)) (by omega)
                · skip
                  obtain rfl : x25 = σ 5 p := by omega
                  obtain rfl : x29 = p / 2 := e29
                  have hl1 := hl (σ 5 p) (by omega) (by omega)
                  have hl2 := hl (p / 2) (by omega) (by omega)
                  refine r_aload_n hX dX3_measureGaps_51 rfl ?_
                  refine fg_X17_31 hX dX3_measureGaps_52 ?_
                  refine r_aload_n hX dX3_measureGaps_55 rfl ?_
                  refine fg_X17_9 hX dX3_measureGaps_56 ?_
                  refine r_iload_n hX dX3_measureGaps_59 rfl ?_
                  refine ld_X18 hX dX3_measureGaps_60 (by omega) (by omega) (fun b60l b60u => ?_)
                  have q60 : σ2 18 = σ 18 := (m2.at 18 rfl)
                  rw [q60]
                  rw [q60] at b60l b60u
                  refine r_aload_n hX dX3_measureGaps_61 rfl ?_
                  refine fg_X17_9 hX dX3_measureGaps_62 ?_
                  refine r_iload hX dX3_measureGaps_65 rfl ?_
                  refine ld_X18 hX dX3_measureGaps_67 (by omega) (by omega) (fun b67l b67u => ?_)
                  have q67 : σ2 18 = σ 18 := (m2.at 18 rfl)
                  rw [q67]
                  rw [q67] at b67l b67u
                  refine r_callV hX dX3_measureGaps_68 (k_Gd_wayBetween l w σ2 _ _ (by omega) (by omega)) mf_X0_wayBetween mv_X0_wayBetween lk_RX3_83 rfl rfl rfl rfl rfl ⟨Nat.le_of_ble_eq_true rfl, Nat.le_of_ble_eq_true rfl⟩ (Nat.le_of_ble_eq_true rfl) (kI fun z68 σ68 hh => ?_)
                  obtain ⟨rfl, h68_0⟩ := hh
                  have q68_10 : σ2 13 = σ 13 := (m2.at 13 rfl)
                  have q68_11 : σ2 56 = σ 56 := (m2.at 56 rfl)
                  have q68_12 : σ2 57 = σ 57 := (m2.at 57 rfl)
                  try simp only [q68_10, q68_11, q68_12] at h68_0
                  refine r_istore hX (fun x71 => [some (.ref (w.2.2 17)), some (.int (iI a)), some (.int (iI p)), some (.int (iI (σ 5 p))), some (.int (iI (p / 2))), some (.int (iI x71)), none]) dX3_measureGaps_71 (Nat.le_of_ble_eq_true rfl) rfl rfl (fun _ => rfl) (fun x71 e71 => ?_)
                  refine r_iload hX dX3_measureGaps_73 rfl ?_
                  refine r_bipush hX dX3_measureGaps_75 (by decide) ?_
                  refine r_icmp_ne hX (tgt := 82) dX3_measureGaps_77 (by decide) (by omega) (by omega) (fun c77 => ?_) (fun c77 => ?_)
                  · skip
                    refine r_aload_n hX dX3_measureGaps_82 rfl ?_
                    refine fg_X17_15 hX dX3_measureGaps_83 ?_
                    refine r_iload hX dX3_measureGaps_86 rfl ?_
                    refine ld_X19 hX dX3_measureGaps_88 (by omega) (by omega) (fun b88l b88u => ?_)
                    have q88 : σ2 19 = σ 19 := (m2.at 19 rfl)
                    rw [q88]
                    rw [q88] at b88l b88u
                    refine r_aload_n hX dX3_measureGaps_89 rfl ?_
                    refine fg_X17_45 hX dX3_measureGaps_90 (fun b90l b90u => ?_)
                    have q90 : σ2 59 = σ 59 := (m2.at 59 rfl)
                    rw [q90]
                    rw [q90] at b90l b90u
                    refine r_aload_n hX dX3_measureGaps_93 rfl ?_
                    refine fg_X17_27 hX dX3_measureGaps_94 ?_
                    refine r_iload_n hX dX3_measureGaps_97 rfl ?_
                    refine r_callV hX dX3_measureGaps_98 (k_Lp_distanceOf l w σ2 _ (by omega)) mf_X2_distanceOf mv_X2_distanceOf lk_RX3_87 rfl rfl rfl rfl rfl ⟨Nat.le_of_ble_eq_true rfl, Nat.le_of_ble_eq_true rfl⟩ (Nat.le_of_ble_eq_true rfl) (kI fun z98 σ98 hh => ?_)
                    obtain ⟨rfl, h98_0, h98_1⟩ := hh
                    have q98_13 : σ2 6 = σ 6 := (m2.at 6 rfl)
                    have q98_14 : σ2 53 = σ 53 := (m2.at 53 rfl)
                    try simp only [q98_13, q98_14] at h98_0
                    obtain rfl : z98 = σ 6 p := by omega
                    have hp2 := pm (a := σ 59 0) (A := 12) (b := σ 6 p) (B := 3) (by omega) (by omega)
                    refine r_imul hX dX3_measureGaps_101 ?_
                    refine r_iadd hX dX3_measureGaps_102 ?_
                    refine r_aload_n hX dX3_measureGaps_103 rfl ?_
                    refine fg_X17_15 hX dX3_measureGaps_104 ?_
                    refine r_iload_n hX dX3_measureGaps_107 rfl ?_
                    refine ld_X19 hX dX3_measureGaps_108 (by omega) (by omega) (fun b108l b108u => ?_)
                    have q108 : σ2 19 = σ 19 := (m2.at 19 rfl)
                    rw [q108]
                    rw [q108] at b108l b108u
                    refine r_isub hX dX3_measureGaps_109 ?_
                    refine r_istore hX (fun x110 => [some (.ref (w.2.2 17)), some (.int (iI a)), some (.int (iI p)), some (.int (iI (σ 5 p))), some (.int (iI (p / 2))), some (.int (iI x71)), some (.int (iI x110))]) dX3_measureGaps_110 (Nat.le_of_ble_eq_true rfl) rfl rfl (fun _ => rfl) (fun x110 e110 => ?_)
                    refine r_aload_n hX dX3_measureGaps_112 rfl ?_
                    refine fg_X17_21 hX dX3_measureGaps_113 ?_
                    refine r_iload_n hX dX3_measureGaps_116 rfl ?_
                    refine r_aload_n hX dX3_measureGaps_117 rfl ?_
                    refine fg_X17_27 hX dX3_measureGaps_118 ?_
                    refine r_iload_n hX dX3_measureGaps_121 rfl ?_
                    refine r_callV hX dX3_measureGaps_122 (k_Lp_lengthOf l w σ2 _ (by omega)) mf_X2_lengthOf mv_X2_lengthOf lk_RX3_90 rfl rfl rfl rfl rfl ⟨Nat.le_of_ble_eq_true rfl, Nat.le_of_ble_eq_true rfl⟩ (Nat.le_of_ble_eq_true rfl) (kI fun z122 σ122 hh => ?_)
                    obtain ⟨rfl, h122_0⟩ := hh
                    have q122_15 : σ2 2 = σ 2 := (m2.at 2 rfl)
                    have q122_16 : σ2 53 = σ 53 := (m2.at 53 rfl)
                    try simp only [q122_15, q122_16] at h122_0
                    have hle := lenF_of h122_0 (by omega) (by omega)
                    subst hle
                    refine r_iload hX dX3_measureGaps_125 rfl ?_
                    refine r_iadd hX dX3_measureGaps_127 ?_
                    refine r_iload hX dX3_measureGaps_128 rfl ?_
                    refine r_isub hX dX3_measureGaps_130 ?_
                    refine r_aload_n hX dX3_measureGaps_131 rfl ?_
                    refine fg_X17_45 hX dX3_measureGaps_132 (fun b132l b132u => ?_)
                    have q132 : σ2 59 = σ 59 := (m2.at 59 rfl)
                    rw [q132]
                    rw [q132] at b132l b132u
                    have hlb := @lenF_bd (σ 2) (σ 5 p)
                    refine r_callSN hX dX3_measureGaps_135 (k_cutUp l w σ2 _ _ (by omega) (by omega) (by omega) (by omega)) mf_X5_cutUp ms_X5_cutUp rfl rfl rfl ⟨Nat.le_of_ble_eq_true rfl, Nat.le_of_ble_eq_true rfl⟩ (Nat.le_of_ble_eq_true rfl) (kI fun z135 σ135 hh => ?_)
                    obtain ⟨rfl, h135_0⟩ := hh
                    have hgap : z135 = gapS (σ 2) (σ 5) (σ 6) (σ 13) (σ 18) (σ 19) (σ 59 0) p := by
                      rw [h135_0, e110]
                      unfold gapS
                      rw [show x71 = σ 13 (σ 18 (σ 5 p) * 9 + σ 18 (p / 2)) by omega]
                    have hcb := cdiv_bd (n := σ 59 0) (B := 1100) (x := lenF (σ 2) (σ 5 p) + x71 - x110) (by have := @lenF_bd (σ 2) (σ 5 p); omega) (by have := @lenF_bd (σ 2) (σ 5 p); omega) (by omega)
                    refine st_X21 hX dX3_measureGaps_138 (by omega) (by omega) (by rw [h135_0]; exact hcb) (fun σ138 m138 s138 => ?_)
                    refine r_iinc hX (fun x139 => [some (.ref (w.2.2 17)), some (.int (iI a)), some (.int (iI x139)), some (.int (iI (σ 5 p))), some (.int (iI (p / 2))), some (.int (iI x71)), some (.int (iI x110))]) dX3_measureGaps_139 rfl rfl rfl (fun _ => rfl) (fun x139 e139 => ?_)
                    refine r_goto hX dX3_measureGaps_142 (tgt := 2) (by decide) ?_
                    refine r_wk hX (lv1 := [some (.ref (w.2.2 17)), some (.int (iI a)), some (.int (iI x139)), none, none, none, none]) ⟨rfl, ⟨rfl, ⟨rfl, trivial⟩⟩⟩ ?_
                    exact ih2 x139 σ138 (Mod.tr (L := [21]) m2 m138 rfl rfl) (by omega) (by first | exact hK | exact fun s q => by rw [s138, if_neg (fun e => q (by rw [e]; omega))]; exact hK s q) (by first | exact mg_skip hG e139 (by omega) | exact mg_put hG e139 s138 hgap (by omega)) (by omega)
                  · skip
                    refine r_iconst hX dX3_measureGaps_80 ?_
                    exact r_zret hX dX3_measureGaps_81 rfl (by omega) ⟨_, rfl, ⟨(m2.w rfl), (by exact hK), (by exact Or.inr ⟨rfl, p, by omega, by omega, by omega, by omega, by omega⟩)⟩⟩
  exact lp2 ((17 - (x1)) + 1).toNat x1 σ Mod.rf (by omega) (fun s q => rfl) (fun s s0 s1 => by omega) (by omega)
theorem dX3_beginRow_0 : decode cX3_beginRow 0 = .ok (.iload_n 1, 1) := by decide +kernel
theorem dX3_beginRow_1 : decode cX3_beginRow 1 = .ok (.bipush 8, 2) := by decide +kernel
theorem dX3_beginRow_3 : decode cX3_beginRow 3 = .ok (.imul, 1) := by decide +kernel
theorem dX3_beginRow_4 : decode cX3_beginRow 4 = .ok (.istore_n 2, 1) := by decide +kernel
theorem dX3_beginRow_5 : decode cX3_beginRow 5 = .ok (.iload_n 1, 1) := by decide +kernel
theorem dX3_beginRow_6 : decode cX3_beginRow 6 = .ok (.ifCond .le 26, 3) := by decide +kernel
theorem dX3_beginRow_9 : decode cX3_beginRow 9 = .ok (.iload_n 1, 1) := by decide +kernel
theorem dX3_beginRow_10 : decode cX3_beginRow 10 = .ok (.bipush 8, 2) := by decide +kernel
theorem dX3_beginRow_12 : decode cX3_beginRow 12 = .ok (.if_icmp .ge 20, 3) := by decide +kernel
theorem dX3_beginRow_15 : decode cX3_beginRow 15 = .ok (.aload_n 0, 1) := by decide +kernel
theorem dX3_beginRow_16 : decode cX3_beginRow 16 = .ok (.getfield 24, 3) := by decide +kernel
theorem dX3_beginRow_19 : decode cX3_beginRow 19 = .ok (.iload_n 2, 1) := by decide +kernel
theorem dX3_beginRow_20 : decode cX3_beginRow 20 = .ok (.bipush 8, 2) := by decide +kernel
theorem dX3_beginRow_22 : decode cX3_beginRow 22 = .ok (.isub, 1) := by decide +kernel
theorem dX3_beginRow_23 : decode cX3_beginRow 23 = .ok (.aload_n 0, 1) := by decide +kernel
theorem dX3_beginRow_24 : decode cX3_beginRow 24 = .ok (.getfield 24, 3) := by decide +kernel
theorem dX3_beginRow_27 : decode cX3_beginRow 27 = .ok (.iload_n 2, 1) := by decide +kernel
theorem dX3_beginRow_28 : decode cX3_beginRow 28 = .ok (.iload_n 1, 1) := by decide +kernel
theorem dX3_beginRow_29 : decode cX3_beginRow 29 = .ok (.invokestatic 100, 3) := by decide +kernel
theorem dX3_beginRow_32 : decode cX3_beginRow 32 = .ok (.aload_n 0, 1) := by decide +kernel
theorem dX3_beginRow_33 : decode cX3_beginRow 33 = .ok (.getfield 24, 3) := by decide +kernel
theorem dX3_beginRow_36 : decode cX3_beginRow 36 = .ok (.iload_n 2, 1) := by decide +kernel
theorem dX3_beginRow_37 : decode cX3_beginRow 37 = .ok (.iload_n 1, 1) := by decide +kernel
theorem dX3_beginRow_38 : decode cX3_beginRow 38 = .ok (.iadd, 1) := by decide +kernel
theorem dX3_beginRow_39 : decode cX3_beginRow 39 = .ok (.iconst 0, 1) := by decide +kernel
theorem dX3_beginRow_40 : decode cX3_beginRow 40 = .ok (.iastore, 1) := by decide +kernel
theorem dX3_beginRow_41 : decode cX3_beginRow 41 = .ok (.iconst 2, 1) := by decide +kernel
theorem dX3_beginRow_42 : decode cX3_beginRow 42 = .ok (.iload_n 1, 1) := by decide +kernel
theorem dX3_beginRow_43 : decode cX3_beginRow 43 = .ok (.imul, 1) := by decide +kernel
theorem dX3_beginRow_44 : decode cX3_beginRow 44 = .ok (.istore_n 3, 1) := by decide +kernel
theorem dX3_beginRow_45 : decode cX3_beginRow 45 = .ok (.iload_n 3, 1) := by decide +kernel
theorem dX3_beginRow_46 : decode cX3_beginRow 46 = .ok (.iconst 2, 1) := by decide +kernel
theorem dX3_beginRow_47 : decode cX3_beginRow 47 = .ok (.iload_n 1, 1) := by decide +kernel
theorem dX3_beginRow_48 : decode cX3_beginRow 48 = .ok (.imul, 1) := by decide +kernel
theorem dX3_beginRow_49 : decode cX3_beginRow 49 = .ok (.iconst 2, 1) := by decide +kernel
theorem dX3_beginRow_50 : decode cX3_beginRow 50 = .ok (.iadd, 1) := by decide +kernel
theorem dX3_beginRow_51 : decode cX3_beginRow 51 = .ok (.if_icmp .ge 71, 3) := by decide +kernel
theorem dX3_beginRow_54 : decode cX3_beginRow 54 = .ok (.iload_n 3, 1) := by decide +kernel
theorem dX3_beginRow_55 : decode cX3_beginRow 55 = .ok (.bipush 16, 2) := by decide +kernel
theorem dX3_beginRow_57 : decode cX3_beginRow 57 = .ok (.if_icmp .ge 65, 3) := by decide +kernel
theorem dX3_beginRow_60 : decode cX3_beginRow 60 = .ok (.aload_n 0, 1) := by decide +kernel
theorem dX3_beginRow_61 : decode cX3_beginRow 61 = .ok (.getfield 27, 3) := by decide +kernel
theorem dX3_beginRow_64 : decode cX3_beginRow 64 = .ok (.iload_n 3, 1) := by decide +kernel
theorem dX3_beginRow_65 : decode cX3_beginRow 65 = .ok (.invokevirtual 80, 3) := by decide +kernel
theorem dX3_beginRow_68 : decode cX3_beginRow 68 = .ok (.istore 4, 2) := by decide +kernel
theorem dX3_beginRow_70 : decode cX3_beginRow 70 = .ok (.iload 4, 2) := by decide +kernel
theorem dX3_beginRow_72 : decode cX3_beginRow 72 = .ok (.ifCond .lt 44, 3) := by decide +kernel
theorem dX3_beginRow_75 : decode cX3_beginRow 75 = .ok (.iload 4, 2) := by decide +kernel
theorem dX3_beginRow_77 : decode cX3_beginRow 77 = .ok (.iload_n 1, 1) := by decide +kernel
theorem dX3_beginRow_78 : decode cX3_beginRow 78 = .ok (.if_icmp .ge 38, 3) := by decide +kernel
theorem dX3_beginRow_81 : decode cX3_beginRow 81 = .ok (.aload_n 0, 1) := by decide +kernel
theorem dX3_beginRow_82 : decode cX3_beginRow 82 = .ok (.getfield 24, 3) := by decide +kernel
theorem dX3_beginRow_85 : decode cX3_beginRow 85 = .ok (.iload_n 2, 1) := by decide +kernel
theorem dX3_beginRow_86 : decode cX3_beginRow 86 = .ok (.iload_n 1, 1) := by decide +kernel
theorem dX3_beginRow_87 : decode cX3_beginRow 87 = .ok (.iadd, 1) := by decide +kernel
theorem dX3_beginRow_88 : decode cX3_beginRow 88 = .ok (.aload_n 0, 1) := by decide +kernel
theorem dX3_beginRow_89 : decode cX3_beginRow 89 = .ok (.getfield 24, 3) := by decide +kernel
theorem dX3_beginRow_92 : decode cX3_beginRow 92 = .ok (.iload_n 2, 1) := by decide +kernel
theorem dX3_beginRow_93 : decode cX3_beginRow 93 = .ok (.iload_n 1, 1) := by decide +kernel
theorem dX3_beginRow_94 : decode cX3_beginRow 94 = .ok (.iadd, 1) := by decide +kernel
theorem dX3_beginRow_95 : decode cX3_beginRow 95 = .ok (.iaload, 1) := by decide +kernel
theorem dX3_beginRow_96 : decode cX3_beginRow 96 = .ok (.aload_n 0, 1) := by decide +kernel
theorem dX3_beginRow_97 : decode cX3_beginRow 97 = .ok (.getfield 24, 3) := by decide +kernel
theorem dX3_beginRow_100 : decode cX3_beginRow 100 = .ok (.iload_n 2, 1) := by decide +kernel
theorem dX3_beginRow_101 : decode cX3_beginRow 101 = .ok (.iload 4, 2) := by decide +kernel
theorem dX3_beginRow_103 : decode cX3_beginRow 103 = .ok (.iadd, 1) := by decide +kernel
theorem dX3_beginRow_104 : decode cX3_beginRow 104 = .ok (.iaload, 1) := by decide +kernel
theorem dX3_beginRow_105 : decode cX3_beginRow 105 = .ok (.aload_n 0, 1) := by decide +kernel
theorem dX3_beginRow_106 : decode cX3_beginRow 106 = .ok (.getfield 21, 3) := by decide +kernel
theorem dX3_beginRow_109 : decode cX3_beginRow 109 = .ok (.iload_n 3, 1) := by decide +kernel
theorem dX3_beginRow_110 : decode cX3_beginRow 110 = .ok (.iaload, 1) := by decide +kernel
theorem dX3_beginRow_111 : decode cX3_beginRow 111 = .ok (.iadd, 1) := by decide +kernel
theorem dX3_beginRow_112 : decode cX3_beginRow 112 = .ok (.invokestatic 106, 3) := by decide +kernel
theorem dX3_beginRow_115 : decode cX3_beginRow 115 = .ok (.iastore, 1) := by decide +kernel
theorem dX3_beginRow_116 : decode cX3_beginRow 116 = .ok (.iinc 3 1, 3) := by decide +kernel
theorem dX3_beginRow_119 : decode cX3_beginRow 119 = .ok (.goto (-74), 3) := by decide +kernel
theorem dX3_beginRow_122 : decode cX3_beginRow 122 = .ok (.return_, 1) := by decide +kernel
set_option maxRecDepth 20000 in
set_option maxHeartbeats 4000000 in
theorem k_Sr_beginRow (l : Launch) (w : WT) (σ : MM) (a : Int) (i_a : inr a) (ha : 0 ≤ a ∧ a < σ 53 0) (hL : 0 < a → LeastS (σ 5) (σ 21) (a - 1) (fun l => σ 22 ((a - 1) * 8 + l))) (hB : ∀ l : Int, 0 ≤ l → l < a → σ 22 ((a - 1) * 8 + l) ≤ 160000 * a) : CT SX l w yX3_beginRow cX3_beginRow 5 none 2 42 [.ref (w.2.2 17), .int (iI a)] σ (PV fun σ1 => Mod [22] σ σ1 ∧ (∀ b : Int, b < a * 8 → σ1 22 b = σ 22 b) ∧ (Row0 (σ 5) (σ 21) a (fun l => σ1 22 (a * 8 + l))) ∧ (∀ l : Int, 0 ≤ l → l ≤ a → σ1 22 (a * 8 + l) ≤ 160000 * a + 1100)) := by
  refine CT.of 3 [some (.ref (w.2.2 17)), some (.int (iI a)), none, none, none] (by decide +kernel) (by simp [lg_sl, Value.category]) rfl sh_X (fun G hX => ?_)
  refine r_bd hX (fun hBd => ?_)
  have b_53 := hBd 53 0 8 rfl 0
  refine r_iload_n hX dX3_beginRow_0 rfl ?_
  refine r_bipush hX dX3_beginRow_1 (by decide) ?_
  refine r_imul hX dX3_beginRow_3 ?_
  refine r_istore_n hX (fun x4 => [some (.ref (w.2.2 17)), some (.int (iI a)), some (.int (iI x4)), none, none]) dX3_beginRow_4 (Nat.le_of_ble_eq_true rfl) rfl rfl (fun _ => rfl) (fun x4 e4 => ?_)
  refine r_iload_n hX dX3_beginRow_5 rfl ?_
  refine r_if_le hX (tgt := 32) dX3_beginRow_6 (by decide) (by omega) (fun c6 => ?_) (fun c6 => ?_)
  · skip
    refine r_aload_n hX dX3_beginRow_32 rfl ?_
    refine fg_X17_24 hX dX3_beginRow_33 ?_
    refine r_iload_n hX dX3_beginRow_36 rfl ?_
    refine r_iload_n hX dX3_beginRow_37 rfl ?_
    refine r_iadd hX dX3_beginRow_38 ?_
    refine r_iconst hX dX3_beginRow_39 ?_
    refine st_X22 hX dX3_beginRow_40 (by omega) (by omega) (by omega) (fun σ40 m40 s40 => ?_)
    have hrow : ∀ l : Int, 0 ≤ l → l < a → σ40 22 (a * 8 + l) = σ 22 ((a - 1) * 8 + l) := by
      first
        | exact fun l l0 l1 => by rw [s40, if_neg (by omega), s29, if_pos (by omega)]; exact congrArg (σ 22) (by omega)
        | exact fun l l0 l1 => by omega
    have hlow : ∀ b : Int, b < a * 8 → σ40 22 b = σ 22 b := by
      first
        | exact fun b b0 => by rw [s40, if_neg (by omega), s29, if_neg (by omega)]
        | exact fun b b0 => by rw [s40, if_neg (by omega)]
    have hz0 : σ40 22 (a * 8 + a) = 0 := by rw [s40, if_pos (by omega)]
    refine r_iconst hX dX3_beginRow_41 ?_
    refine r_iload_n hX dX3_beginRow_42 rfl ?_
    refine r_imul hX dX3_beginRow_43 ?_
    refine r_istore_n hX (fun x44 => [some (.ref (w.2.2 17)), some (.int (iI a)), some (.int (iI x4)), some (.int (iI x44)), none]) dX3_beginRow_44 (Nat.le_of_ble_eq_true rfl) rfl rfl (fun _ => rfl) (fun x44 e44 => ?_)
    have lp45 : ∀ (n : Nat) (p : Int) (σ45 : MM) (m45 : Mod [22] σ40 σ45) (hp : 2 * a ≤ p ∧ p ≤ 2 * a + 2) (hk : ∀ b : Int, b ≠ a * 8 + a → σ45 22 b = σ40 22 b) (hM : IsMax (fun s => 2 * a ≤ s ∧ 0 ≤ σ 5 s ∧ σ 5 s < a) (fun s => σ40 22 (a * 8 + σ 5 s) + σ 21 s) p 0 (σ45 22 (a * 8 + a))) (hb : σ45 22 (a * 8 + a) ≤ 160000 * a + 1100) (hmu : 17 - p < (n : Int)), G 45 [some (.ref (w.2.2 17)), some (.int (iI a)), some (.int (iI x4)), some (.int (iI p)), none] [] σ45 := by
      intro n
      induction n with
      | zero => intro p σ45 m45 hp hk hM hb hmu; omega
      | succ n ih =>
        intro p σ45 m45 hp hk hM hb hmu
        have ih45 := ih
        clear ih
        refine r_iload_n hX dX3_beginRow_45 rfl ?_
        refine r_iconst hX dX3_beginRow_46 ?_
        refine r_iload_n hX dX3_beginRow_47 rfl ?_
        refine r_imul hX dX3_beginRow_48 ?_
        refine r_iconst hX dX3_beginRow_49 ?_
        refine r_iadd hX dX3_beginRow_50 ?_
        refine r_icmp_ge hX (tgt := 122) dX3_beginRow_51 (by decide) (by omega) (by omega) (fun c51 => ?_) (fun c51 => ?_)
        · skip
          exact r_ret hX dX3_beginRow_122 rfl ⟨rfl, ⟨(Mod.tr (L := [22]) m40 m45 rfl rfl), (by intro b b0; rw [hk b (by omega)]; exact hlow b b0), (by exact row0_fin ha.1 hL hrow hk hM (by omega)), (fun l l0 l1 => by
    by_cases e : l = a
    · rw [e]; exact hb
    · rw [hk _ (by omega), hrow l l0 (by omega)]; have := hB l l0 (by omega); omega)⟩⟩
        · skip
          refine r_iload_n hX dX3_beginRow_54 rfl ?_
          refine r_bipush hX dX3_beginRow_55 (by decide) ?_
          refine r_icmp_ge hX (tgt := 122) dX3_beginRow_57 (by decide) (by omega) (by omega) (fun c57 => ?_) (fun c57 => ?_)
          · skip
            exact r_ret hX dX3_beginRow_122 rfl ⟨rfl, ⟨(Mod.tr (L := [22]) m40 m45 rfl rfl), (by intro b b0; rw [hk b (by omega)]; exact hlow b b0), (by exact row0_fin ha.1 hL hrow hk hM (by omega)), (fun l l0 l1 => by
    by_cases e : l = a
    · rw [e]; exact hb
    · rw [hk _ (by omega), hrow l l0 (by omega)]; have := hB l l0 (by omega); omega)⟩⟩
          · skip
            refine r_aload_n hX dX3_beginRow_60 rfl ?_
            refine fg_X17_27 hX dX3_beginRow_61 ?_
            refine r_iload_n hX dX3_beginRow_64 rfl ?_
            refine r_callV hX dX3_beginRow_65 (k_Lp_sourceOf l w σ45 _ (by omega)) mf_X2_sourceOf mv_X2_sourceOf lk_RX3_80 rfl rfl rfl rfl rfl ⟨Nat.le_of_ble_eq_true rfl, Nat.le_of_ble_eq_true rfl⟩ (Nat.le_of_ble_eq_true rfl) (kI fun z65 σ65 hh => ?_)
            obtain ⟨rfl, h65_0, h65_1⟩ := hh
            have q65_1 : σ45 5 = σ 5 := ((m45.at 5 rfl).trans (m40.at 5 rfl))
            have q65_2 : σ45 53 = σ 53 := ((m45.at 53 rfl).trans (m40.at 53 rfl))
            try simp only [q65_1, q65_2] at h65_0
            refine r_istore hX (fun x68 => [some (.ref (w.2.2 17)), some (.int (iI a)), some (.int (iI x4)), some (.int (iI p)), some (.int (iI x68))]) dX3_beginRow_68 (Nat.le_of_ble_eq_true rfl) rfl rfl (fun _ => rfl) (fun x68 e68 => ?_)
            refine r_iload hX dX3_beginRow_70 rfl ?_
            refine r_if_lt hX (tgt := 116) dX3_beginRow_72 (by decide) (by omega) (fun c72 => ?_) (fun c72 => ?_)
            · skip
              refine r_iinc hX (fun x116 => [some (.ref (w.2.2 17)), some (.int (iI a)), some (.int (iI x4)), some (.int (iI x116)), some (.int (iI x68))]) dX3_beginRow_116 rfl rfl rfl (fun _ => rfl) (fun x116 e116 => ?_)
              refine r_goto hX dX3_beginRow_119 (tgt := 45) (by decide) ?_
              refine r_wk hX (lv1 := [some (.ref (w.2.2 17)), some (.int (iI a)), some (.int (iI x4)), some (.int (iI x116)), none]) ⟨rfl, ⟨rfl, ⟨rfl, ⟨rfl, trivial⟩⟩⟩⟩ ?_
              exact ih45 x116 σ45 (m45.w rfl) (by omega) (by first | exact hk | exact fun b b0 => by rw [s115, if_neg (by omega)]; exact hk b b0) (by first | exact hM.skip (fun q => by have q1 := q.2.1; have q2 := q.2.2; omega) e116 | (rw [s115, if_pos (by omega)]; exact hM.take (by omega) ⟨by omega, by omega, by omega⟩ (by omega) e116)) (by first | exact hb | (rw [s115, if_pos (by omega)]; omega)) (by omega)
            · skip
              refine r_iload hX dX3_beginRow_75 rfl ?_
              refine r_iload_n hX dX3_beginRow_77 rfl ?_
              refine r_icmp_ge hX (tgt := 116) dX3_beginRow_78 (by decide) (by omega) (by omega) (fun c78 => ?_) (fun c78 => ?_)
              · skip
                refine r_iinc hX (fun x116 => [some (.ref (w.2.2 17)), some (.int (iI a)), some (.int (iI x4)), some (.int (iI x116)), some (.int (iI x68))]) dX3_beginRow_116 rfl rfl rfl (fun _ => rfl) (fun x116 e116 => ?_)
                refine r_goto hX dX3_beginRow_119 (tgt := 45) (by decide) ?_
                refine r_wk hX (lv1 := [some (.ref (w.2.2 17)), some (.int (iI a)), some (.int (iI x4)), some (.int (iI x116)), none]) ⟨rfl, ⟨rfl, ⟨rfl, ⟨rfl, trivial⟩⟩⟩⟩ ?_
                exact ih45 x116 σ45 (m45.w rfl) (by omega) (by first | exact hk | exact fun b b0 => by rw [s115, if_neg (by omega)]; exact hk b b0) (by first | exact hM.skip (fun q => by have q1 := q.2.1; have q2 := q.2.2; omega) e116 | (rw [s115, if_pos (by omega)]; exact hM.take (by omega) ⟨by omega, by omega, by omega⟩ (by omega) e116)) (by first | exact hb | (rw [s115, if_pos (by omega)]; omega)) (by omega)
              · skip
                have hx1 : σ45 22 (x4 + x68) = σ40 22 (a * 8 + σ 5 p) := by rw [hk _ (by omega)]; exact congrArg (σ40 22) (by omega)
                have hx2 := hrow (σ 5 p) (by omega) (by omega)
                have hx3 := hB (σ 5 p) (by omega) (by omega)
                have hx4 : σ45 22 (x4 + a) = σ45 22 (a * 8 + a) := congrArg (σ45 22) (by omega)
                have hx0 := hM.1
                refine r_aload_n hX dX3_beginRow_81 rfl ?_
                refine fg_X17_24 hX dX3_beginRow_82 ?_
                refine r_iload_n hX dX3_beginRow_85 rfl ?_
                refine r_iload_n hX dX3_beginRow_86 rfl ?_
                refine r_iadd hX dX3_beginRow_87 ?_
                refine r_aload_n hX dX3_beginRow_88 rfl ?_
                refine fg_X17_24 hX dX3_beginRow_89 ?_
                refine r_iload_n hX dX3_beginRow_92 rfl ?_
                refine r_iload_n hX dX3_beginRow_93 rfl ?_
                refine r_iadd hX dX3_beginRow_94 ?_
                refine ld_X22 hX dX3_beginRow_95 (by omega) (by omega) (fun b95l b95u => ?_)
                refine r_aload_n hX dX3_beginRow_96 rfl ?_
                refine fg_X17_24 hX dX3_beginRow_97 ?_
                refine r_iload_n hX dX3_beginRow_100 rfl ?_
                refine r_iload hX dX3_beginRow_101 rfl ?_
                refine r_iadd hX dX3_beginRow_103 ?_
                refine ld_X22 hX dX3_beginRow_104 (by omega) (by omega) (fun b104l b104u => ?_)
                refine r_aload_n hX dX3_beginRow_105 rfl ?_
                refine fg_X17_21 hX dX3_beginRow_106 ?_
                refine r_iload_n hX dX3_beginRow_109 rfl ?_
                refine ld_X21 hX dX3_beginRow_110 (by omega) (by omega) (fun b110l b110u => ?_)
                have q110 : σ45 21 = σ 21 := ((m45.at 21 rfl).trans (m40.at 21 rfl))
                rw [q110]
                rw [q110] at b110l b110u
                refine r_iadd hX dX3_beginRow_111 ?_
                refine r_max hX dX3_beginRow_112 lq_RX3_106 ma_max_s ma_i ma_max_c (Nat.le_of_ble_eq_true rfl) (Nat.le_of_ble_eq_true rfl) (fun z112 h112 => ?_)
                rw [iI_lt (by omega) (by omega)] at h112
                refine st_X22 hX dX3_beginRow_115 (by omega) (by omega) (by omega) (fun σ115 m115 s115 => ?_)
                refine r_iinc hX (fun x116 => [some (.ref (w.2.2 17)), some (.int (iI a)), some (.int (iI x4)), some (.int (iI x116)), some (.int (iI x68))]) dX3_beginRow_116 rfl rfl rfl (fun _ => rfl) (fun x116 e116 => ?_)
                refine r_goto hX dX3_beginRow_119 (tgt := 45) (by decide) ?_
                refine r_wk hX (lv1 := [some (.ref (w.2.2 17)), some (.int (iI a)), some (.int (iI x4)), some (.int (iI x116)), none]) ⟨rfl, ⟨rfl, ⟨rfl, ⟨rfl, trivial⟩⟩⟩⟩ ?_
                exact ih45 x116 σ115 (Mod.tr (L := [22]) m45 m115 rfl rfl) (by omega) (by first | exact hk | exact fun b b0 => by rw [s115, if_neg (by omega)]; exact hk b b0) (by first | exact hM.skip (fun q => by have q1 := q.2.1; have q2 := q.2.2; omega) e116 | (rw [s115, if_pos (by omega)]; exact hM.take (by omega) ⟨by omega, by omega, by omega⟩ (by omega) e116)) (by first | exact hb | (rw [s115, if_pos (by omega)]; omega)) (by omega)
    exact lp45 ((17 - (x44)) + 1).toNat x44 σ40 Mod.rf (by omega) (fun b _ => rfl) (by rw [hz0, e44]; exact IsMax.none (fun s s0 s1 q => by have := q.1; omega)) (by rw [hz0]; omega) (by omega)
  · skip
    refine r_iload_n hX dX3_beginRow_9 rfl ?_
    refine r_bipush hX dX3_beginRow_10 (by decide) ?_
    refine r_icmp_ge hX (tgt := 32) dX3_beginRow_12 (by decide) (by omega) (by omega) (fun c12 => ?_) (fun c12 => ?_)
    · exfalso; omega
    · skip
      refine r_aload_n hX dX3_beginRow_15 rfl ?_
      refine fg_X17_24 hX dX3_beginRow_16 ?_
      refine r_iload_n hX dX3_beginRow_19 rfl ?_
      refine r_bipush hX dX3_beginRow_20 (by decide) ?_
      refine r_isub hX dX3_beginRow_22 ?_
      refine r_aload_n hX dX3_beginRow_23 rfl ?_
      refine fg_X17_24 hX dX3_beginRow_24 ?_
      refine r_iload_n hX dX3_beginRow_27 rfl ?_
      refine r_iload_n hX dX3_beginRow_28 rfl ?_
      refine r_copy hX dX3_beginRow_29 lk_RX3_100 ac_n ac_s ac_i (i := 22) (r := 22) rfl sp_X22 (by omega) (by omega) (by omega) (by omega) (by omega) (Nat.le_of_ble_eq_true rfl) (Nat.le_of_ble_eq_true rfl) (fun σ29 m29 s29 => ?_)
      refine r_aload_n hX dX3_beginRow_32 rfl ?_
      refine fg_X17_24 hX dX3_beginRow_33 ?_
      refine r_iload_n hX dX3_beginRow_36 rfl ?_
      refine r_iload_n hX dX3_beginRow_37 rfl ?_
      refine r_iadd hX dX3_beginRow_38 ?_
      refine r_iconst hX dX3_beginRow_39 ?_
      refine st_X22 hX dX3_beginRow_40 (by omega) (by omega) (by omega) (fun σ40 m40 s40 => ?_)
      have hrow : ∀ l : Int, 0 ≤ l → l < a → σ40 22 (a * 8 + l) = σ 22 ((a - 1) * 8 + l) := by
        first
          | exact fun l l0 l1 => by rw [s40, if_neg (by omega), s29, if_pos (by omega)]; exact congrArg (σ 22) (by omega)
          | exact fun l l0 l1 => by omega
      have hlow : ∀ b : Int, b < a * 8 → σ40 22 b = σ 22 b := by
        first
          | exact fun b b0 => by rw [s40, if_neg (by omega), s29, if_neg (by omega)]
          | exact fun b b0 => by rw [s40, if_neg (by omega)]
      have hz0 : σ40 22 (a * 8 + a) = 0 := by rw [s40, if_pos (by omega)]
      refine r_iconst hX dX3_beginRow_41 ?_
      refine r_iload_n hX dX3_beginRow_42 rfl ?_
      refine r_imul hX dX3_beginRow_43 ?_
      refine r_istore_n hX (fun x44 => [some (.ref (w.2.2 17)), some (.int (iI a)), some (.int (iI x4)), some (.int (iI x44)), none]) dX3_beginRow_44 (Nat.le_of_ble_eq_true rfl) rfl rfl (fun _ => rfl) (fun x44 e44 => ?_)
      have lp45 : ∀ (n : Nat) (p : Int) (σ45 : MM) (m45 : Mod [22] σ40 σ45) (hp : 2 * a ≤ p ∧ p ≤ 2 * a + 2) (hk : ∀ b : Int, b ≠ a * 8 + a → σ45 22 b = σ40 22 b) (hM : IsMax (fun s => 2 * a ≤ s ∧ 0 ≤ σ 5 s ∧ σ 5 s < a) (fun s => σ40 22 (a * 8 + σ 5 s) + σ 21 s) p 0 (σ45 22 (a * 8 + a))) (hb : σ45 22 (a * 8 + a) ≤ 160000 * a + 1100) (hmu : 17 - p < (n : Int)), G 45 [some (.ref (w.2.2 17)), some (.int (iI a)), some (.int (iI x4)), some (.int (iI p)), none] [] σ45 := by
        intro n
        induction n with
        | zero => intro p σ45 m45 hp hk hM hb hmu; omega
        | succ n ih =>
          intro p σ45 m45 hp hk hM hb hmu
          have ih45 := ih
          clear ih
          refine r_iload_n hX dX3_beginRow_45 rfl ?_
          refine r_iconst hX dX3_beginRow_46 ?_
          refine r_iload_n hX dX3_beginRow_47 rfl ?_
          refine r_imul hX dX3_beginRow_48 ?_
          refine r_iconst hX dX3_beginRow_49 ?_
          refine r_iadd hX dX3_beginRow_50 ?_
          refine r_icmp_ge hX (tgt := 122) dX3_beginRow_51 (by decide) (by omega) (by omega) (fun c51 => ?_) (fun c51 => ?_)
          · skip
            exact r_ret hX dX3_beginRow_122 rfl ⟨rfl, ⟨(Mod.tr (L := [22]) (Mod.tr (L := [22]) m29 m40 rfl rfl) m45 rfl rfl), (by intro b b0; rw [hk b (by omega)]; exact hlow b b0), (by exact row0_fin ha.1 hL hrow hk hM (by omega)), (fun l l0 l1 => by
    by_cases e : l = a
    · rw [e]; exact hb
    · rw [hk _ (by omega), hrow l l0 (by omega)]; have := hB l l0 (by omega); omega)⟩⟩
          · skip
            refine r_iload_n hX dX3_beginRow_54 rfl ?_
            refine r_bipush hX dX3_beginRow_55 (by decide) ?_
            refine r_icmp_ge hX (tgt := 122) dX3_beginRow_57 (by decide) (by omega) (by omega) (fun c57 => ?_) (fun c57 => ?_)
            · skip
              exact r_ret hX dX3_beginRow_122 rfl ⟨rfl, ⟨(Mod.tr (L := [22]) (Mod.tr (L := [22]) m29 m40 rfl rfl) m45 rfl rfl), (by intro b b0; rw [hk b (by omega)]; exact hlow b b0), (by exact row0_fin ha.1 hL hrow hk hM (by omega)), (fun l l0 l1 => by
    by_cases e : l = a
    · rw [e]; exact hb
    · rw [hk _ (by omega), hrow l l0 (by omega)]; have := hB l l0 (by omega); omega)⟩⟩
            · skip
              refine r_aload_n hX dX3_beginRow_60 rfl ?_
              refine fg_X17_27 hX dX3_beginRow_61 ?_
              refine r_iload_n hX dX3_beginRow_64 rfl ?_
              refine r_callV hX dX3_beginRow_65 (k_Lp_sourceOf l w σ45 _ (by omega)) mf_X2_sourceOf mv_X2_sourceOf lk_RX3_80 rfl rfl rfl rfl rfl ⟨Nat.le_of_ble_eq_true rfl, Nat.le_of_ble_eq_true rfl⟩ (Nat.le_of_ble_eq_true rfl) (kI fun z65 σ65 hh => ?_)
              obtain ⟨rfl, h65_0, h65_1⟩ := hh
              have q65_3 : σ45 5 = σ 5 := ((m45.at 5 rfl).trans ((m40.at 5 rfl).trans (m29.at 5 rfl)))
              have q65_4 : σ45 53 = σ 53 := ((m45.at 53 rfl).trans ((m40.at 53 rfl).trans (m29.at 53 rfl)))
              try simp only [q65_3, q65_4] at h65_0
              refine r_istore hX (fun x68 => [some (.ref (w.2.2 17)), some (.int (iI a)), some (.int (iI x4)), some (.int (iI p)), some (.int (iI x68))]) dX3_beginRow_68 (Nat.le_of_ble_eq_true rfl) rfl rfl (fun _ => rfl) (fun x68 e68 => ?_)
              refine r_iload hX dX3_beginRow_70 rfl ?_
              refine r_if_lt hX (tgt := 116) dX3_beginRow_72 (by decide) (by omega) (fun c72 => ?_) (fun c72 => ?_)
              · skip
                refine r_iinc hX (fun x116 => [some (.ref (w.2.2 17)), some (.int (iI a)), some (.int (iI x4)), some (.int (iI x116)), some (.int (iI x68))]) dX3_beginRow_116 rfl rfl rfl (fun _ => rfl) (fun x116 e116 => ?_)
                refine r_goto hX dX3_beginRow_119 (tgt := 45) (by decide) ?_
                refine r_wk hX (lv1 := [some (.ref (w.2.2 17)), some (.int (iI a)), some (.int (iI x4)), some (.int (iI x116)), none]) ⟨rfl, ⟨rfl, ⟨rfl, ⟨rfl, trivial⟩⟩⟩⟩ ?_
                exact ih45 x116 σ45 (m45.w rfl) (by omega) (by first | exact hk | exact fun b b0 => by rw [s115, if_neg (by omega)]; exact hk b b0) (by first | exact hM.skip (fun q => by have q1 := q.2.1; have q2 := q.2.2; omega) e116 | (rw [s115, if_pos (by omega)]; exact hM.take (by omega) ⟨by omega, by omega, by omega⟩ (by omega) e116)) (by first | exact hb | (rw [s115, if_pos (by omega)]; omega)) (by omega)
              · skip
                refine r_iload hX dX3_beginRow_75 rfl ?_
                refine r_iload_n hX dX3_beginRow_77 rfl ?_
                refine r_icmp_ge hX (tgt := 116) dX3_beginRow_78 (by decide) (by omega) (by omega) (fun c78 => ?_) (fun c78 => ?_)
                · skip
                  refine r_iinc hX (fun x116 => [some (.ref (w.2.2 17)), some (.int (iI a)), some (.int (iI x4)), some (.int (iI x116)), some (.int (iI x68))]) dX3_beginRow_116 rfl rfl rfl (fun _ => rfl) (fun x116 e116 => ?_)
                  refine r_goto hX dX3_beginRow_119 (tgt := 45) (by decide) ?_
                  refine r_wk hX (lv1 := [some (.ref (w.2.2 17)), some (.int (iI a)), some (.int (iI x4)), some (.int (iI x116)), none]) ⟨rfl, ⟨rfl, ⟨rfl, ⟨rfl, trivial⟩⟩⟩⟩ ?_
                  exact ih45 x116 σ45 (m45.w rfl) (by omega) (by first | exact hk | exact fun b b0 => by rw [s115, if_neg (by omega)]; exact hk b b0) (by first | exact hM.skip (fun q => by have q1 := q.2.1; have q2 := q.2.2; omega) e116 | (rw [s115, if_pos (by omega)]; exact hM.take (by omega) ⟨by omega, by omega, by omega⟩ (by omega) e116)) (by first | exact hb | (rw [s115, if_pos (by omega)]; omega)) (by omega)
                · skip
                  have hx1 : σ45 22 (x4 + x68) = σ40 22 (a * 8 + σ 5 p) := by rw [hk _ (by omega)]; exact congrArg (σ40 22) (by omega)
                  have hx2 := hrow (σ 5 p) (by omega) (by omega)
                  have hx3 := hB (σ 5 p) (by omega) (by omega)
                  have hx4 : σ45 22 (x4 + a) = σ45 22 (a * 8 + a) := congrArg (σ45 22) (by omega)
                  have hx0 := hM.1
                  refine r_aload_n hX dX3_beginRow_81 rfl ?_
                  refine fg_X17_24 hX dX3_beginRow_82 ?_
                  refine r_iload_n hX dX3_beginRow_85 rfl ?_
                  refine r_iload_n hX dX3_beginRow_86 rfl ?_
                  refine r_iadd hX dX3_beginRow_87 ?_
                  refine r_aload_n hX dX3_beginRow_88 rfl ?_
                  refine fg_X17_24 hX dX3_beginRow_89 ?_
                  refine r_iload_n hX dX3_beginRow_92 rfl ?_
                  refine r_iload_n hX dX3_beginRow_93 rfl ?_
                  refine r_iadd hX dX3_beginRow_94 ?_
                  refine ld_X22 hX dX3_beginRow_95 (by omega) (by omega) (fun b95l b95u => ?_)
                  refine r_aload_n hX dX3_beginRow_96 rfl ?_
                  refine fg_X17_24 hX dX3_beginRow_97 ?_
                  refine r_iload_n hX dX3_beginRow_100 rfl ?_
                  refine r_iload hX dX3_beginRow_101 rfl ?_
                  refine r_iadd hX dX3_beginRow_103 ?_
                  refine ld_X22 hX dX3_beginRow_104 (by omega) (by omega) (fun b104l b104u => ?_)
                  refine r_aload_n hX dX3_beginRow_105 rfl ?_
                  refine fg_X17_21 hX dX3_beginRow_106 ?_
                  refine r_iload_n hX dX3_beginRow_109 rfl ?_
                  refine ld_X21 hX dX3_beginRow_110 (by omega) (by omega) (fun b110l b110u => ?_)
                  have q110 : σ45 21 = σ 21 := ((m45.at 21 rfl).trans ((m40.at 21 rfl).trans (m29.at 21 rfl)))
                  rw [q110]
                  rw [q110] at b110l b110u
                  refine r_iadd hX dX3_beginRow_111 ?_
                  refine r_max hX dX3_beginRow_112 lq_RX3_106 ma_max_s ma_i ma_max_c (Nat.le_of_ble_eq_true rfl) (Nat.le_of_ble_eq_true rfl) (fun z112 h112 => ?_)
                  rw [iI_lt (by omega) (by omega)] at h112
                  refine st_X22 hX dX3_beginRow_115 (by omega) (by omega) (by omega) (fun σ115 m115 s115 => ?_)
                  refine r_iinc hX (fun x116 => [some (.ref (w.2.2 17)), some (.int (iI a)), some (.int (iI x4)), some (.int (iI x116)), some (.int (iI x68))]) dX3_beginRow_116 rfl rfl rfl (fun _ => rfl) (fun x116 e116 => ?_)
                  refine r_goto hX dX3_beginRow_119 (tgt := 45) (by decide) ?_
                  refine r_wk hX (lv1 := [some (.ref (w.2.2 17)), some (.int (iI a)), some (.int (iI x4)), some (.int (iI x116)), none]) ⟨rfl, ⟨rfl, ⟨rfl, ⟨rfl, trivial⟩⟩⟩⟩ ?_
                  exact ih45 x116 σ115 (Mod.tr (L := [22]) m45 m115 rfl rfl) (by omega) (by first | exact hk | exact fun b b0 => by rw [s115, if_neg (by omega)]; exact hk b b0) (by first | exact hM.skip (fun q => by have q1 := q.2.1; have q2 := q.2.2; omega) e116 | (rw [s115, if_pos (by omega)]; exact hM.take (by omega) ⟨by omega, by omega, by omega⟩ (by omega) e116)) (by first | exact hb | (rw [s115, if_pos (by omega)]; omega)) (by omega)
      exact lp45 ((17 - (x44)) + 1).toNat x44 σ40 Mod.rf (by omega) (fun b _ => rfl) (by rw [hz0, e44]; exact IsMax.none (fun s s0 s1 q => by have := q.1; omega)) (by rw [hz0]; omega) (by omega)
theorem dX3_turnsSettle_0 : decode cX3_turnsSettle 0 = .ok (.iload_n 1, 1) := by decide +kernel
theorem dX3_turnsSettle_1 : decode cX3_turnsSettle 1 = .ok (.bipush 8, 2) := by decide +kernel
theorem dX3_turnsSettle_3 : decode cX3_turnsSettle 3 = .ok (.imul, 1) := by decide +kernel
theorem dX3_turnsSettle_4 : decode cX3_turnsSettle 4 = .ok (.istore_n 2, 1) := by decide +kernel
theorem dX3_turnsSettle_5 : decode cX3_turnsSettle 5 = .ok (.aload_n 0, 1) := by decide +kernel
theorem dX3_turnsSettle_6 : decode cX3_turnsSettle 6 = .ok (.iload_n 1, 1) := by decide +kernel
theorem dX3_turnsSettle_7 : decode cX3_turnsSettle 7 = .ok (.invokevirtual 96, 3) := by decide +kernel
theorem dX3_turnsSettle_10 : decode cX3_turnsSettle 10 = .ok (.iconst 0, 1) := by decide +kernel
theorem dX3_turnsSettle_11 : decode cX3_turnsSettle 11 = .ok (.istore_n 3, 1) := by decide +kernel
theorem dX3_turnsSettle_12 : decode cX3_turnsSettle 12 = .ok (.iload_n 3, 1) := by decide +kernel
theorem dX3_turnsSettle_13 : decode cX3_turnsSettle 13 = .ok (.iload_n 1, 1) := by decide +kernel
theorem dX3_turnsSettle_14 : decode cX3_turnsSettle 14 = .ok (.iconst 1, 1) := by decide +kernel
theorem dX3_turnsSettle_15 : decode cX3_turnsSettle 15 = .ok (.iadd, 1) := by decide +kernel
theorem dX3_turnsSettle_16 : decode cX3_turnsSettle 16 = .ok (.if_icmp .gt 139, 3) := by decide +kernel
theorem dX3_turnsSettle_19 : decode cX3_turnsSettle 19 = .ok (.iconst 0, 1) := by decide +kernel
theorem dX3_turnsSettle_20 : decode cX3_turnsSettle 20 = .ok (.istore 4, 2) := by decide +kernel
theorem dX3_turnsSettle_22 : decode cX3_turnsSettle 22 = .ok (.iconst 0, 1) := by decide +kernel
theorem dX3_turnsSettle_23 : decode cX3_turnsSettle 23 = .ok (.istore 5, 2) := by decide +kernel
theorem dX3_turnsSettle_25 : decode cX3_turnsSettle 25 = .ok (.iload 5, 2) := by decide +kernel
theorem dX3_turnsSettle_27 : decode cX3_turnsSettle 27 = .ok (.iconst 2, 1) := by decide +kernel
theorem dX3_turnsSettle_28 : decode cX3_turnsSettle 28 = .ok (.iload_n 1, 1) := by decide +kernel
theorem dX3_turnsSettle_29 : decode cX3_turnsSettle 29 = .ok (.imul, 1) := by decide +kernel
theorem dX3_turnsSettle_30 : decode cX3_turnsSettle 30 = .ok (.iconst 2, 1) := by decide +kernel
theorem dX3_turnsSettle_31 : decode cX3_turnsSettle 31 = .ok (.iadd, 1) := by decide +kernel
theorem dX3_turnsSettle_32 : decode cX3_turnsSettle 32 = .ok (.if_icmp .ge 110, 3) := by decide +kernel
theorem dX3_turnsSettle_35 : decode cX3_turnsSettle 35 = .ok (.iload 5, 2) := by decide +kernel
theorem dX3_turnsSettle_37 : decode cX3_turnsSettle 37 = .ok (.bipush 16, 2) := by decide +kernel
theorem dX3_turnsSettle_39 : decode cX3_turnsSettle 39 = .ok (.if_icmp .ge 103, 3) := by decide +kernel
theorem dX3_turnsSettle_42 : decode cX3_turnsSettle 42 = .ok (.aload_n 0, 1) := by decide +kernel
theorem dX3_turnsSettle_43 : decode cX3_turnsSettle 43 = .ok (.getfield 27, 3) := by decide +kernel
theorem dX3_turnsSettle_46 : decode cX3_turnsSettle 46 = .ok (.iload 5, 2) := by decide +kernel
theorem dX3_turnsSettle_48 : decode cX3_turnsSettle 48 = .ok (.invokevirtual 80, 3) := by decide +kernel
theorem dX3_turnsSettle_51 : decode cX3_turnsSettle 51 = .ok (.istore 6, 2) := by decide +kernel
theorem dX3_turnsSettle_53 : decode cX3_turnsSettle 53 = .ok (.iload 5, 2) := by decide +kernel
theorem dX3_turnsSettle_55 : decode cX3_turnsSettle 55 = .ok (.iconst 2, 1) := by decide +kernel
theorem dX3_turnsSettle_56 : decode cX3_turnsSettle 56 = .ok (.idiv, 1) := by decide +kernel
theorem dX3_turnsSettle_57 : decode cX3_turnsSettle 57 = .ok (.istore 7, 2) := by decide +kernel
theorem dX3_turnsSettle_59 : decode cX3_turnsSettle 59 = .ok (.iload 6, 2) := by decide +kernel
theorem dX3_turnsSettle_61 : decode cX3_turnsSettle 61 = .ok (.ifCond .lt 75, 3) := by decide +kernel
theorem dX3_turnsSettle_64 : decode cX3_turnsSettle 64 = .ok (.iload 6, 2) := by decide +kernel
theorem dX3_turnsSettle_66 : decode cX3_turnsSettle 66 = .ok (.iload_n 1, 1) := by decide +kernel
theorem dX3_turnsSettle_67 : decode cX3_turnsSettle 67 = .ok (.if_icmp .gt 69, 3) := by decide +kernel
theorem dX3_turnsSettle_70 : decode cX3_turnsSettle 70 = .ok (.aload_n 0, 1) := by decide +kernel
theorem dX3_turnsSettle_71 : decode cX3_turnsSettle 71 = .ok (.getfield 24, 3) := by decide +kernel
theorem dX3_turnsSettle_74 : decode cX3_turnsSettle 74 = .ok (.iload_n 2, 1) := by decide +kernel
theorem dX3_turnsSettle_75 : decode cX3_turnsSettle 75 = .ok (.iload 6, 2) := by decide +kernel
theorem dX3_turnsSettle_77 : decode cX3_turnsSettle 77 = .ok (.iadd, 1) := by decide +kernel
theorem dX3_turnsSettle_78 : decode cX3_turnsSettle 78 = .ok (.iaload, 1) := by decide +kernel
theorem dX3_turnsSettle_79 : decode cX3_turnsSettle 79 = .ok (.aload_n 0, 1) := by decide +kernel
theorem dX3_turnsSettle_80 : decode cX3_turnsSettle 80 = .ok (.getfield 21, 3) := by decide +kernel
theorem dX3_turnsSettle_83 : decode cX3_turnsSettle 83 = .ok (.iload 5, 2) := by decide +kernel
theorem dX3_turnsSettle_85 : decode cX3_turnsSettle 85 = .ok (.iaload, 1) := by decide +kernel
theorem dX3_turnsSettle_86 : decode cX3_turnsSettle 86 = .ok (.iadd, 1) := by decide +kernel
theorem dX3_turnsSettle_87 : decode cX3_turnsSettle 87 = .ok (.aload_n 0, 1) := by decide +kernel
theorem dX3_turnsSettle_88 : decode cX3_turnsSettle 88 = .ok (.getfield 24, 3) := by decide +kernel
theorem dX3_turnsSettle_91 : decode cX3_turnsSettle 91 = .ok (.iload_n 2, 1) := by decide +kernel
theorem dX3_turnsSettle_92 : decode cX3_turnsSettle 92 = .ok (.iload 7, 2) := by decide +kernel
theorem dX3_turnsSettle_94 : decode cX3_turnsSettle 94 = .ok (.iadd, 1) := by decide +kernel
theorem dX3_turnsSettle_95 : decode cX3_turnsSettle 95 = .ok (.iaload, 1) := by decide +kernel
theorem dX3_turnsSettle_96 : decode cX3_turnsSettle 96 = .ok (.if_icmp .le 40, 3) := by decide +kernel
theorem dX3_turnsSettle_99 : decode cX3_turnsSettle 99 = .ok (.iload 7, 2) := by decide +kernel
theorem dX3_turnsSettle_101 : decode cX3_turnsSettle 101 = .ok (.iload_n 1, 1) := by decide +kernel
theorem dX3_turnsSettle_102 : decode cX3_turnsSettle 102 = .ok (.if_icmp .ne 5, 3) := by decide +kernel
theorem dX3_turnsSettle_105 : decode cX3_turnsSettle 105 = .ok (.iconst 0, 1) := by decide +kernel
theorem dX3_turnsSettle_106 : decode cX3_turnsSettle 106 = .ok (.ireturn, 1) := by decide +kernel
theorem dX3_turnsSettle_107 : decode cX3_turnsSettle 107 = .ok (.aload_n 0, 1) := by decide +kernel
theorem dX3_turnsSettle_108 : decode cX3_turnsSettle 108 = .ok (.getfield 24, 3) := by decide +kernel
theorem dX3_turnsSettle_111 : decode cX3_turnsSettle 111 = .ok (.iload_n 2, 1) := by decide +kernel
theorem dX3_turnsSettle_112 : decode cX3_turnsSettle 112 = .ok (.iload 7, 2) := by decide +kernel
theorem dX3_turnsSettle_114 : decode cX3_turnsSettle 114 = .ok (.iadd, 1) := by decide +kernel
theorem dX3_turnsSettle_115 : decode cX3_turnsSettle 115 = .ok (.aload_n 0, 1) := by decide +kernel
theorem dX3_turnsSettle_116 : decode cX3_turnsSettle 116 = .ok (.getfield 24, 3) := by decide +kernel
theorem dX3_turnsSettle_119 : decode cX3_turnsSettle 119 = .ok (.iload_n 2, 1) := by decide +kernel
theorem dX3_turnsSettle_120 : decode cX3_turnsSettle 120 = .ok (.iload 6, 2) := by decide +kernel
theorem dX3_turnsSettle_122 : decode cX3_turnsSettle 122 = .ok (.iadd, 1) := by decide +kernel
theorem dX3_turnsSettle_123 : decode cX3_turnsSettle 123 = .ok (.iaload, 1) := by decide +kernel
theorem dX3_turnsSettle_124 : decode cX3_turnsSettle 124 = .ok (.aload_n 0, 1) := by decide +kernel
theorem dX3_turnsSettle_125 : decode cX3_turnsSettle 125 = .ok (.getfield 21, 3) := by decide +kernel
theorem dX3_turnsSettle_128 : decode cX3_turnsSettle 128 = .ok (.iload 5, 2) := by decide +kernel
theorem dX3_turnsSettle_130 : decode cX3_turnsSettle 130 = .ok (.iaload, 1) := by decide +kernel
theorem dX3_turnsSettle_131 : decode cX3_turnsSettle 131 = .ok (.iadd, 1) := by decide +kernel
theorem dX3_turnsSettle_132 : decode cX3_turnsSettle 132 = .ok (.iastore, 1) := by decide +kernel
theorem dX3_turnsSettle_133 : decode cX3_turnsSettle 133 = .ok (.iconst 1, 1) := by decide +kernel
theorem dX3_turnsSettle_134 : decode cX3_turnsSettle 134 = .ok (.istore 4, 2) := by decide +kernel
theorem dX3_turnsSettle_136 : decode cX3_turnsSettle 136 = .ok (.iinc 5 1, 3) := by decide +kernel
theorem dX3_turnsSettle_139 : decode cX3_turnsSettle 139 = .ok (.goto (-114), 3) := by decide +kernel
theorem dX3_turnsSettle_142 : decode cX3_turnsSettle 142 = .ok (.iload 4, 2) := by decide +kernel
theorem dX3_turnsSettle_144 : decode cX3_turnsSettle 144 = .ok (.ifCond .ne 5, 3) := by decide +kernel
theorem dX3_turnsSettle_147 : decode cX3_turnsSettle 147 = .ok (.iconst 1, 1) := by decide +kernel
theorem dX3_turnsSettle_148 : decode cX3_turnsSettle 148 = .ok (.ireturn, 1) := by decide +kernel
theorem dX3_turnsSettle_149 : decode cX3_turnsSettle 149 = .ok (.iinc 3 1, 3) := by decide +kernel
theorem dX3_turnsSettle_152 : decode cX3_turnsSettle 152 = .ok (.goto (-140), 3) := by decide +kernel
theorem dX3_turnsSettle_155 : decode cX3_turnsSettle 155 = .ok (.iconst 0, 1) := by decide +kernel
theorem dX3_turnsSettle_156 : decode cX3_turnsSettle 156 = .ok (.ireturn, 1) := by decide +kernel
set_option maxRecDepth 20000 in
set_option maxHeartbeats 4000000 in
theorem k_Sr_turnsSettle (l : Launch) (w : WT) (σ : MM) (a : Int) (i_a : inr a) (ha : 0 ≤ a ∧ a < σ 53 0) (hL : 0 < a → LeastS (σ 5) (σ 21) (a - 1) (fun l => σ 22 ((a - 1) * 8 + l))) (hB : ∀ l : Int, 0 ≤ l → l < a → σ 22 ((a - 1) * 8 + l) ≤ 160000 * a) : CT SX l w yX3_turnsSettle cX3_turnsSettle 8 (some .boolean) 3 66 [.ref (w.2.2 17), .int (iI a)] σ (PI fun z σ1 => Mod [22] σ σ1 ∧ (∀ b : Int, b < a * 8 → σ1 22 b = σ 22 b) ∧ ((z = 1 ∧ LeastS (σ 5) (σ 21) a (fun l => σ1 22 (a * 8 + l)) ∧ ∀ l : Int, 0 ≤ l → l ≤ a → σ1 22 (a * 8 + l) ≤ 160000 * (a + 1)) ∨ (z = 0 ∧ ¬ FeasS (σ 5) (σ 21) a))) := by
  refine CT.of 6 [some (.ref (w.2.2 17)), some (.int (iI a)), none, none, none, none, none, none] (by decide +kernel) (by simp [lg_sl, Value.category]) rfl sh_X (fun G hX => ?_)
  refine r_bd hX (fun hBd => ?_)
  have b_53 := hBd 53 0 8 rfl 0
  refine r_iload_n hX dX3_turnsSettle_0 rfl ?_
  refine r_bipush hX dX3_turnsSettle_1 (by decide) ?_
  refine r_imul hX dX3_turnsSettle_3 ?_
  refine r_istore_n hX (fun x4 => [some (.ref (w.2.2 17)), some (.int (iI a)), some (.int (iI x4)), none, none, none, none, none]) dX3_turnsSettle_4 (Nat.le_of_ble_eq_true rfl) rfl rfl (fun _ => rfl) (fun x4 e4 => ?_)
  refine r_aload_n hX dX3_turnsSettle_5 rfl ?_
  refine r_iload_n hX dX3_turnsSettle_6 rfl ?_
  refine r_callV hX dX3_turnsSettle_7 (k_Sr_beginRow l w σ _ (by omega) (by omega) (by skip; exact hL) (by skip; exact hB)) mf_X3_beginRow mv_X3_beginRow lk_RX3_96 rfl rfl rfl rfl rfl ⟨Nat.le_of_ble_eq_true rfl, Nat.le_of_ble_eq_true rfl⟩ (Nat.le_of_ble_eq_true rfl) (kV fun σ7 hh => ?_)
  obtain ⟨m7, h7_0, h7_1, h7_2⟩ := hh
  refine r_iconst hX dX3_turnsSettle_10 ?_
  refine r_istore_n hX (fun x11 => [some (.ref (w.2.2 17)), some (.int (iI a)), some (.int (iI x4)), some (.int (iI x11)), none, none, none, none]) dX3_turnsSettle_11 (Nat.le_of_ble_eq_true rfl) rfl rfl (fun _ => rfl) (fun x11 e11 => ?_)
  have lp12 : ∀ (n : Nat) (pass : Int) (σ12 : MM) (m12 : Mod [22] σ7 σ12) (hp : 0 ≤ pass ∧ pass ≤ a + 2) (hO : Outer (a + 1) (2 * (a + 1)) (enS (σ 5) a) (σ 5) (σ 21) (fun l => σ7 22 (a * 8 + l)) pass (fun l => σ12 22 (a * 8 + l))) (hk : ∀ b : Int, b < a * 8 → σ12 22 b = σ7 22 b) (hta : σ12 22 (a * 8 + a) = σ7 22 (a * 8 + a)) (hb : ∀ l : Int, 0 ≤ l → l ≤ a → σ12 22 (a * 8 + l) ≤ 160000 * a + 1100 + 17600 * pass) (hmu : 11 - pass < (n : Int)), G 12 [some (.ref (w.2.2 17)), some (.int (iI a)), some (.int (iI x4)), some (.int (iI pass)), none, none, none, none] [] σ12 := by
    intro n
    induction n with
    | zero => intro pass σ12 m12 hp hO hk hta hb hmu; omega
    | succ n ih =>
      intro pass σ12 m12 hp hO hk hta hb hmu
      have ih12 := ih
      clear ih
      refine r_iload_n hX dX3_turnsSettle_12 rfl ?_
      refine r_iload_n hX dX3_turnsSettle_13 rfl ?_
      refine r_iconst hX dX3_turnsSettle_14 ?_
      refine r_iadd hX dX3_turnsSettle_15 ?_
      refine r_icmp_gt hX (tgt := 155) dX3_turnsSettle_16 (by decide) (by omega) (by omega) (fun c16 => ?_) (fun c16 => ?_)
      · skip
        refine r_iconst hX dX3_turnsSettle_155 ?_
        exact r_zret hX dX3_turnsSettle_156 rfl (by omega) ⟨_, rfl, ⟨(Mod.tr (L := [22]) m7 m12 rfl rfl), (by first | exact fun b b0 => (hk2 b b0).trans ((hk b b0).trans (h7_0 b b0)) | exact fun b b0 => (hk b b0).trans (h7_0 b b0)), (by exact Or.inr ⟨rfl, h7_1.no ha.1 hO (by omega)⟩)⟩⟩
      · skip
        refine r_iconst hX dX3_turnsSettle_19 ?_
        refine r_istore hX (fun x20 => [some (.ref (w.2.2 17)), some (.int (iI a)), some (.int (iI x4)), some (.int (iI pass)), some (.int (iI x20)), none, none, none]) dX3_turnsSettle_20 (Nat.le_of_ble_eq_true rfl) rfl rfl (fun _ => rfl) (fun x20 e20 => ?_)
        refine r_iconst hX dX3_turnsSettle_22 ?_
        refine r_istore hX (fun x23 => [some (.ref (w.2.2 17)), some (.int (iI a)), some (.int (iI x4)), some (.int (iI pass)), some (.int (iI x20)), some (.int (iI x23)), none, none]) dX3_turnsSettle_23 (Nat.le_of_ble_eq_true rfl) rfl rfl (fun _ => rfl) (fun x23 e23 => ?_)
        have lp25 : ∀ (n : Nat) (rose : Int) (s : Int) (σ25 : MM) (m25 : Mod [22] σ12 σ25) (hs : 0 ≤ s ∧ s ≤ 2 * a + 2) (hr : rose = 0 ∨ rose = 1) (hP : PassI (a + 1) (2 * (a + 1)) (enS (σ 5) a) (σ 5) (σ 21) (fun l => σ12 22 (a * 8 + l)) s (fun l => σ25 22 (a * 8 + l)) rose) (hk2 : ∀ b : Int, b < a * 8 → σ25 22 b = σ12 22 b) (hta2 : σ25 22 (a * 8 + a) = σ12 22 (a * 8 + a)) (hb2 : ∀ l : Int, 0 ≤ l → l ≤ a → σ25 22 (a * 8 + l) ≤ 160000 * a + 1100 + 17600 * pass + 1100 * s) (hmu : 17 - s < (n : Int)), G 25 [some (.ref (w.2.2 17)), some (.int (iI a)), some (.int (iI x4)), some (.int (iI pass)), some (.int (iI rose)), some (.int (iI s)), none, none] [] σ25 := by
          intro n
          induction n with
          | zero => intro rose s σ25 m25 hs hr hP hk2 hta2 hb2 hmu; omega
          | succ n ih =>
            intro rose s σ25 m25 hs hr hP hk2 hta2 hb2 hmu
            have ih25 := ih
            clear ih
            refine r_iload hX dX3_turnsSettle_25 rfl ?_
            refine r_iconst hX dX3_turnsSettle_27 ?_
            refine r_iload_n hX dX3_turnsSettle_28 rfl ?_
            refine r_imul hX dX3_turnsSettle_29 ?_
            refine r_iconst hX dX3_turnsSettle_30 ?_
            refine r_iadd hX dX3_turnsSettle_31 ?_
            refine r_icmp_ge hX (tgt := 142) dX3_turnsSettle_32 (by decide) (by omega) (by omega) (fun c32 => ?_) (fun c32 => ?_)
            · skip
              refine r_iload hX dX3_turnsSettle_142 rfl ?_
              refine r_if_ne hX (tgt := 149) dX3_turnsSettle_144 (by decide) (by omega) (fun c144 => ?_) (fun c144 => ?_)
              · skip
                refine r_iinc hX (fun x149 => [some (.ref (w.2.2 17)), some (.int (iI a)), some (.int (iI x4)), some (.int (iI x149)), some (.int (iI rose)), some (.int (iI s)), none, none]) dX3_turnsSettle_149 rfl rfl rfl (fun _ => rfl) (fun x149 e149 => ?_)
                refine r_goto hX dX3_turnsSettle_152 (tgt := 12) (by decide) ?_
                refine r_wk hX (lv1 := [some (.ref (w.2.2 17)), some (.int (iI a)), some (.int (iI x4)), some (.int (iI x149)), none, none, none, none]) ⟨rfl, ⟨rfl, ⟨rfl, ⟨rfl, trivial⟩⟩⟩⟩ ?_
                exact ih12 x149 σ25 (Mod.tr (L := [22]) m12 m25 rfl rfl) (by omega) (by rw [e149]; exact hO.next wf_S hP (by omega) (by omega)) (fun b b0 => (hk2 b b0).trans (hk b b0)) (hta2.trans hta) (fun l l0 l1 => by have := hb2 l l0 l1; omega) (by omega)
              · skip
                refine r_iconst hX dX3_turnsSettle_147 ?_
                exact r_zret hX dX3_turnsSettle_148 rfl (by omega) ⟨_, rfl, ⟨(Mod.tr (L := [22]) (Mod.tr (L := [22]) m7 m12 rfl rfl) m25 rfl rfl), (by first | exact fun b b0 => (hk2 b b0).trans ((hk b b0).trans (h7_0 b b0)) | exact fun b b0 => (hk b b0).trans (h7_0 b b0)), (by exact Or.inl ⟨rfl, h7_1.yes ha.1 hO (cf_z hP (by omega)) (by omega), fun l l0 l1 => by have := hb2 l l0 l1; omega⟩)⟩⟩
            · skip
              refine r_iload hX dX3_turnsSettle_35 rfl ?_
              refine r_bipush hX dX3_turnsSettle_37 (by decide) ?_
              refine r_icmp_ge hX (tgt := 142) dX3_turnsSettle_39 (by decide) (by omega) (by omega) (fun c39 => ?_) (fun c39 => ?_)
              · exfalso; omega
              · skip
                refine r_aload_n hX dX3_turnsSettle_42 rfl ?_
                refine fg_X17_27 hX dX3_turnsSettle_43 ?_
                refine r_iload hX dX3_turnsSettle_46 rfl ?_
                refine r_callV hX dX3_turnsSettle_48 (k_Lp_sourceOf l w σ25 _ (by omega)) mf_X2_sourceOf mv_X2_sourceOf lk_RX3_80 rfl rfl rfl rfl rfl ⟨Nat.le_of_ble_eq_true rfl, Nat.le_of_ble_eq_true rfl⟩ (Nat.le_of_ble_eq_true rfl) (kI fun z48 σ48 hh => ?_)
                obtain ⟨rfl, h48_0, h48_1⟩ := hh
                have q48_1 : σ25 5 = σ 5 := ((m25.at 5 rfl).trans ((m12.at 5 rfl).trans (m7.at 5 rfl)))
                have q48_2 : σ25 53 = σ 53 := ((m25.at 53 rfl).trans ((m12.at 53 rfl).trans (m7.at 53 rfl)))
                try simp only [q48_1, q48_2] at h48_0
                refine r_istore hX (fun x51 => [some (.ref (w.2.2 17)), some (.int (iI a)), some (.int (iI x4)), some (.int (iI pass)), some (.int (iI rose)), some (.int (iI s)), some (.int (iI x51)), none]) dX3_turnsSettle_51 (Nat.le_of_ble_eq_true rfl) rfl rfl (fun _ => rfl) (fun x51 e51 => ?_)
                refine r_iload hX dX3_turnsSettle_53 rfl ?_
                refine r_iconst hX dX3_turnsSettle_55 ?_
                refine r_idiv hX dX3_turnsSettle_56 (by omega) (by omega) (by omega) (by omega) ?_
                refine r_istore hX (fun x57 => [some (.ref (w.2.2 17)), some (.int (iI a)), some (.int (iI x4)), some (.int (iI pass)), some (.int (iI rose)), some (.int (iI s)), some (.int (iI x51)), some (.int (iI x57))]) dX3_turnsSettle_57 (Nat.le_of_ble_eq_true rfl) rfl rfl (fun _ => rfl) (fun x57 e57 => ?_)
                refine r_iload hX dX3_turnsSettle_59 rfl ?_
                refine r_if_lt hX (tgt := 136) dX3_turnsSettle_61 (by decide) (by omega) (fun c61 => ?_) (fun c61 => ?_)
                · skip
                  refine r_iinc hX (fun x136 => [some (.ref (w.2.2 17)), some (.int (iI a)), some (.int (iI x4)), some (.int (iI pass)), some (.int (iI rose)), some (.int (iI x136)), some (.int (iI x51)), some (.int (iI x57))]) dX3_turnsSettle_136 rfl rfl rfl (fun _ => rfl) (fun x136 e136 => ?_)
                  refine r_goto hX dX3_turnsSettle_139 (tgt := 25) (by decide) ?_
                  refine r_wk hX (lv1 := [some (.ref (w.2.2 17)), some (.int (iI a)), some (.int (iI x4)), some (.int (iI pass)), some (.int (iI rose)), some (.int (iI x136)), none, none]) ⟨rfl, ⟨rfl, ⟨rfl, ⟨rfl, ⟨rfl, ⟨rfl, trivial⟩⟩⟩⟩⟩⟩ ?_
                  exact ih25 rose x136 σ25 (m25.w rfl) (by omega) (by omega) (by first | exact pass_skip wf_S hP (by omega) (Or.inl fun q => by have q1 := q.1; have q2 := q.2; omega) e136 | exact pass_skip wf_S hP (by omega) (Or.inr (by show σ25 22 (a * 8 + σ 5 s) + σ 21 s ≤ σ25 22 (a * 8 + s / 2); rw [← hy1, ← hy2]; omega)) e136 | (rw [e134]; exact pass_push wf_S hP (by omega) ⟨by omega, by omega⟩ (by rw [← hy1, ← hy2]; omega) (by rw [← hy1]) (fun b => by rw [s132]; exact if_iff _ _ (by omega)) e136)) (by first | exact hk2 | exact fun b b0 => by rw [s132, if_neg (by omega)]; exact hk2 b b0) (by first | exact hta2 | (rw [s132, if_neg (by omega)]; exact hta2)) (fun l l0 l1 => by have h9 := hb2 l l0 l1; first | omega | (rw [s132]; split <;> omega)) (by omega)
                · skip
                  refine r_iload hX dX3_turnsSettle_64 rfl ?_
                  refine r_iload_n hX dX3_turnsSettle_66 rfl ?_
                  refine r_icmp_gt hX (tgt := 136) dX3_turnsSettle_67 (by decide) (by omega) (by omega) (fun c67 => ?_) (fun c67 => ?_)
                  · skip
                    refine r_iinc hX (fun x136 => [some (.ref (w.2.2 17)), some (.int (iI a)), some (.int (iI x4)), some (.int (iI pass)), some (.int (iI rose)), some (.int (iI x136)), some (.int (iI x51)), some (.int (iI x57))]) dX3_turnsSettle_136 rfl rfl rfl (fun _ => rfl) (fun x136 e136 => ?_)
                    refine r_goto hX dX3_turnsSettle_139 (tgt := 25) (by decide) ?_
                    refine r_wk hX (lv1 := [some (.ref (w.2.2 17)), some (.int (iI a)), some (.int (iI x4)), some (.int (iI pass)), some (.int (iI rose)), some (.int (iI x136)), none, none]) ⟨rfl, ⟨rfl, ⟨rfl, ⟨rfl, ⟨rfl, ⟨rfl, trivial⟩⟩⟩⟩⟩⟩ ?_
                    exact ih25 rose x136 σ25 (m25.w rfl) (by omega) (by omega) (by first | exact pass_skip wf_S hP (by omega) (Or.inl fun q => by have q1 := q.1; have q2 := q.2; omega) e136 | exact pass_skip wf_S hP (by omega) (Or.inr (by show σ25 22 (a * 8 + σ 5 s) + σ 21 s ≤ σ25 22 (a * 8 + s / 2); rw [← hy1, ← hy2]; omega)) e136 | (rw [e134]; exact pass_push wf_S hP (by omega) ⟨by omega, by omega⟩ (by rw [← hy1, ← hy2]; omega) (by rw [← hy1]) (fun b => by rw [s132]; exact if_iff _ _ (by omega)) e136)) (by first | exact hk2 | exact fun b b0 => by rw [s132, if_neg (by omega)]; exact hk2 b b0) (by first | exact hta2 | (rw [s132, if_neg (by omega)]; exact hta2)) (fun l l0 l1 => by have h9 := hb2 l l0 l1; first | omega | (rw [s132]; split <;> omega)) (by omega)
                  · skip
                    have hu : x51 = σ 5 s := by omega
                    have hy1 : σ25 22 (x4 + x51) = σ25 22 (a * 8 + σ 5 s) := congrArg (σ25 22) (by omega)
                    have hy2 : σ25 22 (x4 + x57) = σ25 22 (a * 8 + s / 2) := congrArg (σ25 22) (by omega)
                    have hy4 := hb2 (σ 5 s) (by omega) (by omega)
                    refine r_aload_n hX dX3_turnsSettle_70 rfl ?_
                    refine fg_X17_24 hX dX3_turnsSettle_71 ?_
                    refine r_iload_n hX dX3_turnsSettle_74 rfl ?_
                    refine r_iload hX dX3_turnsSettle_75 rfl ?_
                    refine r_iadd hX dX3_turnsSettle_77 ?_
                    refine ld_X22 hX dX3_turnsSettle_78 (by omega) (by omega) (fun b78l b78u => ?_)
                    refine r_aload_n hX dX3_turnsSettle_79 rfl ?_
                    refine fg_X17_21 hX dX3_turnsSettle_80 ?_
                    refine r_iload hX dX3_turnsSettle_83 rfl ?_
                    refine ld_X21 hX dX3_turnsSettle_85 (by omega) (by omega) (fun b85l b85u => ?_)
                    have q85 : σ25 21 = σ 21 := ((m25.at 21 rfl).trans ((m12.at 21 rfl).trans (m7.at 21 rfl)))
                    rw [q85]
                    rw [q85] at b85l b85u
                    refine r_iadd hX dX3_turnsSettle_86 ?_
                    refine r_aload_n hX dX3_turnsSettle_87 rfl ?_
                    refine fg_X17_24 hX dX3_turnsSettle_88 ?_
                    refine r_iload_n hX dX3_turnsSettle_91 rfl ?_
                    refine r_iload hX dX3_turnsSettle_92 rfl ?_
                    refine r_iadd hX dX3_turnsSettle_94 ?_
                    refine ld_X22 hX dX3_turnsSettle_95 (by omega) (by omega) (fun b95l b95u => ?_)
                    refine r_icmp_le hX (tgt := 136) dX3_turnsSettle_96 (by decide) (by omega) (by omega) (fun c96 => ?_) (fun c96 => ?_)
                    · skip
                      refine r_iinc hX (fun x136 => [some (.ref (w.2.2 17)), some (.int (iI a)), some (.int (iI x4)), some (.int (iI pass)), some (.int (iI rose)), some (.int (iI x136)), some (.int (iI x51)), some (.int (iI x57))]) dX3_turnsSettle_136 rfl rfl rfl (fun _ => rfl) (fun x136 e136 => ?_)
                      refine r_goto hX dX3_turnsSettle_139 (tgt := 25) (by decide) ?_
                      refine r_wk hX (lv1 := [some (.ref (w.2.2 17)), some (.int (iI a)), some (.int (iI x4)), some (.int (iI pass)), some (.int (iI rose)), some (.int (iI x136)), none, none]) ⟨rfl, ⟨rfl, ⟨rfl, ⟨rfl, ⟨rfl, ⟨rfl, trivial⟩⟩⟩⟩⟩⟩ ?_
                      exact ih25 rose x136 σ25 (m25.w rfl) (by omega) (by omega) (by first | exact pass_skip wf_S hP (by omega) (Or.inl fun q => by have q1 := q.1; have q2 := q.2; omega) e136 | exact pass_skip wf_S hP (by omega) (Or.inr (by show σ25 22 (a * 8 + σ 5 s) + σ 21 s ≤ σ25 22 (a * 8 + s / 2); rw [← hy1, ← hy2]; omega)) e136 | (rw [e134]; exact pass_push wf_S hP (by omega) ⟨by omega, by omega⟩ (by rw [← hy1, ← hy2]; omega) (by rw [← hy1]) (fun b => by rw [s132]; exact if_iff _ _ (by omega)) e136)) (by first | exact hk2 | exact fun b b0 => by rw [s132, if_neg (by omega)]; exact hk2 b b0) (by first | exact hta2 | (rw [s132, if_neg (by omega)]; exact hta2)) (fun l l0 l1 => by have h9 := hb2 l l0 l1; first | omega | (rw [s132]; split <;> omega)) (by omega)
                    · skip
                      refine r_iload hX dX3_turnsSettle_99 rfl ?_
                      refine r_iload_n hX dX3_turnsSettle_101 rfl ?_
                      refine r_icmp_ne hX (tgt := 107) dX3_turnsSettle_102 (by decide) (by omega) (by omega) (fun c102 => ?_) (fun c102 => ?_)
                      · skip
                        refine r_aload_n hX dX3_turnsSettle_107 rfl ?_
                        refine fg_X17_24 hX dX3_turnsSettle_108 ?_
                        refine r_iload_n hX dX3_turnsSettle_111 rfl ?_
                        refine r_iload hX dX3_turnsSettle_112 rfl ?_
                        refine r_iadd hX dX3_turnsSettle_114 ?_
                        refine r_aload_n hX dX3_turnsSettle_115 rfl ?_
                        refine fg_X17_24 hX dX3_turnsSettle_116 ?_
                        refine r_iload_n hX dX3_turnsSettle_119 rfl ?_
                        refine r_iload hX dX3_turnsSettle_120 rfl ?_
                        refine r_iadd hX dX3_turnsSettle_122 ?_
                        refine ld_X22 hX dX3_turnsSettle_123 (by omega) (by omega) (fun b123l b123u => ?_)
                        refine r_aload_n hX dX3_turnsSettle_124 rfl ?_
                        refine fg_X17_21 hX dX3_turnsSettle_125 ?_
                        refine r_iload hX dX3_turnsSettle_128 rfl ?_
                        refine ld_X21 hX dX3_turnsSettle_130 (by omega) (by omega) (fun b130l b130u => ?_)
                        have q130 : σ25 21 = σ 21 := ((m25.at 21 rfl).trans ((m12.at 21 rfl).trans (m7.at 21 rfl)))
                        rw [q130]
                        rw [q130] at b130l b130u
                        refine r_iadd hX dX3_turnsSettle_131 ?_
                        refine st_X22 hX dX3_turnsSettle_132 (by omega) (by omega) (by omega) (fun σ132 m132 s132 => ?_)
                        refine r_iconst hX dX3_turnsSettle_133 ?_
                        refine r_istore hX (fun x134 => [some (.ref (w.2.2 17)), some (.int (iI a)), some (.int (iI x4)), some (.int (iI pass)), some (.int (iI x134)), some (.int (iI s)), some (.int (iI x51)), some (.int (iI x57))]) dX3_turnsSettle_134 (Nat.le_of_ble_eq_true rfl) rfl rfl (fun _ => rfl) (fun x134 e134 => ?_)
                        refine r_iinc hX (fun x136 => [some (.ref (w.2.2 17)), some (.int (iI a)), some (.int (iI x4)), some (.int (iI pass)), some (.int (iI x134)), some (.int (iI x136)), some (.int (iI x51)), some (.int (iI x57))]) dX3_turnsSettle_136 rfl rfl rfl (fun _ => rfl) (fun x136 e136 => ?_)
                        refine r_goto hX dX3_turnsSettle_139 (tgt := 25) (by decide) ?_
                        refine r_wk hX (lv1 := [some (.ref (w.2.2 17)), some (.int (iI a)), some (.int (iI x4)), some (.int (iI pass)), some (.int (iI x134)), some (.int (iI x136)), none, none]) ⟨rfl, ⟨rfl, ⟨rfl, ⟨rfl, ⟨rfl, ⟨rfl, trivial⟩⟩⟩⟩⟩⟩ ?_
                        exact ih25 x134 x136 σ132 (Mod.tr (L := [22]) m25 m132 rfl rfl) (by omega) (by omega) (by first | exact pass_skip wf_S hP (by omega) (Or.inl fun q => by have q1 := q.1; have q2 := q.2; omega) e136 | exact pass_skip wf_S hP (by omega) (Or.inr (by show σ25 22 (a * 8 + σ 5 s) + σ 21 s ≤ σ25 22 (a * 8 + s / 2); rw [← hy1, ← hy2]; omega)) e136 | (rw [e134]; exact pass_push wf_S hP (by omega) ⟨by omega, by omega⟩ (by rw [← hy1, ← hy2]; omega) (by rw [← hy1]) (fun b => by rw [s132]; exact if_iff _ _ (by omega)) e136)) (by first | exact hk2 | exact fun b b0 => by rw [s132, if_neg (by omega)]; exact hk2 b b0) (by first | exact hta2 | (rw [s132, if_neg (by omega)]; exact hta2)) (fun l l0 l1 => by have h9 := hb2 l l0 l1; first | omega | (rw [s132]; split <;> omega)) (by omega)
                      · skip
                        have hy3 : σ25 22 (x4 + x57) = σ25 22 (a * 8 + a) := congrArg (σ25 22) (by omega)
                        refine r_iconst hX dX3_turnsSettle_105 ?_
                        exact r_zret hX dX3_turnsSettle_106 rfl (by omega) ⟨_, rfl, ⟨(Mod.tr (L := [22]) (Mod.tr (L := [22]) m7 m12 rfl rfl) m25 rfl rfl), (by first | exact fun b b0 => (hk2 b b0).trans ((hk b b0).trans (h7_0 b b0)) | exact fun b b0 => (hk b b0).trans (h7_0 b b0)), (by exact Or.inr ⟨rfl, h7_1.cyc ha.1 hO hP (hta2.trans hta) (s := s) (by omega) (by omega) ⟨by omega, by omega⟩ (by omega) (by show σ25 22 (a * 8 + a) < σ25 22 (a * 8 + σ 5 s) + σ 21 s; rw [← hy1, ← hy3]; omega)⟩)⟩⟩
        exact lp25 ((17 - (x23)) + 1).toNat x20 x23 σ12 Mod.rf (by omega) (by omega) (by rw [e20, e23]; exact PassI.init) (fun b _ => rfl) (rfl) (fun l l0 l1 => by have := hb l l0 l1; omega) (by omega)
  exact lp12 ((11 - (x11)) + 1).toNat x11 σ7 Mod.rf (by omega) (by rw [e11]; exact Outer.init) (fun b _ => rfl) (rfl) (fun l l0 l1 => by have := h7_2 l l0 l1; omega) (by omega)
theorem dX3_goesNext_0 : decode cX3_goesNext 0 = .ok (.aload_n 0, 1) := by decide +kernel
theorem dX3_goesNext_1 : decode cX3_goesNext 1 = .ok (.getfield 27, 3) := by decide +kernel
theorem dX3_goesNext_4 : decode cX3_goesNext 4 = .ok (.iload_n 1, 1) := by decide +kernel
theorem dX3_goesNext_5 : decode cX3_goesNext 5 = .ok (.invokevirtual 39, 3) := by decide +kernel
theorem dX3_goesNext_8 : decode cX3_goesNext 8 = .ok (.ifCond .eq 11, 3) := by decide +kernel
theorem dX3_goesNext_11 : decode cX3_goesNext 11 = .ok (.aload_n 0, 1) := by decide +kernel
theorem dX3_goesNext_12 : decode cX3_goesNext 12 = .ok (.getfield 45, 3) := by decide +kernel
theorem dX3_goesNext_15 : decode cX3_goesNext 15 = .ok (.iconst 1, 1) := by decide +kernel
theorem dX3_goesNext_16 : decode cX3_goesNext 16 = .ok (.if_icmp .ge 5, 3) := by decide +kernel
theorem dX3_goesNext_19 : decode cX3_goesNext 19 = .ok (.iconst 0, 1) := by decide +kernel
theorem dX3_goesNext_20 : decode cX3_goesNext 20 = .ok (.ireturn, 1) := by decide +kernel
theorem dX3_goesNext_21 : decode cX3_goesNext 21 = .ok (.aload_n 0, 1) := by decide +kernel
theorem dX3_goesNext_22 : decode cX3_goesNext 22 = .ok (.dup, 1) := by decide +kernel
theorem dX3_goesNext_23 : decode cX3_goesNext 23 = .ok (.getfield 35, 3) := by decide +kernel
theorem dX3_goesNext_26 : decode cX3_goesNext 26 = .ok (.iconst 1, 1) := by decide +kernel
theorem dX3_goesNext_27 : decode cX3_goesNext 27 = .ok (.iadd, 1) := by decide +kernel
theorem dX3_goesNext_28 : decode cX3_goesNext 28 = .ok (.putfield 35, 3) := by decide +kernel
theorem dX3_goesNext_31 : decode cX3_goesNext 31 = .ok (.aload_n 0, 1) := by decide +kernel
theorem dX3_goesNext_32 : decode cX3_goesNext 32 = .ok (.getfield 9, 3) := by decide +kernel
theorem dX3_goesNext_35 : decode cX3_goesNext 35 = .ok (.iload_n 1, 1) := by decide +kernel
theorem dX3_goesNext_36 : decode cX3_goesNext 36 = .ok (.aload_n 0, 1) := by decide +kernel
theorem dX3_goesNext_37 : decode cX3_goesNext 37 = .ok (.getfield 18, 3) := by decide +kernel
theorem dX3_goesNext_40 : decode cX3_goesNext 40 = .ok (.iload_n 1, 1) := by decide +kernel
theorem dX3_goesNext_41 : decode cX3_goesNext 41 = .ok (.iaload, 1) := by decide +kernel
theorem dX3_goesNext_42 : decode cX3_goesNext 42 = .ok (.aload_n 0, 1) := by decide +kernel
theorem dX3_goesNext_43 : decode cX3_goesNext 43 = .ok (.getfield 45, 3) := by decide +kernel
theorem dX3_goesNext_46 : decode cX3_goesNext 46 = .ok (.idiv, 1) := by decide +kernel
theorem dX3_goesNext_47 : decode cX3_goesNext 47 = .ok (.iastore, 1) := by decide +kernel
theorem dX3_goesNext_48 : decode cX3_goesNext 48 = .ok (.aload_n 0, 1) := by decide +kernel
theorem dX3_goesNext_49 : decode cX3_goesNext 49 = .ok (.getfield 15, 3) := by decide +kernel
theorem dX3_goesNext_52 : decode cX3_goesNext 52 = .ok (.iload_n 1, 1) := by decide +kernel
theorem dX3_goesNext_53 : decode cX3_goesNext 53 = .ok (.aload_n 0, 1) := by decide +kernel
theorem dX3_goesNext_54 : decode cX3_goesNext 54 = .ok (.getfield 18, 3) := by decide +kernel
theorem dX3_goesNext_57 : decode cX3_goesNext 57 = .ok (.iload_n 1, 1) := by decide +kernel
theorem dX3_goesNext_58 : decode cX3_goesNext 58 = .ok (.iaload, 1) := by decide +kernel
theorem dX3_goesNext_59 : decode cX3_goesNext 59 = .ok (.aload_n 0, 1) := by decide +kernel
theorem dX3_goesNext_60 : decode cX3_goesNext 60 = .ok (.getfield 45, 3) := by decide +kernel
theorem dX3_goesNext_63 : decode cX3_goesNext 63 = .ok (.irem, 1) := by decide +kernel
theorem dX3_goesNext_64 : decode cX3_goesNext 64 = .ok (.iastore, 1) := by decide +kernel
theorem dX3_goesNext_65 : decode cX3_goesNext 65 = .ok (.aload_n 0, 1) := by decide +kernel
theorem dX3_goesNext_66 : decode cX3_goesNext 66 = .ok (.getfield 18, 3) := by decide +kernel
theorem dX3_goesNext_69 : decode cX3_goesNext 69 = .ok (.iload_n 1, 1) := by decide +kernel
theorem dX3_goesNext_70 : decode cX3_goesNext 70 = .ok (.dup2, 1) := by decide +kernel
theorem dX3_goesNext_71 : decode cX3_goesNext 71 = .ok (.iaload, 1) := by decide +kernel
theorem dX3_goesNext_72 : decode cX3_goesNext 72 = .ok (.iconst 1, 1) := by decide +kernel
theorem dX3_goesNext_73 : decode cX3_goesNext 73 = .ok (.iadd, 1) := by decide +kernel
theorem dX3_goesNext_74 : decode cX3_goesNext 74 = .ok (.iastore, 1) := by decide +kernel
theorem dX3_goesNext_75 : decode cX3_goesNext 75 = .ok (.aload_n 0, 1) := by decide +kernel
theorem dX3_goesNext_76 : decode cX3_goesNext 76 = .ok (.iload_n 1, 1) := by decide +kernel
theorem dX3_goesNext_77 : decode cX3_goesNext 77 = .ok (.invokevirtual 60, 3) := by decide +kernel
theorem dX3_goesNext_80 : decode cX3_goesNext 80 = .ok (.ifCond .eq 23, 3) := by decide +kernel
theorem dX3_goesNext_83 : decode cX3_goesNext 83 = .ok (.aload_n 0, 1) := by decide +kernel
theorem dX3_goesNext_84 : decode cX3_goesNext 84 = .ok (.iload_n 1, 1) := by decide +kernel
theorem dX3_goesNext_85 : decode cX3_goesNext 85 = .ok (.invokevirtual 63, 3) := by decide +kernel
theorem dX3_goesNext_88 : decode cX3_goesNext 88 = .ok (.ifCond .eq 15, 3) := by decide +kernel
theorem dX3_goesNext_91 : decode cX3_goesNext 91 = .ok (.aload_n 0, 1) := by decide +kernel
theorem dX3_goesNext_92 : decode cX3_goesNext 92 = .ok (.iload_n 1, 1) := by decide +kernel
theorem dX3_goesNext_93 : decode cX3_goesNext 93 = .ok (.invokevirtual 66, 3) := by decide +kernel
theorem dX3_goesNext_96 : decode cX3_goesNext 96 = .ok (.ifCond .eq 7, 3) := by decide +kernel
theorem dX3_goesNext_99 : decode cX3_goesNext 99 = .ok (.iconst 1, 1) := by decide +kernel
theorem dX3_goesNext_100 : decode cX3_goesNext 100 = .ok (.goto 4, 3) := by decide +kernel
theorem dX3_goesNext_103 : decode cX3_goesNext 103 = .ok (.iconst 0, 1) := by decide +kernel
theorem dX3_goesNext_104 : decode cX3_goesNext 104 = .ok (.ireturn, 1) := by decide +kernel
set_option maxRecDepth 20000 in
set_option maxHeartbeats 4000000 in
theorem k_Sr_goesNext (l : Launch) (w : WT) (σ : MM) (a : Int) (i_a : inr a) (ha : 0 ≤ a ∧ a < σ 53 0) (hbt : 1 ≤ σ 59 0) (ht : σ 60 0 < 20000) (hch : 0 ≤ σ 20 a ∧ σ 20 a < σ 56 0 * σ 57 0 * σ 59 0) (hl : ∀ l : Int, 0 ≤ l → l < a → σ 18 l < σ 56 0 * σ 57 0) (hS : STab σ σ (σ 59 0) a) : CT SX l w yX3_goesNext cX3_goesNext 2 (some .boolean) 4 93 [.ref (w.2.2 17), .int (iI a)] σ (PI fun z σ1 => Mod [18, 19, 20, 21, 22, 60] σ σ1 ∧ (GN σ σ σ1 (σ 59 0) a z) ∧ (z = 0 ∨ z = 1)) := by
  refine CT.of 0 [some (.ref (w.2.2 17)), some (.int (iI a))] (by decide +kernel) (by simp [lg_sl, Value.category]) rfl sh_X (fun G hX => ?_)
  refine r_bd hX (fun hBd => ?_)
  have b_53 := hBd 53 0 8 rfl 0
  have b_56 := hBd 56 1 3 rfl 0
  have b_57 := hBd 57 1 3 rfl 0
  have b_59 := hBd 59 0 12 rfl 0
  have b_60 := hBd 60 0 20000 rfl 0
  have hn := mul_bd b_56 b_57
  have hdv : σ 20 a / σ 59 0 < σ 56 0 * σ 57 0 := Int.ediv_lt_of_lt_mul (by omega) hch.2
  have hdv0 : 0 ≤ σ 20 a / σ 59 0 := Int.ediv_nonneg hch.1 (by omega)
  have hmd := Int.emod_nonneg (σ 20 a) (show σ 59 0 ≠ 0 by omega)
  have hmd2 := Int.emod_lt_of_pos (σ 20 a) (show 0 < σ 59 0 by omega)
  have hpm := pm (a := σ 56 0 * σ 57 0) (A := 9) (b := σ 59 0) (B := 12) (by omega) (by omega)
  refine r_aload_n hX dX3_goesNext_0 rfl ?_
  refine fg_X17_27 hX dX3_goesNext_1 ?_
  refine r_iload_n hX dX3_goesNext_4 rfl ?_
  refine r_callV hX dX3_goesNext_5 (k_Lp_isThere l w σ _ (by omega)) mf_X2_isThere mv_X2_isThere lk_RX3_39 rfl rfl rfl rfl rfl ⟨Nat.le_of_ble_eq_true rfl, Nat.le_of_ble_eq_true rfl⟩ (Nat.le_of_ble_eq_true rfl) (kI fun z5 σ5 hh => ?_)
  obtain ⟨rfl, h5_0⟩ := hh
  refine r_if_eq hX (tgt := 19) dX3_goesNext_8 (by decide) (by omega) (fun c8 => ?_) (fun c8 => ?_)
  · exfalso; omega
  · skip
    refine r_aload_n hX dX3_goesNext_11 rfl ?_
    refine fg_X17_45 hX dX3_goesNext_12 (fun b12l b12u => ?_)
    refine r_iconst hX dX3_goesNext_15 ?_
    refine r_icmp_ge hX (tgt := 21) dX3_goesNext_16 (by decide) (by omega) (by omega) (fun c16 => ?_) (fun c16 => ?_)
    · skip
      refine r_aload_n hX dX3_goesNext_21 rfl ?_
      refine r_dup hX dX3_goesNext_22 rfl ?_
      refine fg_X17_35 hX dX3_goesNext_23 (fun b23l b23u => ?_)
      refine r_iconst hX dX3_goesNext_26 ?_
      refine r_iadd hX dX3_goesNext_27 ?_
      refine fp_X17_35 hX dX3_goesNext_28 (by omega) (fun σ28 m28 s28 => ?_)
      refine r_aload_n hX dX3_goesNext_31 rfl ?_
      refine fg_X17_9 hX dX3_goesNext_32 ?_
      refine r_iload_n hX dX3_goesNext_35 rfl ?_
      refine r_aload_n hX dX3_goesNext_36 rfl ?_
      refine fg_X17_18 hX dX3_goesNext_37 ?_
      refine r_iload_n hX dX3_goesNext_40 rfl ?_
      refine ld_X20 hX dX3_goesNext_41 (by omega) (by omega) (fun b41l b41u => ?_)
      have q41 : σ28 20 = σ 20 := (m28.at 20 rfl)
      rw [q41]
      rw [q41] at b41l b41u
      refine r_aload_n hX dX3_goesNext_42 rfl ?_
      refine fg_X17_45 hX dX3_goesNext_43 (fun b43l b43u => ?_)
      have q43 : σ28 59 = σ 59 := (m28.at 59 rfl)
      rw [q43]
      rw [q43] at b43l b43u
      refine r_idiv hX dX3_goesNext_46 (by omega) (by omega) (by omega) (by omega) ?_
      refine st_X18 hX dX3_goesNext_47 (by omega) (by omega) (by omega) (fun σ47 m47 s47 => ?_)
      simp only [show σ28 18 = σ 18 from (m28.at 18 rfl)] at s47
      refine r_aload_n hX dX3_goesNext_48 rfl ?_
      refine fg_X17_15 hX dX3_goesNext_49 ?_
      refine r_iload_n hX dX3_goesNext_52 rfl ?_
      refine r_aload_n hX dX3_goesNext_53 rfl ?_
      refine fg_X17_18 hX dX3_goesNext_54 ?_
      refine r_iload_n hX dX3_goesNext_57 rfl ?_
      refine ld_X20 hX dX3_goesNext_58 (by omega) (by omega) (fun b58l b58u => ?_)
      have q58 : σ47 20 = σ 20 := ((m47.at 20 rfl).trans (m28.at 20 rfl))
      rw [q58]
      rw [q58] at b58l b58u
      refine r_aload_n hX dX3_goesNext_59 rfl ?_
      refine fg_X17_45 hX dX3_goesNext_60 (fun b60l b60u => ?_)
      have q60 : σ47 59 = σ 59 := ((m47.at 59 rfl).trans (m28.at 59 rfl))
      rw [q60]
      rw [q60] at b60l b60u
      refine r_irem hX dX3_goesNext_63 (by omega) (by omega) (by omega) (by omega) ?_
      refine st_X19 hX dX3_goesNext_64 (by omega) (by omega) (by omega) (fun σ64 m64 s64 => ?_)
      simp only [show σ47 19 = σ 19 from ((m47.at 19 rfl).trans (m28.at 19 rfl))] at s64
      refine r_aload_n hX dX3_goesNext_65 rfl ?_
      refine fg_X17_18 hX dX3_goesNext_66 ?_
      refine r_iload_n hX dX3_goesNext_69 rfl ?_
      refine r_dup2 hX dX3_goesNext_70 rfl rfl ?_
      refine ld_X20 hX dX3_goesNext_71 (by omega) (by omega) (fun b71l b71u => ?_)
      have q71 : σ64 20 = σ 20 := ((m64.at 20 rfl).trans ((m47.at 20 rfl).trans (m28.at 20 rfl)))
      rw [q71]
      rw [q71] at b71l b71u
      refine r_iconst hX dX3_goesNext_72 ?_
      refine r_iadd hX dX3_goesNext_73 ?_
      refine st_X20 hX dX3_goesNext_74 (by omega) (by omega) (by omega) (fun σ74 m74 s74 => ?_)
      simp only [show σ64 20 = σ 20 from ((m64.at 20 rfl).trans ((m47.at 20 rfl).trans (m28.at 20 rfl)))] at s74
      refine r_aload_n hX dX3_goesNext_75 rfl ?_
      refine r_iload_n hX dX3_goesNext_76 rfl ?_
      have qp77_53 : σ74 53 = σ 53 := ((m74.at 53 rfl).trans ((m64.at 53 rfl).trans ((m47.at 53 rfl).trans (m28.at 53 rfl))))
      have qp77_18 : σ74 18 = σ47 18 := ((m74.at 18 rfl).trans (m64.at 18 rfl))
      have qp77_56 : σ74 56 = σ 56 := ((m74.at 56 rfl).trans ((m64.at 56 rfl).trans ((m47.at 56 rfl).trans (m28.at 56 rfl))))
      have qp77_57 : σ74 57 = σ 57 := ((m74.at 57 rfl).trans ((m64.at 57 rfl).trans ((m47.at 57 rfl).trans (m28.at 57 rfl))))
      refine r_callV hX dX3_goesNext_77 (k_Sr_isFree l w σ74 _ (by omega) (by simp only [qp77_53]; omega) (by simp only [qp77_18, qp77_56, qp77_57]; intro l l0 l1; rw [s47]; split; omega; exact hl l l0 (by omega))) mf_X3_isFree mv_X3_isFree lk_RX3_60 rfl rfl rfl rfl rfl ⟨Nat.le_of_ble_eq_true rfl, Nat.le_of_ble_eq_true rfl⟩ (Nat.le_of_ble_eq_true rfl) (kI fun z77 σ77 hh => ?_)
      obtain ⟨rfl, h77_0⟩ := hh
      have q77_1 : σ74 2 = σ 2 := ((m74.at 2 rfl).trans ((m64.at 2 rfl).trans ((m47.at 2 rfl).trans (m28.at 2 rfl))))
      have q77_2 : σ74 11 = σ 11 := ((m74.at 11 rfl).trans ((m64.at 11 rfl).trans ((m47.at 11 rfl).trans (m28.at 11 rfl))))
      have q77_3 : σ74 12 = σ 12 := ((m74.at 12 rfl).trans ((m64.at 12 rfl).trans ((m47.at 12 rfl).trans (m28.at 12 rfl))))
      have q77_4 : σ74 18 = σ47 18 := ((m74.at 18 rfl).trans (m64.at 18 rfl))
      have q77_5 : σ74 19 = σ64 19 := (m74.at 19 rfl)
      try simp only [q77_1, q77_2, q77_3, q77_4, q77_5] at h77_0
      refine r_if_eq hX (tgt := 103) dX3_goesNext_80 (by decide) (by omega) (fun c80 => ?_) (fun c80 => ?_)
      · skip
        have hT74 : Try0 σ σ74 (σ 59 0) a := ⟨by rw [m74.at 60 rfl, m64.at 60 rfl, m47.at 60 rfl]; exact s28, fun b => by rw [m74.at 18 rfl, m64.at 18 rfl]; exact s47 b, fun b => by rw [m74.at 19 rfl]; exact s64 b, s74⟩
        refine r_iconst hX dX3_goesNext_103 ?_
        exact r_zret hX dX3_goesNext_104 rfl (by omega) ⟨_, rfl, ⟨(Mod.tr (L := [18, 19, 20, 21, 22, 60]) (Mod.tr (L := [18, 19, 20, 21, 22, 60]) (Mod.tr (L := [18, 19, 20, 21, 22, 60]) m28 m47 rfl rfl) m64 rfl rfl) m74 rfl rfl), (by first | exact gn_yes hT93 hS hg93 (fun b b0 => by first | exact h93_0 b b0) hG93 (by rw [m93.at 18 rfl, m85.at 18 rfl, m74.at 18 rfl, m64.at 18 rfl, m93.at 19 rfl, m85.at 19 rfl, m74.at 19 rfl]; exact cf_yes h77_0 (by omega)) (by rw [m93.at 21 rfl]; rcases h93_1 with q | q; exact q.2.1; omega) (by rcases h93_1 with q | q; exact q.2.2; omega) | exact gn_noF hT93 hS hg93 h93_0 hG93 (by rw [m93.at 21 rfl]; rcases h93_1 with q | q; omega; exact q.2) | exact gn_no hT85 hS h85_0 (fun b b0 => by rw [m85.at 22 rfl, m74.at 22 rfl, m64.at 22 rfl, m47.at 22 rfl, m28.at 22 rfl]) (fun q => by rcases h85_1 with w | ⟨-, s, s0, s1, u0, u1, w⟩; omega; have := q.2.1 s s0 s1 ⟨u0, u1⟩; rw [m85.at 18 rfl, m74.at 18 rfl, m64.at 18 rfl] at this; omega) | exact gn_no hT74 hS (fun s q => by rw [m74.at 21 rfl, m64.at 21 rfl, m47.at 21 rfl, m28.at 21 rfl]) (fun b b0 => by rw [m74.at 22 rfl, m64.at 22 rfl, m47.at 22 rfl, m28.at 22 rfl]) (fun q => cf_no h77_0 (by omega) (by have q1 := q.1; rw [m74.at 18 rfl, m64.at 18 rfl, m74.at 19 rfl] at q1; exact q1))), (by first | omega | (rcases h93_1 with q | q <;> first | omega | (have := q.1; omega)))⟩⟩
      · skip
        have hT74 : Try0 σ σ74 (σ 59 0) a := ⟨by rw [m74.at 60 rfl, m64.at 60 rfl, m47.at 60 rfl]; exact s28, fun b => by rw [m74.at 18 rfl, m64.at 18 rfl]; exact s47 b, fun b => by rw [m74.at 19 rfl]; exact s64 b, s74⟩
        refine r_aload_n hX dX3_goesNext_83 rfl ?_
        refine r_iload_n hX dX3_goesNext_84 rfl ?_
        have qp85_53 : σ74 53 = σ 53 := ((m74.at 53 rfl).trans ((m64.at 53 rfl).trans ((m47.at 53 rfl).trans (m28.at 53 rfl))))
        have qp85_18 : σ74 18 = σ47 18 := ((m74.at 18 rfl).trans (m64.at 18 rfl))
        have qp85_56 : σ74 56 = σ 56 := ((m74.at 56 rfl).trans ((m64.at 56 rfl).trans ((m47.at 56 rfl).trans (m28.at 56 rfl))))
        have qp85_57 : σ74 57 = σ 57 := ((m74.at 57 rfl).trans ((m64.at 57 rfl).trans ((m47.at 57 rfl).trans (m28.at 57 rfl))))
        have qp85_59 : σ74 59 = σ 59 := ((m74.at 59 rfl).trans ((m64.at 59 rfl).trans ((m47.at 59 rfl).trans (m28.at 59 rfl))))
        refine r_callV hX dX3_goesNext_85 (k_Sr_measureGaps l w σ74 _ (by omega) (by simp only [qp85_53]; omega) (by simp only [qp85_18, qp85_56, qp85_57]; intro l l0 l1; rw [s47]; split; omega; exact hl l l0 (by omega)) (by simp only [qp85_59]; omega)) mf_X3_measureGaps mv_X3_measureGaps lk_RX3_63 rfl rfl rfl rfl rfl ⟨Nat.le_of_ble_eq_true rfl, Nat.le_of_ble_eq_true rfl⟩ (Nat.le_of_ble_eq_true rfl) (kI fun z85 σ85 hh => ?_)
        obtain ⟨m85, h85_0, h85_1⟩ := hh
        have q85_6 : σ74 5 = σ 5 := ((m74.at 5 rfl).trans ((m64.at 5 rfl).trans ((m47.at 5 rfl).trans (m28.at 5 rfl))))
        have q85_7 : σ74 21 = σ 21 := ((m74.at 21 rfl).trans ((m64.at 21 rfl).trans ((m47.at 21 rfl).trans (m28.at 21 rfl))))
        try simp only [q85_6, q85_7] at h85_0
        have q85_8 : σ74 2 = σ 2 := ((m74.at 2 rfl).trans ((m64.at 2 rfl).trans ((m47.at 2 rfl).trans (m28.at 2 rfl))))
        have q85_9 : σ74 5 = σ 5 := ((m74.at 5 rfl).trans ((m64.at 5 rfl).trans ((m47.at 5 rfl).trans (m28.at 5 rfl))))
        have q85_10 : σ74 6 = σ 6 := ((m74.at 6 rfl).trans ((m64.at 6 rfl).trans ((m47.at 6 rfl).trans (m28.at 6 rfl))))
        have q85_11 : σ74 13 = σ 13 := ((m74.at 13 rfl).trans ((m64.at 13 rfl).trans ((m47.at 13 rfl).trans (m28.at 13 rfl))))
        have q85_12 : σ74 18 = σ47 18 := ((m74.at 18 rfl).trans (m64.at 18 rfl))
        have q85_13 : σ74 19 = σ64 19 := (m74.at 19 rfl)
        have q85_14 : σ74 59 = σ 59 := ((m74.at 59 rfl).trans ((m64.at 59 rfl).trans ((m47.at 59 rfl).trans (m28.at 59 rfl))))
        try simp only [q85_8, q85_9, q85_10, q85_11, q85_12, q85_13, q85_14] at h85_1
        have hT85 : Try0 σ σ85 (σ 59 0) a := ⟨by rw [m85.at 60 rfl]; exact hT74.1, fun b => by rw [m85.at 18 rfl]; exact hT74.2.1 b, fun b => by rw [m85.at 19 rfl]; exact hT74.2.2.1 b, fun b => by rw [m85.at 20 rfl]; exact hT74.2.2.2 b⟩
        refine r_if_eq hX (tgt := 103) dX3_goesNext_88 (by decide) (by omega) (fun c88 => ?_) (fun c88 => ?_)
        · skip
          refine r_iconst hX dX3_goesNext_103 ?_
          exact r_zret hX dX3_goesNext_104 rfl (by omega) ⟨_, rfl, ⟨(Mod.tr (L := [18, 19, 20, 21, 22, 60]) (Mod.tr (L := [18, 19, 20, 21, 22, 60]) (Mod.tr (L := [18, 19, 20, 21, 22, 60]) (Mod.tr (L := [18, 19, 20, 21, 22, 60]) m28 m47 rfl rfl) m64 rfl rfl) m74 rfl rfl) m85 rfl rfl), (by first | exact gn_yes hT93 hS hg93 (fun b b0 => by first | exact h93_0 b b0) hG93 (by rw [m93.at 18 rfl, m85.at 18 rfl, m74.at 18 rfl, m64.at 18 rfl, m93.at 19 rfl, m85.at 19 rfl, m74.at 19 rfl]; exact cf_yes h77_0 (by omega)) (by rw [m93.at 21 rfl]; rcases h93_1 with q | q; exact q.2.1; omega) (by rcases h93_1 with q | q; exact q.2.2; omega) | exact gn_noF hT93 hS hg93 h93_0 hG93 (by rw [m93.at 21 rfl]; rcases h93_1 with q | q; omega; exact q.2) | exact gn_no hT85 hS h85_0 (fun b b0 => by rw [m85.at 22 rfl, m74.at 22 rfl, m64.at 22 rfl, m47.at 22 rfl, m28.at 22 rfl]) (fun q => by rcases h85_1 with w | ⟨-, s, s0, s1, u0, u1, w⟩; omega; have := q.2.1 s s0 s1 ⟨u0, u1⟩; rw [m85.at 18 rfl, m74.at 18 rfl, m64.at 18 rfl] at this; omega) | exact gn_no hT74 hS (fun s q => by rw [m74.at 21 rfl, m64.at 21 rfl, m47.at 21 rfl, m28.at 21 rfl]) (fun b b0 => by rw [m74.at 22 rfl, m64.at 22 rfl, m47.at 22 rfl, m28.at 22 rfl]) (fun q => cf_no h77_0 (by omega) (by have q1 := q.1; rw [m74.at 18 rfl, m64.at 18 rfl, m74.at 19 rfl] at q1; exact q1))), (by first | omega | (rcases h93_1 with q | q <;> first | omega | (have := q.1; omega)))⟩⟩
        · skip
          refine r_aload_n hX dX3_goesNext_91 rfl ?_
          refine r_iload_n hX dX3_goesNext_92 rfl ?_
          have qp93_53 : σ85 53 = σ 53 := ((m85.at 53 rfl).trans ((m74.at 53 rfl).trans ((m64.at 53 rfl).trans ((m47.at 53 rfl).trans (m28.at 53 rfl)))))
          have qp93_5 : σ85 5 = σ 5 := ((m85.at 5 rfl).trans ((m74.at 5 rfl).trans ((m64.at 5 rfl).trans ((m47.at 5 rfl).trans (m28.at 5 rfl)))))
          have qp93_22 : σ85 22 = σ 22 := ((m85.at 22 rfl).trans ((m74.at 22 rfl).trans ((m64.at 22 rfl).trans ((m47.at 22 rfl).trans (m28.at 22 rfl)))))
          have qp93_22 : σ85 22 = σ 22 := ((m85.at 22 rfl).trans ((m74.at 22 rfl).trans ((m64.at 22 rfl).trans ((m47.at 22 rfl).trans (m28.at 22 rfl)))))
          refine r_callV hX dX3_goesNext_93 (k_Sr_turnsSettle l w σ85 _ (by omega) (by simp only [qp93_53]; omega) (by simp only [qp93_5, qp93_22]; exact fun h0 => hS.row (υ := σ85) h85_0 h0) (by simp only [qp93_22]; exact fun l l0 l1 => hS.rowB l l0 l1)) mf_X3_turnsSettle mv_X3_turnsSettle lk_RX3_66 rfl rfl rfl rfl rfl ⟨Nat.le_of_ble_eq_true rfl, Nat.le_of_ble_eq_true rfl⟩ (Nat.le_of_ble_eq_true rfl) (kI fun z93 σ93 hh => ?_)
          obtain ⟨m93, h93_0, h93_1⟩ := hh
          have q93_15 : σ85 22 = σ 22 := ((m85.at 22 rfl).trans ((m74.at 22 rfl).trans ((m64.at 22 rfl).trans ((m47.at 22 rfl).trans (m28.at 22 rfl)))))
          try simp only [q93_15] at h93_0
          have q93_16 : σ85 5 = σ 5 := ((m85.at 5 rfl).trans ((m74.at 5 rfl).trans ((m64.at 5 rfl).trans ((m47.at 5 rfl).trans (m28.at 5 rfl)))))
          try simp only [q93_16] at h93_1
          have hT93 : Try0 σ σ93 (σ 59 0) a := ⟨by rw [m93.at 60 rfl]; exact hT85.1, fun b => by rw [m93.at 18 rfl]; exact hT85.2.1 b, fun b => by rw [m93.at 19 rfl]; exact hT85.2.2.1 b, fun b => by rw [m93.at 20 rfl]; exact hT85.2.2.2 b⟩
          have hg93 : ∀ s, ¬ inv2 (σ 5) a s → σ93 21 s = σ 21 s := fun s q => by rw [m93.at 21 rfl]; exact h85_0 s q
          have hG93 : ∀ s, inv2 (σ 5) a s → σ 13 (σ93 18 (σ 5 s) * 9 + σ93 18 (s / 2)) < 1000 ∧ σ93 21 s = gapX σ σ93 (σ 59 0) s := fun s q => by
            unfold gapX
            rw [m93.at 18 rfl, m85.at 18 rfl, m74.at 18 rfl, m64.at 18 rfl, m93.at 19 rfl, m85.at 19 rfl, m74.at 19 rfl, m93.at 21 rfl]
            rcases h85_1 with ⟨-, w⟩ | ⟨w, -⟩
            · exact w s q.1 q.2.1 q.2.2.1 q.2.2.2.1 q.2.2.2.2
            · omega
          refine r_if_eq hX (tgt := 103) dX3_goesNext_96 (by decide) (by omega) (fun c96 => ?_) (fun c96 => ?_)
          · skip
            refine r_iconst hX dX3_goesNext_103 ?_
            exact r_zret hX dX3_goesNext_104 rfl (by omega) ⟨_, rfl, ⟨(Mod.tr (L := [18, 19, 20, 21, 22, 60]) (Mod.tr (L := [18, 19, 20, 21, 22, 60]) (Mod.tr (L := [18, 19, 20, 21, 22, 60]) (Mod.tr (L := [18, 19, 20, 21, 22, 60]) (Mod.tr (L := [18, 19, 20, 21, 22, 60]) m28 m47 rfl rfl) m64 rfl rfl) m74 rfl rfl) m85 rfl rfl) m93 rfl rfl), (by first | exact gn_yes hT93 hS hg93 (fun b b0 => by first | exact h93_0 b b0) hG93 (by rw [m93.at 18 rfl, m85.at 18 rfl, m74.at 18 rfl, m64.at 18 rfl, m93.at 19 rfl, m85.at 19 rfl, m74.at 19 rfl]; exact cf_yes h77_0 (by omega)) (by rw [m93.at 21 rfl]; rcases h93_1 with q | q; exact q.2.1; omega) (by rcases h93_1 with q | q; exact q.2.2; omega) | exact gn_noF hT93 hS hg93 h93_0 hG93 (by rw [m93.at 21 rfl]; rcases h93_1 with q | q; omega; exact q.2) | exact gn_no hT85 hS h85_0 (fun b b0 => by rw [m85.at 22 rfl, m74.at 22 rfl, m64.at 22 rfl, m47.at 22 rfl, m28.at 22 rfl]) (fun q => by rcases h85_1 with w | ⟨-, s, s0, s1, u0, u1, w⟩; omega; have := q.2.1 s s0 s1 ⟨u0, u1⟩; rw [m85.at 18 rfl, m74.at 18 rfl, m64.at 18 rfl] at this; omega) | exact gn_no hT74 hS (fun s q => by rw [m74.at 21 rfl, m64.at 21 rfl, m47.at 21 rfl, m28.at 21 rfl]) (fun b b0 => by rw [m74.at 22 rfl, m64.at 22 rfl, m47.at 22 rfl, m28.at 22 rfl]) (fun q => cf_no h77_0 (by omega) (by have q1 := q.1; rw [m74.at 18 rfl, m64.at 18 rfl, m74.at 19 rfl] at q1; exact q1))), (by first | omega | (rcases h93_1 with q | q <;> first | omega | (have := q.1; omega)))⟩⟩
          · skip
            refine r_iconst hX dX3_goesNext_99 ?_
            refine r_goto hX dX3_goesNext_100 (tgt := 104) (by decide) ?_
            exact r_zret hX dX3_goesNext_104 rfl (by omega) ⟨_, rfl, ⟨(Mod.tr (L := [18, 19, 20, 21, 22, 60]) (Mod.tr (L := [18, 19, 20, 21, 22, 60]) (Mod.tr (L := [18, 19, 20, 21, 22, 60]) (Mod.tr (L := [18, 19, 20, 21, 22, 60]) (Mod.tr (L := [18, 19, 20, 21, 22, 60]) m28 m47 rfl rfl) m64 rfl rfl) m74 rfl rfl) m85 rfl rfl) m93 rfl rfl), (by first | exact gn_yes hT93 hS hg93 (fun b b0 => by first | exact h93_0 b b0) hG93 (by rw [m93.at 18 rfl, m85.at 18 rfl, m74.at 18 rfl, m64.at 18 rfl, m93.at 19 rfl, m85.at 19 rfl, m74.at 19 rfl]; exact cf_yes h77_0 (by omega)) (by rw [m93.at 21 rfl]; rcases h93_1 with q | q; exact q.2.1; omega) (by rcases h93_1 with q | q; exact q.2.2; omega) | exact gn_noF hT93 hS hg93 h93_0 hG93 (by rw [m93.at 21 rfl]; rcases h93_1 with q | q; omega; exact q.2) | exact gn_no hT85 hS h85_0 (fun b b0 => by rw [m85.at 22 rfl, m74.at 22 rfl, m64.at 22 rfl, m47.at 22 rfl, m28.at 22 rfl]) (fun q => by rcases h85_1 with w | ⟨-, s, s0, s1, u0, u1, w⟩; omega; have := q.2.1 s s0 s1 ⟨u0, u1⟩; rw [m85.at 18 rfl, m74.at 18 rfl, m64.at 18 rfl] at this; omega) | exact gn_no hT74 hS (fun s q => by rw [m74.at 21 rfl, m64.at 21 rfl, m47.at 21 rfl, m28.at 21 rfl]) (fun b b0 => by rw [m74.at 22 rfl, m64.at 22 rfl, m47.at 22 rfl, m28.at 22 rfl]) (fun q => cf_no h77_0 (by omega) (by have q1 := q.1; rw [m74.at 18 rfl, m64.at 18 rfl, m74.at 19 rfl] at q1; exact q1))), (by first | omega | (rcases h93_1 with q | q <;> first | omega | (have := q.1; omega)))⟩⟩
    · exfalso; omega
theorem dX3_run_0 : decode cX3_run 0 = .ok (.aload_n 0, 1) := by decide +kernel
theorem dX3_run_1 : decode cX3_run 1 = .ok (.iload_n 1, 1) := by decide +kernel
theorem dX3_run_2 : decode cX3_run 2 = .ok (.putfield 45, 3) := by decide +kernel
theorem dX3_run_5 : decode cX3_run 5 = .ok (.aload_n 0, 1) := by decide +kernel
theorem dX3_run_6 : decode cX3_run 6 = .ok (.iconst 0, 1) := by decide +kernel
theorem dX3_run_7 : decode cX3_run 7 = .ok (.putfield 35, 3) := by decide +kernel
theorem dX3_run_10 : decode cX3_run 10 = .ok (.iconst 0, 1) := by decide +kernel
theorem dX3_run_11 : decode cX3_run 11 = .ok (.istore_n 2, 1) := by decide +kernel
theorem dX3_run_12 : decode cX3_run 12 = .ok (.aload_n 0, 1) := by decide +kernel
theorem dX3_run_13 : decode cX3_run 13 = .ok (.getfield 31, 3) := by decide +kernel
theorem dX3_run_16 : decode cX3_run 16 = .ok (.invokevirtual 52, 3) := by decide +kernel
theorem dX3_run_19 : decode cX3_run 19 = .ok (.aload_n 0, 1) := by decide +kernel
theorem dX3_run_20 : decode cX3_run 20 = .ok (.getfield 45, 3) := by decide +kernel
theorem dX3_run_23 : decode cX3_run 23 = .ok (.imul, 1) := by decide +kernel
theorem dX3_run_24 : decode cX3_run 24 = .ok (.istore_n 3, 1) := by decide +kernel
theorem dX3_run_25 : decode cX3_run 25 = .ok (.aload_n 0, 1) := by decide +kernel
theorem dX3_run_26 : decode cX3_run 26 = .ok (.getfield 18, 3) := by decide +kernel
theorem dX3_run_29 : decode cX3_run 29 = .ok (.iconst 0, 1) := by decide +kernel
theorem dX3_run_30 : decode cX3_run 30 = .ok (.iconst 0, 1) := by decide +kernel
theorem dX3_run_31 : decode cX3_run 31 = .ok (.iastore, 1) := by decide +kernel
theorem dX3_run_32 : decode cX3_run 32 = .ok (.iconst 0, 1) := by decide +kernel
theorem dX3_run_33 : decode cX3_run 33 = .ok (.istore 4, 2) := by decide +kernel
theorem dX3_run_35 : decode cX3_run 35 = .ok (.iload 4, 2) := by decide +kernel
theorem dX3_run_37 : decode cX3_run 37 = .ok (.ldc 56, 2) := by decide +kernel
theorem dX3_run_39 : decode cX3_run 39 = .ok (.if_icmp .ge 78, 3) := by decide +kernel
theorem dX3_run_42 : decode cX3_run 42 = .ok (.aload_n 0, 1) := by decide +kernel
theorem dX3_run_43 : decode cX3_run 43 = .ok (.getfield 27, 3) := by decide +kernel
theorem dX3_run_46 : decode cX3_run 46 = .ok (.iload_n 2, 1) := by decide +kernel
theorem dX3_run_47 : decode cX3_run 47 = .ok (.invokevirtual 39, 3) := by decide +kernel
theorem dX3_run_50 : decode cX3_run 50 = .ok (.ifCond .eq 67, 3) := by decide +kernel
theorem dX3_run_53 : decode cX3_run 53 = .ok (.aload_n 0, 1) := by decide +kernel
theorem dX3_run_54 : decode cX3_run 54 = .ok (.getfield 18, 3) := by decide +kernel
theorem dX3_run_57 : decode cX3_run 57 = .ok (.iload_n 2, 1) := by decide +kernel
theorem dX3_run_58 : decode cX3_run 58 = .ok (.iaload, 1) := by decide +kernel
theorem dX3_run_59 : decode cX3_run 59 = .ok (.iload_n 3, 1) := by decide +kernel
theorem dX3_run_60 : decode cX3_run 60 = .ok (.if_icmp .lt 9, 3) := by decide +kernel
theorem dX3_run_63 : decode cX3_run 63 = .ok (.iinc 2 (-1), 3) := by decide +kernel
theorem dX3_run_66 : decode cX3_run 66 = .ok (.goto 45, 3) := by decide +kernel
theorem dX3_run_69 : decode cX3_run 69 = .ok (.aload_n 0, 1) := by decide +kernel
theorem dX3_run_70 : decode cX3_run 70 = .ok (.getfield 35, 3) := by decide +kernel
theorem dX3_run_73 : decode cX3_run 73 = .ok (.sipush 20000, 3) := by decide +kernel
theorem dX3_run_76 : decode cX3_run 76 = .ok (.if_icmp .lt 6, 3) := by decide +kernel
theorem dX3_run_79 : decode cX3_run 79 = .ok (.bipush (-7), 2) := by decide +kernel
theorem dX3_run_81 : decode cX3_run 81 = .ok (.ireturn, 1) := by decide +kernel
theorem dX3_run_82 : decode cX3_run 82 = .ok (.aload_n 0, 1) := by decide +kernel
theorem dX3_run_83 : decode cX3_run 83 = .ok (.iload_n 2, 1) := by decide +kernel
theorem dX3_run_84 : decode cX3_run 84 = .ok (.invokevirtual 57, 3) := by decide +kernel
theorem dX3_run_87 : decode cX3_run 87 = .ok (.ifCond .eq 24, 3) := by decide +kernel
theorem dX3_run_90 : decode cX3_run 90 = .ok (.iinc 2 1, 3) := by decide +kernel
theorem dX3_run_93 : decode cX3_run 93 = .ok (.aload_n 0, 1) := by decide +kernel
theorem dX3_run_94 : decode cX3_run 94 = .ok (.getfield 27, 3) := by decide +kernel
theorem dX3_run_97 : decode cX3_run 97 = .ok (.iload_n 2, 1) := by decide +kernel
theorem dX3_run_98 : decode cX3_run 98 = .ok (.invokevirtual 39, 3) := by decide +kernel
theorem dX3_run_101 : decode cX3_run 101 = .ok (.ifCond .eq 10, 3) := by decide +kernel
theorem dX3_run_104 : decode cX3_run 104 = .ok (.aload_n 0, 1) := by decide +kernel
theorem dX3_run_105 : decode cX3_run 105 = .ok (.getfield 18, 3) := by decide +kernel
theorem dX3_run_108 : decode cX3_run 108 = .ok (.iload_n 2, 1) := by decide +kernel
theorem dX3_run_109 : decode cX3_run 109 = .ok (.iconst 0, 1) := by decide +kernel
theorem dX3_run_110 : decode cX3_run 110 = .ok (.iastore, 1) := by decide +kernel
theorem dX3_run_111 : decode cX3_run 111 = .ok (.iinc 4 1, 3) := by decide +kernel
theorem dX3_run_114 : decode cX3_run 114 = .ok (.goto (-79), 3) := by decide +kernel
theorem dX3_run_117 : decode cX3_run 117 = .ok (.iload_n 2, 1) := by decide +kernel
theorem dX3_run_118 : decode cX3_run 118 = .ok (.ifCond .ge 6, 3) := by decide +kernel
theorem dX3_run_121 : decode cX3_run 121 = .ok (.bipush (-6), 2) := by decide +kernel
theorem dX3_run_123 : decode cX3_run 123 = .ok (.ireturn, 1) := by decide +kernel
theorem dX3_run_124 : decode cX3_run 124 = .ok (.aload_n 0, 1) := by decide +kernel
theorem dX3_run_125 : decode cX3_run 125 = .ok (.getfield 27, 3) := by decide +kernel
theorem dX3_run_128 : decode cX3_run 128 = .ok (.iload_n 2, 1) := by decide +kernel
theorem dX3_run_129 : decode cX3_run 129 = .ok (.invokevirtual 39, 3) := by decide +kernel
theorem dX3_run_132 : decode cX3_run 132 = .ok (.ifCond .eq 8, 3) := by decide +kernel
theorem dX3_run_135 : decode cX3_run 135 = .ok (.bipush (-7), 2) := by decide +kernel
theorem dX3_run_137 : decode cX3_run 137 = .ok (.goto 7, 3) := by decide +kernel
theorem dX3_run_140 : decode cX3_run 140 = .ok (.aload_n 0, 1) := by decide +kernel
theorem dX3_run_141 : decode cX3_run 141 = .ok (.getfield 45, 3) := by decide +kernel
theorem dX3_run_144 : decode cX3_run 144 = .ok (.ireturn, 1) := by decide +kernel
set_option maxRecDepth 20000 in
set_option maxHeartbeats 4000000 in
theorem k_Sr_run (l : Launch) (w : WT) (σ : MM) (bt : Int) (i_bt : inr bt) (hb : 1 ≤ bt ∧ bt ≤ 12) (hc : 1 ≤ σ 53 0) : CT SX l w yX3_run cX3_run 5 (some .int) 5 114 [.ref (w.2.2 17), .int (iI bt)] σ (PI fun z σ1 => Mod [18, 19, 20, 21, 22, 59, 60] σ σ1 ∧ (σ1 59 0 = bt) ∧ (DFin σ σ1 bt z)) := by
  refine CT.of 3 [some (.ref (w.2.2 17)), some (.int (iI bt)), none, none, none] (by decide +kernel) (by simp [lg_sl, Value.category]) rfl sh_X (fun G hX => ?_)
  refine r_bd hX (fun hBd => ?_)
  have b_53 := hBd 53 0 8 rfl 0
  have b_56 := hBd 56 1 3 rfl 0
  have b_57 := hBd 57 1 3 rfl 0
  have hn := mul_bd b_56 b_57
  have hpl := pm (a := σ 56 0 * σ 57 0) (A := 9) (b := bt) (B := 12) (by omega) (by omega)
  refine r_aload_n hX dX3_run_0 rfl ?_
  refine r_iload_n hX dX3_run_1 rfl ?_
  refine fp_X17_45 hX dX3_run_2 (by omega) (fun σ2 m2 s2 => ?_)
  refine r_aload_n hX dX3_run_5 rfl ?_
  refine r_iconst hX dX3_run_6 ?_
  refine fp_X17_35 hX dX3_run_7 (by omega) (fun σ7 m7 s7 => ?_)
  refine r_iconst hX dX3_run_10 ?_
  refine r_istore_n hX (fun x11 => [some (.ref (w.2.2 17)), some (.int (iI bt)), some (.int (iI x11)), none, none]) dX3_run_11 (Nat.le_of_ble_eq_true rfl) rfl rfl (fun _ => rfl) (fun x11 e11 => ?_)
  refine r_aload_n hX dX3_run_12 rfl ?_
  refine fg_X17_31 hX dX3_run_13 ?_
  refine r_callV hX dX3_run_16 (k_Gd_cells l w σ7) mf_X0_cells mv_X0_cells lk_RX3_52 rfl rfl rfl rfl rfl ⟨Nat.le_of_ble_eq_true rfl, Nat.le_of_ble_eq_true rfl⟩ (Nat.le_of_ble_eq_true rfl) (kI fun z16 σ16 hh => ?_)
  obtain ⟨rfl, h16_0, h16_1⟩ := hh
  have q16_1 : σ7 56 = σ 56 := ((m7.at 56 rfl).trans (m2.at 56 rfl))
  have q16_2 : σ7 57 = σ 57 := ((m7.at 57 rfl).trans (m2.at 57 rfl))
  try simp only [q16_1, q16_2] at h16_0
  refine r_aload_n hX dX3_run_19 rfl ?_
  refine fg_X17_45 hX dX3_run_20 (fun b20l b20u => ?_)
  have q20 : σ7 59 = σ2 59 := (m7.at 59 rfl)
  rw [q20]
  rw [q20] at b20l b20u
  refine r_imul hX dX3_run_23 ?_
  refine r_istore_n hX (fun x24 => [some (.ref (w.2.2 17)), some (.int (iI bt)), some (.int (iI x11)), some (.int (iI x24)), none]) dX3_run_24 (Nat.le_of_ble_eq_true rfl) rfl rfl (fun _ => rfl) (fun x24 e24 => ?_)
  have hx24 : x24 = σ 56 0 * σ 57 0 * bt := by rw [e24, h16_0, s2]
  refine r_aload_n hX dX3_run_25 rfl ?_
  refine fg_X17_18 hX dX3_run_26 ?_
  refine r_iconst hX dX3_run_29 ?_
  refine r_iconst hX dX3_run_30 ?_
  refine st_X20 hX dX3_run_31 (by omega) (by omega) (by omega) (fun σ31 m31 s31 => ?_)
  simp only [show σ7 20 = σ 20 from ((m7.at 20 rfl).trans (m2.at 20 rfl))] at s31
  refine r_iconst hX dX3_run_32 ?_
  refine r_istore hX (fun x33 => [some (.ref (w.2.2 17)), some (.int (iI bt)), some (.int (iI x11)), some (.int (iI x24)), some (.int (iI x33))]) dX3_run_33 (Nat.le_of_ble_eq_true rfl) rfl rfl (fun _ => rfl) (fun x33 e33 => ?_)
  have lp35 : ∀ (n : Nat) (act : Int) (move : Int) (σ35 : MM) (m35 : Mod [18, 19, 20, 21, 22, 60] σ31 σ35) (hact : -1 ≤ act ∧ act ≤ σ 53 0) (hmv0 : 0 ≤ move ∧ move ≤ 60000) (hD : DInv σ σ35 bt act move) (hmu : 60001 - move < (n : Int)), G 35 [some (.ref (w.2.2 17)), some (.int (iI bt)), some (.int (iI act)), some (.int (iI x24)), some (.int (iI move))] [] σ35 := by
    intro n
    induction n with
    | zero => intro act move σ35 m35 hact hmv0 hD hmu; omega
    | succ n ih =>
      intro act move σ35 m35 hact hmv0 hD hmu
      have ih35 := ih
      clear ih
      refine r_bd hX (fun hBd2 => ?_)
      have b60 := hBd2 60 0 20000 rfl 0
      have hmv := hD.mv (by omega) b60.2
      have qe : σ35 59 = σ2 59 := (m35.at 59 rfl).trans ((m31.at 59 rfl).trans (m7.at 59 rfl))
      refine r_iload hX dX3_run_35 rfl ?_
      refine r_ldc hX dX3_run_37 lc_RX3_56 ?_
      refine r_icmp_ge hX (tgt := 117) dX3_run_39 (by decide) (by omega) (by omega) (fun c39 => ?_) (fun c39 => ?_)
      · exfalso; omega
      · skip
        refine r_aload_n hX dX3_run_42 rfl ?_
        refine fg_X17_27 hX dX3_run_43 ?_
        refine r_iload_n hX dX3_run_46 rfl ?_
        refine r_callV hX dX3_run_47 (k_Lp_isThere l w σ35 _ (by omega)) mf_X2_isThere mv_X2_isThere lk_RX3_39 rfl rfl rfl rfl rfl ⟨Nat.le_of_ble_eq_true rfl, Nat.le_of_ble_eq_true rfl⟩ (Nat.le_of_ble_eq_true rfl) (kI fun z47 σ47 hh => ?_)
        obtain ⟨rfl, h47_0⟩ := hh
        have q47_3 : σ35 53 = σ 53 := ((m35.at 53 rfl).trans ((m31.at 53 rfl).trans ((m7.at 53 rfl).trans (m2.at 53 rfl))))
        try simp only [q47_3] at h47_0
        refine r_if_eq hX (tgt := 117) dX3_run_50 (by decide) (by omega) (fun c50 => ?_) (fun c50 => ?_)
        · skip
          refine r_iload_n hX dX3_run_117 rfl ?_
          refine r_if_ge hX (tgt := 124) dX3_run_118 (by decide) (by omega) (fun c118 => ?_) (fun c118 => ?_)
          · skip
            refine r_aload_n hX dX3_run_124 rfl ?_
            refine fg_X17_27 hX dX3_run_125 ?_
            refine r_iload_n hX dX3_run_128 rfl ?_
            refine r_callV hX dX3_run_129 (k_Lp_isThere l w σ35 _ (by omega)) mf_X2_isThere mv_X2_isThere lk_RX3_39 rfl rfl rfl rfl rfl ⟨Nat.le_of_ble_eq_true rfl, Nat.le_of_ble_eq_true rfl⟩ (Nat.le_of_ble_eq_true rfl) (kI fun z129 σ129 hh => ?_)
            obtain ⟨rfl, h129_0⟩ := hh
            have q129_4 : σ35 53 = σ 53 := ((m35.at 53 rfl).trans ((m31.at 53 rfl).trans ((m7.at 53 rfl).trans (m2.at 53 rfl))))
            try simp only [q129_4] at h129_0
            refine r_if_eq hX (tgt := 140) dX3_run_132 (by decide) (by omega) (fun c132 => ?_) (fun c132 => ?_)
            · skip
              refine r_aload_n hX dX3_run_140 rfl ?_
              refine fg_X17_45 hX dX3_run_141 (fun b141l b141u => ?_)
              have q141 : σ35 59 = σ2 59 := ((m35.at 59 rfl).trans ((m31.at 59 rfl).trans (m7.at 59 rfl)))
              rw [q141]
              rw [q141] at b141l b141u
              exact r_iret hX dX3_run_144 rfl ⟨_, rfl, ⟨(Mod.tr (L := [18, 19, 20, 21, 22, 59, 60]) (Mod.tr (L := [18, 19, 20, 21, 22, 59, 60]) (Mod.tr (L := [18, 19, 20, 21, 22, 59, 60]) m2 m7 rfl rfl) m31 rfl rfl) m35 rfl rfl), (by rw [show σ35 59 = σ2 59 from qe]; exact s2), (by exact hD.fin (by omega) hc (Or.inl ⟨by omega, s2⟩))⟩⟩
            · exfalso; omega
          · skip
            refine r_bipush hX dX3_run_121 (by decide) ?_
            exact r_iret hX dX3_run_123 rfl ⟨_, rfl, ⟨(Mod.tr (L := [18, 19, 20, 21, 22, 59, 60]) (Mod.tr (L := [18, 19, 20, 21, 22, 59, 60]) (Mod.tr (L := [18, 19, 20, 21, 22, 59, 60]) m2 m7 rfl rfl) m31 rfl rfl) m35 rfl rfl), (by rw [show σ35 59 = σ2 59 from qe]; exact s2), (by exact hD.fin (by omega) hc (Or.inr (Or.inl ⟨by omega, rfl⟩)))⟩⟩
        · skip
          have hnx := hD.next (by omega) (by omega)
          refine r_aload_n hX dX3_run_53 rfl ?_
          refine fg_X17_18 hX dX3_run_54 ?_
          refine r_iload_n hX dX3_run_57 rfl ?_
          refine ld_X20 hX dX3_run_58 (by omega) (by omega) (fun b58l b58u => ?_)
          refine r_iload_n hX dX3_run_59 rfl ?_
          refine r_icmp_lt hX (tgt := 69) dX3_run_60 (by decide) (by omega) (by omega) (fun c60 => ?_) (fun c60 => ?_)
          · skip
            refine r_aload_n hX dX3_run_69 rfl ?_
            refine fg_X17_35 hX dX3_run_70 (fun b70l b70u => ?_)
            refine r_sipush hX dX3_run_73 (by decide) ?_
            refine r_icmp_lt hX (tgt := 82) dX3_run_76 (by decide) (by omega) (by omega) (fun c76 => ?_) (fun c76 => ?_)
            · skip
              have hmm : Mod [18, 19, 20, 21, 22, 59, 60] σ σ35 := (Mod.tr (L := [18, 19, 20, 21, 22, 59, 60]) (Mod.tr (L := [18, 19, 20, 21, 22, 59, 60]) (Mod.tr (L := [18, 19, 20, 21, 22, 59, 60]) m2 m7 rfl rfl) m31 rfl rfl) m35 rfl rfl)
              refine r_aload_n hX dX3_run_82 rfl ?_
              refine r_iload_n hX dX3_run_83 rfl ?_
              have qp84_53 : σ35 53 = σ 53 := ((m35.at 53 rfl).trans ((m31.at 53 rfl).trans ((m7.at 53 rfl).trans (m2.at 53 rfl))))
              have qp84_59 : σ35 59 = σ2 59 := ((m35.at 59 rfl).trans ((m31.at 59 rfl).trans (m7.at 59 rfl)))
              have qp84_56 : σ35 56 = σ 56 := ((m35.at 56 rfl).trans ((m31.at 56 rfl).trans ((m7.at 56 rfl).trans (m2.at 56 rfl))))
              have qp84_57 : σ35 57 = σ 57 := ((m35.at 57 rfl).trans ((m31.at 57 rfl).trans ((m7.at 57 rfl).trans (m2.at 57 rfl))))
              have qp84_59 : σ35 59 = σ2 59 := ((m35.at 59 rfl).trans ((m31.at 59 rfl).trans (m7.at 59 rfl)))
              have qp84_56 : σ35 56 = σ 56 := ((m35.at 56 rfl).trans ((m31.at 56 rfl).trans ((m7.at 56 rfl).trans (m2.at 56 rfl))))
              have qp84_57 : σ35 57 = σ 57 := ((m35.at 57 rfl).trans ((m31.at 57 rfl).trans ((m7.at 57 rfl).trans (m2.at 57 rfl))))
              have qp84_59 : σ35 59 = σ2 59 := ((m35.at 59 rfl).trans ((m31.at 59 rfl).trans (m7.at 59 rfl)))
              refine r_callV hX dX3_run_84 (k_Sr_goesNext l w σ35 _ (by omega) (by simp only [qp84_53]; omega) (by simp only [qp84_59]; rw [s2]; omega) (by omega) (by simp only [qp84_56, qp84_57, qp84_59]; rw [s2, ← hx24]; omega) (by simp only [qp84_56, qp84_57]; exact hD.cells (by omega)) (by simp only [qp84_59]; rw [s2]; exact STab.base hmm rfl hD.stab)) mf_X3_goesNext mv_X3_goesNext lk_RX3_57 rfl rfl rfl rfl rfl ⟨Nat.le_of_ble_eq_true rfl, Nat.le_of_ble_eq_true rfl⟩ (Nat.le_of_ble_eq_true rfl) (kI fun z84 σ84 hh => ?_)
              obtain ⟨m84, h84_0, h84_1⟩ := hh
              have q84_5 : σ35 59 = σ2 59 := ((m35.at 59 rfl).trans ((m31.at 59 rfl).trans (m7.at 59 rfl)))
              try simp only [q84_5] at h84_0
              have hGN : GN σ σ35 σ84 bt act z84 := GN.base hmm rfl (s2 ▸ h84_0)
              refine r_if_eq hX (tgt := 111) dX3_run_87 (by decide) (by omega) (fun c87 => ?_) (fun c87 => ?_)
              · skip
                refine r_iinc hX (fun x111 => [some (.ref (w.2.2 17)), some (.int (iI bt)), some (.int (iI act)), some (.int (iI x24)), some (.int (iI x111))]) dX3_run_111 rfl rfl rfl (fun _ => rfl) (fun x111 e111 => ?_)
                refine r_goto hX dX3_run_114 (tgt := 35) (by decide) ?_
                exact ih35 act x111 σ84 (Mod.tr (L := [18, 19, 20, 21, 22, 60]) m35 m84 rfl rfl) (by omega) (by omega) (by first | exact hD.back (by omega) (by omega) (by rw [← hx24]; omega) e63 e111 | (rw [e111]; exact (hD.goes (by omega) (by omega) (by rw [← hx24]; omega) (by omega) hGN).2 (by omega)) | (rw [e111, e90]; exact (hD.goes (by omega) (by omega) (by rw [← hx24]; omega) (by omega) hGN).1 (by omega) σ110 (fun b b0 b1 => by rw [s110, if_neg (by omega)]) (fun _ => by rw [s110, if_pos (by omega)]) (m110.at 18 rfl) (m110.at 19 rfl) (m110.at 21 rfl) (m110.at 22 rfl) (m110.at 60 rfl)) | (rw [e111, e90]; exact (hD.goes (by omega) (by omega) (by rw [← hx24]; omega) (by omega) hGN).1 (by omega) σ84 (fun _ _ _ => rfl) (fun q => by omega) rfl rfl rfl rfl rfl)) (by omega)
              · skip
                refine r_iinc hX (fun x90 => [some (.ref (w.2.2 17)), some (.int (iI bt)), some (.int (iI x90)), some (.int (iI x24)), some (.int (iI move))]) dX3_run_90 rfl rfl rfl (fun _ => rfl) (fun x90 e90 => ?_)
                refine r_aload_n hX dX3_run_93 rfl ?_
                refine fg_X17_27 hX dX3_run_94 ?_
                refine r_iload_n hX dX3_run_97 rfl ?_
                refine r_callV hX dX3_run_98 (k_Lp_isThere l w σ84 _ (by omega)) mf_X2_isThere mv_X2_isThere lk_RX3_39 rfl rfl rfl rfl rfl ⟨Nat.le_of_ble_eq_true rfl, Nat.le_of_ble_eq_true rfl⟩ (Nat.le_of_ble_eq_true rfl) (kI fun z98 σ98 hh => ?_)
                obtain ⟨rfl, h98_0⟩ := hh
                have q98_6 : σ84 53 = σ 53 := ((m84.at 53 rfl).trans ((m35.at 53 rfl).trans ((m31.at 53 rfl).trans ((m7.at 53 rfl).trans (m2.at 53 rfl)))))
                try simp only [q98_6] at h98_0
                refine r_if_eq hX (tgt := 111) dX3_run_101 (by decide) (by omega) (fun c101 => ?_) (fun c101 => ?_)
                · skip
                  refine r_iinc hX (fun x111 => [some (.ref (w.2.2 17)), some (.int (iI bt)), some (.int (iI x90)), some (.int (iI x24)), some (.int (iI x111))]) dX3_run_111 rfl rfl rfl (fun _ => rfl) (fun x111 e111 => ?_)
                  refine r_goto hX dX3_run_114 (tgt := 35) (by decide) ?_
                  exact ih35 x90 x111 σ84 (Mod.tr (L := [18, 19, 20, 21, 22, 60]) m35 m84 rfl rfl) (by omega) (by omega) (by first | exact hD.back (by omega) (by omega) (by rw [← hx24]; omega) e63 e111 | (rw [e111]; exact (hD.goes (by omega) (by omega) (by rw [← hx24]; omega) (by omega) hGN).2 (by omega)) | (rw [e111, e90]; exact (hD.goes (by omega) (by omega) (by rw [← hx24]; omega) (by omega) hGN).1 (by omega) σ110 (fun b b0 b1 => by rw [s110, if_neg (by omega)]) (fun _ => by rw [s110, if_pos (by omega)]) (m110.at 18 rfl) (m110.at 19 rfl) (m110.at 21 rfl) (m110.at 22 rfl) (m110.at 60 rfl)) | (rw [e111, e90]; exact (hD.goes (by omega) (by omega) (by rw [← hx24]; omega) (by omega) hGN).1 (by omega) σ84 (fun _ _ _ => rfl) (fun q => by omega) rfl rfl rfl rfl rfl)) (by omega)
                · skip
                  refine r_aload_n hX dX3_run_104 rfl ?_
                  refine fg_X17_18 hX dX3_run_105 ?_
                  refine r_iload_n hX dX3_run_108 rfl ?_
                  refine r_iconst hX dX3_run_109 ?_
                  refine st_X20 hX dX3_run_110 (by omega) (by omega) (by omega) (fun σ110 m110 s110 => ?_)
                  refine r_iinc hX (fun x111 => [some (.ref (w.2.2 17)), some (.int (iI bt)), some (.int (iI x90)), some (.int (iI x24)), some (.int (iI x111))]) dX3_run_111 rfl rfl rfl (fun _ => rfl) (fun x111 e111 => ?_)
                  refine r_goto hX dX3_run_114 (tgt := 35) (by decide) ?_
                  exact ih35 x90 x111 σ110 (Mod.tr (L := [18, 19, 20, 21, 22, 60]) (Mod.tr (L := [18, 19, 20, 21, 22, 60]) m35 m84 rfl rfl) m110 rfl rfl) (by omega) (by omega) (by first | exact hD.back (by omega) (by omega) (by rw [← hx24]; omega) e63 e111 | (rw [e111]; exact (hD.goes (by omega) (by omega) (by rw [← hx24]; omega) (by omega) hGN).2 (by omega)) | (rw [e111, e90]; exact (hD.goes (by omega) (by omega) (by rw [← hx24]; omega) (by omega) hGN).1 (by omega) σ110 (fun b b0 b1 => by rw [s110, if_neg (by omega)]) (fun _ => by rw [s110, if_pos (by omega)]) (m110.at 18 rfl) (m110.at 19 rfl) (m110.at 21 rfl) (m110.at 22 rfl) (m110.at 60 rfl)) | (rw [e111, e90]; exact (hD.goes (by omega) (by omega) (by rw [← hx24]; omega) (by omega) hGN).1 (by omega) σ84 (fun _ _ _ => rfl) (fun q => by omega) rfl rfl rfl rfl rfl)) (by omega)
            · skip
              refine r_bipush hX dX3_run_79 (by decide) ?_
              exact r_iret hX dX3_run_81 rfl ⟨_, rfl, ⟨(Mod.tr (L := [18, 19, 20, 21, 22, 59, 60]) (Mod.tr (L := [18, 19, 20, 21, 22, 59, 60]) (Mod.tr (L := [18, 19, 20, 21, 22, 59, 60]) m2 m7 rfl rfl) m31 rfl rfl) m35 rfl rfl), (by rw [show σ35 59 = σ2 59 from qe]; exact s2), (by exact hD.fin (by omega) hc (Or.inr (Or.inr ⟨by omega, by omega, by rw [← hx24]; omega, by omega, rfl⟩)))⟩⟩
          · skip
            refine r_iinc hX (fun x63 => [some (.ref (w.2.2 17)), some (.int (iI bt)), some (.int (iI x63)), some (.int (iI x24)), some (.int (iI move))]) dX3_run_63 rfl rfl rfl (fun _ => rfl) (fun x63 e63 => ?_)
            refine r_goto hX dX3_run_66 (tgt := 111) (by decide) ?_
            refine r_iinc hX (fun x111 => [some (.ref (w.2.2 17)), some (.int (iI bt)), some (.int (iI x63)), some (.int (iI x24)), some (.int (iI x111))]) dX3_run_111 rfl rfl rfl (fun _ => rfl) (fun x111 e111 => ?_)
            refine r_goto hX dX3_run_114 (tgt := 35) (by decide) ?_
            exact ih35 x63 x111 σ35 (m35.w rfl) (by omega) (by omega) (by first | exact hD.back (by omega) (by omega) (by rw [← hx24]; omega) e63 e111 | (rw [e111]; exact (hD.goes (by omega) (by omega) (by rw [← hx24]; omega) (by omega) hGN).2 (by omega)) | (rw [e111, e90]; exact (hD.goes (by omega) (by omega) (by rw [← hx24]; omega) (by omega) hGN).1 (by omega) σ110 (fun b b0 b1 => by rw [s110, if_neg (by omega)]) (fun _ => by rw [s110, if_pos (by omega)]) (m110.at 18 rfl) (m110.at 19 rfl) (m110.at 21 rfl) (m110.at 22 rfl) (m110.at 60 rfl)) | (rw [e111, e90]; exact (hD.goes (by omega) (by omega) (by rw [← hx24]; omega) (by omega) hGN).1 (by omega) σ84 (fun _ _ _ => rfl) (fun q => by omega) rfl rfl rfl rfl rfl)) (by omega)
  exact lp35 ((60001 - (x33)) + 1).toNat x11 x33 σ31 Mod.rf (by omega) (by omega) (by rw [e11, e33]; exact DInv.init (by rw [m31.at 60 rfl]; exact s7) (by rw [s31, if_pos rfl]) hpl.1) (by omega)
