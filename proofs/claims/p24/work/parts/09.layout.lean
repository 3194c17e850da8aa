theorem dX1_beat_0 : decode cX1_beat 0 = .ok (.aload_n 0, 1) := by decide +kernel
theorem dX1_beat_1 : decode cX1_beat 1 = .ok (.getfield 26, 3) := by decide +kernel
theorem dX1_beat_4 : decode cX1_beat 4 = .ok (.ireturn, 1) := by decide +kernel
set_option maxRecDepth 20000 in
set_option maxHeartbeats 4000000 in
theorem k_Ly_beat (l : Launch) (w : WT) (σ : MM) : CT SX l w yX1_beat cX1_beat 1 (some .int) 0 0 [.ref (w.2.2 14)] σ (PI fun z σ1 => σ = σ1 ∧ (z = σ 58 0) ∧ (0 ≤ z ∧ z ≤ 12)) := by
  refine CT.of 0 [some (.ref (w.2.2 14))] (by decide +kernel) (by simp [lg_sl, Value.category]) rfl sh_X (fun G hX => ?_)
  refine r_aload_n hX dX1_beat_0 rfl ?_
  refine fg_X14_26 hX dX1_beat_1 (fun b1l b1u => ?_)
  exact r_iret hX dX1_beat_4 rfl ⟨_, rfl, ⟨rfl, (by omega), (by omega)⟩⟩
theorem dX1_stands_0 : decode cX1_stands 0 = .ok (.aload_n 0, 1) := by decide +kernel
theorem dX1_stands_1 : decode cX1_stands 1 = .ok (.getfield 26, 3) := by decide +kernel
theorem dX1_stands_4 : decode cX1_stands 4 = .ok (.ifCond .le 7, 3) := by decide +kernel
theorem dX1_stands_7 : decode cX1_stands 7 = .ok (.iconst 1, 1) := by decide +kernel
theorem dX1_stands_8 : decode cX1_stands 8 = .ok (.goto 4, 3) := by decide +kernel
theorem dX1_stands_11 : decode cX1_stands 11 = .ok (.iconst 0, 1) := by decide +kernel
theorem dX1_stands_12 : decode cX1_stands 12 = .ok (.ireturn, 1) := by decide +kernel
set_option maxRecDepth 20000 in
set_option maxHeartbeats 4000000 in
theorem k_Ly_stands (l : Launch) (w : WT) (σ : MM) : CT SX l w yX1_stands cX1_stands 1 (some .boolean) 0 0 [.ref (w.2.2 14)] σ (PI fun z σ1 => σ = σ1 ∧ ((z = 1 ∧ 0 < σ 58 0) ∨ (z = 0 ∧ σ 58 0 = 0))) := by
  refine CT.of 0 [some (.ref (w.2.2 14))] (by decide +kernel) (by simp [lg_sl, Value.category]) rfl sh_X (fun G hX => ?_)
  refine r_aload_n hX dX1_stands_0 rfl ?_
  refine fg_X14_26 hX dX1_stands_1 (fun b1l b1u => ?_)
  refine r_if_le hX (tgt := 11) dX1_stands_4 (by decide) (by omega) (fun c4 => ?_) (fun c4 => ?_)
  · skip
    refine r_iconst hX dX1_stands_11 ?_
    exact r_zret hX dX1_stands_12 rfl (by omega) ⟨_, rfl, ⟨rfl, (by omega)⟩⟩
  · skip
    refine r_iconst hX dX1_stands_7 ?_
    refine r_goto hX dX1_stands_8 (tgt := 12) (by decide) ?_
    exact r_zret hX dX1_stands_12 rfl (by omega) ⟨_, rfl, ⟨rfl, (by omega)⟩⟩
theorem dX1_drop_0 : decode cX1_drop 0 = .ok (.aload_n 0, 1) := by decide +kernel
theorem dX1_drop_1 : decode cX1_drop 1 = .ok (.iconst 0, 1) := by decide +kernel
theorem dX1_drop_2 : decode cX1_drop 2 = .ok (.putfield 26, 3) := by decide +kernel
theorem dX1_drop_5 : decode cX1_drop 5 = .ok (.return_, 1) := by decide +kernel
set_option maxRecDepth 20000 in
set_option maxHeartbeats 4000000 in
theorem k_Ly_drop (l : Launch) (w : WT) (σ : MM) : CT SX l w yX1_drop cX1_drop 1 none 0 0 [.ref (w.2.2 14)] σ (PV fun σ1 => Mod [58] σ σ1 ∧ (σ1 58 0 = 0)) := by
  refine CT.of 0 [some (.ref (w.2.2 14))] (by decide +kernel) (by simp [lg_sl, Value.category]) rfl sh_X (fun G hX => ?_)
  refine r_aload_n hX dX1_drop_0 rfl ?_
  refine r_iconst hX dX1_drop_1 ?_
  refine fp_X14_26 hX dX1_drop_2 (by omega) (fun σ2 m2 s2 => ?_)
  exact r_ret hX dX1_drop_5 rfl ⟨rfl, ⟨(m2.w rfl), (by omega)⟩⟩
theorem dX1_begin_0 : decode cX1_begin 0 = .ok (.aload_n 0, 1) := by decide +kernel
theorem dX1_begin_1 : decode cX1_begin 1 = .ok (.iload_n 1, 1) := by decide +kernel
theorem dX1_begin_2 : decode cX1_begin 2 = .ok (.putfield 26, 3) := by decide +kernel
theorem dX1_begin_5 : decode cX1_begin 5 = .ok (.aload_n 0, 1) := by decide +kernel
theorem dX1_begin_6 : decode cX1_begin 6 = .ok (.getfield 9, 3) := by decide +kernel
theorem dX1_begin_9 : decode cX1_begin 9 = .ok (.iconst 0, 1) := by decide +kernel
theorem dX1_begin_10 : decode cX1_begin 10 = .ok (.invokestatic 30, 3) := by decide +kernel
theorem dX1_begin_13 : decode cX1_begin 13 = .ok (.aload_n 0, 1) := by decide +kernel
theorem dX1_begin_14 : decode cX1_begin 14 = .ok (.getfield 15, 3) := by decide +kernel
theorem dX1_begin_17 : decode cX1_begin 17 = .ok (.iconst 0, 1) := by decide +kernel
theorem dX1_begin_18 : decode cX1_begin 18 = .ok (.invokestatic 30, 3) := by decide +kernel
theorem dX1_begin_21 : decode cX1_begin 21 = .ok (.return_, 1) := by decide +kernel
set_option maxRecDepth 20000 in
set_option maxHeartbeats 4000000 in
theorem k_Ly_begin (l : Launch) (w : WT) (σ : MM) (b : Int) (i_b : inr b) (hb : 0 ≤ b ∧ b ≤ 12) : CT SX l w yX1_begin cX1_begin 2 none 1 23 [.ref (w.2.2 14), .int (iI b)] σ (PV fun σ1 => Mod [15, 16, 58] σ σ1 ∧ (σ1 58 0 = b) ∧ (∀ a : Int, 0 ≤ a → a < 8 → σ1 15 a = 0 ∧ σ1 16 a = 0)) := by
  refine CT.of 0 [some (.ref (w.2.2 14)), some (.int (iI b))] (by decide +kernel) (by simp [lg_sl, Value.category]) rfl sh_X (fun G hX => ?_)
  refine r_aload_n hX dX1_begin_0 rfl ?_
  refine r_iload_n hX dX1_begin_1 rfl ?_
  refine fp_X14_26 hX dX1_begin_2 (by omega) (fun σ2 m2 s2 => ?_)
  refine r_aload_n hX dX1_begin_5 rfl ?_
  refine fg_X14_9 hX dX1_begin_6 ?_
  refine r_iconst hX dX1_begin_9 ?_
  refine r_callS hX dX1_begin_10 (k_fill15 l w σ2 _ (by omega) (by omega)) mf_J7_fill_53178 ms_J7_fill_53178 lk_RX1_30 rfl rfl ⟨Nat.le_of_ble_eq_true rfl, Nat.le_of_ble_eq_true rfl⟩ (Nat.le_of_ble_eq_true rfl) (kV fun σ10 hh => ?_)
  obtain ⟨m10, h10_0⟩ := hh
  refine r_aload_n hX dX1_begin_13 rfl ?_
  refine fg_X14_15 hX dX1_begin_14 ?_
  refine r_iconst hX dX1_begin_17 ?_
  refine r_callS hX dX1_begin_18 (k_fill16 l w σ10 _ (by omega) (by omega)) mf_J7_fill_53178 ms_J7_fill_53178 lk_RX1_30 rfl rfl ⟨Nat.le_of_ble_eq_true rfl, Nat.le_of_ble_eq_true rfl⟩ (Nat.le_of_ble_eq_true rfl) (kV fun σ18 hh => ?_)
  obtain ⟨m18, h18_0⟩ := hh
  exact r_ret hX dX1_begin_21 rfl ⟨rfl, ⟨(Mod.tr (L := [15, 16, 58]) (Mod.tr (L := [15, 16, 58]) m2 m10 rfl rfl) m18 rfl rfl), (by rw [m18.at 58 rfl, m10.at 58 rfl]; exact s2), (fun a a0 a1 => ⟨by rw [m18.at 15 rfl]; exact h10_0 a a0 a1, h18_0 a a0 a1⟩)⟩⟩
theorem dX1_put_0 : decode cX1_put 0 = .ok (.aload_n 0, 1) := by decide +kernel
theorem dX1_put_1 : decode cX1_put 1 = .ok (.getfield 18, 3) := by decide +kernel
theorem dX1_put_4 : decode cX1_put 4 = .ok (.iload_n 1, 1) := by decide +kernel
theorem dX1_put_5 : decode cX1_put 5 = .ok (.invokevirtual 36, 3) := by decide +kernel
theorem dX1_put_8 : decode cX1_put 8 = .ok (.ifCond .eq 17, 3) := by decide +kernel
theorem dX1_put_11 : decode cX1_put 11 = .ok (.aload_n 0, 1) := by decide +kernel
theorem dX1_put_12 : decode cX1_put 12 = .ok (.getfield 9, 3) := by decide +kernel
theorem dX1_put_15 : decode cX1_put 15 = .ok (.iload_n 1, 1) := by decide +kernel
theorem dX1_put_16 : decode cX1_put 16 = .ok (.iload_n 2, 1) := by decide +kernel
theorem dX1_put_17 : decode cX1_put 17 = .ok (.iastore, 1) := by decide +kernel
theorem dX1_put_18 : decode cX1_put 18 = .ok (.aload_n 0, 1) := by decide +kernel
theorem dX1_put_19 : decode cX1_put 19 = .ok (.getfield 15, 3) := by decide +kernel
theorem dX1_put_22 : decode cX1_put 22 = .ok (.iload_n 1, 1) := by decide +kernel
theorem dX1_put_23 : decode cX1_put 23 = .ok (.iload_n 3, 1) := by decide +kernel
theorem dX1_put_24 : decode cX1_put 24 = .ok (.iastore, 1) := by decide +kernel
theorem dX1_put_25 : decode cX1_put 25 = .ok (.return_, 1) := by decide +kernel
set_option maxRecDepth 20000 in
set_option maxHeartbeats 4000000 in
theorem k_Ly_put (l : Launch) (w : WT) (σ : MM) (a : Int) (k : Int) (t : Int) (i_a : inr a) (i_k : inr k) (i_t : inr t) (ha : 0 ≤ a ∧ a < σ 53 0) (hk : 0 ≤ k ∧ k ≤ 8) (ht : 0 ≤ t ∧ t ≤ 20000000) : CT SX l w yX1_put cX1_put 4 none 1 21 [.ref (w.2.2 14), .int (iI a), .int (iI k), .int (iI t)] σ (PV fun σ1 => Mod [15, 16] σ σ1 ∧ (∀ b : Int, σ1 15 b = if b = a then k else σ 15 b) ∧ (∀ b : Int, σ1 16 b = if b = a then t else σ 16 b)) := by
  refine CT.of 0 [some (.ref (w.2.2 14)), some (.int (iI a)), some (.int (iI k)), some (.int (iI t))] (by decide +kernel) (by simp [lg_sl, Value.category]) rfl sh_X (fun G hX => ?_)
  refine r_aload_n hX dX1_put_0 rfl ?_
  refine fg_X14_18 hX dX1_put_1 ?_
  refine r_iload_n hX dX1_put_4 rfl ?_
  refine r_callV hX dX1_put_5 (k_Lp_isThere l w σ _ (by omega)) mf_X2_isThere mv_X2_isThere lk_RX1_36 rfl rfl rfl rfl rfl ⟨Nat.le_of_ble_eq_true rfl, Nat.le_of_ble_eq_true rfl⟩ (Nat.le_of_ble_eq_true rfl) (kI fun z5 σ5 hh => ?_)
  obtain ⟨rfl, h5_0⟩ := hh
  refine r_if_eq hX (tgt := 25) dX1_put_8 (by decide) (by omega) (fun c8 => ?_) (fun c8 => ?_)
  · exfalso; omega
  · skip
    refine r_aload_n hX dX1_put_11 rfl ?_
    refine fg_X14_9 hX dX1_put_12 ?_
    refine r_iload_n hX dX1_put_15 rfl ?_
    refine r_iload_n hX dX1_put_16 rfl ?_
    refine st_X15 hX dX1_put_17 (by omega) (by omega) (by omega) (fun σ17 m17 s17 => ?_)
    refine r_aload_n hX dX1_put_18 rfl ?_
    refine fg_X14_15 hX dX1_put_19 ?_
    refine r_iload_n hX dX1_put_22 rfl ?_
    refine r_iload_n hX dX1_put_23 rfl ?_
    refine st_X16 hX dX1_put_24 (by omega) (by omega) (by omega) (fun σ24 m24 s24 => ?_)
    simp only [show σ17 16 = σ 16 from (m17.at 16 rfl)] at s24
    exact r_ret hX dX1_put_25 rfl ⟨rfl, ⟨(Mod.tr (L := [15, 16]) m17 m24 rfl rfl), (by rw [m24.at 15 rfl]; exact s17), (by exact s24)⟩⟩
theorem dX1_cellOf_0 : decode cX1_cellOf 0 = .ok (.aload_n 0, 1) := by decide +kernel
theorem dX1_cellOf_1 : decode cX1_cellOf 1 = .ok (.getfield 18, 3) := by decide +kernel
theorem dX1_cellOf_4 : decode cX1_cellOf 4 = .ok (.iload_n 1, 1) := by decide +kernel
theorem dX1_cellOf_5 : decode cX1_cellOf 5 = .ok (.invokevirtual 36, 3) := by decide +kernel
theorem dX1_cellOf_8 : decode cX1_cellOf 8 = .ok (.ifCond .eq 12, 3) := by decide +kernel
theorem dX1_cellOf_11 : decode cX1_cellOf 11 = .ok (.aload_n 0, 1) := by decide +kernel
theorem dX1_cellOf_12 : decode cX1_cellOf 12 = .ok (.getfield 9, 3) := by decide +kernel
theorem dX1_cellOf_15 : decode cX1_cellOf 15 = .ok (.iload_n 1, 1) := by decide +kernel
theorem dX1_cellOf_16 : decode cX1_cellOf 16 = .ok (.iaload, 1) := by decide +kernel
theorem dX1_cellOf_17 : decode cX1_cellOf 17 = .ok (.goto 5, 3) := by decide +kernel
theorem dX1_cellOf_20 : decode cX1_cellOf 20 = .ok (.bipush (-6), 2) := by decide +kernel
theorem dX1_cellOf_22 : decode cX1_cellOf 22 = .ok (.ireturn, 1) := by decide +kernel
set_option maxRecDepth 20000 in
set_option maxHeartbeats 4000000 in
theorem k_Ly_cellOf (l : Launch) (w : WT) (σ : MM) (a : Int) (i_a : inr a) : CT SX l w yX1_cellOf cX1_cellOf 2 (some .int) 1 21 [.ref (w.2.2 14), .int (iI a)] σ (PI fun z σ1 => σ = σ1 ∧ ((0 ≤ a ∧ a < σ 53 0 ∧ 0 ≤ z ∧ z = σ 15 a) ∨ ((a < 0 ∨ σ 53 0 ≤ a) ∧ z = -6)) ∧ (-6 ≤ z ∧ z ≤ 8)) := by
  refine CT.of 0 [some (.ref (w.2.2 14)), some (.int (iI a))] (by decide +kernel) (by simp [lg_sl, Value.category]) rfl sh_X (fun G hX => ?_)
  refine r_aload_n hX dX1_cellOf_0 rfl ?_
  refine fg_X14_18 hX dX1_cellOf_1 ?_
  refine r_iload_n hX dX1_cellOf_4 rfl ?_
  refine r_callV hX dX1_cellOf_5 (k_Lp_isThere l w σ _ (by omega)) mf_X2_isThere mv_X2_isThere lk_RX1_36 rfl rfl rfl rfl rfl ⟨Nat.le_of_ble_eq_true rfl, Nat.le_of_ble_eq_true rfl⟩ (Nat.le_of_ble_eq_true rfl) (kI fun z5 σ5 hh => ?_)
  obtain ⟨rfl, h5_0⟩ := hh
  refine r_if_eq hX (tgt := 20) dX1_cellOf_8 (by decide) (by omega) (fun c8 => ?_) (fun c8 => ?_)
  · skip
    refine r_bipush hX dX1_cellOf_20 (by decide) ?_
    exact r_iret hX dX1_cellOf_22 rfl ⟨_, rfl, ⟨rfl, (by omega), (by omega)⟩⟩
  · skip
    refine r_aload_n hX dX1_cellOf_11 rfl ?_
    refine fg_X14_9 hX dX1_cellOf_12 ?_
    refine r_iload_n hX dX1_cellOf_15 rfl ?_
    refine ld_X15 hX dX1_cellOf_16 (by omega) (by omega) (fun b16l b16u => ?_)
    refine r_goto hX dX1_cellOf_17 (tgt := 22) (by decide) ?_
    exact r_iret hX dX1_cellOf_22 rfl ⟨_, rfl, ⟨rfl, (by omega), (by omega)⟩⟩
theorem dX1_startOf_0 : decode cX1_startOf 0 = .ok (.aload_n 0, 1) := by decide +kernel
theorem dX1_startOf_1 : decode cX1_startOf 1 = .ok (.getfield 18, 3) := by decide +kernel
theorem dX1_startOf_4 : decode cX1_startOf 4 = .ok (.iload_n 1, 1) := by decide +kernel
theorem dX1_startOf_5 : decode cX1_startOf 5 = .ok (.invokevirtual 36, 3) := by decide +kernel
theorem dX1_startOf_8 : decode cX1_startOf 8 = .ok (.ifCond .eq 12, 3) := by decide +kernel
theorem dX1_startOf_11 : decode cX1_startOf 11 = .ok (.aload_n 0, 1) := by decide +kernel
theorem dX1_startOf_12 : decode cX1_startOf 12 = .ok (.getfield 15, 3) := by decide +kernel
theorem dX1_startOf_15 : decode cX1_startOf 15 = .ok (.iload_n 1, 1) := by decide +kernel
theorem dX1_startOf_16 : decode cX1_startOf 16 = .ok (.iaload, 1) := by decide +kernel
theorem dX1_startOf_17 : decode cX1_startOf 17 = .ok (.goto 5, 3) := by decide +kernel
theorem dX1_startOf_20 : decode cX1_startOf 20 = .ok (.bipush (-6), 2) := by decide +kernel
theorem dX1_startOf_22 : decode cX1_startOf 22 = .ok (.ireturn, 1) := by decide +kernel
set_option maxRecDepth 20000 in
set_option maxHeartbeats 4000000 in
theorem k_Ly_startOf (l : Launch) (w : WT) (σ : MM) (a : Int) (i_a : inr a) : CT SX l w yX1_startOf cX1_startOf 2 (some .int) 1 21 [.ref (w.2.2 14), .int (iI a)] σ (PI fun z σ1 => σ = σ1 ∧ ((0 ≤ a ∧ a < σ 53 0 ∧ 0 ≤ z ∧ z = σ 16 a) ∨ ((a < 0 ∨ σ 53 0 ≤ a) ∧ z = -6)) ∧ (-6 ≤ z ∧ z ≤ 20000000)) := by
  refine CT.of 0 [some (.ref (w.2.2 14)), some (.int (iI a))] (by decide +kernel) (by simp [lg_sl, Value.category]) rfl sh_X (fun G hX => ?_)
  refine r_aload_n hX dX1_startOf_0 rfl ?_
  refine fg_X14_18 hX dX1_startOf_1 ?_
  refine r_iload_n hX dX1_startOf_4 rfl ?_
  refine r_callV hX dX1_startOf_5 (k_Lp_isThere l w σ _ (by omega)) mf_X2_isThere mv_X2_isThere lk_RX1_36 rfl rfl rfl rfl rfl ⟨Nat.le_of_ble_eq_true rfl, Nat.le_of_ble_eq_true rfl⟩ (Nat.le_of_ble_eq_true rfl) (kI fun z5 σ5 hh => ?_)
  obtain ⟨rfl, h5_0⟩ := hh
  refine r_if_eq hX (tgt := 20) dX1_startOf_8 (by decide) (by omega) (fun c8 => ?_) (fun c8 => ?_)
  · skip
    refine r_bipush hX dX1_startOf_20 (by decide) ?_
    exact r_iret hX dX1_startOf_22 rfl ⟨_, rfl, ⟨rfl, (by omega), (by omega)⟩⟩
  · skip
    refine r_aload_n hX dX1_startOf_11 rfl ?_
    refine fg_X14_15 hX dX1_startOf_12 ?_
    refine r_iload_n hX dX1_startOf_15 rfl ?_
    refine ld_X16 hX dX1_startOf_16 (by omega) (by omega) (fun b16l b16u => ?_)
    refine r_goto hX dX1_startOf_17 (tgt := 22) (by decide) ?_
    exact r_iret hX dX1_startOf_22 rfl ⟨_, rfl, ⟨rfl, (by omega), (by omega)⟩⟩
theorem dX1_madeAt_0 : decode cX1_madeAt 0 = .ok (.aload_n 0, 1) := by decide +kernel
theorem dX1_madeAt_1 : decode cX1_madeAt 1 = .ok (.iload_n 1, 1) := by decide +kernel
theorem dX1_madeAt_2 : decode cX1_madeAt 2 = .ok (.invokevirtual 42, 3) := by decide +kernel
theorem dX1_madeAt_5 : decode cX1_madeAt 5 = .ok (.aload_n 0, 1) := by decide +kernel
theorem dX1_madeAt_6 : decode cX1_madeAt 6 = .ok (.getfield 18, 3) := by decide +kernel
theorem dX1_madeAt_9 : decode cX1_madeAt 9 = .ok (.iload_n 1, 1) := by decide +kernel
theorem dX1_madeAt_10 : decode cX1_madeAt 10 = .ok (.invokevirtual 46, 3) := by decide +kernel
theorem dX1_madeAt_13 : decode cX1_madeAt 13 = .ok (.iadd, 1) := by decide +kernel
theorem dX1_madeAt_14 : decode cX1_madeAt 14 = .ok (.ireturn, 1) := by decide +kernel
set_option maxRecDepth 20000 in
set_option maxHeartbeats 4000000 in
theorem k_Ly_madeAt (l : Launch) (w : WT) (σ : MM) (a : Int) (i_a : inr a) (ha : 0 ≤ a ∧ a < σ 53 0) : CT SX l w yX1_madeAt cX1_madeAt 2 (some .int) 2 42 [.ref (w.2.2 14), .int (iI a)] σ (PI fun z σ1 => σ = σ1 ∧ (z = madeX σ a) ∧ (1 ≤ z ∧ z ≤ 20000002)) := by
  refine CT.of 0 [some (.ref (w.2.2 14)), some (.int (iI a))] (by decide +kernel) (by simp [lg_sl, Value.category]) rfl sh_X (fun G hX => ?_)
  refine r_aload_n hX dX1_madeAt_0 rfl ?_
  refine r_iload_n hX dX1_madeAt_1 rfl ?_
  refine r_callV hX dX1_madeAt_2 (k_Ly_startOf l w σ _ (by omega)) mf_X1_startOf mv_X1_startOf lk_RX1_42 rfl rfl rfl rfl rfl ⟨Nat.le_of_ble_eq_true rfl, Nat.le_of_ble_eq_true rfl⟩ (Nat.le_of_ble_eq_true rfl) (kI fun z2 σ2 hh => ?_)
  obtain ⟨rfl, h2_0, h2_1⟩ := hh
  refine r_aload_n hX dX1_madeAt_5 rfl ?_
  refine fg_X14_18 hX dX1_madeAt_6 ?_
  refine r_iload_n hX dX1_madeAt_9 rfl ?_
  refine r_callV hX dX1_madeAt_10 (k_Lp_lengthOf l w σ _ (by omega)) mf_X2_lengthOf mv_X2_lengthOf lk_RX1_46 rfl rfl rfl rfl rfl ⟨Nat.le_of_ble_eq_true rfl, Nat.le_of_ble_eq_true rfl⟩ (Nat.le_of_ble_eq_true rfl) (kI fun z10 σ10 hh => ?_)
  obtain ⟨rfl, h10_0⟩ := hh
  refine r_iadd hX dX1_madeAt_13 ?_
  exact r_iret hX dX1_madeAt_14 rfl ⟨_, rfl, ⟨rfl, (by have e := lenF_of h10_0 ha.1 ha.2; unfold madeX; omega), (by omega)⟩⟩
theorem dX1_usedAt_0 : decode cX1_usedAt 0 = .ok (.aload_n 0, 1) := by decide +kernel
theorem dX1_usedAt_1 : decode cX1_usedAt 1 = .ok (.iload_n 1, 1) := by decide +kernel
theorem dX1_usedAt_2 : decode cX1_usedAt 2 = .ok (.iconst 2, 1) := by decide +kernel
theorem dX1_usedAt_3 : decode cX1_usedAt 3 = .ok (.idiv, 1) := by decide +kernel
theorem dX1_usedAt_4 : decode cX1_usedAt 4 = .ok (.invokevirtual 42, 3) := by decide +kernel
theorem dX1_usedAt_7 : decode cX1_usedAt 7 = .ok (.aload_n 0, 1) := by decide +kernel
theorem dX1_usedAt_8 : decode cX1_usedAt 8 = .ok (.getfield 26, 3) := by decide +kernel
theorem dX1_usedAt_11 : decode cX1_usedAt 11 = .ok (.aload_n 0, 1) := by decide +kernel
theorem dX1_usedAt_12 : decode cX1_usedAt 12 = .ok (.getfield 18, 3) := by decide +kernel
theorem dX1_usedAt_15 : decode cX1_usedAt 15 = .ok (.iload_n 1, 1) := by decide +kernel
theorem dX1_usedAt_16 : decode cX1_usedAt 16 = .ok (.invokevirtual 97, 3) := by decide +kernel
theorem dX1_usedAt_19 : decode cX1_usedAt 19 = .ok (.imul, 1) := by decide +kernel
theorem dX1_usedAt_20 : decode cX1_usedAt 20 = .ok (.iadd, 1) := by decide +kernel
theorem dX1_usedAt_21 : decode cX1_usedAt 21 = .ok (.ireturn, 1) := by decide +kernel
set_option maxRecDepth 20000 in
set_option maxHeartbeats 4000000 in
theorem k_Ly_usedAt (l : Launch) (w : WT) (σ : MM) (s : Int) (i_s : inr s) (hs : 0 ≤ s ∧ s < 2 * σ 53 0) : CT SX l w yX1_usedAt cX1_usedAt 2 (some .int) 2 42 [.ref (w.2.2 14), .int (iI s)] σ (PI fun z σ1 => σ = σ1 ∧ (z = useX σ s) ∧ (0 ≤ z ∧ z ≤ 20000036)) := by
  refine CT.of 0 [some (.ref (w.2.2 14)), some (.int (iI s))] (by decide +kernel) (by simp [lg_sl, Value.category]) rfl sh_X (fun G hX => ?_)
  refine r_aload_n hX dX1_usedAt_0 rfl ?_
  refine r_iload_n hX dX1_usedAt_1 rfl ?_
  refine r_iconst hX dX1_usedAt_2 ?_
  refine r_idiv hX dX1_usedAt_3 (by omega) (by omega) (by omega) (by omega) ?_
  refine r_callV hX dX1_usedAt_4 (k_Ly_startOf l w σ _ (by omega)) mf_X1_startOf mv_X1_startOf lk_RX1_42 rfl rfl rfl rfl rfl ⟨Nat.le_of_ble_eq_true rfl, Nat.le_of_ble_eq_true rfl⟩ (Nat.le_of_ble_eq_true rfl) (kI fun z4 σ4 hh => ?_)
  obtain ⟨rfl, h4_0, h4_1⟩ := hh
  obtain rfl : z4 = σ 16 (s / 2) := by omega
  refine r_aload_n hX dX1_usedAt_7 rfl ?_
  refine fg_X14_26 hX dX1_usedAt_8 (fun b8l b8u => ?_)
  refine r_aload_n hX dX1_usedAt_11 rfl ?_
  refine fg_X14_18 hX dX1_usedAt_12 ?_
  refine r_iload_n hX dX1_usedAt_15 rfl ?_
  refine r_callV hX dX1_usedAt_16 (k_Lp_distanceOf l w σ _ (by omega)) mf_X2_distanceOf mv_X2_distanceOf lk_RX1_97 rfl rfl rfl rfl rfl ⟨Nat.le_of_ble_eq_true rfl, Nat.le_of_ble_eq_true rfl⟩ (Nat.le_of_ble_eq_true rfl) (kI fun z16 σ16 hh => ?_)
  obtain ⟨rfl, h16_0, h16_1⟩ := hh
  have hp := pm (a := σ 58 0) (A := 12) (b := z16) (B := 3) (by omega) (by omega)
  obtain rfl : z16 = σ 6 s := by omega
  refine r_imul hX dX1_usedAt_19 ?_
  refine r_iadd hX dX1_usedAt_20 ?_
  exact r_iret hX dX1_usedAt_21 rfl ⟨_, rfl, ⟨rfl, (by unfold useX; omega), (by omega)⟩⟩
theorem dX1_isLate_0 : decode cX1_isLate 0 = .ok (.aload_n 0, 1) := by decide +kernel
theorem dX1_isLate_1 : decode cX1_isLate 1 = .ok (.getfield 18, 3) := by decide +kernel
theorem dX1_isLate_4 : decode cX1_isLate 4 = .ok (.iload_n 1, 1) := by decide +kernel
theorem dX1_isLate_5 : decode cX1_isLate 5 = .ok (.invokevirtual 84, 3) := by decide +kernel
theorem dX1_isLate_8 : decode cX1_isLate 8 = .ok (.istore_n 2, 1) := by decide +kernel
theorem dX1_isLate_9 : decode cX1_isLate 9 = .ok (.iload_n 2, 1) := by decide +kernel
theorem dX1_isLate_10 : decode cX1_isLate 10 = .ok (.bipush (-6), 2) := by decide +kernel
theorem dX1_isLate_12 : decode cX1_isLate 12 = .ok (.if_icmp .ne 5, 3) := by decide +kernel
theorem dX1_isLate_15 : decode cX1_isLate 15 = .ok (.iconst 0, 1) := by decide +kernel
theorem dX1_isLate_16 : decode cX1_isLate 16 = .ok (.ireturn, 1) := by decide +kernel
theorem dX1_isLate_17 : decode cX1_isLate 17 = .ok (.aload_n 0, 1) := by decide +kernel
theorem dX1_isLate_18 : decode cX1_isLate 18 = .ok (.getfield 22, 3) := by decide +kernel
theorem dX1_isLate_21 : decode cX1_isLate 21 = .ok (.aload_n 0, 1) := by decide +kernel
theorem dX1_isLate_22 : decode cX1_isLate 22 = .ok (.iload_n 2, 1) := by decide +kernel
theorem dX1_isLate_23 : decode cX1_isLate 23 = .ok (.invokevirtual 63, 3) := by decide +kernel
theorem dX1_isLate_26 : decode cX1_isLate 26 = .ok (.aload_n 0, 1) := by decide +kernel
theorem dX1_isLate_27 : decode cX1_isLate 27 = .ok (.iload_n 1, 1) := by decide +kernel
theorem dX1_isLate_28 : decode cX1_isLate 28 = .ok (.iconst 2, 1) := by decide +kernel
theorem dX1_isLate_29 : decode cX1_isLate 29 = .ok (.idiv, 1) := by decide +kernel
theorem dX1_isLate_30 : decode cX1_isLate 30 = .ok (.invokevirtual 63, 3) := by decide +kernel
theorem dX1_isLate_33 : decode cX1_isLate 33 = .ok (.invokevirtual 87, 3) := by decide +kernel
theorem dX1_isLate_36 : decode cX1_isLate 36 = .ok (.istore_n 3, 1) := by decide +kernel
theorem dX1_isLate_37 : decode cX1_isLate 37 = .ok (.iload_n 3, 1) := by decide +kernel
theorem dX1_isLate_38 : decode cX1_isLate 38 = .ok (.bipush (-6), 2) := by decide +kernel
theorem dX1_isLate_40 : decode cX1_isLate 40 = .ok (.if_icmp .eq 18, 3) := by decide +kernel
theorem dX1_isLate_43 : decode cX1_isLate 43 = .ok (.aload_n 0, 1) := by decide +kernel
theorem dX1_isLate_44 : decode cX1_isLate 44 = .ok (.iload_n 1, 1) := by decide +kernel
theorem dX1_isLate_45 : decode cX1_isLate 45 = .ok (.invokevirtual 91, 3) := by decide +kernel
theorem dX1_isLate_48 : decode cX1_isLate 48 = .ok (.aload_n 0, 1) := by decide +kernel
theorem dX1_isLate_49 : decode cX1_isLate 49 = .ok (.iload_n 2, 1) := by decide +kernel
theorem dX1_isLate_50 : decode cX1_isLate 50 = .ok (.invokevirtual 94, 3) := by decide +kernel
theorem dX1_isLate_53 : decode cX1_isLate 53 = .ok (.iload_n 3, 1) := by decide +kernel
theorem dX1_isLate_54 : decode cX1_isLate 54 = .ok (.iadd, 1) := by decide +kernel
theorem dX1_isLate_55 : decode cX1_isLate 55 = .ok (.if_icmp .ge 7, 3) := by decide +kernel
theorem dX1_isLate_58 : decode cX1_isLate 58 = .ok (.iconst 1, 1) := by decide +kernel
theorem dX1_isLate_59 : decode cX1_isLate 59 = .ok (.goto 4, 3) := by decide +kernel
theorem dX1_isLate_62 : decode cX1_isLate 62 = .ok (.iconst 0, 1) := by decide +kernel
theorem dX1_isLate_63 : decode cX1_isLate 63 = .ok (.ireturn, 1) := by decide +kernel
set_option maxRecDepth 20000 in
set_option maxHeartbeats 4000000 in
theorem k_Ly_isLate (l : Launch) (w : WT) (σ : MM) (s : Int) (i_s : inr s) (hs : 0 ≤ s ∧ s < 2 * σ 53 0) (hsrc : SrcOK (σ 5) (σ 53 0)) (hlc : ∀ a : Int, 0 ≤ a → a < σ 53 0 → σ 15 a < σ 56 0 * σ 57 0) : CT SX l w yX1_isLate cX1_isLate 4 (some .boolean) 3 63 [.ref (w.2.2 14), .int (iI s)] σ (PI fun z σ1 => σ = σ1 ∧ ((z = 1 ∧ P4x σ s) ∨ (z = 0 ∧ ¬ P4x σ s))) := by
  refine CT.of 2 [some (.ref (w.2.2 14)), some (.int (iI s)), none, none] (by decide +kernel) (by simp [lg_sl, Value.category]) rfl sh_X (fun G hX => ?_)
  refine r_aload_n hX dX1_isLate_0 rfl ?_
  refine fg_X14_18 hX dX1_isLate_1 ?_
  refine r_iload_n hX dX1_isLate_4 rfl ?_
  refine r_callV hX dX1_isLate_5 (k_Lp_sourceOf l w σ _ (by omega)) mf_X2_sourceOf mv_X2_sourceOf lk_RX1_84 rfl rfl rfl rfl rfl ⟨Nat.le_of_ble_eq_true rfl, Nat.le_of_ble_eq_true rfl⟩ (Nat.le_of_ble_eq_true rfl) (kI fun z5 σ5 hh => ?_)
  obtain ⟨rfl, h5_0, h5_1⟩ := hh
  refine r_istore_n hX (fun x8 => [some (.ref (w.2.2 14)), some (.int (iI s)), some (.int (iI x8)), none]) dX1_isLate_8 (Nat.le_of_ble_eq_true rfl) rfl rfl (fun _ => rfl) (fun x8 e8 => ?_)
  refine r_iload_n hX dX1_isLate_9 rfl ?_
  refine r_bipush hX dX1_isLate_10 (by decide) ?_
  refine r_icmp_ne hX (tgt := 17) dX1_isLate_12 (by decide) (by omega) (by omega) (fun c12 => ?_) (fun c12 => ?_)
  · skip
    obtain rfl : x8 = σ 5 s := by omega
    have h9 := hsrc s (by omega) (by omega)
    have hl1 := hlc (σ 5 s) (by omega) (by omega)
    have hl2 := hlc (s / 2) (by omega) (by omega)
    refine r_aload_n hX dX1_isLate_17 rfl ?_
    refine fg_X14_22 hX dX1_isLate_18 ?_
    refine r_aload_n hX dX1_isLate_21 rfl ?_
    refine r_iload_n hX dX1_isLate_22 rfl ?_
    refine r_callV hX dX1_isLate_23 (k_Ly_cellOf l w σ _ (by omega)) mf_X1_cellOf mv_X1_cellOf lk_RX1_63 rfl rfl rfl rfl rfl ⟨Nat.le_of_ble_eq_true rfl, Nat.le_of_ble_eq_true rfl⟩ (Nat.le_of_ble_eq_true rfl) (kI fun z23 σ23 hh => ?_)
    obtain ⟨rfl, h23_0, h23_1⟩ := hh
    obtain rfl : z23 = σ 15 (σ 5 s) := by omega
    refine r_aload_n hX dX1_isLate_26 rfl ?_
    refine r_iload_n hX dX1_isLate_27 rfl ?_
    refine r_iconst hX dX1_isLate_28 ?_
    refine r_idiv hX dX1_isLate_29 (by omega) (by omega) (by omega) (by omega) ?_
    refine r_callV hX dX1_isLate_30 (k_Ly_cellOf l w σ _ (by omega)) mf_X1_cellOf mv_X1_cellOf lk_RX1_63 rfl rfl rfl rfl rfl ⟨Nat.le_of_ble_eq_true rfl, Nat.le_of_ble_eq_true rfl⟩ (Nat.le_of_ble_eq_true rfl) (kI fun z30 σ30 hh => ?_)
    obtain ⟨rfl, h30_0, h30_1⟩ := hh
    obtain rfl : z30 = σ 15 (s / 2) := by omega
    refine r_callV hX dX1_isLate_33 (k_Gd_wayBetween l w σ _ _ (by omega) (by omega)) mf_X0_wayBetween mv_X0_wayBetween lk_RX1_87 rfl rfl rfl rfl rfl ⟨Nat.le_of_ble_eq_true rfl, Nat.le_of_ble_eq_true rfl⟩ (Nat.le_of_ble_eq_true rfl) (kI fun z33 σ33 hh => ?_)
    obtain ⟨rfl, h33_0⟩ := hh
    refine r_istore_n hX (fun x36 => [some (.ref (w.2.2 14)), some (.int (iI s)), some (.int (iI (σ 5 s))), some (.int (iI x36))]) dX1_isLate_36 (Nat.le_of_ble_eq_true rfl) rfl rfl (fun _ => rfl) (fun x36 e36 => ?_)
    refine r_iload_n hX dX1_isLate_37 rfl ?_
    refine r_bipush hX dX1_isLate_38 (by decide) ?_
    refine r_icmp_eq hX (tgt := 58) dX1_isLate_40 (by decide) (by omega) (by omega) (fun c40 => ?_) (fun c40 => ?_)
    · skip
      refine r_iconst hX dX1_isLate_58 ?_
      refine r_goto hX dX1_isLate_59 (tgt := 63) (by decide) ?_
      exact r_zret hX dX1_isLate_63 rfl (by omega) ⟨_, rfl, ⟨rfl, (by rw [late_iff]; first | exact Or.inl ⟨rfl, by omega, by omega⟩ | exact Or.inr ⟨rfl, by omega⟩)⟩⟩
    · skip
      refine r_aload_n hX dX1_isLate_43 rfl ?_
      refine r_iload_n hX dX1_isLate_44 rfl ?_
      refine r_callV hX dX1_isLate_45 (k_Ly_usedAt l w σ _ (by omega) (by omega)) mf_X1_usedAt mv_X1_usedAt lk_RX1_91 rfl rfl rfl rfl rfl ⟨Nat.le_of_ble_eq_true rfl, Nat.le_of_ble_eq_true rfl⟩ (Nat.le_of_ble_eq_true rfl) (kI fun z45 σ45 hh => ?_)
      obtain ⟨rfl, h45_0, h45_1⟩ := hh
      refine r_aload_n hX dX1_isLate_48 rfl ?_
      refine r_iload_n hX dX1_isLate_49 rfl ?_
      refine r_callV hX dX1_isLate_50 (k_Ly_madeAt l w σ _ (by omega) (by omega)) mf_X1_madeAt mv_X1_madeAt lk_RX1_94 rfl rfl rfl rfl rfl ⟨Nat.le_of_ble_eq_true rfl, Nat.le_of_ble_eq_true rfl⟩ (Nat.le_of_ble_eq_true rfl) (kI fun z50 σ50 hh => ?_)
      obtain ⟨rfl, h50_0, h50_1⟩ := hh
      refine r_iload_n hX dX1_isLate_53 rfl ?_
      refine r_iadd hX dX1_isLate_54 ?_
      refine r_icmp_ge hX (tgt := 62) dX1_isLate_55 (by decide) (by omega) (by omega) (fun c55 => ?_) (fun c55 => ?_)
      · skip
        refine r_iconst hX dX1_isLate_62 ?_
        exact r_zret hX dX1_isLate_63 rfl (by omega) ⟨_, rfl, ⟨rfl, (by rw [late_iff]; first | exact Or.inl ⟨rfl, by omega, by omega⟩ | exact Or.inr ⟨rfl, by omega⟩)⟩⟩
      · skip
        refine r_iconst hX dX1_isLate_58 ?_
        refine r_goto hX dX1_isLate_59 (tgt := 63) (by decide) ?_
        exact r_zret hX dX1_isLate_63 rfl (by omega) ⟨_, rfl, ⟨rfl, (by rw [late_iff]; first | exact Or.inl ⟨rfl, by omega, by omega⟩ | exact Or.inr ⟨rfl, by omega⟩)⟩⟩
  · skip
    refine r_iconst hX dX1_isLate_15 ?_
    exact r_zret hX dX1_isLate_16 rfl (by omega) ⟨_, rfl, ⟨rfl, (by exact Or.inr ⟨rfl, fun q => q.1 (by omega)⟩)⟩⟩
theorem dX1_meetsOneAhead_0 : decode cX1_meetsOneAhead 0 = .ok (.aload_n 0, 1) := by decide +kernel
theorem dX1_meetsOneAhead_1 : decode cX1_meetsOneAhead 1 = .ok (.getfield 26, 3) := by decide +kernel
theorem dX1_meetsOneAhead_4 : decode cX1_meetsOneAhead 4 = .ok (.iconst 1, 1) := by decide +kernel
theorem dX1_meetsOneAhead_5 : decode cX1_meetsOneAhead 5 = .ok (.if_icmp .ge 5, 3) := by decide +kernel
theorem dX1_meetsOneAhead_8 : decode cX1_meetsOneAhead 8 = .ok (.iconst 0, 1) := by decide +kernel
theorem dX1_meetsOneAhead_9 : decode cX1_meetsOneAhead 9 = .ok (.ireturn, 1) := by decide +kernel
theorem dX1_meetsOneAhead_10 : decode cX1_meetsOneAhead 10 = .ok (.iconst 0, 1) := by decide +kernel
theorem dX1_meetsOneAhead_11 : decode cX1_meetsOneAhead 11 = .ok (.istore_n 2, 1) := by decide +kernel
theorem dX1_meetsOneAhead_12 : decode cX1_meetsOneAhead 12 = .ok (.iload_n 2, 1) := by decide +kernel
theorem dX1_meetsOneAhead_13 : decode cX1_meetsOneAhead 13 = .ok (.iload_n 1, 1) := by decide +kernel
theorem dX1_meetsOneAhead_14 : decode cX1_meetsOneAhead 14 = .ok (.if_icmp .ge 53, 3) := by decide +kernel
theorem dX1_meetsOneAhead_17 : decode cX1_meetsOneAhead 17 = .ok (.aload_n 0, 1) := by decide +kernel
theorem dX1_meetsOneAhead_18 : decode cX1_meetsOneAhead 18 = .ok (.iload_n 2, 1) := by decide +kernel
theorem dX1_meetsOneAhead_19 : decode cX1_meetsOneAhead 19 = .ok (.invokevirtual 63, 3) := by decide +kernel
theorem dX1_meetsOneAhead_22 : decode cX1_meetsOneAhead 22 = .ok (.aload_n 0, 1) := by decide +kernel
theorem dX1_meetsOneAhead_23 : decode cX1_meetsOneAhead 23 = .ok (.iload_n 1, 1) := by decide +kernel
theorem dX1_meetsOneAhead_24 : decode cX1_meetsOneAhead 24 = .ok (.invokevirtual 63, 3) := by decide +kernel
theorem dX1_meetsOneAhead_27 : decode cX1_meetsOneAhead 27 = .ok (.if_icmp .ne 7, 3) := by decide +kernel
theorem dX1_meetsOneAhead_30 : decode cX1_meetsOneAhead 30 = .ok (.iconst 1, 1) := by decide +kernel
theorem dX1_meetsOneAhead_31 : decode cX1_meetsOneAhead 31 = .ok (.goto 4, 3) := by decide +kernel
theorem dX1_meetsOneAhead_34 : decode cX1_meetsOneAhead 34 = .ok (.iconst 0, 1) := by decide +kernel
theorem dX1_meetsOneAhead_35 : decode cX1_meetsOneAhead 35 = .ok (.istore_n 3, 1) := by decide +kernel
theorem dX1_meetsOneAhead_36 : decode cX1_meetsOneAhead 36 = .ok (.iload_n 3, 1) := by decide +kernel
theorem dX1_meetsOneAhead_37 : decode cX1_meetsOneAhead 37 = .ok (.ifCond .eq 24, 3) := by decide +kernel
theorem dX1_meetsOneAhead_40 : decode cX1_meetsOneAhead 40 = .ok (.aload_n 0, 1) := by decide +kernel
theorem dX1_meetsOneAhead_41 : decode cX1_meetsOneAhead 41 = .ok (.iload_n 1, 1) := by decide +kernel
theorem dX1_meetsOneAhead_42 : decode cX1_meetsOneAhead 42 = .ok (.invokevirtual 42, 3) := by decide +kernel
theorem dX1_meetsOneAhead_45 : decode cX1_meetsOneAhead 45 = .ok (.aload_n 0, 1) := by decide +kernel
theorem dX1_meetsOneAhead_46 : decode cX1_meetsOneAhead 46 = .ok (.iload_n 2, 1) := by decide +kernel
theorem dX1_meetsOneAhead_47 : decode cX1_meetsOneAhead 47 = .ok (.invokevirtual 42, 3) := by decide +kernel
theorem dX1_meetsOneAhead_50 : decode cX1_meetsOneAhead 50 = .ok (.isub, 1) := by decide +kernel
theorem dX1_meetsOneAhead_51 : decode cX1_meetsOneAhead 51 = .ok (.aload_n 0, 1) := by decide +kernel
theorem dX1_meetsOneAhead_52 : decode cX1_meetsOneAhead 52 = .ok (.getfield 26, 3) := by decide +kernel
theorem dX1_meetsOneAhead_55 : decode cX1_meetsOneAhead 55 = .ok (.irem, 1) := by decide +kernel
theorem dX1_meetsOneAhead_56 : decode cX1_meetsOneAhead 56 = .ok (.ifCond .ne 5, 3) := by decide +kernel
theorem dX1_meetsOneAhead_59 : decode cX1_meetsOneAhead 59 = .ok (.iconst 1, 1) := by decide +kernel
theorem dX1_meetsOneAhead_60 : decode cX1_meetsOneAhead 60 = .ok (.ireturn, 1) := by decide +kernel
theorem dX1_meetsOneAhead_61 : decode cX1_meetsOneAhead 61 = .ok (.iinc 2 1, 3) := by decide +kernel
theorem dX1_meetsOneAhead_64 : decode cX1_meetsOneAhead 64 = .ok (.goto (-52), 3) := by decide +kernel
theorem dX1_meetsOneAhead_67 : decode cX1_meetsOneAhead 67 = .ok (.iconst 0, 1) := by decide +kernel
theorem dX1_meetsOneAhead_68 : decode cX1_meetsOneAhead 68 = .ok (.ireturn, 1) := by decide +kernel
set_option maxRecDepth 20000 in
set_option maxHeartbeats 4000000 in
theorem k_Ly_meets (l : Launch) (w : WT) (σ : MM) (a : Int) (i_a : inr a) (ha : 0 ≤ a ∧ a < σ 53 0) (hbt : 0 < σ 58 0) : CT SX l w yX1_meetsOneAhead cX1_meetsOneAhead 4 (some .boolean) 2 42 [.ref (w.2.2 14), .int (iI a)] σ (PI fun z σ1 => σ = σ1 ∧ ((z = 1 ∧ P3x σ a) ∨ (z = 0 ∧ ¬ P3x σ a))) := by
  refine CT.of 2 [some (.ref (w.2.2 14)), some (.int (iI a)), none, none] (by decide +kernel) (by simp [lg_sl, Value.category]) rfl sh_X (fun G hX => ?_)
  refine r_bd hX (fun hBd => ?_)
  have b_53 := hBd 53 0 8 rfl 0
  have b_58 := hBd 58 0 12 rfl 0
  refine r_aload_n hX dX1_meetsOneAhead_0 rfl ?_
  refine fg_X14_26 hX dX1_meetsOneAhead_1 (fun b1l b1u => ?_)
  refine r_iconst hX dX1_meetsOneAhead_4 ?_
  refine r_icmp_ge hX (tgt := 10) dX1_meetsOneAhead_5 (by decide) (by omega) (by omega) (fun c5 => ?_) (fun c5 => ?_)
  · skip
    refine r_iconst hX dX1_meetsOneAhead_10 ?_
    refine r_istore_n hX (fun x11 => [some (.ref (w.2.2 14)), some (.int (iI a)), some (.int (iI x11)), none]) dX1_meetsOneAhead_11 (Nat.le_of_ble_eq_true rfl) rfl rfl (fun _ => rfl) (fun x11 e11 => ?_)
    have lp12 : ∀ (n : Nat) (o : Int) (ho : 0 ≤ o ∧ o ≤ a) (hn : Non (fun x => σ 15 x = σ 15 a ∧ σ 16 a % σ 58 0 = σ 16 x % σ 58 0) o) (hmu : 9 - o < (n : Int)), G 12 [some (.ref (w.2.2 14)), some (.int (iI a)), some (.int (iI o)), none] [] σ := by
      intro n
      induction n with
      | zero => intro o ho hn hmu; omega
      | succ n ih =>
        intro o ho hn hmu
        have ih12 := ih
        clear ih
        refine r_iload_n hX dX1_meetsOneAhead_12 rfl ?_
        refine r_iload_n hX dX1_meetsOneAhead_13 rfl ?_
        refine r_icmp_ge hX (tgt := 67) dX1_meetsOneAhead_14 (by decide) (by omega) (by omega) (fun c14 => ?_) (fun c14 => ?_)
        · skip
          refine r_iconst hX dX1_meetsOneAhead_67 ?_
          exact r_zret hX dX1_meetsOneAhead_68 rfl (by omega) ⟨_, rfl, ⟨rfl, (by exact Or.inr ⟨rfl, fun ⟨o1, q0, q1, q2, q3⟩ => hn o1 q0 (by omega) ⟨q2, q3⟩⟩)⟩⟩
        · skip
          refine r_aload_n hX dX1_meetsOneAhead_17 rfl ?_
          refine r_iload_n hX dX1_meetsOneAhead_18 rfl ?_
          refine r_callV hX dX1_meetsOneAhead_19 (k_Ly_cellOf l w σ _ (by omega)) mf_X1_cellOf mv_X1_cellOf lk_RX1_63 rfl rfl rfl rfl rfl ⟨Nat.le_of_ble_eq_true rfl, Nat.le_of_ble_eq_true rfl⟩ (Nat.le_of_ble_eq_true rfl) (kI fun z19 σ19 hh => ?_)
          obtain ⟨rfl, h19_0, h19_1⟩ := hh
          obtain rfl : z19 = σ 15 o := by omega
          refine r_aload_n hX dX1_meetsOneAhead_22 rfl ?_
          refine r_iload_n hX dX1_meetsOneAhead_23 rfl ?_
          refine r_callV hX dX1_meetsOneAhead_24 (k_Ly_cellOf l w σ _ (by omega)) mf_X1_cellOf mv_X1_cellOf lk_RX1_63 rfl rfl rfl rfl rfl ⟨Nat.le_of_ble_eq_true rfl, Nat.le_of_ble_eq_true rfl⟩ (Nat.le_of_ble_eq_true rfl) (kI fun z24 σ24 hh => ?_)
          obtain ⟨rfl, h24_0, h24_1⟩ := hh
          obtain rfl : z24 = σ 15 a := by omega
          refine r_icmp_ne hX (tgt := 34) dX1_meetsOneAhead_27 (by decide) (by omega) (by omega) (fun c27 => ?_) (fun c27 => ?_)
          · skip
            refine r_iconst hX dX1_meetsOneAhead_34 ?_
            refine r_istore_n hX (fun x35 => [some (.ref (w.2.2 14)), some (.int (iI a)), some (.int (iI o)), some (.int (iI x35))]) dX1_meetsOneAhead_35 (Nat.le_of_ble_eq_true rfl) rfl rfl (fun _ => rfl) (fun x35 e35 => ?_)
            refine r_iload_n hX dX1_meetsOneAhead_36 rfl ?_
            refine r_if_eq hX (tgt := 61) dX1_meetsOneAhead_37 (by decide) (by omega) (fun c37 => ?_) (fun c37 => by exfalso; omega)
            refine r_iinc hX (fun x61 => [some (.ref (w.2.2 14)), some (.int (iI a)), some (.int (iI x61)), some (.int (iI x35))]) dX1_meetsOneAhead_61 rfl rfl rfl (fun _ => rfl) (fun x61 e61 => ?_)
            refine r_goto hX dX1_meetsOneAhead_64 (tgt := 12) (by decide) ?_
            refine r_wk hX (lv1 := [some (.ref (w.2.2 14)), some (.int (iI a)), some (.int (iI x61)), none]) ⟨rfl, ⟨rfl, ⟨rfl, trivial⟩⟩⟩ ?_
            exact ih12 x61 (by omega) (hn.next (fun q => by first | exact absurd q.1 (by omega) | exact absurd ((tmod_same (x := σ 16 a) (y := σ 16 o) (b := σ 58 0) (by omega)).mpr q.2) (by omega)) e61) (by omega)
          · skip
            refine r_iconst hX dX1_meetsOneAhead_30 ?_
            refine r_goto hX dX1_meetsOneAhead_31 (tgt := 35) (by decide) ?_
            refine r_istore_n hX (fun x35 => [some (.ref (w.2.2 14)), some (.int (iI a)), some (.int (iI o)), some (.int (iI x35))]) dX1_meetsOneAhead_35 (Nat.le_of_ble_eq_true rfl) rfl rfl (fun _ => rfl) (fun x35 e35 => ?_)
            refine r_iload_n hX dX1_meetsOneAhead_36 rfl ?_
            refine r_if_eq hX (tgt := 61) dX1_meetsOneAhead_37 (by decide) (by omega) (fun c37 => by exfalso; omega) (fun c37 => ?_)
            refine r_aload_n hX dX1_meetsOneAhead_40 rfl ?_
            refine r_iload_n hX dX1_meetsOneAhead_41 rfl ?_
            refine r_callV hX dX1_meetsOneAhead_42 (k_Ly_startOf l w σ _ (by omega)) mf_X1_startOf mv_X1_startOf lk_RX1_42 rfl rfl rfl rfl rfl ⟨Nat.le_of_ble_eq_true rfl, Nat.le_of_ble_eq_true rfl⟩ (Nat.le_of_ble_eq_true rfl) (kI fun z42 σ42 hh => ?_)
            obtain ⟨rfl, h42_0, h42_1⟩ := hh
            obtain rfl : z42 = σ 16 a := by omega
            refine r_aload_n hX dX1_meetsOneAhead_45 rfl ?_
            refine r_iload_n hX dX1_meetsOneAhead_46 rfl ?_
            refine r_callV hX dX1_meetsOneAhead_47 (k_Ly_startOf l w σ _ (by omega)) mf_X1_startOf mv_X1_startOf lk_RX1_42 rfl rfl rfl rfl rfl ⟨Nat.le_of_ble_eq_true rfl, Nat.le_of_ble_eq_true rfl⟩ (Nat.le_of_ble_eq_true rfl) (kI fun z47 σ47 hh => ?_)
            obtain ⟨rfl, h47_0, h47_1⟩ := hh
            obtain rfl : z47 = σ 16 o := by omega
            have b16 := hBd 16 0 20000000 rfl a
            have b16o := hBd 16 0 20000000 rfl o
            refine r_isub hX dX1_meetsOneAhead_50 ?_
            refine r_aload_n hX dX1_meetsOneAhead_51 rfl ?_
            refine fg_X14_26 hX dX1_meetsOneAhead_52 (fun b52l b52u => ?_)
            refine r_iremT hX dX1_meetsOneAhead_55 (by omega) (by omega) (by omega) ?_
            have tb := Int.tmod_lt_of_pos (σ 16 a - σ 16 o) (show (0 : Int) < σ 58 0 by omega)
            have tb2 := Int.lt_tmod_of_pos (σ 16 a - σ 16 o) (show (0 : Int) < σ 58 0 by omega)
            refine r_if_ne hX (tgt := 61) dX1_meetsOneAhead_56 (by decide) (by omega) (fun c56 => ?_) (fun c56 => ?_)
            · skip
              refine r_iinc hX (fun x61 => [some (.ref (w.2.2 14)), some (.int (iI a)), some (.int (iI x61)), some (.int (iI x35))]) dX1_meetsOneAhead_61 rfl rfl rfl (fun _ => rfl) (fun x61 e61 => ?_)
              refine r_goto hX dX1_meetsOneAhead_64 (tgt := 12) (by decide) ?_
              refine r_wk hX (lv1 := [some (.ref (w.2.2 14)), some (.int (iI a)), some (.int (iI x61)), none]) ⟨rfl, ⟨rfl, ⟨rfl, trivial⟩⟩⟩ ?_
              exact ih12 x61 (by omega) (hn.next (fun q => by first | exact absurd q.1 (by omega) | exact absurd ((tmod_same (x := σ 16 a) (y := σ 16 o) (b := σ 58 0) (by omega)).mpr q.2) (by omega)) e61) (by omega)
            · skip
              refine r_iconst hX dX1_meetsOneAhead_59 ?_
              exact r_zret hX dX1_meetsOneAhead_60 rfl (by omega) ⟨_, rfl, ⟨rfl, (by exact Or.inl ⟨rfl, o, by omega, by omega, by omega, (tmod_same (by omega)).mp (by omega)⟩)⟩⟩
    exact lp12 ((9 - (x11)) + 1).toNat x11 (by omega) (fun b b0 b1 => by omega) (by omega)
  · exfalso; omega
theorem dX1_firstLack_0 : decode cX1_firstLack 0 = .ok (.aload_n 0, 1) := by decide +kernel
theorem dX1_firstLack_1 : decode cX1_firstLack 1 = .ok (.getfield 18, 3) := by decide +kernel
theorem dX1_firstLack_4 : decode cX1_firstLack 4 = .ok (.invokevirtual 60, 3) := by decide +kernel
theorem dX1_firstLack_7 : decode cX1_firstLack 7 = .ok (.istore_n 1, 1) := by decide +kernel
theorem dX1_firstLack_8 : decode cX1_firstLack 8 = .ok (.iconst 0, 1) := by decide +kernel
theorem dX1_firstLack_9 : decode cX1_firstLack 9 = .ok (.istore_n 2, 1) := by decide +kernel
theorem dX1_firstLack_10 : decode cX1_firstLack 10 = .ok (.iload_n 2, 1) := by decide +kernel
theorem dX1_firstLack_11 : decode cX1_firstLack 11 = .ok (.iload_n 1, 1) := by decide +kernel
theorem dX1_firstLack_12 : decode cX1_firstLack 12 = .ok (.if_icmp .ge 29, 3) := by decide +kernel
theorem dX1_firstLack_15 : decode cX1_firstLack 15 = .ok (.aload_n 0, 1) := by decide +kernel
theorem dX1_firstLack_16 : decode cX1_firstLack 16 = .ok (.getfield 22, 3) := by decide +kernel
theorem dX1_firstLack_19 : decode cX1_firstLack 19 = .ok (.aload_n 0, 1) := by decide +kernel
theorem dX1_firstLack_20 : decode cX1_firstLack 20 = .ok (.iload_n 2, 1) := by decide +kernel
theorem dX1_firstLack_21 : decode cX1_firstLack 21 = .ok (.invokevirtual 63, 3) := by decide +kernel
theorem dX1_firstLack_24 : decode cX1_firstLack 24 = .ok (.invokevirtual 66, 3) := by decide +kernel
theorem dX1_firstLack_27 : decode cX1_firstLack 27 = .ok (.ifCond .eq 8, 3) := by decide +kernel
theorem dX1_firstLack_30 : decode cX1_firstLack 30 = .ok (.bipush 10, 2) := by decide +kernel
theorem dX1_firstLack_32 : decode cX1_firstLack 32 = .ok (.iload_n 2, 1) := by decide +kernel
theorem dX1_firstLack_33 : decode cX1_firstLack 33 = .ok (.iadd, 1) := by decide +kernel
theorem dX1_firstLack_34 : decode cX1_firstLack 34 = .ok (.ireturn, 1) := by decide +kernel
theorem dX1_firstLack_35 : decode cX1_firstLack 35 = .ok (.iinc 2 1, 3) := by decide +kernel
theorem dX1_firstLack_38 : decode cX1_firstLack 38 = .ok (.goto (-28), 3) := by decide +kernel
theorem dX1_firstLack_41 : decode cX1_firstLack 41 = .ok (.iconst 0, 1) := by decide +kernel
theorem dX1_firstLack_42 : decode cX1_firstLack 42 = .ok (.istore_n 2, 1) := by decide +kernel
theorem dX1_firstLack_43 : decode cX1_firstLack 43 = .ok (.iload_n 2, 1) := by decide +kernel
theorem dX1_firstLack_44 : decode cX1_firstLack 44 = .ok (.iload_n 1, 1) := by decide +kernel
theorem dX1_firstLack_45 : decode cX1_firstLack 45 = .ok (.if_icmp .ge 37, 3) := by decide +kernel
theorem dX1_firstLack_48 : decode cX1_firstLack 48 = .ok (.aload_n 0, 1) := by decide +kernel
theorem dX1_firstLack_49 : decode cX1_firstLack 49 = .ok (.getfield 22, 3) := by decide +kernel
theorem dX1_firstLack_52 : decode cX1_firstLack 52 = .ok (.aload_n 0, 1) := by decide +kernel
theorem dX1_firstLack_53 : decode cX1_firstLack 53 = .ok (.getfield 18, 3) := by decide +kernel
theorem dX1_firstLack_56 : decode cX1_firstLack 56 = .ok (.iload_n 2, 1) := by decide +kernel
theorem dX1_firstLack_57 : decode cX1_firstLack 57 = .ok (.invokevirtual 71, 3) := by decide +kernel
theorem dX1_firstLack_60 : decode cX1_firstLack 60 = .ok (.aload_n 0, 1) := by decide +kernel
theorem dX1_firstLack_61 : decode cX1_firstLack 61 = .ok (.iload_n 2, 1) := by decide +kernel
theorem dX1_firstLack_62 : decode cX1_firstLack 62 = .ok (.invokevirtual 63, 3) := by decide +kernel
theorem dX1_firstLack_65 : decode cX1_firstLack 65 = .ok (.invokevirtual 74, 3) := by decide +kernel
theorem dX1_firstLack_68 : decode cX1_firstLack 68 = .ok (.ifCond .ne 8, 3) := by decide +kernel
theorem dX1_firstLack_71 : decode cX1_firstLack 71 = .ok (.bipush 20, 2) := by decide +kernel
theorem dX1_firstLack_73 : decode cX1_firstLack 73 = .ok (.iload_n 2, 1) := by decide +kernel
theorem dX1_firstLack_74 : decode cX1_firstLack 74 = .ok (.iadd, 1) := by decide +kernel
theorem dX1_firstLack_75 : decode cX1_firstLack 75 = .ok (.ireturn, 1) := by decide +kernel
theorem dX1_firstLack_76 : decode cX1_firstLack 76 = .ok (.iinc 2 1, 3) := by decide +kernel
theorem dX1_firstLack_79 : decode cX1_firstLack 79 = .ok (.goto (-36), 3) := by decide +kernel
theorem dX1_firstLack_82 : decode cX1_firstLack 82 = .ok (.iconst 0, 1) := by decide +kernel
theorem dX1_firstLack_83 : decode cX1_firstLack 83 = .ok (.istore_n 2, 1) := by decide +kernel
theorem dX1_firstLack_84 : decode cX1_firstLack 84 = .ok (.iload_n 2, 1) := by decide +kernel
theorem dX1_firstLack_85 : decode cX1_firstLack 85 = .ok (.iload_n 1, 1) := by decide +kernel
theorem dX1_firstLack_86 : decode cX1_firstLack 86 = .ok (.if_icmp .ge 22, 3) := by decide +kernel
theorem dX1_firstLack_89 : decode cX1_firstLack 89 = .ok (.aload_n 0, 1) := by decide +kernel
theorem dX1_firstLack_90 : decode cX1_firstLack 90 = .ok (.iload_n 2, 1) := by decide +kernel
theorem dX1_firstLack_91 : decode cX1_firstLack 91 = .ok (.invokevirtual 78, 3) := by decide +kernel
theorem dX1_firstLack_94 : decode cX1_firstLack 94 = .ok (.ifCond .eq 8, 3) := by decide +kernel
theorem dX1_firstLack_97 : decode cX1_firstLack 97 = .ok (.bipush 30, 2) := by decide +kernel
theorem dX1_firstLack_99 : decode cX1_firstLack 99 = .ok (.iload_n 2, 1) := by decide +kernel
theorem dX1_firstLack_100 : decode cX1_firstLack 100 = .ok (.iadd, 1) := by decide +kernel
theorem dX1_firstLack_101 : decode cX1_firstLack 101 = .ok (.ireturn, 1) := by decide +kernel
theorem dX1_firstLack_102 : decode cX1_firstLack 102 = .ok (.iinc 2 1, 3) := by decide +kernel
theorem dX1_firstLack_105 : decode cX1_firstLack 105 = .ok (.goto (-21), 3) := by decide +kernel
theorem dX1_firstLack_108 : decode cX1_firstLack 108 = .ok (.iconst 0, 1) := by decide +kernel
theorem dX1_firstLack_109 : decode cX1_firstLack 109 = .ok (.istore_n 2, 1) := by decide +kernel
theorem dX1_firstLack_110 : decode cX1_firstLack 110 = .ok (.iload_n 2, 1) := by decide +kernel
theorem dX1_firstLack_111 : decode cX1_firstLack 111 = .ok (.iconst 2, 1) := by decide +kernel
theorem dX1_firstLack_112 : decode cX1_firstLack 112 = .ok (.iload_n 1, 1) := by decide +kernel
theorem dX1_firstLack_113 : decode cX1_firstLack 113 = .ok (.imul, 1) := by decide +kernel
theorem dX1_firstLack_114 : decode cX1_firstLack 114 = .ok (.if_icmp .ge 22, 3) := by decide +kernel
theorem dX1_firstLack_117 : decode cX1_firstLack 117 = .ok (.aload_n 0, 1) := by decide +kernel
theorem dX1_firstLack_118 : decode cX1_firstLack 118 = .ok (.iload_n 2, 1) := by decide +kernel
theorem dX1_firstLack_119 : decode cX1_firstLack 119 = .ok (.invokevirtual 81, 3) := by decide +kernel
theorem dX1_firstLack_122 : decode cX1_firstLack 122 = .ok (.ifCond .eq 8, 3) := by decide +kernel
theorem dX1_firstLack_125 : decode cX1_firstLack 125 = .ok (.bipush 40, 2) := by decide +kernel
theorem dX1_firstLack_127 : decode cX1_firstLack 127 = .ok (.iload_n 2, 1) := by decide +kernel
theorem dX1_firstLack_128 : decode cX1_firstLack 128 = .ok (.iadd, 1) := by decide +kernel
theorem dX1_firstLack_129 : decode cX1_firstLack 129 = .ok (.ireturn, 1) := by decide +kernel
theorem dX1_firstLack_130 : decode cX1_firstLack 130 = .ok (.iinc 2 1, 3) := by decide +kernel
theorem dX1_firstLack_133 : decode cX1_firstLack 133 = .ok (.goto (-23), 3) := by decide +kernel
theorem dX1_firstLack_136 : decode cX1_firstLack 136 = .ok (.iconst 0, 1) := by decide +kernel
theorem dX1_firstLack_137 : decode cX1_firstLack 137 = .ok (.ireturn, 1) := by decide +kernel
set_option maxRecDepth 20000 in
set_option maxHeartbeats 4000000 in
theorem k_Ly_firstLack (l : Launch) (w : WT) (σ : MM) (hsrc : SrcOK (σ 5) (σ 53 0)) (hlc : ∀ a : Int, 0 ≤ a → a < σ 53 0 → σ 15 a < σ 56 0 * σ 57 0) (hbt : 0 < σ 58 0) : CT SX l w yX1_firstLack cX1_firstLack 3 (some .int) 4 86 [.ref (w.2.2 14)] σ (PI fun z σ1 => σ = σ1 ∧ (FLx σ z) ∧ (0 ≤ z ∧ z ≤ 60)) := by
  refine CT.of 2 [some (.ref (w.2.2 14)), none, none] (by decide +kernel) (by simp [lg_sl, Value.category]) rfl sh_X (fun G hX => ?_)
  refine r_aload_n hX dX1_firstLack_0 rfl ?_
  refine fg_X14_18 hX dX1_firstLack_1 ?_
  refine r_callV hX dX1_firstLack_4 (k_Lp_count l w σ) mf_X2_count mv_X2_count lk_RX1_60 rfl rfl rfl rfl rfl ⟨Nat.le_of_ble_eq_true rfl, Nat.le_of_ble_eq_true rfl⟩ (Nat.le_of_ble_eq_true rfl) (kI fun z4 σ4 hh => ?_)
  obtain ⟨rfl, h4_0, h4_1⟩ := hh
  refine r_istore_n hX (fun x7 => [some (.ref (w.2.2 14)), some (.int (iI x7)), none]) dX1_firstLack_7 (Nat.le_of_ble_eq_true rfl) rfl rfl (fun _ => rfl) (fun x7 e7 => ?_)
  refine r_iconst hX dX1_firstLack_8 ?_
  refine r_istore_n hX (fun x9 => [some (.ref (w.2.2 14)), some (.int (iI x7)), some (.int (iI x9))]) dX1_firstLack_9 (Nat.le_of_ble_eq_true rfl) rfl rfl (fun _ => rfl) (fun x9 e9 => ?_)
  have lp10 : ∀ (n : Nat) (a1 : Int) (ha1 : 0 ≤ a1 ∧ a1 ≤ σ 53 0) (hn1 : Non (P1x σ) a1) (hmu : 9 - a1 < (n : Int)), G 10 [some (.ref (w.2.2 14)), some (.int (iI x7)), some (.int (iI a1))] [] σ := by
    intro n
    induction n with
    | zero => intro a1 ha1 hn1 hmu; omega
    | succ n ih =>
      intro a1 ha1 hn1 hmu
      have ih10 := ih
      clear ih
      refine r_iload_n hX dX1_firstLack_10 rfl ?_
      refine r_iload_n hX dX1_firstLack_11 rfl ?_
      refine r_icmp_ge hX (tgt := 41) dX1_firstLack_12 (by decide) (by omega) (by omega) (fun c12 => ?_) (fun c12 => ?_)
      · skip
        have hm1 : Non (P1x σ) (σ 53 0) := (show a1 = σ 53 0 by omega) ▸ hn1
        refine r_iconst hX dX1_firstLack_41 ?_
        refine r_istore_n hX (fun x42 => [some (.ref (w.2.2 14)), some (.int (iI x7)), some (.int (iI x42))]) dX1_firstLack_42 (Nat.le_of_ble_eq_true rfl) rfl rfl (fun _ => rfl) (fun x42 e42 => ?_)
        have lp43 : ∀ (n : Nat) (a2 : Int) (ha2 : 0 ≤ a2 ∧ a2 ≤ σ 53 0) (hn2 : Non (P2x σ) a2) (hmu : 9 - a2 < (n : Int)), G 43 [some (.ref (w.2.2 14)), some (.int (iI x7)), some (.int (iI a2))] [] σ := by
          intro n
          induction n with
          | zero => intro a2 ha2 hn2 hmu; omega
          | succ n ih =>
            intro a2 ha2 hn2 hmu
            have ih43 := ih
            clear ih
            refine r_iload_n hX dX1_firstLack_43 rfl ?_
            refine r_iload_n hX dX1_firstLack_44 rfl ?_
            refine r_icmp_ge hX (tgt := 82) dX1_firstLack_45 (by decide) (by omega) (by omega) (fun c45 => ?_) (fun c45 => ?_)
            · skip
              have hm2 : Non (P2x σ) (σ 53 0) := (show a2 = σ 53 0 by omega) ▸ hn2
              refine r_iconst hX dX1_firstLack_82 ?_
              refine r_istore_n hX (fun x83 => [some (.ref (w.2.2 14)), some (.int (iI x7)), some (.int (iI x83))]) dX1_firstLack_83 (Nat.le_of_ble_eq_true rfl) rfl rfl (fun _ => rfl) (fun x83 e83 => ?_)
              have lp84 : ∀ (n : Nat) (a3 : Int) (ha3 : 0 ≤ a3 ∧ a3 ≤ σ 53 0) (hn3 : Non (P3x σ) a3) (hmu : 9 - a3 < (n : Int)), G 84 [some (.ref (w.2.2 14)), some (.int (iI x7)), some (.int (iI a3))] [] σ := by
                intro n
                induction n with
                | zero => intro a3 ha3 hn3 hmu; omega
                | succ n ih =>
                  intro a3 ha3 hn3 hmu
                  have ih84 := ih
                  clear ih
                  refine r_iload_n hX dX1_firstLack_84 rfl ?_
                  refine r_iload_n hX dX1_firstLack_85 rfl ?_
                  refine r_icmp_ge hX (tgt := 108) dX1_firstLack_86 (by decide) (by omega) (by omega) (fun c86 => ?_) (fun c86 => ?_)
                  · skip
                    have hm3 : Non (P3x σ) (σ 53 0) := (show a3 = σ 53 0 by omega) ▸ hn3
                    refine r_iconst hX dX1_firstLack_108 ?_
                    refine r_istore_n hX (fun x109 => [some (.ref (w.2.2 14)), some (.int (iI x7)), some (.int (iI x109))]) dX1_firstLack_109 (Nat.le_of_ble_eq_true rfl) rfl rfl (fun _ => rfl) (fun x109 e109 => ?_)
                    have lp110 : ∀ (n : Nat) (s4 : Int) (hs4 : 0 ≤ s4 ∧ s4 ≤ 2 * σ 53 0) (hn4 : Non (P4x σ) s4) (hmu : 17 - s4 < (n : Int)), G 110 [some (.ref (w.2.2 14)), some (.int (iI x7)), some (.int (iI s4))] [] σ := by
                      intro n
                      induction n with
                      | zero => intro s4 hs4 hn4 hmu; omega
                      | succ n ih =>
                        intro s4 hs4 hn4 hmu
                        have ih110 := ih
                        clear ih
                        refine r_iload_n hX dX1_firstLack_110 rfl ?_
                        refine r_iconst hX dX1_firstLack_111 ?_
                        refine r_iload_n hX dX1_firstLack_112 rfl ?_
                        refine r_imul hX dX1_firstLack_113 ?_
                        refine r_icmp_ge hX (tgt := 136) dX1_firstLack_114 (by decide) (by omega) (by omega) (fun c114 => ?_) (fun c114 => ?_)
                        · skip
                          refine r_iconst hX dX1_firstLack_136 ?_
                          exact r_iret hX dX1_firstLack_137 rfl ⟨_, rfl, ⟨rfl, (by exact Or.inr (Or.inr (Or.inr (Or.inr ⟨hm1, hm2, hm3, (show s4 = 2 * σ 53 0 by omega) ▸ hn4, rfl⟩)))), (by omega)⟩⟩
                        · skip
                          refine r_aload_n hX dX1_firstLack_117 rfl ?_
                          refine r_iload_n hX dX1_firstLack_118 rfl ?_
                          refine r_callV hX dX1_firstLack_119 (k_Ly_isLate l w σ _ (by omega) (by omega) (by skip; exact hsrc) (by skip; exact hlc)) mf_X1_isLate mv_X1_isLate lk_RX1_81 rfl rfl rfl rfl rfl ⟨Nat.le_of_ble_eq_true rfl, Nat.le_of_ble_eq_true rfl⟩ (Nat.le_of_ble_eq_true rfl) (kI fun z119 σ119 hh => ?_)
                          obtain ⟨rfl, h119_0⟩ := hh
                          refine r_if_eq hX (tgt := 130) dX1_firstLack_122 (by decide) (by omega) (fun c122 => ?_) (fun c122 => ?_)
                          · skip
                            refine r_iinc hX (fun x130 => [some (.ref (w.2.2 14)), some (.int (iI x7)), some (.int (iI x130))]) dX1_firstLack_130 rfl rfl rfl (fun _ => rfl) (fun x130 e130 => ?_)
                            refine r_goto hX dX1_firstLack_133 (tgt := 110) (by decide) ?_
                            exact ih110 x130 (by omega) (hn4.next (cf_no h119_0 (by omega)) e130) (by omega)
                          · skip
                            refine r_bipush hX dX1_firstLack_125 (by decide) ?_
                            refine r_iload_n hX dX1_firstLack_127 rfl ?_
                            refine r_iadd hX dX1_firstLack_128 ?_
                            exact r_iret hX dX1_firstLack_129 rfl ⟨_, rfl, ⟨rfl, (by exact Or.inr (Or.inr (Or.inr (Or.inl ⟨hm1, hm2, hm3, s4, hn4.fst (by omega) (by omega) (cf_yes h119_0 (by omega)), by omega⟩)))), (by omega)⟩⟩
                    exact lp110 ((17 - (x109)) + 1).toNat x109 (by omega) (fun b b0 b1 => by omega) (by omega)
                  · skip
                    refine r_aload_n hX dX1_firstLack_89 rfl ?_
                    refine r_iload_n hX dX1_firstLack_90 rfl ?_
                    refine r_callV hX dX1_firstLack_91 (k_Ly_meets l w σ _ (by omega) (by omega) (by omega)) mf_X1_meetsOneAhead mv_X1_meetsOneAhead lk_RX1_78 rfl rfl rfl rfl rfl ⟨Nat.le_of_ble_eq_true rfl, Nat.le_of_ble_eq_true rfl⟩ (Nat.le_of_ble_eq_true rfl) (kI fun z91 σ91 hh => ?_)
                    obtain ⟨rfl, h91_0⟩ := hh
                    refine r_if_eq hX (tgt := 102) dX1_firstLack_94 (by decide) (by omega) (fun c94 => ?_) (fun c94 => ?_)
                    · skip
                      refine r_iinc hX (fun x102 => [some (.ref (w.2.2 14)), some (.int (iI x7)), some (.int (iI x102))]) dX1_firstLack_102 rfl rfl rfl (fun _ => rfl) (fun x102 e102 => ?_)
                      refine r_goto hX dX1_firstLack_105 (tgt := 84) (by decide) ?_
                      exact ih84 x102 (by omega) (hn3.next (cf_no h91_0 (by omega)) e102) (by omega)
                    · skip
                      refine r_bipush hX dX1_firstLack_97 (by decide) ?_
                      refine r_iload_n hX dX1_firstLack_99 rfl ?_
                      refine r_iadd hX dX1_firstLack_100 ?_
                      exact r_iret hX dX1_firstLack_101 rfl ⟨_, rfl, ⟨rfl, (by exact Or.inr (Or.inr (Or.inl ⟨hm1, hm2, a3, hn3.fst (by omega) (by omega) (cf_yes h91_0 (by omega)), by omega⟩))), (by omega)⟩⟩
              exact lp84 ((9 - (x83)) + 1).toNat x83 (by omega) (fun b b0 b1 => by omega) (by omega)
            · skip
              have hl := hlc a2 (by omega) (by omega)
              refine r_aload_n hX dX1_firstLack_48 rfl ?_
              refine fg_X14_22 hX dX1_firstLack_49 ?_
              refine r_aload_n hX dX1_firstLack_52 rfl ?_
              refine fg_X14_18 hX dX1_firstLack_53 ?_
              refine r_iload_n hX dX1_firstLack_56 rfl ?_
              refine r_callV hX dX1_firstLack_57 (k_Lp_kindOf l w σ _ (by omega)) mf_X2_kindOf mv_X2_kindOf lk_RX1_71 rfl rfl rfl rfl rfl ⟨Nat.le_of_ble_eq_true rfl, Nat.le_of_ble_eq_true rfl⟩ (Nat.le_of_ble_eq_true rfl) (kI fun z57 σ57 hh => ?_)
              obtain ⟨rfl, h57_0, h57_1⟩ := hh
              obtain rfl : z57 = σ 2 a2 := by omega
              refine r_aload_n hX dX1_firstLack_60 rfl ?_
              refine r_iload_n hX dX1_firstLack_61 rfl ?_
              refine r_callV hX dX1_firstLack_62 (k_Ly_cellOf l w σ _ (by omega)) mf_X1_cellOf mv_X1_cellOf lk_RX1_63 rfl rfl rfl rfl rfl ⟨Nat.le_of_ble_eq_true rfl, Nat.le_of_ble_eq_true rfl⟩ (Nat.le_of_ble_eq_true rfl) (kI fun z62 σ62 hh => ?_)
              obtain ⟨rfl, h62_0, h62_1⟩ := hh
              obtain rfl : z62 = σ 15 a2 := by omega
              refine r_callV hX dX1_firstLack_65 (k_Gd_suits l w σ _ _ (by omega) (by omega)) mf_X0_suits mv_X0_suits lk_RX1_74 rfl rfl rfl rfl rfl ⟨Nat.le_of_ble_eq_true rfl, Nat.le_of_ble_eq_true rfl⟩ (Nat.le_of_ble_eq_true rfl) (kI fun z65 σ65 hh => ?_)
              obtain ⟨rfl, h65_0⟩ := hh
              refine r_if_ne hX (tgt := 76) dX1_firstLack_68 (by decide) (by omega) (fun c68 => ?_) (fun c68 => ?_)
              · skip
                refine r_iinc hX (fun x76 => [some (.ref (w.2.2 14)), some (.int (iI x7)), some (.int (iI x76))]) dX1_firstLack_76 rfl rfl rfl (fun _ => rfl) (fun x76 e76 => ?_)
                refine r_goto hX dX1_firstLack_79 (tgt := 43) (by decide) ?_
                exact ih43 x76 (by omega) (hn2.next (by unfold P2x; omega) e76) (by omega)
              · skip
                refine r_bipush hX dX1_firstLack_71 (by decide) ?_
                refine r_iload_n hX dX1_firstLack_73 rfl ?_
                refine r_iadd hX dX1_firstLack_74 ?_
                exact r_iret hX dX1_firstLack_75 rfl ⟨_, rfl, ⟨rfl, (by exact Or.inr (Or.inl ⟨hm1, a2, hn2.fst (by omega) (by omega) ⟨by omega, by omega⟩, by omega⟩)), (by omega)⟩⟩
        exact lp43 ((9 - (x42)) + 1).toNat x42 (by omega) (fun b b0 b1 => by omega) (by omega)
      · skip
        have hl := hlc a1 (by omega) (by omega)
        refine r_aload_n hX dX1_firstLack_15 rfl ?_
        refine fg_X14_22 hX dX1_firstLack_16 ?_
        refine r_aload_n hX dX1_firstLack_19 rfl ?_
        refine r_iload_n hX dX1_firstLack_20 rfl ?_
        refine r_callV hX dX1_firstLack_21 (k_Ly_cellOf l w σ _ (by omega)) mf_X1_cellOf mv_X1_cellOf lk_RX1_63 rfl rfl rfl rfl rfl ⟨Nat.le_of_ble_eq_true rfl, Nat.le_of_ble_eq_true rfl⟩ (Nat.le_of_ble_eq_true rfl) (kI fun z21 σ21 hh => ?_)
        obtain ⟨rfl, h21_0, h21_1⟩ := hh
        obtain rfl : z21 = σ 15 a1 := by omega
        refine r_callV hX dX1_firstLack_24 (k_Gd_isBroken l w σ _ (by omega)) mf_X0_isBroken mv_X0_isBroken lk_RX1_66 rfl rfl rfl rfl rfl ⟨Nat.le_of_ble_eq_true rfl, Nat.le_of_ble_eq_true rfl⟩ (Nat.le_of_ble_eq_true rfl) (kI fun z24 σ24 hh => ?_)
        obtain ⟨rfl, h24_0⟩ := hh
        refine r_if_eq hX (tgt := 35) dX1_firstLack_27 (by decide) (by omega) (fun c27 => ?_) (fun c27 => ?_)
        · skip
          refine r_iinc hX (fun x35 => [some (.ref (w.2.2 14)), some (.int (iI x7)), some (.int (iI x35))]) dX1_firstLack_35 rfl rfl rfl (fun _ => rfl) (fun x35 e35 => ?_)
          refine r_goto hX dX1_firstLack_38 (tgt := 10) (by decide) ?_
          exact ih10 x35 (by omega) (hn1.next (by unfold P1x; omega) e35) (by omega)
        · skip
          refine r_bipush hX dX1_firstLack_30 (by decide) ?_
          refine r_iload_n hX dX1_firstLack_32 rfl ?_
          refine r_iadd hX dX1_firstLack_33 ?_
          exact r_iret hX dX1_firstLack_34 rfl ⟨_, rfl, ⟨rfl, (by exact Or.inl ⟨a1, hn1.fst (by omega) (by omega) (by unfold P1x; omega), by omega⟩), (by omega)⟩⟩
  exact lp10 ((9 - (x9)) + 1).toNat x9 (by omega) (fun b b0 b1 => by omega) (by omega)
theorem dX1_isGood_0 : decode cX1_isGood 0 = .ok (.aload_n 0, 1) := by decide +kernel
theorem dX1_isGood_1 : decode cX1_isGood 1 = .ok (.invokevirtual 49, 3) := by decide +kernel
theorem dX1_isGood_4 : decode cX1_isGood 4 = .ok (.ifCond .eq 24, 3) := by decide +kernel
theorem dX1_isGood_7 : decode cX1_isGood 7 = .ok (.aload_n 0, 1) := by decide +kernel
theorem dX1_isGood_8 : decode cX1_isGood 8 = .ok (.getfield 18, 3) := by decide +kernel
theorem dX1_isGood_11 : decode cX1_isGood 11 = .ok (.invokevirtual 53, 3) := by decide +kernel
theorem dX1_isGood_14 : decode cX1_isGood 14 = .ok (.ifCond .eq 14, 3) := by decide +kernel
theorem dX1_isGood_17 : decode cX1_isGood 17 = .ok (.aload_n 0, 1) := by decide +kernel
theorem dX1_isGood_18 : decode cX1_isGood 18 = .ok (.invokevirtual 56, 3) := by decide +kernel
theorem dX1_isGood_21 : decode cX1_isGood 21 = .ok (.ifCond .ne 7, 3) := by decide +kernel
theorem dX1_isGood_24 : decode cX1_isGood 24 = .ok (.iconst 1, 1) := by decide +kernel
theorem dX1_isGood_25 : decode cX1_isGood 25 = .ok (.goto 4, 3) := by decide +kernel
theorem dX1_isGood_28 : decode cX1_isGood 28 = .ok (.iconst 0, 1) := by decide +kernel
theorem dX1_isGood_29 : decode cX1_isGood 29 = .ok (.ireturn, 1) := by decide +kernel
set_option maxRecDepth 20000 in
set_option maxHeartbeats 4000000 in
theorem k_Ly_isGood (l : Launch) (w : WT) (σ : MM) (hLO : LoopOK σ) (hLa : LayOK σ) : CT SX l w yX1_isGood cX1_isGood 1 (some .boolean) 5 108 [.ref (w.2.2 14)] σ (PI fun z σ1 => σ = σ1 ∧ ((z = 1 ∧ 0 < σ 58 0 ∧ σ 54 0 = σ 53 0 ∧ FLx σ 0) ∨ (z = 0 ∧ (σ 58 0 = 0 ∨ σ 54 0 ≠ σ 53 0 ∨ ∃ y, FLx σ y ∧ y ≠ 0)))) := by
  refine CT.of 0 [some (.ref (w.2.2 14))] (by decide +kernel) (by simp [lg_sl, Value.category]) rfl sh_X (fun G hX => ?_)
  refine r_aload_n hX dX1_isGood_0 rfl ?_
  refine r_callV hX dX1_isGood_1 (k_Ly_stands l w σ) mf_X1_stands mv_X1_stands lk_RX1_49 rfl rfl rfl rfl rfl ⟨Nat.le_of_ble_eq_true rfl, Nat.le_of_ble_eq_true rfl⟩ (Nat.le_of_ble_eq_true rfl) (kI fun z1 σ1 hh => ?_)
  obtain ⟨rfl, h1_0⟩ := hh
  refine r_if_eq hX (tgt := 28) dX1_isGood_4 (by decide) (by omega) (fun c4 => ?_) (fun c4 => ?_)
  · skip
    refine r_iconst hX dX1_isGood_28 ?_
    exact r_zret hX dX1_isGood_29 rfl (by omega) ⟨_, rfl, ⟨rfl, (by first | exact Or.inl ⟨rfl, by omega, by omega, (show z18 = 0 by omega) ▸ h18_0⟩ | exact Or.inr ⟨rfl, by omega⟩ | exact Or.inr ⟨rfl, Or.inr (Or.inr ⟨z18, h18_0, by omega⟩)⟩)⟩⟩
  · skip
    refine r_aload_n hX dX1_isGood_7 rfl ?_
    refine fg_X14_18 hX dX1_isGood_8 ?_
    refine r_callV hX dX1_isGood_11 (k_Lp_isSound l w σ) mf_X2_isSound mv_X2_isSound lk_RX1_53 rfl rfl rfl rfl rfl ⟨Nat.le_of_ble_eq_true rfl, Nat.le_of_ble_eq_true rfl⟩ (Nat.le_of_ble_eq_true rfl) (kI fun z11 σ11 hh => ?_)
    obtain ⟨rfl, h11_0⟩ := hh
    refine r_if_eq hX (tgt := 28) dX1_isGood_14 (by decide) (by omega) (fun c14 => ?_) (fun c14 => ?_)
    · skip
      refine r_iconst hX dX1_isGood_28 ?_
      exact r_zret hX dX1_isGood_29 rfl (by omega) ⟨_, rfl, ⟨rfl, (by first | exact Or.inl ⟨rfl, by omega, by omega, (show z18 = 0 by omega) ▸ h18_0⟩ | exact Or.inr ⟨rfl, by omega⟩ | exact Or.inr ⟨rfl, Or.inr (Or.inr ⟨z18, h18_0, by omega⟩)⟩)⟩⟩
    · skip
      have hsrc := srcOK_of hLO (by omega)
      have hlc := hLa (by omega)
      refine r_aload_n hX dX1_isGood_17 rfl ?_
      refine r_callV hX dX1_isGood_18 (k_Ly_firstLack l w σ (by skip; exact hsrc) (by skip; exact hlc) (by omega)) mf_X1_firstLack mv_X1_firstLack lk_RX1_56 rfl rfl rfl rfl rfl ⟨Nat.le_of_ble_eq_true rfl, Nat.le_of_ble_eq_true rfl⟩ (Nat.le_of_ble_eq_true rfl) (kI fun z18 σ18 hh => ?_)
      obtain ⟨rfl, h18_0, h18_1⟩ := hh
      refine r_if_ne hX (tgt := 28) dX1_isGood_21 (by decide) (by omega) (fun c21 => ?_) (fun c21 => ?_)
      · skip
        refine r_iconst hX dX1_isGood_28 ?_
        exact r_zret hX dX1_isGood_29 rfl (by omega) ⟨_, rfl, ⟨rfl, (by first | exact Or.inl ⟨rfl, by omega, by omega, (show z18 = 0 by omega) ▸ h18_0⟩ | exact Or.inr ⟨rfl, by omega⟩ | exact Or.inr ⟨rfl, Or.inr (Or.inr ⟨z18, h18_0, by omega⟩)⟩)⟩⟩
      · skip
        refine r_iconst hX dX1_isGood_24 ?_
        refine r_goto hX dX1_isGood_25 (tgt := 29) (by decide) ?_
        exact r_zret hX dX1_isGood_29 rfl (by omega) ⟨_, rfl, ⟨rfl, (by first | exact Or.inl ⟨rfl, by omega, by omega, (show z18 = 0 by omega) ▸ h18_0⟩ | exact Or.inr ⟨rfl, by omega⟩ | exact Or.inr ⟨rfl, Or.inr (Or.inr ⟨z18, h18_0, by omega⟩)⟩)⟩⟩
theorem dX1_mostKept_0 : decode cX1_mostKept 0 = .ok (.aload_n 0, 1) := by decide +kernel
theorem dX1_mostKept_1 : decode cX1_mostKept 1 = .ok (.getfield 26, 3) := by decide +kernel
theorem dX1_mostKept_4 : decode cX1_mostKept 4 = .ok (.iconst 1, 1) := by decide +kernel
theorem dX1_mostKept_5 : decode cX1_mostKept 5 = .ok (.if_icmp .ge 6, 3) := by decide +kernel
theorem dX1_mostKept_8 : decode cX1_mostKept 8 = .ok (.bipush (-5), 2) := by decide +kernel
theorem dX1_mostKept_10 : decode cX1_mostKept 10 = .ok (.ireturn, 1) := by decide +kernel
theorem dX1_mostKept_11 : decode cX1_mostKept 11 = .ok (.aload_n 0, 1) := by decide +kernel
theorem dX1_mostKept_12 : decode cX1_mostKept 12 = .ok (.iload_n 1, 1) := by decide +kernel
theorem dX1_mostKept_13 : decode cX1_mostKept 13 = .ok (.invokevirtual 94, 3) := by decide +kernel
theorem dX1_mostKept_16 : decode cX1_mostKept 16 = .ok (.istore_n 2, 1) := by decide +kernel
theorem dX1_mostKept_17 : decode cX1_mostKept 17 = .ok (.iload_n 2, 1) := by decide +kernel
theorem dX1_mostKept_18 : decode cX1_mostKept 18 = .ok (.istore_n 3, 1) := by decide +kernel
theorem dX1_mostKept_19 : decode cX1_mostKept 19 = .ok (.iconst 0, 1) := by decide +kernel
theorem dX1_mostKept_20 : decode cX1_mostKept 20 = .ok (.istore 4, 2) := by decide +kernel
theorem dX1_mostKept_22 : decode cX1_mostKept 22 = .ok (.iload 4, 2) := by decide +kernel
theorem dX1_mostKept_24 : decode cX1_mostKept 24 = .ok (.iconst 2, 1) := by decide +kernel
theorem dX1_mostKept_25 : decode cX1_mostKept 25 = .ok (.aload_n 0, 1) := by decide +kernel
theorem dX1_mostKept_26 : decode cX1_mostKept 26 = .ok (.getfield 18, 3) := by decide +kernel
theorem dX1_mostKept_29 : decode cX1_mostKept 29 = .ok (.invokevirtual 60, 3) := by decide +kernel
theorem dX1_mostKept_32 : decode cX1_mostKept 32 = .ok (.imul, 1) := by decide +kernel
theorem dX1_mostKept_33 : decode cX1_mostKept 33 = .ok (.if_icmp .ge 33, 3) := by decide +kernel
theorem dX1_mostKept_36 : decode cX1_mostKept 36 = .ok (.aload_n 0, 1) := by decide +kernel
theorem dX1_mostKept_37 : decode cX1_mostKept 37 = .ok (.getfield 18, 3) := by decide +kernel
theorem dX1_mostKept_40 : decode cX1_mostKept 40 = .ok (.iload 4, 2) := by decide +kernel
theorem dX1_mostKept_42 : decode cX1_mostKept 42 = .ok (.invokevirtual 84, 3) := by decide +kernel
theorem dX1_mostKept_45 : decode cX1_mostKept 45 = .ok (.iload_n 1, 1) := by decide +kernel
theorem dX1_mostKept_46 : decode cX1_mostKept 46 = .ok (.if_icmp .ne 14, 3) := by decide +kernel
theorem dX1_mostKept_49 : decode cX1_mostKept 49 = .ok (.iload_n 3, 1) := by decide +kernel
theorem dX1_mostKept_50 : decode cX1_mostKept 50 = .ok (.aload_n 0, 1) := by decide +kernel
theorem dX1_mostKept_51 : decode cX1_mostKept 51 = .ok (.iload 4, 2) := by decide +kernel
theorem dX1_mostKept_53 : decode cX1_mostKept 53 = .ok (.invokevirtual 91, 3) := by decide +kernel
theorem dX1_mostKept_56 : decode cX1_mostKept 56 = .ok (.invokestatic 100, 3) := by decide +kernel
theorem dX1_mostKept_59 : decode cX1_mostKept 59 = .ok (.istore_n 3, 1) := by decide +kernel
theorem dX1_mostKept_60 : decode cX1_mostKept 60 = .ok (.iinc 4 1, 3) := by decide +kernel
theorem dX1_mostKept_63 : decode cX1_mostKept 63 = .ok (.goto (-41), 3) := by decide +kernel
theorem dX1_mostKept_66 : decode cX1_mostKept 66 = .ok (.iload_n 3, 1) := by decide +kernel
theorem dX1_mostKept_67 : decode cX1_mostKept 67 = .ok (.iload_n 2, 1) := by decide +kernel
theorem dX1_mostKept_68 : decode cX1_mostKept 68 = .ok (.isub, 1) := by decide +kernel
theorem dX1_mostKept_69 : decode cX1_mostKept 69 = .ok (.aload_n 0, 1) := by decide +kernel
theorem dX1_mostKept_70 : decode cX1_mostKept 70 = .ok (.getfield 26, 3) := by decide +kernel
theorem dX1_mostKept_73 : decode cX1_mostKept 73 = .ok (.idiv, 1) := by decide +kernel
theorem dX1_mostKept_74 : decode cX1_mostKept 74 = .ok (.iconst 1, 1) := by decide +kernel
theorem dX1_mostKept_75 : decode cX1_mostKept 75 = .ok (.iadd, 1) := by decide +kernel
theorem dX1_mostKept_76 : decode cX1_mostKept 76 = .ok (.ireturn, 1) := by decide +kernel
set_option maxRecDepth 20000 in
set_option maxHeartbeats 4000000 in
theorem k_Ly_mostKept (l : Launch) (w : WT) (σ : MM) (a : Int) (i_a : inr a) (ha : 0 ≤ a ∧ a < σ 53 0) (hbt : 0 < σ 58 0) : CT SX l w yX1_mostKept cX1_mostKept 5 (some .int) 3 63 [.ref (w.2.2 14), .int (iI a)] σ (PI fun z σ1 => σ = σ1 ∧ (∃ y : Int, IsMax (fun s => σ 5 s = a) (useX σ) (2 * σ 53 0) (madeX σ a) y ∧ z = (y - madeX σ a) / σ 58 0 + 1)) := by
  refine CT.of 3 [some (.ref (w.2.2 14)), some (.int (iI a)), none, none, none] (by decide +kernel) (by simp [lg_sl, Value.category]) rfl sh_X (fun G hX => ?_)
  refine r_bd hX (fun hBd => ?_)
  have b_53 := hBd 53 0 8 rfl 0
  have b_58 := hBd 58 0 12 rfl 0
  refine r_aload_n hX dX1_mostKept_0 rfl ?_
  refine fg_X14_26 hX dX1_mostKept_1 (fun b1l b1u => ?_)
  refine r_iconst hX dX1_mostKept_4 ?_
  refine r_icmp_ge hX (tgt := 11) dX1_mostKept_5 (by decide) (by omega) (by omega) (fun c5 => ?_) (fun c5 => ?_)
  · skip
    refine r_aload_n hX dX1_mostKept_11 rfl ?_
    refine r_iload_n hX dX1_mostKept_12 rfl ?_
    refine r_callV hX dX1_mostKept_13 (k_Ly_madeAt l w σ _ (by omega) (by omega)) mf_X1_madeAt mv_X1_madeAt lk_RX1_94 rfl rfl rfl rfl rfl ⟨Nat.le_of_ble_eq_true rfl, Nat.le_of_ble_eq_true rfl⟩ (Nat.le_of_ble_eq_true rfl) (kI fun z13 σ13 hh => ?_)
    obtain ⟨rfl, h13_0, h13_1⟩ := hh
    refine r_istore_n hX (fun x16 => [some (.ref (w.2.2 14)), some (.int (iI a)), some (.int (iI x16)), none, none]) dX1_mostKept_16 (Nat.le_of_ble_eq_true rfl) rfl rfl (fun _ => rfl) (fun x16 e16 => ?_)
    refine r_iload_n hX dX1_mostKept_17 rfl ?_
    refine r_istore_n hX (fun x18 => [some (.ref (w.2.2 14)), some (.int (iI a)), some (.int (iI x16)), some (.int (iI x18)), none]) dX1_mostKept_18 (Nat.le_of_ble_eq_true rfl) rfl rfl (fun _ => rfl) (fun x18 e18 => ?_)
    have hx16 : x16 = madeX σ a := by omega
    refine r_iconst hX dX1_mostKept_19 ?_
    refine r_istore hX (fun x20 => [some (.ref (w.2.2 14)), some (.int (iI a)), some (.int (iI x16)), some (.int (iI x18)), some (.int (iI x20))]) dX1_mostKept_20 (Nat.le_of_ble_eq_true rfl) rfl rfl (fun _ => rfl) (fun x20 e20 => ?_)
    have lp22 : ∀ (n : Nat) (last : Int) (s : Int) (hs : 0 ≤ s ∧ s ≤ 2 * σ 53 0) (hl0 : 1 ≤ last ∧ last ≤ 20000036) (hM : IsMax (fun s => σ 5 s = a) (useX σ) s (madeX σ a) last) (hmu : 17 - s < (n : Int)), G 22 [some (.ref (w.2.2 14)), some (.int (iI a)), some (.int (iI x16)), some (.int (iI last)), some (.int (iI s))] [] σ := by
      intro n
      induction n with
      | zero => intro last s hs hl0 hM hmu; omega
      | succ n ih =>
        intro last s hs hl0 hM hmu
        have ih22 := ih
        clear ih
        refine r_iload hX dX1_mostKept_22 rfl ?_
        refine r_iconst hX dX1_mostKept_24 ?_
        refine r_aload_n hX dX1_mostKept_25 rfl ?_
        refine fg_X14_18 hX dX1_mostKept_26 ?_
        refine r_callV hX dX1_mostKept_29 (k_Lp_count l w σ) mf_X2_count mv_X2_count lk_RX1_60 rfl rfl rfl rfl rfl ⟨Nat.le_of_ble_eq_true rfl, Nat.le_of_ble_eq_true rfl⟩ (Nat.le_of_ble_eq_true rfl) (kI fun z29 σ29 hh => ?_)
        obtain ⟨rfl, h29_0, h29_1⟩ := hh
        refine r_imul hX dX1_mostKept_32 ?_
        refine r_icmp_ge hX (tgt := 66) dX1_mostKept_33 (by decide) (by omega) (by omega) (fun c33 => ?_) (fun c33 => ?_)
        · skip
          refine r_iload_n hX dX1_mostKept_66 rfl ?_
          refine r_iload_n hX dX1_mostKept_67 rfl ?_
          refine r_isub hX dX1_mostKept_68 ?_
          have hl := hM.1
          refine r_aload_n hX dX1_mostKept_69 rfl ?_
          refine fg_X14_26 hX dX1_mostKept_70 (fun b70l b70u => ?_)
          have hd := Int.ediv_le_self (b := σ 58 0) (show 0 ≤ last - x16 by omega)
          have hd2 := Int.ediv_nonneg (show 0 ≤ last - x16 by omega) (show 0 ≤ σ 58 0 by omega)
          refine r_idiv hX dX1_mostKept_73 (by omega) (by omega) (by omega) (by omega) ?_
          refine r_iconst hX dX1_mostKept_74 ?_
          refine r_iadd hX dX1_mostKept_75 ?_
          exact r_iret hX dX1_mostKept_76 rfl ⟨_, rfl, ⟨rfl, (by exact ⟨last, (show s = 2 * σ 53 0 by omega) ▸ hM, by rw [← hx16]⟩)⟩⟩
        · skip
          refine r_aload_n hX dX1_mostKept_36 rfl ?_
          refine fg_X14_18 hX dX1_mostKept_37 ?_
          refine r_iload hX dX1_mostKept_40 rfl ?_
          refine r_callV hX dX1_mostKept_42 (k_Lp_sourceOf l w σ _ (by omega)) mf_X2_sourceOf mv_X2_sourceOf lk_RX1_84 rfl rfl rfl rfl rfl ⟨Nat.le_of_ble_eq_true rfl, Nat.le_of_ble_eq_true rfl⟩ (Nat.le_of_ble_eq_true rfl) (kI fun z42 σ42 hh => ?_)
          obtain ⟨rfl, h42_0, h42_1⟩ := hh
          obtain rfl : z42 = σ 5 s := by omega
          refine r_iload_n hX dX1_mostKept_45 rfl ?_
          refine r_icmp_ne hX (tgt := 60) dX1_mostKept_46 (by decide) (by omega) (by omega) (fun c46 => ?_) (fun c46 => ?_)
          · skip
            refine r_iinc hX (fun x60 => [some (.ref (w.2.2 14)), some (.int (iI a)), some (.int (iI x16)), some (.int (iI last)), some (.int (iI x60))]) dX1_mostKept_60 rfl rfl rfl (fun _ => rfl) (fun x60 e60 => ?_)
            refine r_goto hX dX1_mostKept_63 (tgt := 22) (by decide) ?_
            exact ih22 last x60 (by omega) (by omega) (by first | exact hM.skip (by omega) e60 | exact hM.take (by omega) (by omega) (by omega) e60) (by omega)
          · skip
            refine r_iload_n hX dX1_mostKept_49 rfl ?_
            refine r_aload_n hX dX1_mostKept_50 rfl ?_
            refine r_iload hX dX1_mostKept_51 rfl ?_
            refine r_callV hX dX1_mostKept_53 (k_Ly_usedAt l w σ _ (by omega) (by omega)) mf_X1_usedAt mv_X1_usedAt lk_RX1_91 rfl rfl rfl rfl rfl ⟨Nat.le_of_ble_eq_true rfl, Nat.le_of_ble_eq_true rfl⟩ (Nat.le_of_ble_eq_true rfl) (kI fun z53 σ53 hh => ?_)
            obtain ⟨rfl, h53_0, h53_1⟩ := hh
            obtain rfl : z53 = useX σ s := by omega
            refine r_max hX dX1_mostKept_56 lq_RX1_100 ma_max_s ma_i ma_max_c (Nat.le_of_ble_eq_true rfl) (Nat.le_of_ble_eq_true rfl) (fun z56 h56 => ?_)
            rw [iI_lt (by omega) (by omega)] at h56
            refine r_istore_n hX (fun x59 => [some (.ref (w.2.2 14)), some (.int (iI a)), some (.int (iI x16)), some (.int (iI x59)), some (.int (iI s))]) dX1_mostKept_59 (Nat.le_of_ble_eq_true rfl) rfl rfl (fun _ => rfl) (fun x59 e59 => ?_)
            refine r_iinc hX (fun x60 => [some (.ref (w.2.2 14)), some (.int (iI a)), some (.int (iI x16)), some (.int (iI x59)), some (.int (iI x60))]) dX1_mostKept_60 rfl rfl rfl (fun _ => rfl) (fun x60 e60 => ?_)
            refine r_goto hX dX1_mostKept_63 (tgt := 22) (by decide) ?_
            exact ih22 x59 x60 (by omega) (by omega) (by first | exact hM.skip (by omega) e60 | exact hM.take (by omega) (by omega) (by omega) e60) (by omega)
    exact lp22 ((17 - (x20)) + 1).toNat x18 x20 (by omega) (by omega) (by rw [e18, ← hx16]; exact IsMax.init e20) (by omega)
  · exfalso; omega
theorem dX1_endOf_0 : decode cX1_endOf 0 = .ok (.iconst 0, 1) := by decide +kernel
theorem dX1_endOf_1 : decode cX1_endOf 1 = .ok (.istore_n 2, 1) := by decide +kernel
theorem dX1_endOf_2 : decode cX1_endOf 2 = .ok (.iconst 0, 1) := by decide +kernel
theorem dX1_endOf_3 : decode cX1_endOf 3 = .ok (.istore_n 3, 1) := by decide +kernel
theorem dX1_endOf_4 : decode cX1_endOf 4 = .ok (.iload_n 3, 1) := by decide +kernel
theorem dX1_endOf_5 : decode cX1_endOf 5 = .ok (.aload_n 0, 1) := by decide +kernel
theorem dX1_endOf_6 : decode cX1_endOf 6 = .ok (.getfield 18, 3) := by decide +kernel
theorem dX1_endOf_9 : decode cX1_endOf 9 = .ok (.invokevirtual 60, 3) := by decide +kernel
theorem dX1_endOf_12 : decode cX1_endOf 12 = .ok (.if_icmp .ge 28, 3) := by decide +kernel
theorem dX1_endOf_15 : decode cX1_endOf 15 = .ok (.iload_n 2, 1) := by decide +kernel
theorem dX1_endOf_16 : decode cX1_endOf 16 = .ok (.aload_n 0, 1) := by decide +kernel
theorem dX1_endOf_17 : decode cX1_endOf 17 = .ok (.iload_n 3, 1) := by decide +kernel
theorem dX1_endOf_18 : decode cX1_endOf 18 = .ok (.invokevirtual 94, 3) := by decide +kernel
theorem dX1_endOf_21 : decode cX1_endOf 21 = .ok (.iload_n 1, 1) := by decide +kernel
theorem dX1_endOf_22 : decode cX1_endOf 22 = .ok (.iconst 1, 1) := by decide +kernel
theorem dX1_endOf_23 : decode cX1_endOf 23 = .ok (.isub, 1) := by decide +kernel
theorem dX1_endOf_24 : decode cX1_endOf 24 = .ok (.aload_n 0, 1) := by decide +kernel
theorem dX1_endOf_25 : decode cX1_endOf 25 = .ok (.getfield 26, 3) := by decide +kernel
theorem dX1_endOf_28 : decode cX1_endOf 28 = .ok (.imul, 1) := by decide +kernel
theorem dX1_endOf_29 : decode cX1_endOf 29 = .ok (.iadd, 1) := by decide +kernel
theorem dX1_endOf_30 : decode cX1_endOf 30 = .ok (.invokestatic 100, 3) := by decide +kernel
theorem dX1_endOf_33 : decode cX1_endOf 33 = .ok (.istore_n 2, 1) := by decide +kernel
theorem dX1_endOf_34 : decode cX1_endOf 34 = .ok (.iinc 3 1, 3) := by decide +kernel
theorem dX1_endOf_37 : decode cX1_endOf 37 = .ok (.goto (-33), 3) := by decide +kernel
theorem dX1_endOf_40 : decode cX1_endOf 40 = .ok (.iload_n 2, 1) := by decide +kernel
theorem dX1_endOf_41 : decode cX1_endOf 41 = .ok (.ireturn, 1) := by decide +kernel
set_option maxRecDepth 20000 in
set_option maxHeartbeats 4000000 in
theorem k_Ly_endOf (l : Launch) (w : WT) (σ : MM) (r : Int) (i_r : inr r) (hr : 1 ≤ r ∧ r ≤ 60) : CT SX l w yX1_endOf cX1_endOf 4 (some .int) 3 63 [.ref (w.2.2 14), .int (iI r)] σ (PI fun z σ1 => σ = σ1 ∧ (IsMax (fun _ => True) (fun a => madeX σ a + (r - 1) * σ 58 0) (σ 53 0) 0 z) ∧ (0 ≤ z ∧ z ≤ 20000800)) := by
  refine CT.of 2 [some (.ref (w.2.2 14)), some (.int (iI r)), none, none] (by decide +kernel) (by simp [lg_sl, Value.category]) rfl sh_X (fun G hX => ?_)
  refine r_bd hX (fun hBd => ?_)
  have b_53 := hBd 53 0 8 rfl 0
  have b_58 := hBd 58 0 12 rfl 0
  refine r_iconst hX dX1_endOf_0 ?_
  refine r_istore_n hX (fun x1 => [some (.ref (w.2.2 14)), some (.int (iI r)), some (.int (iI x1)), none]) dX1_endOf_1 (Nat.le_of_ble_eq_true rfl) rfl rfl (fun _ => rfl) (fun x1 e1 => ?_)
  refine r_iconst hX dX1_endOf_2 ?_
  refine r_istore_n hX (fun x3 => [some (.ref (w.2.2 14)), some (.int (iI r)), some (.int (iI x1)), some (.int (iI x3))]) dX1_endOf_3 (Nat.le_of_ble_eq_true rfl) rfl rfl (fun _ => rfl) (fun x3 e3 => ?_)
  have lp4 : ∀ (n : Nat) (e : Int) (a : Int) (ha : 0 ≤ a ∧ a ≤ σ 53 0) (he : 0 ≤ e ∧ e ≤ 20000800) (hM : IsMax (fun _ => True) (fun a => madeX σ a + (r - 1) * σ 58 0) a 0 e) (hmu : 9 - a < (n : Int)), G 4 [some (.ref (w.2.2 14)), some (.int (iI r)), some (.int (iI e)), some (.int (iI a))] [] σ := by
    intro n
    induction n with
    | zero => intro e a ha he hM hmu; omega
    | succ n ih =>
      intro e a ha he hM hmu
      have ih4 := ih
      clear ih
      refine r_iload_n hX dX1_endOf_4 rfl ?_
      refine r_aload_n hX dX1_endOf_5 rfl ?_
      refine fg_X14_18 hX dX1_endOf_6 ?_
      refine r_callV hX dX1_endOf_9 (k_Lp_count l w σ) mf_X2_count mv_X2_count lk_RX1_60 rfl rfl rfl rfl rfl ⟨Nat.le_of_ble_eq_true rfl, Nat.le_of_ble_eq_true rfl⟩ (Nat.le_of_ble_eq_true rfl) (kI fun z9 σ9 hh => ?_)
      obtain ⟨rfl, h9_0, h9_1⟩ := hh
      refine r_icmp_ge hX (tgt := 40) dX1_endOf_12 (by decide) (by omega) (by omega) (fun c12 => ?_) (fun c12 => ?_)
      · skip
        refine r_iload_n hX dX1_endOf_40 rfl ?_
        exact r_iret hX dX1_endOf_41 rfl ⟨_, rfl, ⟨rfl, (by exact (show a = σ 53 0 by omega) ▸ hM), (by omega)⟩⟩
      · skip
        refine r_iload_n hX dX1_endOf_15 rfl ?_
        refine r_aload_n hX dX1_endOf_16 rfl ?_
        refine r_iload_n hX dX1_endOf_17 rfl ?_
        refine r_callV hX dX1_endOf_18 (k_Ly_madeAt l w σ _ (by omega) (by omega)) mf_X1_madeAt mv_X1_madeAt lk_RX1_94 rfl rfl rfl rfl rfl ⟨Nat.le_of_ble_eq_true rfl, Nat.le_of_ble_eq_true rfl⟩ (Nat.le_of_ble_eq_true rfl) (kI fun z18 σ18 hh => ?_)
        obtain ⟨rfl, h18_0, h18_1⟩ := hh
        obtain rfl : z18 = madeX σ a := by omega
        have hp := pm (a := r - 1) (A := 59) (b := σ 58 0) (B := 12) (by omega) (by omega)
        refine r_iload_n hX dX1_endOf_21 rfl ?_
        refine r_iconst hX dX1_endOf_22 ?_
        refine r_isub hX dX1_endOf_23 ?_
        refine r_aload_n hX dX1_endOf_24 rfl ?_
        refine fg_X14_26 hX dX1_endOf_25 (fun b25l b25u => ?_)
        refine r_imul hX dX1_endOf_28 ?_
        refine r_iadd hX dX1_endOf_29 ?_
        refine r_max hX dX1_endOf_30 lq_RX1_100 ma_max_s ma_i ma_max_c (Nat.le_of_ble_eq_true rfl) (Nat.le_of_ble_eq_true rfl) (fun z30 h30 => ?_)
        rw [iI_lt (by omega) (by omega)] at h30
        refine r_istore_n hX (fun x33 => [some (.ref (w.2.2 14)), some (.int (iI r)), some (.int (iI x33)), some (.int (iI a))]) dX1_endOf_33 (Nat.le_of_ble_eq_true rfl) rfl rfl (fun _ => rfl) (fun x33 e33 => ?_)
        refine r_iinc hX (fun x34 => [some (.ref (w.2.2 14)), some (.int (iI r)), some (.int (iI x33)), some (.int (iI x34))]) dX1_endOf_34 rfl rfl rfl (fun _ => rfl) (fun x34 e34 => ?_)
        refine r_goto hX dX1_endOf_37 (tgt := 4) (by decide) ?_
        exact ih4 x33 x34 (by omega) (by omega) (hM.take (by omega) trivial (by omega) e34) (by omega)
  exact lp4 ((9 - (x3)) + 1).toNat x1 x3 (by omega) (by omega) (by rw [e1]; exact IsMax.init e3) (by omega)
theorem dX1_roundStarting_0 : decode cX1_roundStarting 0 = .ok (.iload_n 2, 1) := by decide +kernel
theorem dX1_roundStarting_1 : decode cX1_roundStarting 1 = .ok (.aload_n 0, 1) := by decide +kernel
theorem dX1_roundStarting_2 : decode cX1_roundStarting 2 = .ok (.iload_n 1, 1) := by decide +kernel
theorem dX1_roundStarting_3 : decode cX1_roundStarting 3 = .ok (.invokevirtual 42, 3) := by decide +kernel
theorem dX1_roundStarting_6 : decode cX1_roundStarting 6 = .ok (.isub, 1) := by decide +kernel
theorem dX1_roundStarting_7 : decode cX1_roundStarting 7 = .ok (.istore_n 3, 1) := by decide +kernel
theorem dX1_roundStarting_8 : decode cX1_roundStarting 8 = .ok (.aload_n 0, 1) := by decide +kernel
theorem dX1_roundStarting_9 : decode cX1_roundStarting 9 = .ok (.getfield 26, 3) := by decide +kernel
theorem dX1_roundStarting_12 : decode cX1_roundStarting 12 = .ok (.ifCond .le 25, 3) := by decide +kernel
theorem dX1_roundStarting_15 : decode cX1_roundStarting 15 = .ok (.iload_n 3, 1) := by decide +kernel
theorem dX1_roundStarting_16 : decode cX1_roundStarting 16 = .ok (.ifCond .lt 21, 3) := by decide +kernel
theorem dX1_roundStarting_19 : decode cX1_roundStarting 19 = .ok (.iload_n 3, 1) := by decide +kernel
theorem dX1_roundStarting_20 : decode cX1_roundStarting 20 = .ok (.aload_n 0, 1) := by decide +kernel
theorem dX1_roundStarting_21 : decode cX1_roundStarting 21 = .ok (.getfield 26, 3) := by decide +kernel
theorem dX1_roundStarting_24 : decode cX1_roundStarting 24 = .ok (.irem, 1) := by decide +kernel
theorem dX1_roundStarting_25 : decode cX1_roundStarting 25 = .ok (.ifCond .ne 12, 3) := by decide +kernel
theorem dX1_roundStarting_28 : decode cX1_roundStarting 28 = .ok (.iload_n 3, 1) := by decide +kernel
theorem dX1_roundStarting_29 : decode cX1_roundStarting 29 = .ok (.aload_n 0, 1) := by decide +kernel
theorem dX1_roundStarting_30 : decode cX1_roundStarting 30 = .ok (.getfield 26, 3) := by decide +kernel
theorem dX1_roundStarting_33 : decode cX1_roundStarting 33 = .ok (.idiv, 1) := by decide +kernel
theorem dX1_roundStarting_34 : decode cX1_roundStarting 34 = .ok (.goto 5, 3) := by decide +kernel
theorem dX1_roundStarting_37 : decode cX1_roundStarting 37 = .ok (.bipush (-6), 2) := by decide +kernel
theorem dX1_roundStarting_39 : decode cX1_roundStarting 39 = .ok (.ireturn, 1) := by decide +kernel
set_option maxRecDepth 20000 in
set_option maxHeartbeats 4000000 in
theorem k_Ly_roundStarting (l : Launch) (w : WT) (σ : MM) (a : Int) (t : Int) (i_a : inr a) (i_t : inr t) (ha : 0 ≤ a ∧ a < σ 53 0) (hbt : 0 < σ 58 0) (ht : 0 ≤ t ∧ t ≤ 30000000) : CT SX l w yX1_roundStarting cX1_roundStarting 4 (some .int) 2 42 [.ref (w.2.2 14), .int (iI a), .int (iI t)] σ (PI fun z σ1 => σ = σ1 ∧ (RS (σ 16 a) (σ 58 0) t z) ∧ (-6 ≤ z ∧ z ≤ 30000000)) := by
  refine CT.of 1 [some (.ref (w.2.2 14)), some (.int (iI a)), some (.int (iI t)), none] (by decide +kernel) (by simp [lg_sl, Value.category]) rfl sh_X (fun G hX => ?_)
  refine r_iload_n hX dX1_roundStarting_0 rfl ?_
  refine r_aload_n hX dX1_roundStarting_1 rfl ?_
  refine r_iload_n hX dX1_roundStarting_2 rfl ?_
  refine r_callV hX dX1_roundStarting_3 (k_Ly_startOf l w σ _ (by omega)) mf_X1_startOf mv_X1_startOf lk_RX1_42 rfl rfl rfl rfl rfl ⟨Nat.le_of_ble_eq_true rfl, Nat.le_of_ble_eq_true rfl⟩ (Nat.le_of_ble_eq_true rfl) (kI fun z3 σ3 hh => ?_)
  obtain ⟨rfl, h3_0, h3_1⟩ := hh
  obtain rfl : z3 = σ 16 a := by omega
  refine r_isub hX dX1_roundStarting_6 ?_
  refine r_istore_n hX (fun x7 => [some (.ref (w.2.2 14)), some (.int (iI a)), some (.int (iI t)), some (.int (iI x7))]) dX1_roundStarting_7 (Nat.le_of_ble_eq_true rfl) rfl rfl (fun _ => rfl) (fun x7 e7 => ?_)
  refine r_aload_n hX dX1_roundStarting_8 rfl ?_
  refine fg_X14_26 hX dX1_roundStarting_9 (fun b9l b9u => ?_)
  refine r_if_le hX (tgt := 37) dX1_roundStarting_12 (by decide) (by omega) (fun c12 => ?_) (fun c12 => ?_)
  · exfalso; omega
  · skip
    refine r_iload_n hX dX1_roundStarting_15 rfl ?_
    refine r_if_lt hX (tgt := 37) dX1_roundStarting_16 (by decide) (by omega) (fun c16 => ?_) (fun c16 => ?_)
    · skip
      refine r_bipush hX dX1_roundStarting_37 (by decide) ?_
      exact r_iret hX dX1_roundStarting_39 rfl ⟨_, rfl, ⟨rfl, (by rw [e7] at *; unfold RS; first | exact Or.inl ⟨by omega, by omega, rfl⟩ | exact Or.inr ⟨by omega, rfl⟩), (by first | omega | (have hd := Int.ediv_le_self (b := σ 58 0) (show 0 ≤ x7 by omega); have hd2 := Int.ediv_nonneg (show 0 ≤ x7 by omega) (show 0 ≤ σ 58 0 by omega); omega))⟩⟩
    · skip
      refine r_iload_n hX dX1_roundStarting_19 rfl ?_
      refine r_aload_n hX dX1_roundStarting_20 rfl ?_
      refine fg_X14_26 hX dX1_roundStarting_21 (fun b21l b21u => ?_)
      refine r_irem hX dX1_roundStarting_24 (by omega) (by omega) (by omega) (by omega) ?_
      have hm := Int.emod_lt_of_pos x7 (show (0 : Int) < σ 58 0 by omega)
      have hm2 := Int.emod_nonneg x7 (show σ 58 0 ≠ 0 by omega)
      refine r_if_ne hX (tgt := 37) dX1_roundStarting_25 (by decide) (by omega) (fun c25 => ?_) (fun c25 => ?_)
      · skip
        refine r_bipush hX dX1_roundStarting_37 (by decide) ?_
        exact r_iret hX dX1_roundStarting_39 rfl ⟨_, rfl, ⟨rfl, (by rw [e7] at *; unfold RS; first | exact Or.inl ⟨by omega, by omega, rfl⟩ | exact Or.inr ⟨by omega, rfl⟩), (by first | omega | (have hd := Int.ediv_le_self (b := σ 58 0) (show 0 ≤ x7 by omega); have hd2 := Int.ediv_nonneg (show 0 ≤ x7 by omega) (show 0 ≤ σ 58 0 by omega); omega))⟩⟩
      · skip
        refine r_iload_n hX dX1_roundStarting_28 rfl ?_
        refine r_aload_n hX dX1_roundStarting_29 rfl ?_
        refine fg_X14_26 hX dX1_roundStarting_30 (fun b30l b30u => ?_)
        refine r_idiv hX dX1_roundStarting_33 (by omega) (by omega) (by omega) (by omega) ?_
        refine r_goto hX dX1_roundStarting_34 (tgt := 39) (by decide) ?_
        exact r_iret hX dX1_roundStarting_39 rfl ⟨_, rfl, ⟨rfl, (by rw [e7] at *; unfold RS; first | exact Or.inl ⟨by omega, by omega, rfl⟩ | exact Or.inr ⟨by omega, rfl⟩), (by first | omega | (have hd := Int.ediv_le_self (b := σ 58 0) (show 0 ≤ x7 by omega); have hd2 := Int.ediv_nonneg (show 0 ≤ x7 by omega) (show 0 ≤ σ 58 0 by omega); omega))⟩⟩
theorem dX1_actStarting_0 : decode cX1_actStarting 0 = .ok (.iconst 0, 1) := by decide +kernel
theorem dX1_actStarting_1 : decode cX1_actStarting 1 = .ok (.istore_n 3, 1) := by decide +kernel
theorem dX1_actStarting_2 : decode cX1_actStarting 2 = .ok (.iload_n 3, 1) := by decide +kernel
theorem dX1_actStarting_3 : decode cX1_actStarting 3 = .ok (.aload_n 0, 1) := by decide +kernel
theorem dX1_actStarting_4 : decode cX1_actStarting 4 = .ok (.getfield 18, 3) := by decide +kernel
theorem dX1_actStarting_7 : decode cX1_actStarting 7 = .ok (.invokevirtual 60, 3) := by decide +kernel
theorem dX1_actStarting_10 : decode cX1_actStarting 10 = .ok (.if_icmp .ge 29, 3) := by decide +kernel
theorem dX1_actStarting_13 : decode cX1_actStarting 13 = .ok (.aload_n 0, 1) := by decide +kernel
theorem dX1_actStarting_14 : decode cX1_actStarting 14 = .ok (.iload_n 3, 1) := by decide +kernel
theorem dX1_actStarting_15 : decode cX1_actStarting 15 = .ok (.invokevirtual 63, 3) := by decide +kernel
theorem dX1_actStarting_18 : decode cX1_actStarting 18 = .ok (.iload_n 1, 1) := by decide +kernel
theorem dX1_actStarting_19 : decode cX1_actStarting 19 = .ok (.if_icmp .ne 14, 3) := by decide +kernel
theorem dX1_actStarting_22 : decode cX1_actStarting 22 = .ok (.aload_n 0, 1) := by decide +kernel
theorem dX1_actStarting_23 : decode cX1_actStarting 23 = .ok (.iload_n 3, 1) := by decide +kernel
theorem dX1_actStarting_24 : decode cX1_actStarting 24 = .ok (.iload_n 2, 1) := by decide +kernel
theorem dX1_actStarting_25 : decode cX1_actStarting 25 = .ok (.invokevirtual 105, 3) := by decide +kernel
theorem dX1_actStarting_28 : decode cX1_actStarting 28 = .ok (.ifCond .lt 5, 3) := by decide +kernel
theorem dX1_actStarting_31 : decode cX1_actStarting 31 = .ok (.iload_n 3, 1) := by decide +kernel
theorem dX1_actStarting_32 : decode cX1_actStarting 32 = .ok (.ireturn, 1) := by decide +kernel
theorem dX1_actStarting_33 : decode cX1_actStarting 33 = .ok (.iinc 3 1, 3) := by decide +kernel
theorem dX1_actStarting_36 : decode cX1_actStarting 36 = .ok (.goto (-34), 3) := by decide +kernel
theorem dX1_actStarting_39 : decode cX1_actStarting 39 = .ok (.bipush (-6), 2) := by decide +kernel
theorem dX1_actStarting_41 : decode cX1_actStarting 41 = .ok (.ireturn, 1) := by decide +kernel
set_option maxRecDepth 20000 in
set_option maxHeartbeats 4000000 in
theorem k_Ly_actStarting (l : Launch) (w : WT) (σ : MM) (k : Int) (t : Int) (i_k : inr k) (i_t : inr t) (hbt : 0 < σ 58 0) (ht : 0 ≤ t ∧ t ≤ 30000000) : CT SX l w yX1_actStarting cX1_actStarting 4 (some .int) 3 65 [.ref (w.2.2 14), .int (iI k), .int (iI t)] σ (PI fun z σ1 => σ = σ1 ∧ ((Fst (fun a => σ 15 a = k ∧ σ 16 a ≤ t ∧ (t - σ 16 a) % σ 58 0 = 0) (σ 53 0) z) ∨ (Non (fun a => σ 15 a = k ∧ σ 16 a ≤ t ∧ (t - σ 16 a) % σ 58 0 = 0) (σ 53 0) ∧ z = -6)) ∧ (-6 ≤ z ∧ z ≤ 7)) := by
  refine CT.of 1 [some (.ref (w.2.2 14)), some (.int (iI k)), some (.int (iI t)), none] (by decide +kernel) (by simp [lg_sl, Value.category]) rfl sh_X (fun G hX => ?_)
  refine r_bd hX (fun hBd => ?_)
  have b_53 := hBd 53 0 8 rfl 0
  refine r_iconst hX dX1_actStarting_0 ?_
  refine r_istore_n hX (fun x1 => [some (.ref (w.2.2 14)), some (.int (iI k)), some (.int (iI t)), some (.int (iI x1))]) dX1_actStarting_1 (Nat.le_of_ble_eq_true rfl) rfl rfl (fun _ => rfl) (fun x1 e1 => ?_)
  have lp2 : ∀ (n : Nat) (a : Int) (ha : 0 ≤ a ∧ a ≤ σ 53 0) (hn : Non (fun a => σ 15 a = k ∧ σ 16 a ≤ t ∧ (t - σ 16 a) % σ 58 0 = 0) a) (hmu : 9 - a < (n : Int)), G 2 [some (.ref (w.2.2 14)), some (.int (iI k)), some (.int (iI t)), some (.int (iI a))] [] σ := by
    intro n
    induction n with
    | zero => intro a ha hn hmu; omega
    | succ n ih =>
      intro a ha hn hmu
      have ih2 := ih
      clear ih
      refine r_iload_n hX dX1_actStarting_2 rfl ?_
      refine r_aload_n hX dX1_actStarting_3 rfl ?_
      refine fg_X14_18 hX dX1_actStarting_4 ?_
      refine r_callV hX dX1_actStarting_7 (k_Lp_count l w σ) mf_X2_count mv_X2_count lk_RX1_60 rfl rfl rfl rfl rfl ⟨Nat.le_of_ble_eq_true rfl, Nat.le_of_ble_eq_true rfl⟩ (Nat.le_of_ble_eq_true rfl) (kI fun z7 σ7 hh => ?_)
      obtain ⟨rfl, h7_0, h7_1⟩ := hh
      refine r_icmp_ge hX (tgt := 39) dX1_actStarting_10 (by decide) (by omega) (by omega) (fun c10 => ?_) (fun c10 => ?_)
      · skip
        refine r_bipush hX dX1_actStarting_39 (by decide) ?_
        exact r_iret hX dX1_actStarting_41 rfl ⟨_, rfl, ⟨rfl, (by exact Or.inr ⟨(show a = σ 53 0 by omega) ▸ hn, rfl⟩), (by omega)⟩⟩
      · skip
        refine r_aload_n hX dX1_actStarting_13 rfl ?_
        refine r_iload_n hX dX1_actStarting_14 rfl ?_
        refine r_callV hX dX1_actStarting_15 (k_Ly_cellOf l w σ _ (by omega)) mf_X1_cellOf mv_X1_cellOf lk_RX1_63 rfl rfl rfl rfl rfl ⟨Nat.le_of_ble_eq_true rfl, Nat.le_of_ble_eq_true rfl⟩ (Nat.le_of_ble_eq_true rfl) (kI fun z15 σ15 hh => ?_)
        obtain ⟨rfl, h15_0, h15_1⟩ := hh
        obtain rfl : z15 = σ 15 a := by omega
        refine r_iload_n hX dX1_actStarting_18 rfl ?_
        refine r_icmp_ne hX (tgt := 33) dX1_actStarting_19 (by decide) (by omega) (by omega) (fun c19 => ?_) (fun c19 => ?_)
        · skip
          refine r_iinc hX (fun x33 => [some (.ref (w.2.2 14)), some (.int (iI k)), some (.int (iI t)), some (.int (iI x33))]) dX1_actStarting_33 rfl rfl rfl (fun _ => rfl) (fun x33 e33 => ?_)
          refine r_goto hX dX1_actStarting_36 (tgt := 2) (by decide) ?_
          exact ih2 x33 (by omega) (hn.next (fun q => by first | exact absurd q.1 (by omega) | (unfold RS at h25_0; have q1 := q.2.1; have q2 := q.2.2; have := Int.ediv_nonneg (show 0 ≤ t - σ 16 a by omega) (show 0 ≤ σ 58 0 by omega); omega)) e33) (by omega)
        · skip
          refine r_aload_n hX dX1_actStarting_22 rfl ?_
          refine r_iload_n hX dX1_actStarting_23 rfl ?_
          refine r_iload_n hX dX1_actStarting_24 rfl ?_
          refine r_callV hX dX1_actStarting_25 (k_Ly_roundStarting l w σ _ _ (by omega) (by omega) (by omega) (by omega) (by omega)) mf_X1_roundStarting mv_X1_roundStarting lk_RX1_105 rfl rfl rfl rfl rfl ⟨Nat.le_of_ble_eq_true rfl, Nat.le_of_ble_eq_true rfl⟩ (Nat.le_of_ble_eq_true rfl) (kI fun z25 σ25 hh => ?_)
          obtain ⟨rfl, h25_0, h25_1⟩ := hh
          refine r_if_lt hX (tgt := 33) dX1_actStarting_28 (by decide) (by omega) (fun c28 => ?_) (fun c28 => ?_)
          · skip
            refine r_iinc hX (fun x33 => [some (.ref (w.2.2 14)), some (.int (iI k)), some (.int (iI t)), some (.int (iI x33))]) dX1_actStarting_33 rfl rfl rfl (fun _ => rfl) (fun x33 e33 => ?_)
            refine r_goto hX dX1_actStarting_36 (tgt := 2) (by decide) ?_
            exact ih2 x33 (by omega) (hn.next (fun q => by first | exact absurd q.1 (by omega) | (unfold RS at h25_0; have q1 := q.2.1; have q2 := q.2.2; have := Int.ediv_nonneg (show 0 ≤ t - σ 16 a by omega) (show 0 ≤ σ 58 0 by omega); omega)) e33) (by omega)
          · skip
            refine r_iload_n hX dX1_actStarting_31 rfl ?_
            exact r_iret hX dX1_actStarting_32 rfl ⟨_, rfl, ⟨rfl, (by exact Or.inl (hn.fst (by omega) (by omega) ⟨by omega, by unfold RS at h25_0; omega, by unfold RS at h25_0; omega⟩)), (by omega)⟩⟩
  exact lp2 ((9 - (x1)) + 1).toNat x1 (by omega) (fun b b0 b1 => by omega) (by omega)
