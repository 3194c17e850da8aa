theorem dX6_in_0 : decode cX6_in 0 = .ok (.lload_n 0, 1) := by decide +kernel
theorem dX6_in_1 : decode cX6_in 1 = .ok (.lload_n 2, 1) := by decide +kernel
theorem dX6_in_2 : decode cX6_in 2 = .ok (.lcmp, 1) := by decide +kernel
theorem dX6_in_3 : decode cX6_in 3 = .ok (.ifCond .lt 14, 3) := by decide +kernel
theorem dX6_in_6 : decode cX6_in 6 = .ok (.lload_n 0, 1) := by decide +kernel
theorem dX6_in_7 : decode cX6_in 7 = .ok (.lload 4, 2) := by decide +kernel
theorem dX6_in_9 : decode cX6_in 9 = .ok (.lcmp, 1) := by decide +kernel
theorem dX6_in_10 : decode cX6_in 10 = .ok (.ifCond .gt 7, 3) := by decide +kernel
theorem dX6_in_13 : decode cX6_in 13 = .ok (.iconst 1, 1) := by decide +kernel
theorem dX6_in_14 : decode cX6_in 14 = .ok (.goto 4, 3) := by decide +kernel
theorem dX6_in_17 : decode cX6_in 17 = .ok (.iconst 0, 1) := by decide +kernel
theorem dX6_in_18 : decode cX6_in 18 = .ok (.ireturn, 1) := by decide +kernel
set_option maxRecDepth 20000 in
set_option maxHeartbeats 4000000 in
theorem k_M_in (l : Launch) (w : WT) (σ : MM) (v : Int) (lo : Int) (hi : Int) (i_v : inr8 v) (i_lo : inr8 lo) (i_hi : inr8 hi) : CT SX l w yX6_in cX6_in 6 (some .boolean) 0 0 [.long (lI v), .long (lI lo), .long (lI hi)] σ (PI fun z σ1 => σ = σ1 ∧ ((z = 1 ∧ lo ≤ v ∧ v ≤ hi) ∨ (z = 0 ∧ (v < lo ∨ hi < v)))) := by
  refine CT.of 0 [some (.long (lI v)), none, some (.long (lI lo)), none, some (.long (lI hi)), none] (by decide +kernel) (by simp [lg_sl, Value.category]) rfl sh_X (fun G hX => ?_)
  refine r_lload_n hX dX6_in_0 rfl ?_
  refine r_lload_n hX dX6_in_1 rfl ?_
  refine r_lcmp hX dX6_in_2 (by omega) (by omega) (fun z2 h2 => ?_)
  refine r_if_lt hX (tgt := 17) dX6_in_3 (by decide) (by omega) (fun c3 => ?_) (fun c3 => ?_)
  · skip
    refine r_iconst hX dX6_in_17 ?_
    exact r_zret hX dX6_in_18 rfl (by omega) ⟨_, rfl, ⟨rfl, (by omega)⟩⟩
  · skip
    refine r_lload_n hX dX6_in_6 rfl ?_
    refine r_lload hX dX6_in_7 rfl ?_
    refine r_lcmp hX dX6_in_9 (by omega) (by omega) (fun z9 h9 => ?_)
    refine r_if_gt hX (tgt := 17) dX6_in_10 (by decide) (by omega) (fun c10 => ?_) (fun c10 => ?_)
    · skip
      refine r_iconst hX dX6_in_17 ?_
      exact r_zret hX dX6_in_18 rfl (by omega) ⟨_, rfl, ⟨rfl, (by omega)⟩⟩
    · skip
      refine r_iconst hX dX6_in_13 ?_
      refine r_goto hX dX6_in_14 (tgt := 18) (by decide) ?_
      exact r_zret hX dX6_in_18 rfl (by omega) ⟨_, rfl, ⟨rfl, (by omega)⟩⟩
theorem dX6_isAct_0 : decode cX6_isAct 0 = .ok (.iload_n 1, 1) := by decide +kernel
theorem dX6_isAct_1 : decode cX6_isAct 1 = .ok (.i2l, 1) := by decide +kernel
theorem dX6_isAct_2 : decode cX6_isAct 2 = .ok (.lconst 0, 1) := by decide +kernel
theorem dX6_isAct_3 : decode cX6_isAct 3 = .ok (.aload_n 0, 1) := by decide +kernel
theorem dX6_isAct_4 : decode cX6_isAct 4 = .ok (.getfield 72, 3) := by decide +kernel
theorem dX6_isAct_7 : decode cX6_isAct 7 = .ok (.iconst 1, 1) := by decide +kernel
theorem dX6_isAct_8 : decode cX6_isAct 8 = .ok (.isub, 1) := by decide +kernel
theorem dX6_isAct_9 : decode cX6_isAct 9 = .ok (.i2l, 1) := by decide +kernel
theorem dX6_isAct_10 : decode cX6_isAct 10 = .ok (.invokestatic 75, 3) := by decide +kernel
theorem dX6_isAct_13 : decode cX6_isAct 13 = .ok (.ireturn, 1) := by decide +kernel
set_option maxRecDepth 20000 in
set_option maxHeartbeats 4000000 in
theorem k_M_isAct (l : Launch) (w : WT) (σ : MM) (a : Int) (i_a : inr a) : CT SX l w yX6_isAct cX6_isAct 2 (some .boolean) 1 25 [.ref (w.2.2 27), .int (iI a)] σ (PI fun z σ1 => σ = σ1 ∧ ((z = 1 ∧ 0 ≤ a ∧ a < σ 61 0) ∨ (z = 0 ∧ (a < 0 ∨ σ 61 0 ≤ a)))) := by
  refine CT.of 0 [some (.ref (w.2.2 27)), some (.int (iI a))] (by decide +kernel) (by simp [lg_sl, Value.category]) rfl sh_X (fun G hX => ?_)
  refine r_iload_n hX dX6_isAct_0 rfl ?_
  refine r_i2l hX dX6_isAct_1 (by omega) ?_
  refine r_lconst hX (z := 0) dX6_isAct_2 rfl ?_
  refine r_aload_n hX dX6_isAct_3 rfl ?_
  refine fg_X27_72 hX dX6_isAct_4 (fun b4l b4u => ?_)
  refine r_iconst hX dX6_isAct_7 ?_
  refine r_isub hX dX6_isAct_8 ?_
  refine r_i2l hX dX6_isAct_9 (by omega) ?_
  refine r_callS hX dX6_isAct_10 (k_M_in l w σ _ _ _ (by omega) (by omega) (by omega)) mf_X6_in ms_X6_in lk_RX6_75 rfl rfl ⟨Nat.le_of_ble_eq_true rfl, Nat.le_of_ble_eq_true rfl⟩ (Nat.le_of_ble_eq_true rfl) (kI fun z10 σ10 hh => ?_)
  obtain ⟨rfl, h10_0⟩ := hh
  exact r_zret hX dX6_isAct_13 rfl (by omega) ⟨_, rfl, ⟨rfl, (by omega)⟩⟩
theorem dX6_enter_0 : decode cX6_enter 0 = .ok (.aload_n 0, 1) := by decide +kernel
theorem dX6_enter_1 : decode cX6_enter 1 = .ok (.getfield 7, 3) := by decide +kernel
theorem dX6_enter_4 : decode cX6_enter 4 = .ok (.aload_n 0, 1) := by decide +kernel
theorem dX6_enter_5 : decode cX6_enter 5 = .ok (.getfield 72, 3) := by decide +kernel
theorem dX6_enter_8 : decode cX6_enter 8 = .ok (.iload_n 1, 1) := by decide +kernel
theorem dX6_enter_9 : decode cX6_enter 9 = .ok (.iastore, 1) := by decide +kernel
theorem dX6_enter_10 : decode cX6_enter 10 = .ok (.aload_n 0, 1) := by decide +kernel
theorem dX6_enter_11 : decode cX6_enter 11 = .ok (.iconst 0, 1) := by decide +kernel
theorem dX6_enter_12 : decode cX6_enter 12 = .ok (.putfield 79, 3) := by decide +kernel
theorem dX6_enter_15 : decode cX6_enter 15 = .ok (.aload_n 0, 1) := by decide +kernel
theorem dX6_enter_16 : decode cX6_enter 16 = .ok (.iconst 0, 1) := by decide +kernel
theorem dX6_enter_17 : decode cX6_enter 17 = .ok (.putfield 82, 3) := by decide +kernel
theorem dX6_enter_20 : decode cX6_enter 20 = .ok (.aload_n 0, 1) := by decide +kernel
theorem dX6_enter_21 : decode cX6_enter 21 = .ok (.dup, 1) := by decide +kernel
theorem dX6_enter_22 : decode cX6_enter 22 = .ok (.getfield 72, 3) := by decide +kernel
theorem dX6_enter_25 : decode cX6_enter 25 = .ok (.iconst 1, 1) := by decide +kernel
theorem dX6_enter_26 : decode cX6_enter 26 = .ok (.iadd, 1) := by decide +kernel
theorem dX6_enter_27 : decode cX6_enter 27 = .ok (.putfield 72, 3) := by decide +kernel
theorem dX6_enter_30 : decode cX6_enter 30 = .ok (.aload_n 0, 1) := by decide +kernel
theorem dX6_enter_31 : decode cX6_enter 31 = .ok (.getfield 72, 3) := by decide +kernel
theorem dX6_enter_34 : decode cX6_enter 34 = .ok (.iconst 1, 1) := by decide +kernel
theorem dX6_enter_35 : decode cX6_enter 35 = .ok (.isub, 1) := by decide +kernel
theorem dX6_enter_36 : decode cX6_enter 36 = .ok (.ireturn, 1) := by decide +kernel
set_option maxRecDepth 20000 in
set_option maxHeartbeats 4000000 in
theorem k_M_enter (l : Launch) (w : WT) (σ : MM) (kd : Int) (i_kd : inr kd) (hk : 0 ≤ kd ∧ kd ≤ 5) (hc : σ 61 0 < 8) : CT SX l w yX6_enter cX6_enter 2 (some .int) 0 0 [.ref (w.2.2 27), .int (iI kd)] σ (PI fun z σ1 => Mod [28, 61, 63, 64] σ σ1 ∧ (z = σ 61 0 ∧ σ1 61 0 = σ 61 0 + 1 ∧ (∀ b : Int, σ1 28 b = if b = σ 61 0 then kd else σ 28 b) ∧ σ1 63 0 = 0 ∧ σ1 64 0 = 0)) := by
  refine CT.of 0 [some (.ref (w.2.2 27)), some (.int (iI kd))] (by decide +kernel) (by simp [lg_sl, Value.category]) rfl sh_X (fun G hX => ?_)
  refine r_bd hX (fun hBd => ?_)
  have b_61 := hBd 61 0 8 rfl 0
  refine r_aload_n hX dX6_enter_0 rfl ?_
  refine fg_X27_7 hX dX6_enter_1 ?_
  refine r_aload_n hX dX6_enter_4 rfl ?_
  refine fg_X27_72 hX dX6_enter_5 (fun b5l b5u => ?_)
  refine r_iload_n hX dX6_enter_8 rfl ?_
  refine st_X28 hX dX6_enter_9 (by omega) (by omega) (by omega) (fun σ9 m9 s9 => ?_)
  refine r_aload_n hX dX6_enter_10 rfl ?_
  refine r_iconst hX dX6_enter_11 ?_
  refine fp_X27_79 hX dX6_enter_12 (by omega) (fun σ12 m12 s12 => ?_)
  refine r_aload_n hX dX6_enter_15 rfl ?_
  refine r_iconst hX dX6_enter_16 ?_
  refine fp_X27_82 hX dX6_enter_17 (by omega) (fun σ17 m17 s17 => ?_)
  refine r_aload_n hX dX6_enter_20 rfl ?_
  refine r_dup hX dX6_enter_21 rfl ?_
  refine fg_X27_72 hX dX6_enter_22 (fun b22l b22u => ?_)
  have q22 : σ17 61 = σ 61 := ((m17.at 61 rfl).trans ((m12.at 61 rfl).trans (m9.at 61 rfl)))
  rw [q22]
  rw [q22] at b22l b22u
  refine r_iconst hX dX6_enter_25 ?_
  refine r_iadd hX dX6_enter_26 ?_
  refine fp_X27_72 hX dX6_enter_27 (by omega) (fun σ27 m27 s27 => ?_)
  refine r_aload_n hX dX6_enter_30 rfl ?_
  refine fg_X27_72 hX dX6_enter_31 (fun b31l b31u => ?_)
  refine r_iconst hX dX6_enter_34 ?_
  refine r_isub hX dX6_enter_35 ?_
  exact r_iret hX dX6_enter_36 rfl ⟨_, rfl, ⟨(Mod.tr (L := [28, 61, 63, 64]) (Mod.tr (L := [28, 61, 63, 64]) (Mod.tr (L := [28, 61, 63, 64]) m9 m12 rfl rfl) m17 rfl rfl) m27 rfl rfl), (by refine ⟨by omega, s27, ?_, ?_, ?_⟩; (intro b; rw [m27.at 28 rfl, m17.at 28 rfl, m12.at 28 rfl]; exact s9 b); (rw [m27.at 63 rfl, m17.at 63 rfl]; exact s12); (rw [m27.at 64 rfl]; exact s17))⟩⟩
theorem dX6_input_0 : decode cX6_input 0 = .ok (.iload_n 1, 1) := by decide +kernel
theorem dX6_input_1 : decode cX6_input 1 = .ok (.i2l, 1) := by decide +kernel
theorem dX6_input_2 : decode cX6_input 2 = .ok (.ldc2_w 85, 3) := by decide +kernel
theorem dX6_input_5 : decode cX6_input 5 = .ok (.ldc2_w 87, 3) := by decide +kernel
theorem dX6_input_8 : decode cX6_input 8 = .ok (.invokestatic 75, 3) := by decide +kernel
theorem dX6_input_11 : decode cX6_input 11 = .ok (.ifCond .eq 17, 3) := by decide +kernel
theorem dX6_input_14 : decode cX6_input 14 = .ok (.iload_n 2, 1) := by decide +kernel
theorem dX6_input_15 : decode cX6_input 15 = .ok (.i2l, 1) := by decide +kernel
theorem dX6_input_16 : decode cX6_input 16 = .ok (.ldc2_w 85, 3) := by decide +kernel
theorem dX6_input_19 : decode cX6_input 19 = .ok (.ldc2_w 87, 3) := by decide +kernel
theorem dX6_input_22 : decode cX6_input 22 = .ok (.invokestatic 75, 3) := by decide +kernel
theorem dX6_input_25 : decode cX6_input 25 = .ok (.ifCond .ne 6, 3) := by decide +kernel
theorem dX6_input_28 : decode cX6_input 28 = .ok (.bipush (-2), 2) := by decide +kernel
theorem dX6_input_30 : decode cX6_input 30 = .ok (.ireturn, 1) := by decide +kernel
theorem dX6_input_31 : decode cX6_input 31 = .ok (.aload_n 0, 1) := by decide +kernel
theorem dX6_input_32 : decode cX6_input 32 = .ok (.getfield 72, 3) := by decide +kernel
theorem dX6_input_35 : decode cX6_input 35 = .ok (.bipush 8, 2) := by decide +kernel
theorem dX6_input_37 : decode cX6_input 37 = .ok (.if_icmp .ne 6, 3) := by decide +kernel
theorem dX6_input_40 : decode cX6_input 40 = .ok (.bipush (-4), 2) := by decide +kernel
theorem dX6_input_42 : decode cX6_input 42 = .ok (.ireturn, 1) := by decide +kernel
theorem dX6_input_43 : decode cX6_input 43 = .ok (.aload_n 0, 1) := by decide +kernel
theorem dX6_input_44 : decode cX6_input 44 = .ok (.getfield 19, 3) := by decide +kernel
theorem dX6_input_47 : decode cX6_input 47 = .ok (.aload_n 0, 1) := by decide +kernel
theorem dX6_input_48 : decode cX6_input 48 = .ok (.getfield 72, 3) := by decide +kernel
theorem dX6_input_51 : decode cX6_input 51 = .ok (.iload_n 1, 1) := by decide +kernel
theorem dX6_input_52 : decode cX6_input 52 = .ok (.iastore, 1) := by decide +kernel
theorem dX6_input_53 : decode cX6_input 53 = .ok (.aload_n 0, 1) := by decide +kernel
theorem dX6_input_54 : decode cX6_input 54 = .ok (.getfield 22, 3) := by decide +kernel
theorem dX6_input_57 : decode cX6_input 57 = .ok (.aload_n 0, 1) := by decide +kernel
theorem dX6_input_58 : decode cX6_input 58 = .ok (.getfield 72, 3) := by decide +kernel
theorem dX6_input_61 : decode cX6_input 61 = .ok (.iload_n 2, 1) := by decide +kernel
theorem dX6_input_62 : decode cX6_input 62 = .ok (.iastore, 1) := by decide +kernel
theorem dX6_input_63 : decode cX6_input 63 = .ok (.aload_n 0, 1) := by decide +kernel
theorem dX6_input_64 : decode cX6_input 64 = .ok (.iconst 0, 1) := by decide +kernel
theorem dX6_input_65 : decode cX6_input 65 = .ok (.invokevirtual 89, 3) := by decide +kernel
theorem dX6_input_68 : decode cX6_input 68 = .ok (.ireturn, 1) := by decide +kernel
set_option maxRecDepth 20000 in
set_option maxHeartbeats 4000000 in
theorem k_M_input (l : Launch) (w : WT) (σ : MM) (p : Int) (q : Int) (i_p : inr p) (i_q : inr q) : CT SX l w yX6_input cX6_input 3 (some .int) 1 25 [.ref (w.2.2 27), .int (iI p), .int (iI q)] σ (PI fun z σ1 => Mod [28, 31, 32, 61, 63, 64] σ σ1 ∧ (((p < -1000 ∨ 1000 < p ∨ q < -1000 ∨ 1000 < q) ∧ z = -2 ∧ σ1 = σ) ∨ ((-1000 ≤ p ∧ p ≤ 1000 ∧ -1000 ≤ q ∧ q ≤ 1000) ∧ σ 61 0 = 8 ∧ z = -4 ∧ σ1 = σ) ∨ ((-1000 ≤ p ∧ p ≤ 1000 ∧ -1000 ≤ q ∧ q ≤ 1000) ∧ σ 61 0 < 8 ∧ z = σ 61 0 ∧ AddI σ σ1 p q))) := by
  refine CT.of 0 [some (.ref (w.2.2 27)), some (.int (iI p)), some (.int (iI q))] (by decide +kernel) (by simp [lg_sl, Value.category]) rfl sh_X (fun G hX => ?_)
  refine r_bd hX (fun hBd => ?_)
  have b_61 := hBd 61 0 8 rfl 0
  refine r_iload_n hX dX6_input_0 rfl ?_
  refine r_i2l hX dX6_input_1 (by omega) ?_
  refine r_ldc2 hX dX6_input_2 lc_RX6_85 ?_
  refine r_ldc2 hX dX6_input_5 lc_RX6_87 ?_
  refine r_callS hX dX6_input_8 (k_M_in l w σ _ _ _ (by omega) (by omega) (by omega)) mf_X6_in ms_X6_in lk_RX6_75 rfl rfl ⟨Nat.le_of_ble_eq_true rfl, Nat.le_of_ble_eq_true rfl⟩ (Nat.le_of_ble_eq_true rfl) (kI fun z8 σ8 hh => ?_)
  obtain ⟨rfl, h8_0⟩ := hh
  refine r_if_eq hX (tgt := 28) dX6_input_11 (by decide) (by omega) (fun c11 => ?_) (fun c11 => ?_)
  · skip
    refine r_bipush hX dX6_input_28 (by decide) ?_
    exact r_iret hX dX6_input_30 rfl ⟨_, rfl, ⟨Mod.rf, (by first | exact Or.inl ⟨by omega, rfl, rfl⟩ | exact Or.inr (Or.inl ⟨by omega, by omega, rfl, rfl⟩) | exact Or.inr (Or.inr ⟨by omega, by omega, h65_0.1, h65_0.2.1, h65_0.2.2.1, h65_0.2.2.2.1, h65_0.2.2.2.2, fun b => by rw [m65.at 31 rfl, m62.at 31 rfl]; exact s52 b, fun b => by rw [m65.at 32 rfl]; exact s62 b⟩))⟩⟩
  · skip
    refine r_iload_n hX dX6_input_14 rfl ?_
    refine r_i2l hX dX6_input_15 (by omega) ?_
    refine r_ldc2 hX dX6_input_16 lc_RX6_85 ?_
    refine r_ldc2 hX dX6_input_19 lc_RX6_87 ?_
    refine r_callS hX dX6_input_22 (k_M_in l w σ _ _ _ (by omega) (by omega) (by omega)) mf_X6_in ms_X6_in lk_RX6_75 rfl rfl ⟨Nat.le_of_ble_eq_true rfl, Nat.le_of_ble_eq_true rfl⟩ (Nat.le_of_ble_eq_true rfl) (kI fun z22 σ22 hh => ?_)
    obtain ⟨rfl, h22_0⟩ := hh
    refine r_if_ne hX (tgt := 31) dX6_input_25 (by decide) (by omega) (fun c25 => ?_) (fun c25 => ?_)
    · skip
      refine r_aload_n hX dX6_input_31 rfl ?_
      refine fg_X27_72 hX dX6_input_32 (fun b32l b32u => ?_)
      refine r_bipush hX dX6_input_35 (by decide) ?_
      refine r_icmp_ne hX (tgt := 43) dX6_input_37 (by decide) (by omega) (by omega) (fun c37 => ?_) (fun c37 => ?_)
      · skip
        refine r_aload_n hX dX6_input_43 rfl ?_
        refine fg_X27_19 hX dX6_input_44 ?_
        refine r_aload_n hX dX6_input_47 rfl ?_
        refine fg_X27_72 hX dX6_input_48 (fun b48l b48u => ?_)
        refine r_iload_n hX dX6_input_51 rfl ?_
        refine st_X31 hX dX6_input_52 (by omega) (by omega) (fun σ52 m52 s52 => ?_)
        refine r_aload_n hX dX6_input_53 rfl ?_
        refine fg_X27_22 hX dX6_input_54 ?_
        refine r_aload_n hX dX6_input_57 rfl ?_
        refine fg_X27_72 hX dX6_input_58 (fun b58l b58u => ?_)
        have q58 : σ52 61 = σ 61 := (m52.at 61 rfl)
        rw [q58]
        rw [q58] at b58l b58u
        refine r_iload_n hX dX6_input_61 rfl ?_
        refine st_X32 hX dX6_input_62 (by omega) (by omega) (fun σ62 m62 s62 => ?_)
        simp only [show σ52 32 = σ 32 from (m52.at 32 rfl)] at s62
        refine r_aload_n hX dX6_input_63 rfl ?_
        refine r_iconst hX dX6_input_64 ?_
        have qp65_61 : σ62 61 = σ 61 := ((m62.at 61 rfl).trans (m52.at 61 rfl))
        refine r_callV hX dX6_input_65 (k_M_enter l w σ62 _ (by omega) (by omega) (by simp only [qp65_61]; omega)) mf_X6_enter mv_X6_enter lk_RX6_89 rfl rfl rfl rfl rfl ⟨Nat.le_of_ble_eq_true rfl, Nat.le_of_ble_eq_true rfl⟩ (Nat.le_of_ble_eq_true rfl) (kI fun z65 σ65 hh => ?_)
        obtain ⟨m65, h65_0⟩ := hh
        have q65_1 : σ62 28 = σ 28 := ((m62.at 28 rfl).trans (m52.at 28 rfl))
        have q65_2 : σ62 61 = σ 61 := ((m62.at 61 rfl).trans (m52.at 61 rfl))
        try simp only [q65_1, q65_2] at h65_0
        exact r_iret hX dX6_input_68 rfl ⟨_, rfl, ⟨(Mod.tr (L := [28, 31, 32, 61, 63, 64]) (Mod.tr (L := [28, 31, 32, 61, 63, 64]) m52 m62 rfl rfl) m65 rfl rfl), (by first | exact Or.inl ⟨by omega, rfl, rfl⟩ | exact Or.inr (Or.inl ⟨by omega, by omega, rfl, rfl⟩) | exact Or.inr (Or.inr ⟨by omega, by omega, h65_0.1, h65_0.2.1, h65_0.2.2.1, h65_0.2.2.2.1, h65_0.2.2.2.2, fun b => by rw [m65.at 31 rfl, m62.at 31 rfl]; exact s52 b, fun b => by rw [m65.at 32 rfl]; exact s62 b⟩))⟩⟩
      · skip
        refine r_bipush hX dX6_input_40 (by decide) ?_
        exact r_iret hX dX6_input_42 rfl ⟨_, rfl, ⟨Mod.rf, (by first | exact Or.inl ⟨by omega, rfl, rfl⟩ | exact Or.inr (Or.inl ⟨by omega, by omega, rfl, rfl⟩) | exact Or.inr (Or.inr ⟨by omega, by omega, h65_0.1, h65_0.2.1, h65_0.2.2.1, h65_0.2.2.2.1, h65_0.2.2.2.2, fun b => by rw [m65.at 31 rfl, m62.at 31 rfl]; exact s52 b, fun b => by rw [m65.at 32 rfl]; exact s62 b⟩))⟩⟩
    · skip
      refine r_bipush hX dX6_input_28 (by decide) ?_
      exact r_iret hX dX6_input_30 rfl ⟨_, rfl, ⟨Mod.rf, (by first | exact Or.inl ⟨by omega, rfl, rfl⟩ | exact Or.inr (Or.inl ⟨by omega, by omega, rfl, rfl⟩) | exact Or.inr (Or.inr ⟨by omega, by omega, h65_0.1, h65_0.2.1, h65_0.2.2.1, h65_0.2.2.2.1, h65_0.2.2.2.2, fun b => by rw [m65.at 31 rfl, m62.at 31 rfl]; exact s52 b, fun b => by rw [m65.at 32 rfl]; exact s62 b⟩))⟩⟩
theorem dX6_act_0 : decode cX6_act 0 = .ok (.iload_n 1, 1) := by decide +kernel
theorem dX6_act_1 : decode cX6_act 1 = .ok (.i2l, 1) := by decide +kernel
theorem dX6_act_2 : decode cX6_act 2 = .ok (.lconst 1, 1) := by decide +kernel
theorem dX6_act_3 : decode cX6_act 3 = .ok (.ldc2_w 93, 3) := by decide +kernel
theorem dX6_act_6 : decode cX6_act 6 = .ok (.invokestatic 75, 3) := by decide +kernel
theorem dX6_act_9 : decode cX6_act 9 = .ok (.ifCond .eq 53, 3) := by decide +kernel
theorem dX6_act_12 : decode cX6_act 12 = .ok (.iload_n 2, 1) := by decide +kernel
theorem dX6_act_13 : decode cX6_act 13 = .ok (.i2l, 1) := by decide +kernel
theorem dX6_act_14 : decode cX6_act 14 = .ok (.lconst 0, 1) := by decide +kernel
theorem dX6_act_15 : decode cX6_act 15 = .ok (.ldc2_w 95, 3) := by decide +kernel
theorem dX6_act_18 : decode cX6_act 18 = .ok (.invokestatic 75, 3) := by decide +kernel
theorem dX6_act_21 : decode cX6_act 21 = .ok (.ifCond .eq 41, 3) := by decide +kernel
theorem dX6_act_24 : decode cX6_act 24 = .ok (.iload_n 3, 1) := by decide +kernel
theorem dX6_act_25 : decode cX6_act 25 = .ok (.i2l, 1) := by decide +kernel
theorem dX6_act_26 : decode cX6_act 26 = .ok (.lconst 0, 1) := by decide +kernel
theorem dX6_act_27 : decode cX6_act 27 = .ok (.ldc2_w 97, 3) := by decide +kernel
theorem dX6_act_30 : decode cX6_act 30 = .ok (.invokestatic 75, 3) := by decide +kernel
theorem dX6_act_33 : decode cX6_act 33 = .ok (.ifCond .eq 29, 3) := by decide +kernel
theorem dX6_act_36 : decode cX6_act 36 = .ok (.iload 4, 2) := by decide +kernel
theorem dX6_act_38 : decode cX6_act 38 = .ok (.i2l, 1) := by decide +kernel
theorem dX6_act_39 : decode cX6_act 39 = .ok (.lconst 0, 1) := by decide +kernel
theorem dX6_act_40 : decode cX6_act 40 = .ok (.ldc2_w 95, 3) := by decide +kernel
theorem dX6_act_43 : decode cX6_act 43 = .ok (.invokestatic 75, 3) := by decide +kernel
theorem dX6_act_46 : decode cX6_act 46 = .ok (.ifCond .eq 16, 3) := by decide +kernel
theorem dX6_act_49 : decode cX6_act 49 = .ok (.iload 5, 2) := by decide +kernel
theorem dX6_act_51 : decode cX6_act 51 = .ok (.i2l, 1) := by decide +kernel
theorem dX6_act_52 : decode cX6_act 52 = .ok (.lconst 0, 1) := by decide +kernel
theorem dX6_act_53 : decode cX6_act 53 = .ok (.ldc2_w 97, 3) := by decide +kernel
theorem dX6_act_56 : decode cX6_act 56 = .ok (.invokestatic 75, 3) := by decide +kernel
theorem dX6_act_59 : decode cX6_act 59 = .ok (.ifCond .ne 6, 3) := by decide +kernel
theorem dX6_act_62 : decode cX6_act 62 = .ok (.bipush (-2), 2) := by decide +kernel
theorem dX6_act_64 : decode cX6_act 64 = .ok (.ireturn, 1) := by decide +kernel
theorem dX6_act_65 : decode cX6_act 65 = .ok (.aload_n 0, 1) := by decide +kernel
theorem dX6_act_66 : decode cX6_act 66 = .ok (.getfield 72, 3) := by decide +kernel
theorem dX6_act_69 : decode cX6_act 69 = .ok (.bipush 8, 2) := by decide +kernel
theorem dX6_act_71 : decode cX6_act 71 = .ok (.if_icmp .ne 6, 3) := by decide +kernel
theorem dX6_act_74 : decode cX6_act 74 = .ok (.bipush (-4), 2) := by decide +kernel
theorem dX6_act_76 : decode cX6_act 76 = .ok (.ireturn, 1) := by decide +kernel
theorem dX6_act_77 : decode cX6_act 77 = .ok (.aload_n 0, 1) := by decide +kernel
theorem dX6_act_78 : decode cX6_act 78 = .ok (.getfield 13, 3) := by decide +kernel
theorem dX6_act_81 : decode cX6_act 81 = .ok (.iconst 2, 1) := by decide +kernel
theorem dX6_act_82 : decode cX6_act 82 = .ok (.aload_n 0, 1) := by decide +kernel
theorem dX6_act_83 : decode cX6_act 83 = .ok (.getfield 72, 3) := by decide +kernel
theorem dX6_act_86 : decode cX6_act 86 = .ok (.imul, 1) := by decide +kernel
theorem dX6_act_87 : decode cX6_act 87 = .ok (.iload_n 2, 1) := by decide +kernel
theorem dX6_act_88 : decode cX6_act 88 = .ok (.iastore, 1) := by decide +kernel
theorem dX6_act_89 : decode cX6_act 89 = .ok (.aload_n 0, 1) := by decide +kernel
theorem dX6_act_90 : decode cX6_act 90 = .ok (.getfield 13, 3) := by decide +kernel
theorem dX6_act_93 : decode cX6_act 93 = .ok (.iconst 2, 1) := by decide +kernel
theorem dX6_act_94 : decode cX6_act 94 = .ok (.aload_n 0, 1) := by decide +kernel
theorem dX6_act_95 : decode cX6_act 95 = .ok (.getfield 72, 3) := by decide +kernel
theorem dX6_act_98 : decode cX6_act 98 = .ok (.imul, 1) := by decide +kernel
theorem dX6_act_99 : decode cX6_act 99 = .ok (.iconst 1, 1) := by decide +kernel
theorem dX6_act_100 : decode cX6_act 100 = .ok (.iadd, 1) := by decide +kernel
theorem dX6_act_101 : decode cX6_act 101 = .ok (.iload 4, 2) := by decide +kernel
theorem dX6_act_103 : decode cX6_act 103 = .ok (.iastore, 1) := by decide +kernel
theorem dX6_act_104 : decode cX6_act 104 = .ok (.aload_n 0, 1) := by decide +kernel
theorem dX6_act_105 : decode cX6_act 105 = .ok (.getfield 16, 3) := by decide +kernel
theorem dX6_act_108 : decode cX6_act 108 = .ok (.iconst 2, 1) := by decide +kernel
theorem dX6_act_109 : decode cX6_act 109 = .ok (.aload_n 0, 1) := by decide +kernel
theorem dX6_act_110 : decode cX6_act 110 = .ok (.getfield 72, 3) := by decide +kernel
theorem dX6_act_113 : decode cX6_act 113 = .ok (.imul, 1) := by decide +kernel
theorem dX6_act_114 : decode cX6_act 114 = .ok (.iload_n 3, 1) := by decide +kernel
theorem dX6_act_115 : decode cX6_act 115 = .ok (.iastore, 1) := by decide +kernel
theorem dX6_act_116 : decode cX6_act 116 = .ok (.aload_n 0, 1) := by decide +kernel
theorem dX6_act_117 : decode cX6_act 117 = .ok (.getfield 16, 3) := by decide +kernel
theorem dX6_act_120 : decode cX6_act 120 = .ok (.iconst 2, 1) := by decide +kernel
theorem dX6_act_121 : decode cX6_act 121 = .ok (.aload_n 0, 1) := by decide +kernel
theorem dX6_act_122 : decode cX6_act 122 = .ok (.getfield 72, 3) := by decide +kernel
theorem dX6_act_125 : decode cX6_act 125 = .ok (.imul, 1) := by decide +kernel
theorem dX6_act_126 : decode cX6_act 126 = .ok (.iconst 1, 1) := by decide +kernel
theorem dX6_act_127 : decode cX6_act 127 = .ok (.iadd, 1) := by decide +kernel
theorem dX6_act_128 : decode cX6_act 128 = .ok (.iload 5, 2) := by decide +kernel
theorem dX6_act_130 : decode cX6_act 130 = .ok (.iastore, 1) := by decide +kernel
theorem dX6_act_131 : decode cX6_act 131 = .ok (.aload_n 0, 1) := by decide +kernel
theorem dX6_act_132 : decode cX6_act 132 = .ok (.iload_n 1, 1) := by decide +kernel
theorem dX6_act_133 : decode cX6_act 133 = .ok (.invokevirtual 89, 3) := by decide +kernel
theorem dX6_act_136 : decode cX6_act 136 = .ok (.ireturn, 1) := by decide +kernel
set_option maxRecDepth 20000 in
set_option maxHeartbeats 4000000 in
theorem k_M_act (l : Launch) (w : WT) (σ : MM) (kd : Int) (a : Int) (da : Int) (b : Int) (db : Int) (i_kd : inr kd) (i_a : inr a) (i_da : inr da) (i_b : inr b) (i_db : inr db) : CT SX l w yX6_act cX6_act 6 (some .int) 1 25 [.ref (w.2.2 27), .int (iI kd), .int (iI a), .int (iI da), .int (iI b), .int (iI db)] σ (PI fun z σ1 => Mod [28, 29, 30, 61, 63, 64] σ σ1 ∧ (((kd < 1 ∨ 5 < kd ∨ a < 0 ∨ 7 < a ∨ da < 0 ∨ 3 < da ∨ b < 0 ∨ 7 < b ∨ db < 0 ∨ 3 < db) ∧ z = -2 ∧ σ1 = σ) ∨ ((1 ≤ kd ∧ kd ≤ 5 ∧ 0 ≤ a ∧ a ≤ 7 ∧ 0 ≤ da ∧ da ≤ 3 ∧ 0 ≤ b ∧ b ≤ 7 ∧ 0 ≤ db ∧ db ≤ 3) ∧ σ 61 0 = 8 ∧ z = -4 ∧ σ1 = σ) ∨ ((1 ≤ kd ∧ kd ≤ 5 ∧ 0 ≤ a ∧ a ≤ 7 ∧ 0 ≤ da ∧ da ≤ 3 ∧ 0 ≤ b ∧ b ≤ 7 ∧ 0 ≤ db ∧ db ≤ 3) ∧ σ 61 0 < 8 ∧ z = σ 61 0 ∧ AddA σ σ1 kd a da b db))) := by
  refine CT.of 0 [some (.ref (w.2.2 27)), some (.int (iI kd)), some (.int (iI a)), some (.int (iI da)), some (.int (iI b)), some (.int (iI db))] (by decide +kernel) (by simp [lg_sl, Value.category]) rfl sh_X (fun G hX => ?_)
  refine r_bd hX (fun hBd => ?_)
  have b_61 := hBd 61 0 8 rfl 0
  refine r_iload_n hX dX6_act_0 rfl ?_
  refine r_i2l hX dX6_act_1 (by omega) ?_
  refine r_lconst hX (z := 1) dX6_act_2 rfl ?_
  refine r_ldc2 hX dX6_act_3 lc_RX6_93 ?_
  refine r_callS hX dX6_act_6 (k_M_in l w σ _ _ _ (by omega) (by omega) (by omega)) mf_X6_in ms_X6_in lk_RX6_75 rfl rfl ⟨Nat.le_of_ble_eq_true rfl, Nat.le_of_ble_eq_true rfl⟩ (Nat.le_of_ble_eq_true rfl) (kI fun z6 σ6 hh => ?_)
  obtain ⟨rfl, h6_0⟩ := hh
  refine r_if_eq hX (tgt := 62) dX6_act_9 (by decide) (by omega) (fun c9 => ?_) (fun c9 => ?_)
  · skip
    refine r_bipush hX dX6_act_62 (by decide) ?_
    exact r_iret hX dX6_act_64 rfl ⟨_, rfl, ⟨Mod.rf, (by first | exact Or.inl ⟨by omega, rfl, rfl⟩ | exact Or.inr (Or.inl ⟨by omega, by omega, rfl, rfl⟩) | exact Or.inr (Or.inr ⟨by omega, by omega, h133_0.1, h133_0.2.1, h133_0.2.2.1, h133_0.2.2.2.1, h133_0.2.2.2.2, fun e => by rw [m133.at 29 rfl, m130.at 29 rfl, m115.at 29 rfl, s103 e, s88 e]; split <;> split <;> first | rfl | omega, fun e => by rw [m133.at 30 rfl, s130 e, s115 e]; split <;> split <;> first | rfl | omega⟩))⟩⟩
  · skip
    refine r_iload_n hX dX6_act_12 rfl ?_
    refine r_i2l hX dX6_act_13 (by omega) ?_
    refine r_lconst hX (z := 0) dX6_act_14 rfl ?_
    refine r_ldc2 hX dX6_act_15 lc_RX6_95 ?_
    refine r_callS hX dX6_act_18 (k_M_in l w σ _ _ _ (by omega) (by omega) (by omega)) mf_X6_in ms_X6_in lk_RX6_75 rfl rfl ⟨Nat.le_of_ble_eq_true rfl, Nat.le_of_ble_eq_true rfl⟩ (Nat.le_of_ble_eq_true rfl) (kI fun z18 σ18 hh => ?_)
    obtain ⟨rfl, h18_0⟩ := hh
    refine r_if_eq hX (tgt := 62) dX6_act_21 (by decide) (by omega) (fun c21 => ?_) (fun c21 => ?_)
    · skip
      refine r_bipush hX dX6_act_62 (by decide) ?_
      exact r_iret hX dX6_act_64 rfl ⟨_, rfl, ⟨Mod.rf, (by first | exact Or.inl ⟨by omega, rfl, rfl⟩ | exact Or.inr (Or.inl ⟨by omega, by omega, rfl, rfl⟩) | exact Or.inr (Or.inr ⟨by omega, by omega, h133_0.1, h133_0.2.1, h133_0.2.2.1, h133_0.2.2.2.1, h133_0.2.2.2.2, fun e => by rw [m133.at 29 rfl, m130.at 29 rfl, m115.at 29 rfl, s103 e, s88 e]; split <;> split <;> first | rfl | omega, fun e => by rw [m133.at 30 rfl, s130 e, s115 e]; split <;> split <;> first | rfl | omega⟩))⟩⟩
    · skip
      refine r_iload_n hX dX6_act_24 rfl ?_
      refine r_i2l hX dX6_act_25 (by omega) ?_
      refine r_lconst hX (z := 0) dX6_act_26 rfl ?_
      refine r_ldc2 hX dX6_act_27 lc_RX6_97 ?_
      refine r_callS hX dX6_act_30 (k_M_in l w σ _ _ _ (by omega) (by omega) (by omega)) mf_X6_in ms_X6_in lk_RX6_75 rfl rfl ⟨Nat.le_of_ble_eq_true rfl, Nat.le_of_ble_eq_true rfl⟩ (Nat.le_of_ble_eq_true rfl) (kI fun z30 σ30 hh => ?_)
      obtain ⟨rfl, h30_0⟩ := hh
      refine r_if_eq hX (tgt := 62) dX6_act_33 (by decide) (by omega) (fun c33 => ?_) (fun c33 => ?_)
      · skip
        refine r_bipush hX dX6_act_62 (by decide) ?_
        exact r_iret hX dX6_act_64 rfl ⟨_, rfl, ⟨Mod.rf, (by first | exact Or.inl ⟨by omega, rfl, rfl⟩ | exact Or.inr (Or.inl ⟨by omega, by omega, rfl, rfl⟩) | exact Or.inr (Or.inr ⟨by omega, by omega, h133_0.1, h133_0.2.1, h133_0.2.2.1, h133_0.2.2.2.1, h133_0.2.2.2.2, fun e => by rw [m133.at 29 rfl, m130.at 29 rfl, m115.at 29 rfl, s103 e, s88 e]; split <;> split <;> first | rfl | omega, fun e => by rw [m133.at 30 rfl, s130 e, s115 e]; split <;> split <;> first | rfl | omega⟩))⟩⟩
      · skip
        refine r_iload hX dX6_act_36 rfl ?_
        refine r_i2l hX dX6_act_38 (by omega) ?_
        refine r_lconst hX (z := 0) dX6_act_39 rfl ?_
        refine r_ldc2 hX dX6_act_40 lc_RX6_95 ?_
        refine r_callS hX dX6_act_43 (k_M_in l w σ _ _ _ (by omega) (by omega) (by omega)) mf_X6_in ms_X6_in lk_RX6_75 rfl rfl ⟨Nat.le_of_ble_eq_true rfl, Nat.le_of_ble_eq_true rfl⟩ (Nat.le_of_ble_eq_true rfl) (kI fun z43 σ43 hh => ?_)
        obtain ⟨rfl, h43_0⟩ := hh
        refine r_if_eq hX (tgt := 62) dX6_act_46 (by decide) (by omega) (fun c46 => ?_) (fun c46 => ?_)
        · skip
          refine r_bipush hX dX6_act_62 (by decide) ?_
          exact r_iret hX dX6_act_64 rfl ⟨_, rfl, ⟨Mod.rf, (by first | exact Or.inl ⟨by omega, rfl, rfl⟩ | exact Or.inr (Or.inl ⟨by omega, by omega, rfl, rfl⟩) | exact Or.inr (Or.inr ⟨by omega, by omega, h133_0.1, h133_0.2.1, h133_0.2.2.1, h133_0.2.2.2.1, h133_0.2.2.2.2, fun e => by rw [m133.at 29 rfl, m130.at 29 rfl, m115.at 29 rfl, s103 e, s88 e]; split <;> split <;> first | rfl | omega, fun e => by rw [m133.at 30 rfl, s130 e, s115 e]; split <;> split <;> first | rfl | omega⟩))⟩⟩
        · skip
          refine r_iload hX dX6_act_49 rfl ?_
          refine r_i2l hX dX6_act_51 (by omega) ?_
          refine r_lconst hX (z := 0) dX6_act_52 rfl ?_
          refine r_ldc2 hX dX6_act_53 lc_RX6_97 ?_
          refine r_callS hX dX6_act_56 (k_M_in l w σ _ _ _ (by omega) (by omega) (by omega)) mf_X6_in ms_X6_in lk_RX6_75 rfl rfl ⟨Nat.le_of_ble_eq_true rfl, Nat.le_of_ble_eq_true rfl⟩ (Nat.le_of_ble_eq_true rfl) (kI fun z56 σ56 hh => ?_)
          obtain ⟨rfl, h56_0⟩ := hh
          refine r_if_ne hX (tgt := 65) dX6_act_59 (by decide) (by omega) (fun c59 => ?_) (fun c59 => ?_)
          · skip
            refine r_aload_n hX dX6_act_65 rfl ?_
            refine fg_X27_72 hX dX6_act_66 (fun b66l b66u => ?_)
            refine r_bipush hX dX6_act_69 (by decide) ?_
            refine r_icmp_ne hX (tgt := 77) dX6_act_71 (by decide) (by omega) (by omega) (fun c71 => ?_) (fun c71 => ?_)
            · skip
              refine r_aload_n hX dX6_act_77 rfl ?_
              refine fg_X27_13 hX dX6_act_78 ?_
              refine r_iconst hX dX6_act_81 ?_
              refine r_aload_n hX dX6_act_82 rfl ?_
              refine fg_X27_72 hX dX6_act_83 (fun b83l b83u => ?_)
              refine r_imul hX dX6_act_86 ?_
              refine r_iload_n hX dX6_act_87 rfl ?_
              refine st_X29 hX dX6_act_88 (by omega) (by omega) (by omega) (fun σ88 m88 s88 => ?_)
              refine r_aload_n hX dX6_act_89 rfl ?_
              refine fg_X27_13 hX dX6_act_90 ?_
              refine r_iconst hX dX6_act_93 ?_
              refine r_aload_n hX dX6_act_94 rfl ?_
              refine fg_X27_72 hX dX6_act_95 (fun b95l b95u => ?_)
              have q95 : σ88 61 = σ 61 := (m88.at 61 rfl)
              rw [q95]
              rw [q95] at b95l b95u
              refine r_imul hX dX6_act_98 ?_
              refine r_iconst hX dX6_act_99 ?_
              refine r_iadd hX dX6_act_100 ?_
              refine r_iload hX dX6_act_101 rfl ?_
              refine st_X29 hX dX6_act_103 (by omega) (by omega) (by omega) (fun σ103 m103 s103 => ?_)
              refine r_aload_n hX dX6_act_104 rfl ?_
              refine fg_X27_16 hX dX6_act_105 ?_
              refine r_iconst hX dX6_act_108 ?_
              refine r_aload_n hX dX6_act_109 rfl ?_
              refine fg_X27_72 hX dX6_act_110 (fun b110l b110u => ?_)
              have q110 : σ103 61 = σ 61 := ((m103.at 61 rfl).trans (m88.at 61 rfl))
              rw [q110]
              rw [q110] at b110l b110u
              refine r_imul hX dX6_act_113 ?_
              refine r_iload_n hX dX6_act_114 rfl ?_
              refine st_X30 hX dX6_act_115 (by omega) (by omega) (by omega) (fun σ115 m115 s115 => ?_)
              simp only [show σ103 30 = σ 30 from ((m103.at 30 rfl).trans (m88.at 30 rfl))] at s115
              refine r_aload_n hX dX6_act_116 rfl ?_
              refine fg_X27_16 hX dX6_act_117 ?_
              refine r_iconst hX dX6_act_120 ?_
              refine r_aload_n hX dX6_act_121 rfl ?_
              refine fg_X27_72 hX dX6_act_122 (fun b122l b122u => ?_)
              have q122 : σ115 61 = σ 61 := ((m115.at 61 rfl).trans ((m103.at 61 rfl).trans (m88.at 61 rfl)))
              rw [q122]
              rw [q122] at b122l b122u
              refine r_imul hX dX6_act_125 ?_
              refine r_iconst hX dX6_act_126 ?_
              refine r_iadd hX dX6_act_127 ?_
              refine r_iload hX dX6_act_128 rfl ?_
              refine st_X30 hX dX6_act_130 (by omega) (by omega) (by omega) (fun σ130 m130 s130 => ?_)
              refine r_aload_n hX dX6_act_131 rfl ?_
              refine r_iload_n hX dX6_act_132 rfl ?_
              have qp133_61 : σ130 61 = σ 61 := ((m130.at 61 rfl).trans ((m115.at 61 rfl).trans ((m103.at 61 rfl).trans (m88.at 61 rfl))))
              refine r_callV hX dX6_act_133 (k_M_enter l w σ130 _ (by omega) (by omega) (by simp only [qp133_61]; omega)) mf_X6_enter mv_X6_enter lk_RX6_89 rfl rfl rfl rfl rfl ⟨Nat.le_of_ble_eq_true rfl, Nat.le_of_ble_eq_true rfl⟩ (Nat.le_of_ble_eq_true rfl) (kI fun z133 σ133 hh => ?_)
              obtain ⟨m133, h133_0⟩ := hh
              have q133_1 : σ130 28 = σ 28 := ((m130.at 28 rfl).trans ((m115.at 28 rfl).trans ((m103.at 28 rfl).trans (m88.at 28 rfl))))
              have q133_2 : σ130 61 = σ 61 := ((m130.at 61 rfl).trans ((m115.at 61 rfl).trans ((m103.at 61 rfl).trans (m88.at 61 rfl))))
              try simp only [q133_1, q133_2] at h133_0
              exact r_iret hX dX6_act_136 rfl ⟨_, rfl, ⟨(Mod.tr (L := [28, 29, 30, 61, 63, 64]) (Mod.tr (L := [28, 29, 30, 61, 63, 64]) (Mod.tr (L := [28, 29, 30, 61, 63, 64]) (Mod.tr (L := [28, 29, 30, 61, 63, 64]) m88 m103 rfl rfl) m115 rfl rfl) m130 rfl rfl) m133 rfl rfl), (by first | exact Or.inl ⟨by omega, rfl, rfl⟩ | exact Or.inr (Or.inl ⟨by omega, by omega, rfl, rfl⟩) | exact Or.inr (Or.inr ⟨by omega, by omega, h133_0.1, h133_0.2.1, h133_0.2.2.1, h133_0.2.2.2.1, h133_0.2.2.2.2, fun e => by rw [m133.at 29 rfl, m130.at 29 rfl, m115.at 29 rfl, s103 e, s88 e]; split <;> split <;> first | rfl | omega, fun e => by rw [m133.at 30 rfl, s130 e, s115 e]; split <;> split <;> first | rfl | omega⟩))⟩⟩
            · skip
              refine r_bipush hX dX6_act_74 (by decide) ?_
              exact r_iret hX dX6_act_76 rfl ⟨_, rfl, ⟨Mod.rf, (by first | exact Or.inl ⟨by omega, rfl, rfl⟩ | exact Or.inr (Or.inl ⟨by omega, by omega, rfl, rfl⟩) | exact Or.inr (Or.inr ⟨by omega, by omega, h133_0.1, h133_0.2.1, h133_0.2.2.1, h133_0.2.2.2.1, h133_0.2.2.2.2, fun e => by rw [m133.at 29 rfl, m130.at 29 rfl, m115.at 29 rfl, s103 e, s88 e]; split <;> split <;> first | rfl | omega, fun e => by rw [m133.at 30 rfl, s130 e, s115 e]; split <;> split <;> first | rfl | omega⟩))⟩⟩
          · skip
            refine r_bipush hX dX6_act_62 (by decide) ?_
            exact r_iret hX dX6_act_64 rfl ⟨_, rfl, ⟨Mod.rf, (by first | exact Or.inl ⟨by omega, rfl, rfl⟩ | exact Or.inr (Or.inl ⟨by omega, by omega, rfl, rfl⟩) | exact Or.inr (Or.inr ⟨by omega, by omega, h133_0.1, h133_0.2.1, h133_0.2.2.1, h133_0.2.2.2.1, h133_0.2.2.2.2, fun e => by rw [m133.at 29 rfl, m130.at 29 rfl, m115.at 29 rfl, s103 e, s88 e]; split <;> split <;> first | rfl | omega, fun e => by rw [m133.at 30 rfl, s130 e, s115 e]; split <;> split <;> first | rfl | omega⟩))⟩⟩
theorem dX6_first_0 : decode cX6_first 0 = .ok (.aload_n 0, 1) := by decide +kernel
theorem dX6_first_1 : decode cX6_first 1 = .ok (.getfield 99, 3) := by decide +kernel
theorem dX6_first_4 : decode cX6_first 4 = .ok (.istore_n 2, 1) := by decide +kernel
theorem dX6_first_5 : decode cX6_first 5 = .ok (.aload_n 0, 1) := by decide +kernel
theorem dX6_first_6 : decode cX6_first 6 = .ok (.iload_n 1, 1) := by decide +kernel
theorem dX6_first_7 : decode cX6_first 7 = .ok (.putfield 99, 3) := by decide +kernel
theorem dX6_first_10 : decode cX6_first 10 = .ok (.aload_n 0, 1) := by decide +kernel
theorem dX6_first_11 : decode cX6_first 11 = .ok (.iconst 0, 1) := by decide +kernel
theorem dX6_first_12 : decode cX6_first 12 = .ok (.putfield 82, 3) := by decide +kernel
theorem dX6_first_15 : decode cX6_first 15 = .ok (.iload_n 2, 1) := by decide +kernel
theorem dX6_first_16 : decode cX6_first 16 = .ok (.ireturn, 1) := by decide +kernel
set_option maxRecDepth 20000 in
set_option maxHeartbeats 4000000 in
theorem k_M_first (l : Launch) (w : WT) (σ : MM) (v : Int) (i_v : inr v) : CT SX l w yX6_first cX6_first 3 (some .int) 0 0 [.ref (w.2.2 27), .int (iI v)] σ (PI fun z σ1 => Mod [62, 64] σ σ1 ∧ (z = σ 62 0 ∧ σ1 62 0 = v ∧ σ1 64 0 = 0)) := by
  refine CT.of 1 [some (.ref (w.2.2 27)), some (.int (iI v)), none] (by decide +kernel) (by simp [lg_sl, Value.category]) rfl sh_X (fun G hX => ?_)
  refine r_aload_n hX dX6_first_0 rfl ?_
  refine fg_X27_99 hX dX6_first_1 ?_
  refine r_istore_n hX (fun x4 => [some (.ref (w.2.2 27)), some (.int (iI v)), some (.int (iI x4))]) dX6_first_4 (Nat.le_of_ble_eq_true rfl) rfl rfl (fun _ => rfl) (fun x4 e4 => ?_)
  refine r_aload_n hX dX6_first_5 rfl ?_
  refine r_iload_n hX dX6_first_6 rfl ?_
  refine fp_X27_99 hX dX6_first_7 (fun σ7 m7 s7 => ?_)
  refine r_aload_n hX dX6_first_10 rfl ?_
  refine r_iconst hX dX6_first_11 ?_
  refine fp_X27_82 hX dX6_first_12 (by omega) (fun σ12 m12 s12 => ?_)
  refine r_iload_n hX dX6_first_15 rfl ?_
  exact r_iret hX dX6_first_16 rfl ⟨_, rfl, ⟨(Mod.tr (L := [62, 64]) m7 m12 rfl rfl), (by refine ⟨by omega, ?_, s12⟩; (rw [m12.at 62 rfl]; exact s7))⟩⟩
theorem dX6_clear_0 : decode cX6_clear 0 = .ok (.aload_n 0, 1) := by decide +kernel
theorem dX6_clear_1 : decode cX6_clear 1 = .ok (.getfield 72, 3) := by decide +kernel
theorem dX6_clear_4 : decode cX6_clear 4 = .ok (.istore_n 1, 1) := by decide +kernel
theorem dX6_clear_5 : decode cX6_clear 5 = .ok (.aload_n 0, 1) := by decide +kernel
theorem dX6_clear_6 : decode cX6_clear 6 = .ok (.iconst 0, 1) := by decide +kernel
theorem dX6_clear_7 : decode cX6_clear 7 = .ok (.putfield 72, 3) := by decide +kernel
theorem dX6_clear_10 : decode cX6_clear 10 = .ok (.aload_n 0, 1) := by decide +kernel
theorem dX6_clear_11 : decode cX6_clear 11 = .ok (.iconst 0, 1) := by decide +kernel
theorem dX6_clear_12 : decode cX6_clear 12 = .ok (.putfield 79, 3) := by decide +kernel
theorem dX6_clear_15 : decode cX6_clear 15 = .ok (.aload_n 0, 1) := by decide +kernel
theorem dX6_clear_16 : decode cX6_clear 16 = .ok (.iconst 0, 1) := by decide +kernel
theorem dX6_clear_17 : decode cX6_clear 17 = .ok (.putfield 82, 3) := by decide +kernel
theorem dX6_clear_20 : decode cX6_clear 20 = .ok (.iload_n 1, 1) := by decide +kernel
theorem dX6_clear_21 : decode cX6_clear 21 = .ok (.ireturn, 1) := by decide +kernel
set_option maxRecDepth 20000 in
set_option maxHeartbeats 4000000 in
theorem k_M_clear (l : Launch) (w : WT) (σ : MM) : CT SX l w yX6_clear cX6_clear 2 (some .int) 0 0 [.ref (w.2.2 27)] σ (PI fun z σ1 => Mod [61, 63, 64] σ σ1 ∧ (z = σ 61 0 ∧ σ1 61 0 = 0 ∧ σ1 63 0 = 0 ∧ σ1 64 0 = 0)) := by
  refine CT.of 1 [some (.ref (w.2.2 27)), none] (by decide +kernel) (by simp [lg_sl, Value.category]) rfl sh_X (fun G hX => ?_)
  refine r_aload_n hX dX6_clear_0 rfl ?_
  refine fg_X27_72 hX dX6_clear_1 (fun b1l b1u => ?_)
  refine r_istore_n hX (fun x4 => [some (.ref (w.2.2 27)), some (.int (iI x4))]) dX6_clear_4 (Nat.le_of_ble_eq_true rfl) rfl rfl (fun _ => rfl) (fun x4 e4 => ?_)
  refine r_aload_n hX dX6_clear_5 rfl ?_
  refine r_iconst hX dX6_clear_6 ?_
  refine fp_X27_72 hX dX6_clear_7 (by omega) (fun σ7 m7 s7 => ?_)
  refine r_aload_n hX dX6_clear_10 rfl ?_
  refine r_iconst hX dX6_clear_11 ?_
  refine fp_X27_79 hX dX6_clear_12 (by omega) (fun σ12 m12 s12 => ?_)
  refine r_aload_n hX dX6_clear_15 rfl ?_
  refine r_iconst hX dX6_clear_16 ?_
  refine fp_X27_82 hX dX6_clear_17 (by omega) (fun σ17 m17 s17 => ?_)
  refine r_iload_n hX dX6_clear_20 rfl ?_
  exact r_iret hX dX6_clear_21 rfl ⟨_, rfl, ⟨(Mod.tr (L := [61, 63, 64]) (Mod.tr (L := [61, 63, 64]) m7 m12 rfl rfl) m17 rfl rfl), (by refine ⟨by omega, ?_, ?_, s17⟩; (rw [m17.at 61 rfl, m12.at 61 rfl]; exact s7); (rw [m17.at 63 rfl]; exact s12))⟩⟩
theorem dX6_lengthOf_0 : decode cX6_lengthOf 0 = .ok (.aload_n 0, 1) := by decide +kernel
theorem dX6_lengthOf_1 : decode cX6_lengthOf 1 = .ok (.getfield 7, 3) := by decide +kernel
theorem dX6_lengthOf_4 : decode cX6_lengthOf 4 = .ok (.iload_n 1, 1) := by decide +kernel
theorem dX6_lengthOf_5 : decode cX6_lengthOf 5 = .ok (.iaload, 1) := by decide +kernel
theorem dX6_lengthOf_6 : decode cX6_lengthOf 6 = .ok (.iconst 3, 1) := by decide +kernel
theorem dX6_lengthOf_7 : decode cX6_lengthOf 7 = .ok (.if_icmp .ne 7, 3) := by decide +kernel
theorem dX6_lengthOf_10 : decode cX6_lengthOf 10 = .ok (.iconst 2, 1) := by decide +kernel
theorem dX6_lengthOf_11 : decode cX6_lengthOf 11 = .ok (.goto 4, 3) := by decide +kernel
theorem dX6_lengthOf_14 : decode cX6_lengthOf 14 = .ok (.iconst 1, 1) := by decide +kernel
theorem dX6_lengthOf_15 : decode cX6_lengthOf 15 = .ok (.ireturn, 1) := by decide +kernel
set_option maxRecDepth 20000 in
set_option maxHeartbeats 4000000 in
theorem k_M_lengthOf (l : Launch) (w : WT) (σ : MM) (a : Int) (i_a : inr a) (ha : 0 ≤ a ∧ a < 8) : CT SX l w yX6_lengthOf cX6_lengthOf 2 (some .int) 0 0 [.ref (w.2.2 27), .int (iI a)] σ (PI fun z σ1 => σ = σ1 ∧ (z = lenF (σ 28) a) ∧ (1 ≤ z ∧ z ≤ 2)) := by
  refine CT.of 0 [some (.ref (w.2.2 27)), some (.int (iI a))] (by decide +kernel) (by simp [lg_sl, Value.category]) rfl sh_X (fun G hX => ?_)
  refine r_aload_n hX dX6_lengthOf_0 rfl ?_
  refine fg_X27_7 hX dX6_lengthOf_1 ?_
  refine r_iload_n hX dX6_lengthOf_4 rfl ?_
  refine ld_X28 hX dX6_lengthOf_5 (by omega) (by omega) (fun b5l b5u => ?_)
  refine r_iconst hX dX6_lengthOf_6 ?_
  refine r_icmp_ne hX (tgt := 14) dX6_lengthOf_7 (by decide) (by omega) (by omega) (fun c7 => ?_) (fun c7 => ?_)
  · skip
    refine r_iconst hX dX6_lengthOf_14 ?_
    exact r_iret hX dX6_lengthOf_15 rfl ⟨_, rfl, ⟨rfl, (by unfold lenF; first | rw [if_pos (by omega)] | rw [if_neg (by omega)]), (by omega)⟩⟩
  · skip
    refine r_iconst hX dX6_lengthOf_10 ?_
    refine r_goto hX dX6_lengthOf_11 (tgt := 15) (by decide) ?_
    exact r_iret hX dX6_lengthOf_15 rfl ⟨_, rfl, ⟨rfl, (by unfold lenF; first | rw [if_pos (by omega)] | rw [if_neg (by omega)]), (by omega)⟩⟩
theorem dX6_isReady_0 : decode cX6_isReady 0 = .ok (.iconst 1, 1) := by decide +kernel
theorem dX6_isReady_1 : decode cX6_isReady 1 = .ok (.istore_n 2, 1) := by decide +kernel
theorem dX6_isReady_2 : decode cX6_isReady 2 = .ok (.iconst 2, 1) := by decide +kernel
theorem dX6_isReady_3 : decode cX6_isReady 3 = .ok (.iload_n 1, 1) := by decide +kernel
theorem dX6_isReady_4 : decode cX6_isReady 4 = .ok (.imul, 1) := by decide +kernel
theorem dX6_isReady_5 : decode cX6_isReady 5 = .ok (.istore_n 3, 1) := by decide +kernel
theorem dX6_isReady_6 : decode cX6_isReady 6 = .ok (.iload_n 3, 1) := by decide +kernel
theorem dX6_isReady_7 : decode cX6_isReady 7 = .ok (.iconst 2, 1) := by decide +kernel
theorem dX6_isReady_8 : decode cX6_isReady 8 = .ok (.iload_n 1, 1) := by decide +kernel
theorem dX6_isReady_9 : decode cX6_isReady 9 = .ok (.imul, 1) := by decide +kernel
theorem dX6_isReady_10 : decode cX6_isReady 10 = .ok (.iconst 2, 1) := by decide +kernel
theorem dX6_isReady_11 : decode cX6_isReady 11 = .ok (.iadd, 1) := by decide +kernel
theorem dX6_isReady_12 : decode cX6_isReady 12 = .ok (.if_icmp .ge 51, 3) := by decide +kernel
theorem dX6_isReady_15 : decode cX6_isReady 15 = .ok (.aload_n 0, 1) := by decide +kernel
theorem dX6_isReady_16 : decode cX6_isReady 16 = .ok (.getfield 7, 3) := by decide +kernel
theorem dX6_isReady_19 : decode cX6_isReady 19 = .ok (.iload_n 1, 1) := by decide +kernel
theorem dX6_isReady_20 : decode cX6_isReady 20 = .ok (.iaload, 1) := by decide +kernel
theorem dX6_isReady_21 : decode cX6_isReady 21 = .ok (.ifCond .le 42, 3) := by decide +kernel
theorem dX6_isReady_24 : decode cX6_isReady 24 = .ok (.iload_n 2, 1) := by decide +kernel
theorem dX6_isReady_25 : decode cX6_isReady 25 = .ok (.ifCond .eq 30, 3) := by decide +kernel
theorem dX6_isReady_28 : decode cX6_isReady 28 = .ok (.aload_n 0, 1) := by decide +kernel
theorem dX6_isReady_29 : decode cX6_isReady 29 = .ok (.getfield 16, 3) := by decide +kernel
theorem dX6_isReady_32 : decode cX6_isReady 32 = .ok (.iload_n 3, 1) := by decide +kernel
theorem dX6_isReady_33 : decode cX6_isReady 33 = .ok (.iaload, 1) := by decide +kernel
theorem dX6_isReady_34 : decode cX6_isReady 34 = .ok (.ifCond .gt 17, 3) := by decide +kernel
theorem dX6_isReady_37 : decode cX6_isReady 37 = .ok (.aload_n 0, 1) := by decide +kernel
theorem dX6_isReady_38 : decode cX6_isReady 38 = .ok (.getfield 25, 3) := by decide +kernel
theorem dX6_isReady_41 : decode cX6_isReady 41 = .ok (.aload_n 0, 1) := by decide +kernel
theorem dX6_isReady_42 : decode cX6_isReady 42 = .ok (.getfield 13, 3) := by decide +kernel
theorem dX6_isReady_45 : decode cX6_isReady 45 = .ok (.iload_n 3, 1) := by decide +kernel
theorem dX6_isReady_46 : decode cX6_isReady 46 = .ok (.iaload, 1) := by decide +kernel
theorem dX6_isReady_47 : decode cX6_isReady 47 = .ok (.baload, 1) := by decide +kernel
theorem dX6_isReady_48 : decode cX6_isReady 48 = .ok (.ifCond .eq 7, 3) := by decide +kernel
theorem dX6_isReady_51 : decode cX6_isReady 51 = .ok (.iconst 1, 1) := by decide +kernel
theorem dX6_isReady_52 : decode cX6_isReady 52 = .ok (.goto 4, 3) := by decide +kernel
theorem dX6_isReady_55 : decode cX6_isReady 55 = .ok (.iconst 0, 1) := by decide +kernel
theorem dX6_isReady_56 : decode cX6_isReady 56 = .ok (.istore_n 2, 1) := by decide +kernel
theorem dX6_isReady_57 : decode cX6_isReady 57 = .ok (.iinc 3 1, 3) := by decide +kernel
theorem dX6_isReady_60 : decode cX6_isReady 60 = .ok (.goto (-54), 3) := by decide +kernel
theorem dX6_isReady_63 : decode cX6_isReady 63 = .ok (.iload_n 2, 1) := by decide +kernel
theorem dX6_isReady_64 : decode cX6_isReady 64 = .ok (.ireturn, 1) := by decide +kernel
set_option maxRecDepth 20000 in
set_option maxHeartbeats 4000000 in
theorem k_M_isReady (l : Launch) (w : WT) (σ : MM) (a : Int) (i_a : inr a) (ha : 0 ≤ a ∧ a < 8) : CT SX l w yX6_isReady cX6_isReady 4 (some .boolean) 0 0 [.ref (w.2.2 27), .int (iI a)] σ (PI fun z σ1 => σ = σ1 ∧ ((z = 1 ∧ RdM (σ 28) (σ 29) (σ 30) (σ 33) a) ∨ (z = 0 ∧ ¬ RdM (σ 28) (σ 29) (σ 30) (σ 33) a))) := by
  refine CT.of 2 [some (.ref (w.2.2 27)), some (.int (iI a)), none, none] (by decide +kernel) (by simp [lg_sl, Value.category]) rfl sh_X (fun G hX => ?_)
  refine r_bd hX (fun hBd => ?_)
  have b_28 := hBd 28 0 5 rfl 0
  have b28 := hBd 28 0 5 rfl a
  refine r_iconst hX dX6_isReady_0 ?_
  refine r_istore_n hX (fun x1 => [some (.ref (w.2.2 27)), some (.int (iI a)), some (.int (iI x1)), none]) dX6_isReady_1 (Nat.le_of_ble_eq_true rfl) rfl rfl (fun _ => rfl) (fun x1 e1 => ?_)
  refine r_iconst hX dX6_isReady_2 ?_
  refine r_iload_n hX dX6_isReady_3 rfl ?_
  refine r_imul hX dX6_isReady_4 ?_
  refine r_istore_n hX (fun x5 => [some (.ref (w.2.2 27)), some (.int (iI a)), some (.int (iI x1)), some (.int (iI x5))]) dX6_isReady_5 (Nat.le_of_ble_eq_true rfl) rfl rfl (fun _ => rfl) (fun x5 e5 => ?_)
  have lp6 : ∀ (n : Nat) (ready : Int) (k : Int) (hrr : ready = 0 ∨ ready = 1) (hk : 2 * a ≤ k ∧ k ≤ 2 * a + 2 ∧ (2 * a < k → σ 28 a ≠ 0)) (hR : RdI (fun j => 0 < σ 30 j ∨ σ 33 (σ 29 j) = 1) a k ready) (hmu : 2 * a + 3 - k < (n : Int)), G 6 [some (.ref (w.2.2 27)), some (.int (iI a)), some (.int (iI ready)), some (.int (iI k))] [] σ := by
    intro n
    induction n with
    | zero => intro ready k hrr hk hR hmu; omega
    | succ n ih =>
      intro ready k hrr hk hR hmu
      have ih6 := ih
      clear ih
      refine r_iload_n hX dX6_isReady_6 rfl ?_
      refine r_iconst hX dX6_isReady_7 ?_
      refine r_iload_n hX dX6_isReady_8 rfl ?_
      refine r_imul hX dX6_isReady_9 ?_
      refine r_iconst hX dX6_isReady_10 ?_
      refine r_iadd hX dX6_isReady_11 ?_
      refine r_icmp_ge hX (tgt := 63) dX6_isReady_12 (by decide) (by omega) (by omega) (fun c12 => ?_) (fun c12 => ?_)
      · skip
        refine r_iload_n hX dX6_isReady_63 rfl ?_
        exact r_zret hX dX6_isReady_64 rfl (by omega) ⟨_, rfl, ⟨rfl, (by exact hR.fin (by omega))⟩⟩
      · skip
        refine r_aload_n hX dX6_isReady_15 rfl ?_
        refine fg_X27_7 hX dX6_isReady_16 ?_
        refine r_iload_n hX dX6_isReady_19 rfl ?_
        refine ld_X28 hX dX6_isReady_20 (by omega) (by omega) (fun b20l b20u => ?_)
        refine r_if_le hX (tgt := 63) dX6_isReady_21 (by decide) (by omega) (fun c21 => ?_) (fun c21 => ?_)
        · skip
          refine r_iload_n hX dX6_isReady_63 rfl ?_
          exact r_zret hX dX6_isReady_64 rfl (by omega) ⟨_, rfl, ⟨rfl, (by exact hR.fin (by omega))⟩⟩
        · skip
          refine r_iload_n hX dX6_isReady_24 rfl ?_
          refine r_if_eq hX (tgt := 55) dX6_isReady_25 (by decide) (by omega) (fun c25 => ?_) (fun c25 => ?_)
          · skip
            refine r_iconst hX dX6_isReady_55 ?_
            refine r_istore_n hX (fun x56 => [some (.ref (w.2.2 27)), some (.int (iI a)), some (.int (iI x56)), some (.int (iI k))]) dX6_isReady_56 (Nat.le_of_ble_eq_true rfl) rfl rfl (fun _ => rfl) (fun x56 e56 => ?_)
            refine r_iinc hX (fun x57 => [some (.ref (w.2.2 27)), some (.int (iI a)), some (.int (iI x56)), some (.int (iI x57))]) dX6_isReady_57 rfl rfl rfl (fun _ => rfl) (fun x57 e57 => ?_)
            refine r_goto hX dX6_isReady_60 (tgt := 6) (by decide) ?_
            exact ih6 x56 x57 (by omega) (by omega) (by first | exact hR.yes (by omega) (by first | exact Or.inl (by omega) | exact Or.inr (by omega)) e57 e56 | exact hR.no (by omega) (Or.inl (by omega)) e57 e56 | exact hR.no (by omega) (Or.inr (fun q => by rcases q with q | q <;> omega)) e57 e56) (by omega)
          · skip
            refine r_aload_n hX dX6_isReady_28 rfl ?_
            refine fg_X27_16 hX dX6_isReady_29 ?_
            refine r_iload_n hX dX6_isReady_32 rfl ?_
            refine ld_X30 hX dX6_isReady_33 (by omega) (by omega) (fun b33l b33u => ?_)
            refine r_if_gt hX (tgt := 51) dX6_isReady_34 (by decide) (by omega) (fun c34 => ?_) (fun c34 => ?_)
            · skip
              refine r_iconst hX dX6_isReady_51 ?_
              refine r_goto hX dX6_isReady_52 (tgt := 56) (by decide) ?_
              refine r_istore_n hX (fun x56 => [some (.ref (w.2.2 27)), some (.int (iI a)), some (.int (iI x56)), some (.int (iI k))]) dX6_isReady_56 (Nat.le_of_ble_eq_true rfl) rfl rfl (fun _ => rfl) (fun x56 e56 => ?_)
              refine r_iinc hX (fun x57 => [some (.ref (w.2.2 27)), some (.int (iI a)), some (.int (iI x56)), some (.int (iI x57))]) dX6_isReady_57 rfl rfl rfl (fun _ => rfl) (fun x57 e57 => ?_)
              refine r_goto hX dX6_isReady_60 (tgt := 6) (by decide) ?_
              exact ih6 x56 x57 (by omega) (by omega) (by first | exact hR.yes (by omega) (by first | exact Or.inl (by omega) | exact Or.inr (by omega)) e57 e56 | exact hR.no (by omega) (Or.inl (by omega)) e57 e56 | exact hR.no (by omega) (Or.inr (fun q => by rcases q with q | q <;> omega)) e57 e56) (by omega)
            · skip
              refine r_aload_n hX dX6_isReady_37 rfl ?_
              refine fg_X27_25 hX dX6_isReady_38 ?_
              refine r_aload_n hX dX6_isReady_41 rfl ?_
              refine fg_X27_13 hX dX6_isReady_42 ?_
              refine r_iload_n hX dX6_isReady_45 rfl ?_
              refine ld_X29 hX dX6_isReady_46 (by omega) (by omega) (fun b46l b46u => ?_)
              refine ld_X33 hX dX6_isReady_47 (by omega) (by omega) (fun b47l b47u => ?_)
              refine r_if_eq hX (tgt := 55) dX6_isReady_48 (by decide) (by omega) (fun c48 => ?_) (fun c48 => ?_)
              · skip
                refine r_iconst hX dX6_isReady_55 ?_
                refine r_istore_n hX (fun x56 => [some (.ref (w.2.2 27)), some (.int (iI a)), some (.int (iI x56)), some (.int (iI k))]) dX6_isReady_56 (Nat.le_of_ble_eq_true rfl) rfl rfl (fun _ => rfl) (fun x56 e56 => ?_)
                refine r_iinc hX (fun x57 => [some (.ref (w.2.2 27)), some (.int (iI a)), some (.int (iI x56)), some (.int (iI x57))]) dX6_isReady_57 rfl rfl rfl (fun _ => rfl) (fun x57 e57 => ?_)
                refine r_goto hX dX6_isReady_60 (tgt := 6) (by decide) ?_
                exact ih6 x56 x57 (by omega) (by omega) (by first | exact hR.yes (by omega) (by first | exact Or.inl (by omega) | exact Or.inr (by omega)) e57 e56 | exact hR.no (by omega) (Or.inl (by omega)) e57 e56 | exact hR.no (by omega) (Or.inr (fun q => by rcases q with q | q <;> omega)) e57 e56) (by omega)
              · skip
                refine r_iconst hX dX6_isReady_51 ?_
                refine r_goto hX dX6_isReady_52 (tgt := 56) (by decide) ?_
                refine r_istore_n hX (fun x56 => [some (.ref (w.2.2 27)), some (.int (iI a)), some (.int (iI x56)), some (.int (iI k))]) dX6_isReady_56 (Nat.le_of_ble_eq_true rfl) rfl rfl (fun _ => rfl) (fun x56 e56 => ?_)
                refine r_iinc hX (fun x57 => [some (.ref (w.2.2 27)), some (.int (iI a)), some (.int (iI x56)), some (.int (iI x57))]) dX6_isReady_57 rfl rfl rfl (fun _ => rfl) (fun x57 e57 => ?_)
                refine r_goto hX dX6_isReady_60 (tgt := 6) (by decide) ?_
                exact ih6 x56 x57 (by omega) (by omega) (by first | exact hR.yes (by omega) (by first | exact Or.inl (by omega) | exact Or.inr (by omega)) e57 e56 | exact hR.no (by omega) (Or.inl (by omega)) e57 e56 | exact hR.no (by omega) (Or.inr (fun q => by rcases q with q | q <;> omega)) e57 e56) (by omega)
  exact lp6 ((2 * a + 3 - (x5)) + 1).toNat x1 x5 (by omega) (by omega) (RdI.init e1 e5) (by omega)
theorem dX6_isSound_0 : decode cX6_isSound 0 = .ok (.iconst 0, 1) := by decide +kernel
theorem dX6_isSound_1 : decode cX6_isSound 1 = .ok (.istore_n 1, 1) := by decide +kernel
theorem dX6_isSound_2 : decode cX6_isSound 2 = .ok (.iload_n 1, 1) := by decide +kernel
theorem dX6_isSound_3 : decode cX6_isSound 3 = .ok (.aload_n 0, 1) := by decide +kernel
theorem dX6_isSound_4 : decode cX6_isSound 4 = .ok (.getfield 72, 3) := by decide +kernel
theorem dX6_isSound_7 : decode cX6_isSound 7 = .ok (.if_icmp .ge 59, 3) := by decide +kernel
theorem dX6_isSound_10 : decode cX6_isSound 10 = .ok (.aload_n 0, 1) := by decide +kernel
theorem dX6_isSound_11 : decode cX6_isSound 11 = .ok (.getfield 25, 3) := by decide +kernel
theorem dX6_isSound_14 : decode cX6_isSound 14 = .ok (.iload_n 1, 1) := by decide +kernel
theorem dX6_isSound_15 : decode cX6_isSound 15 = .ok (.iconst 0, 1) := by decide +kernel
theorem dX6_isSound_16 : decode cX6_isSound 16 = .ok (.bastore, 1) := by decide +kernel
theorem dX6_isSound_17 : decode cX6_isSound 17 = .ok (.aload_n 0, 1) := by decide +kernel
theorem dX6_isSound_18 : decode cX6_isSound 18 = .ok (.getfield 7, 3) := by decide +kernel
theorem dX6_isSound_21 : decode cX6_isSound 21 = .ok (.iload_n 1, 1) := by decide +kernel
theorem dX6_isSound_22 : decode cX6_isSound 22 = .ok (.iaload, 1) := by decide +kernel
theorem dX6_isSound_23 : decode cX6_isSound 23 = .ok (.ifCond .le 37, 3) := by decide +kernel
theorem dX6_isSound_26 : decode cX6_isSound 26 = .ok (.aload_n 0, 1) := by decide +kernel
theorem dX6_isSound_27 : decode cX6_isSound 27 = .ok (.aload_n 0, 1) := by decide +kernel
theorem dX6_isSound_28 : decode cX6_isSound 28 = .ok (.getfield 13, 3) := by decide +kernel
theorem dX6_isSound_31 : decode cX6_isSound 31 = .ok (.iconst 2, 1) := by decide +kernel
theorem dX6_isSound_32 : decode cX6_isSound 32 = .ok (.iload_n 1, 1) := by decide +kernel
theorem dX6_isSound_33 : decode cX6_isSound 33 = .ok (.imul, 1) := by decide +kernel
theorem dX6_isSound_34 : decode cX6_isSound 34 = .ok (.iaload, 1) := by decide +kernel
theorem dX6_isSound_35 : decode cX6_isSound 35 = .ok (.invokevirtual 102, 3) := by decide +kernel
theorem dX6_isSound_38 : decode cX6_isSound 38 = .ok (.ifCond .eq 20, 3) := by decide +kernel
theorem dX6_isSound_41 : decode cX6_isSound 41 = .ok (.aload_n 0, 1) := by decide +kernel
theorem dX6_isSound_42 : decode cX6_isSound 42 = .ok (.aload_n 0, 1) := by decide +kernel
theorem dX6_isSound_43 : decode cX6_isSound 43 = .ok (.getfield 13, 3) := by decide +kernel
theorem dX6_isSound_46 : decode cX6_isSound 46 = .ok (.iconst 2, 1) := by decide +kernel
theorem dX6_isSound_47 : decode cX6_isSound 47 = .ok (.iload_n 1, 1) := by decide +kernel
theorem dX6_isSound_48 : decode cX6_isSound 48 = .ok (.imul, 1) := by decide +kernel
theorem dX6_isSound_49 : decode cX6_isSound 49 = .ok (.iconst 1, 1) := by decide +kernel
theorem dX6_isSound_50 : decode cX6_isSound 50 = .ok (.iadd, 1) := by decide +kernel
theorem dX6_isSound_51 : decode cX6_isSound 51 = .ok (.iaload, 1) := by decide +kernel
theorem dX6_isSound_52 : decode cX6_isSound 52 = .ok (.invokevirtual 102, 3) := by decide +kernel
theorem dX6_isSound_55 : decode cX6_isSound 55 = .ok (.ifCond .ne 5, 3) := by decide +kernel
theorem dX6_isSound_58 : decode cX6_isSound 58 = .ok (.iconst 0, 1) := by decide +kernel
theorem dX6_isSound_59 : decode cX6_isSound 59 = .ok (.ireturn, 1) := by decide +kernel
theorem dX6_isSound_60 : decode cX6_isSound 60 = .ok (.iinc 1 1, 3) := by decide +kernel
theorem dX6_isSound_63 : decode cX6_isSound 63 = .ok (.goto (-61), 3) := by decide +kernel
theorem dX6_isSound_66 : decode cX6_isSound 66 = .ok (.iconst 0, 1) := by decide +kernel
theorem dX6_isSound_67 : decode cX6_isSound 67 = .ok (.istore_n 1, 1) := by decide +kernel
theorem dX6_isSound_68 : decode cX6_isSound 68 = .ok (.iconst 1, 1) := by decide +kernel
theorem dX6_isSound_69 : decode cX6_isSound 69 = .ok (.istore_n 2, 1) := by decide +kernel
theorem dX6_isSound_70 : decode cX6_isSound 70 = .ok (.iload_n 2, 1) := by decide +kernel
theorem dX6_isSound_71 : decode cX6_isSound 71 = .ok (.ifCond .eq 53, 3) := by decide +kernel
theorem dX6_isSound_74 : decode cX6_isSound 74 = .ok (.iconst 0, 1) := by decide +kernel
theorem dX6_isSound_75 : decode cX6_isSound 75 = .ok (.istore_n 2, 1) := by decide +kernel
theorem dX6_isSound_76 : decode cX6_isSound 76 = .ok (.iconst 0, 1) := by decide +kernel
theorem dX6_isSound_77 : decode cX6_isSound 77 = .ok (.istore_n 3, 1) := by decide +kernel
theorem dX6_isSound_78 : decode cX6_isSound 78 = .ok (.iload_n 3, 1) := by decide +kernel
theorem dX6_isSound_79 : decode cX6_isSound 79 = .ok (.aload_n 0, 1) := by decide +kernel
theorem dX6_isSound_80 : decode cX6_isSound 80 = .ok (.getfield 72, 3) := by decide +kernel
theorem dX6_isSound_83 : decode cX6_isSound 83 = .ok (.if_icmp .ge 38, 3) := by decide +kernel
theorem dX6_isSound_86 : decode cX6_isSound 86 = .ok (.aload_n 0, 1) := by decide +kernel
theorem dX6_isSound_87 : decode cX6_isSound 87 = .ok (.getfield 25, 3) := by decide +kernel
theorem dX6_isSound_90 : decode cX6_isSound 90 = .ok (.iload_n 3, 1) := by decide +kernel
theorem dX6_isSound_91 : decode cX6_isSound 91 = .ok (.baload, 1) := by decide +kernel
theorem dX6_isSound_92 : decode cX6_isSound 92 = .ok (.ifCond .ne 23, 3) := by decide +kernel
theorem dX6_isSound_95 : decode cX6_isSound 95 = .ok (.aload_n 0, 1) := by decide +kernel
theorem dX6_isSound_96 : decode cX6_isSound 96 = .ok (.iload_n 3, 1) := by decide +kernel
theorem dX6_isSound_97 : decode cX6_isSound 97 = .ok (.invokevirtual 106, 3) := by decide +kernel
theorem dX6_isSound_100 : decode cX6_isSound 100 = .ok (.ifCond .eq 15, 3) := by decide +kernel
theorem dX6_isSound_103 : decode cX6_isSound 103 = .ok (.aload_n 0, 1) := by decide +kernel
theorem dX6_isSound_104 : decode cX6_isSound 104 = .ok (.getfield 25, 3) := by decide +kernel
theorem dX6_isSound_107 : decode cX6_isSound 107 = .ok (.iload_n 3, 1) := by decide +kernel
theorem dX6_isSound_108 : decode cX6_isSound 108 = .ok (.iconst 1, 1) := by decide +kernel
theorem dX6_isSound_109 : decode cX6_isSound 109 = .ok (.bastore, 1) := by decide +kernel
theorem dX6_isSound_110 : decode cX6_isSound 110 = .ok (.iinc 1 1, 3) := by decide +kernel
theorem dX6_isSound_113 : decode cX6_isSound 113 = .ok (.iconst 1, 1) := by decide +kernel
theorem dX6_isSound_114 : decode cX6_isSound 114 = .ok (.istore_n 2, 1) := by decide +kernel
theorem dX6_isSound_115 : decode cX6_isSound 115 = .ok (.iinc 3 1, 3) := by decide +kernel
theorem dX6_isSound_118 : decode cX6_isSound 118 = .ok (.goto (-40), 3) := by decide +kernel
theorem dX6_isSound_121 : decode cX6_isSound 121 = .ok (.goto (-51), 3) := by decide +kernel
theorem dX6_isSound_124 : decode cX6_isSound 124 = .ok (.iload_n 1, 1) := by decide +kernel
theorem dX6_isSound_125 : decode cX6_isSound 125 = .ok (.aload_n 0, 1) := by decide +kernel
theorem dX6_isSound_126 : decode cX6_isSound 126 = .ok (.getfield 72, 3) := by decide +kernel
theorem dX6_isSound_129 : decode cX6_isSound 129 = .ok (.if_icmp .ne 7, 3) := by decide +kernel
theorem dX6_isSound_132 : decode cX6_isSound 132 = .ok (.iconst 1, 1) := by decide +kernel
theorem dX6_isSound_133 : decode cX6_isSound 133 = .ok (.goto 4, 3) := by decide +kernel
theorem dX6_isSound_136 : decode cX6_isSound 136 = .ok (.iconst 0, 1) := by decide +kernel
theorem dX6_isSound_137 : decode cX6_isSound 137 = .ok (.ireturn, 1) := by decide +kernel
set_option maxRecDepth 20000 in
set_option maxHeartbeats 4000000 in
theorem k_M_isSound (l : Launch) (w : WT) (σ : MM) : CT SX l w yX6_isSound cX6_isSound 4 (some .boolean) 2 46 [.ref (w.2.2 27)] σ (PI fun z σ1 => Mod [33] σ σ1 ∧ ((z = 1 ∧ SndM σ) ∨ (z = 0 ∧ ¬ SndM σ))) := by
  refine CT.of 3 [some (.ref (w.2.2 27)), none, none, none] (by decide +kernel) (by simp [lg_sl, Value.category]) rfl sh_X (fun G hX => ?_)
  refine r_bd hX (fun hBd => ?_)
  have b_61 := hBd 61 0 8 rfl 0
  have hop : ∀ s, 0 ≤ σ 29 s ∧ σ 29 s ≤ 7 := fun s => hBd 29 0 7 rfl s
  refine r_iconst hX dX6_isSound_0 ?_
  refine r_istore_n hX (fun x1 => [some (.ref (w.2.2 27)), some (.int (iI x1)), none, none]) dX6_isSound_1 (Nat.le_of_ble_eq_true rfl) rfl rfl (fun _ => rfl) (fun x1 e1 => ?_)
  have lp2 : ∀ (n : Nat) (a0 : Int) (σ2 : MM) (m2 : Mod [33] σ σ2) (ha0 : 0 ≤ a0 ∧ a0 ≤ σ 61 0) (hz : ∀ b, 0 ≤ b → b < a0 → σ2 33 b = 0) (hops : ∀ b, 0 ≤ b → b < a0 → OpA (σ 28) (σ 29) (σ 61 0) b) (hmu : 9 - a0 < (n : Int)), G 2 [some (.ref (w.2.2 27)), some (.int (iI a0)), none, none] [] σ2 := by
    intro n
    induction n with
    | zero => intro a0 σ2 m2 ha0 hz hops hmu; omega
    | succ n ih =>
      intro a0 σ2 m2 ha0 hz hops hmu
      have ih2 := ih
      clear ih
      refine r_iload_n hX dX6_isSound_2 rfl ?_
      refine r_aload_n hX dX6_isSound_3 rfl ?_
      refine fg_X27_72 hX dX6_isSound_4 (fun b4l b4u => ?_)
      have q4 : σ2 61 = σ 61 := (m2.at 61 rfl)
      rw [q4]
      rw [q4] at b4l b4u
      refine r_icmp_ge hX (tgt := 66) dX6_isSound_7 (by decide) (by omega) (by omega) (fun c7 => ?_) (fun c7 => ?_)
      · skip
        have hopsA : ∀ b, 0 ≤ b → b < σ 61 0 → OpA (σ 28) (σ 29) (σ 61 0) b := fun b b0 b1 => hops b b0 (by omega)
        refine r_iconst hX dX6_isSound_66 ?_
        refine r_istore_n hX (fun x67 => [some (.ref (w.2.2 27)), some (.int (iI x67)), none, none]) dX6_isSound_67 (Nat.le_of_ble_eq_true rfl) rfl rfl (fun _ => rfl) (fun x67 e67 => ?_)
        refine r_iconst hX dX6_isSound_68 ?_
        refine r_istore_n hX (fun x69 => [some (.ref (w.2.2 27)), some (.int (iI x67)), some (.int (iI x69)), none]) dX6_isSound_69 (Nat.le_of_ble_eq_true rfl) rfl rfl (fun _ => rfl) (fun x69 e69 => ?_)
        have lp70 : ∀ (n : Nat) (done : Int) (more : Int) (σ70 : MM) (m70 : Mod [33] σ2 σ70) (hd : 0 ≤ done ∧ done ≤ σ 61 0) (hm : more = 0 ∨ more = 1) (hA : ARe (sM (σ 28) (σ 29)) (σ 30) (σ 61 0) (σ70 33) done) (hst : more = 0 → Stuck (sM (σ 28) (σ 29)) (σ 30) (σ 61 0) (σ70 33)) (hmu : 2 * (8 - done) + more + 1 < (n : Int)), G 70 [some (.ref (w.2.2 27)), some (.int (iI done)), some (.int (iI more)), none] [] σ70 := by
          intro n
          induction n with
          | zero => intro done more σ70 m70 hd hm hA hst hmu; omega
          | succ n ih =>
            intro done more σ70 m70 hd hm hA hst hmu
            have ih70 := ih
            clear ih
            refine r_iload_n hX dX6_isSound_70 rfl ?_
            refine r_if_eq hX (tgt := 124) dX6_isSound_71 (by decide) (by omega) (fun c71 => ?_) (fun c71 => ?_)
            · skip
              refine r_iload_n hX dX6_isSound_124 rfl ?_
              refine r_aload_n hX dX6_isSound_125 rfl ?_
              refine fg_X27_72 hX dX6_isSound_126 (fun b126l b126u => ?_)
              have q126 : σ70 61 = σ 61 := ((m70.at 61 rfl).trans (m2.at 61 rfl))
              rw [q126]
              rw [q126] at b126l b126u
              refine r_icmp_ne hX (tgt := 136) dX6_isSound_129 (by decide) (by omega) (by omega) (fun c129 => ?_) (fun c129 => ?_)
              · skip
                refine r_iconst hX dX6_isSound_136 ?_
                exact r_zret hX dX6_isSound_137 rfl (by omega) ⟨_, rfl, ⟨(Mod.tr (L := [33]) m2 m70 rfl rfl), (by first | exact Or.inl ⟨rfl, (hA.snd (hst (by omega))).mp (by omega)⟩ | exact Or.inr ⟨rfl, fun q => by have := (hA.snd (hst (by omega))).mpr q; omega⟩)⟩⟩
              · skip
                refine r_iconst hX dX6_isSound_132 ?_
                refine r_goto hX dX6_isSound_133 (tgt := 137) (by decide) ?_
                exact r_zret hX dX6_isSound_137 rfl (by omega) ⟨_, rfl, ⟨(Mod.tr (L := [33]) m2 m70 rfl rfl), (by first | exact Or.inl ⟨rfl, (hA.snd (hst (by omega))).mp (by omega)⟩ | exact Or.inr ⟨rfl, fun q => by have := (hA.snd (hst (by omega))).mpr q; omega⟩)⟩⟩
            · skip
              refine r_iconst hX dX6_isSound_74 ?_
              refine r_istore_n hX (fun x75 => [some (.ref (w.2.2 27)), some (.int (iI done)), some (.int (iI x75)), none]) dX6_isSound_75 (Nat.le_of_ble_eq_true rfl) rfl rfl (fun _ => rfl) (fun x75 e75 => ?_)
              refine r_iconst hX dX6_isSound_76 ?_
              refine r_istore_n hX (fun x77 => [some (.ref (w.2.2 27)), some (.int (iI done)), some (.int (iI x75)), some (.int (iI x77))]) dX6_isSound_77 (Nat.le_of_ble_eq_true rfl) rfl rfl (fun _ => rfl) (fun x77 e77 => ?_)
              have lp78 : ∀ (n : Nat) (done2 : Int) (more2 : Int) (a : Int) (σ78 : MM) (m78 : Mod [33] σ70 σ78) (ha : 0 ≤ a ∧ a ≤ σ 61 0) (hd2 : (more2 = 0 ∧ done2 = done) ∨ (more2 = 1 ∧ done < done2)) (hd3 : 0 ≤ done2 ∧ done2 ≤ σ 61 0) (hP : PSe (sM (σ 28) (σ 29)) (σ 30) (σ 61 0) (σ70 33) done a (σ78 33) done2) (hmu : 9 - a < (n : Int)), G 78 [some (.ref (w.2.2 27)), some (.int (iI done2)), some (.int (iI more2)), some (.int (iI a))] [] σ78 := by
                intro n
                induction n with
                | zero => intro done2 more2 a σ78 m78 ha hd2 hd3 hP hmu; omega
                | succ n ih =>
                  intro done2 more2 a σ78 m78 ha hd2 hd3 hP hmu
                  have ih78 := ih
                  clear ih
                  refine r_iload_n hX dX6_isSound_78 rfl ?_
                  refine r_aload_n hX dX6_isSound_79 rfl ?_
                  refine fg_X27_72 hX dX6_isSound_80 (fun b80l b80u => ?_)
                  have q80 : σ78 61 = σ 61 := ((m78.at 61 rfl).trans ((m70.at 61 rfl).trans (m2.at 61 rfl)))
                  rw [q80]
                  rw [q80] at b80l b80u
                  refine r_icmp_ge hX (tgt := 121) dX6_isSound_83 (by decide) (by omega) (by omega) (fun c83 => ?_) (fun c83 => ?_)
                  · skip
                    have hf := hP.fin (p := done) (by omega) (Or.inl (by omega))
                    have hrg := hf.1.rng
                    refine r_goto hX dX6_isSound_121 (tgt := 70) (by decide) ?_
                    refine r_wk hX (lv1 := [some (.ref (w.2.2 27)), some (.int (iI done2)), some (.int (iI more2)), none]) ⟨rfl, ⟨rfl, ⟨rfl, trivial⟩⟩⟩ ?_
                    exact ih70 done2 more2 σ78 (Mod.tr (L := [33]) m70 m78 rfl rfl) (by omega) (by omega) (hf.1) (fun q => by rcases hf.2 with w | w; omega; exact w) (by omega)
                  · skip
                    refine r_aload_n hX dX6_isSound_86 rfl ?_
                    refine fg_X27_25 hX dX6_isSound_87 ?_
                    refine r_iload_n hX dX6_isSound_90 rfl ?_
                    refine ld_X33 hX dX6_isSound_91 (by omega) (by omega) (fun b91l b91u => ?_)
                    refine r_if_ne hX (tgt := 115) dX6_isSound_92 (by decide) (by omega) (fun c92 => ?_) (fun c92 => ?_)
                    · skip
                      refine r_iinc hX (fun x115 => [some (.ref (w.2.2 27)), some (.int (iI done2)), some (.int (iI more2)), some (.int (iI x115))]) dX6_isSound_115 rfl rfl rfl (fun _ => rfl) (fun x115 e115 => ?_)
                      refine r_goto hX dX6_isSound_118 (tgt := 78) (by decide) ?_
                      exact ih78 done2 more2 x115 σ78 (m78.w rfl) (by omega) (by omega) (by omega) (by first | exact hP.skip (Or.inl (by omega)) e115 | exact hP.skip (Or.inr fun q => cf_no h97_0 (by omega) (hrd.mpr q)) e115 | exact hP.take (by omega) (by omega) (by omega) (hrd.mp (cf_yes h97_0 (by omega))) s109 e115 e110) (by omega)
                    · skip
                      refine r_aload_n hX dX6_isSound_95 rfl ?_
                      refine r_iload_n hX dX6_isSound_96 rfl ?_
                      refine r_callV hX dX6_isSound_97 (k_M_isReady l w σ78 _ (by omega) (by omega)) mf_X6_isReady mv_X6_isReady lk_RX6_106 rfl rfl rfl rfl rfl ⟨Nat.le_of_ble_eq_true rfl, Nat.le_of_ble_eq_true rfl⟩ (Nat.le_of_ble_eq_true rfl) (kI fun z97 σ97 hh => ?_)
                      obtain ⟨rfl, h97_0⟩ := hh
                      have q97_1 : σ78 28 = σ 28 := ((m78.at 28 rfl).trans ((m70.at 28 rfl).trans (m2.at 28 rfl)))
                      have q97_2 : σ78 29 = σ 29 := ((m78.at 29 rfl).trans ((m70.at 29 rfl).trans (m2.at 29 rfl)))
                      have q97_3 : σ78 30 = σ 30 := ((m78.at 30 rfl).trans ((m70.at 30 rfl).trans (m2.at 30 rfl)))
                      try simp only [q97_1, q97_2, q97_3] at h97_0
                      have hrd := rd_iff (di := σ 30) (o := σ78 33) (hopsA a (by omega) (by omega))
                      refine r_if_eq hX (tgt := 115) dX6_isSound_100 (by decide) (by omega) (fun c100 => ?_) (fun c100 => ?_)
                      · skip
                        refine r_iinc hX (fun x115 => [some (.ref (w.2.2 27)), some (.int (iI done2)), some (.int (iI more2)), some (.int (iI x115))]) dX6_isSound_115 rfl rfl rfl (fun _ => rfl) (fun x115 e115 => ?_)
                        refine r_goto hX dX6_isSound_118 (tgt := 78) (by decide) ?_
                        exact ih78 done2 more2 x115 σ78 (m78.w rfl) (by omega) (by omega) (by omega) (by first | exact hP.skip (Or.inl (by omega)) e115 | exact hP.skip (Or.inr fun q => cf_no h97_0 (by omega) (hrd.mpr q)) e115 | exact hP.take (by omega) (by omega) (by omega) (hrd.mp (cf_yes h97_0 (by omega))) s109 e115 e110) (by omega)
                      · skip
                        have hlt := hP.ar.1.lt (a := a) (by omega) (by omega) (by omega)
                        refine r_aload_n hX dX6_isSound_103 rfl ?_
                        refine fg_X27_25 hX dX6_isSound_104 ?_
                        refine r_iload_n hX dX6_isSound_107 rfl ?_
                        refine r_iconst hX dX6_isSound_108 ?_
                        refine st_X33 hX dX6_isSound_109 (by omega) (by omega) (by omega) (fun σ109 m109 s109 => ?_)
                        refine r_iinc hX (fun x110 => [some (.ref (w.2.2 27)), some (.int (iI x110)), some (.int (iI more2)), some (.int (iI a))]) dX6_isSound_110 rfl rfl rfl (fun _ => rfl) (fun x110 e110 => ?_)
                        refine r_iconst hX dX6_isSound_113 ?_
                        refine r_istore_n hX (fun x114 => [some (.ref (w.2.2 27)), some (.int (iI x110)), some (.int (iI x114)), some (.int (iI a))]) dX6_isSound_114 (Nat.le_of_ble_eq_true rfl) rfl rfl (fun _ => rfl) (fun x114 e114 => ?_)
                        refine r_iinc hX (fun x115 => [some (.ref (w.2.2 27)), some (.int (iI x110)), some (.int (iI x114)), some (.int (iI x115))]) dX6_isSound_115 rfl rfl rfl (fun _ => rfl) (fun x115 e115 => ?_)
                        refine r_goto hX dX6_isSound_118 (tgt := 78) (by decide) ?_
                        exact ih78 x110 x114 x115 σ109 (Mod.tr (L := [33]) m78 m109 rfl rfl) (by omega) (by omega) (by omega) (by first | exact hP.skip (Or.inl (by omega)) e115 | exact hP.skip (Or.inr fun q => cf_no h97_0 (by omega) (hrd.mpr q)) e115 | exact hP.take (by omega) (by omega) (by omega) (hrd.mp (cf_yes h97_0 (by omega))) s109 e115 e110) (by omega)
              exact lp78 ((9 - (x77)) + 1).toNat done x75 x77 σ70 Mod.rf (by omega) (by omega) (by omega) (by rw [e77]; exact PSe.init hA) (by omega)
        exact lp70 ((2 * (8 - (x67)) + (x69) + 1) + 1).toNat x67 x69 σ2 Mod.rf (by omega) (by omega) (by rw [e67]; exact ARe.init (by omega) (fun b b0 b1 => hz b b0 (by omega))) (fun q => by omega) (by omega)
      · skip
        refine r_aload_n hX dX6_isSound_10 rfl ?_
        refine fg_X27_25 hX dX6_isSound_11 ?_
        refine r_iload_n hX dX6_isSound_14 rfl ?_
        refine r_iconst hX dX6_isSound_15 ?_
        refine st_X33 hX dX6_isSound_16 (by omega) (by omega) (by omega) (fun σ16 m16 s16 => ?_)
        refine r_aload_n hX dX6_isSound_17 rfl ?_
        refine fg_X27_7 hX dX6_isSound_18 ?_
        refine r_iload_n hX dX6_isSound_21 rfl ?_
        refine ld_X28 hX dX6_isSound_22 (by omega) (by omega) (fun b22l b22u => ?_)
        have q22 : σ16 28 = σ 28 := ((m16.at 28 rfl).trans (m2.at 28 rfl))
        rw [q22]
        rw [q22] at b22l b22u
        refine r_if_le hX (tgt := 60) dX6_isSound_23 (by decide) (by omega) (fun c23 => ?_) (fun c23 => ?_)
        · skip
          refine r_iinc hX (fun x60 => [some (.ref (w.2.2 27)), some (.int (iI x60)), none, none]) dX6_isSound_60 rfl rfl rfl (fun _ => rfl) (fun x60 e60 => ?_)
          refine r_goto hX dX6_isSound_63 (tgt := 2) (by decide) ?_
          exact ih2 x60 σ16 (Mod.tr (L := [33]) m2 m16 rfl rfl) (by omega) (fun b b0 b1 => by rw [s16]; split; rfl; exact hz b b0 (by omega)) (fun b b0 b1 => by
  by_cases e : b = a0
  · rw [e]; first | exact Or.inl (by omega) | exact Or.inr ⟨by omega, by omega, by omega, by omega⟩
  · exact hops b b0 (by omega)) (by omega)
        · skip
          refine r_aload_n hX dX6_isSound_26 rfl ?_
          refine r_aload_n hX dX6_isSound_27 rfl ?_
          refine fg_X27_13 hX dX6_isSound_28 ?_
          refine r_iconst hX dX6_isSound_31 ?_
          refine r_iload_n hX dX6_isSound_32 rfl ?_
          refine r_imul hX dX6_isSound_33 ?_
          refine ld_X29 hX dX6_isSound_34 (by omega) (by omega) (fun b34l b34u => ?_)
          have q34 : σ16 29 = σ 29 := ((m16.at 29 rfl).trans (m2.at 29 rfl))
          rw [q34]
          rw [q34] at b34l b34u
          refine r_callV hX dX6_isSound_35 (k_M_isAct l w σ16 _ (by omega)) mf_X6_isAct mv_X6_isAct lk_RX6_102 rfl rfl rfl rfl rfl ⟨Nat.le_of_ble_eq_true rfl, Nat.le_of_ble_eq_true rfl⟩ (Nat.le_of_ble_eq_true rfl) (kI fun z35 σ35 hh => ?_)
          obtain ⟨rfl, h35_0⟩ := hh
          have q35_4 : σ16 61 = σ 61 := ((m16.at 61 rfl).trans (m2.at 61 rfl))
          try simp only [q35_4] at h35_0
          refine r_if_eq hX (tgt := 58) dX6_isSound_38 (by decide) (by omega) (fun c38 => ?_) (fun c38 => ?_)
          · skip
            refine r_iconst hX dX6_isSound_58 ?_
            exact r_zret hX dX6_isSound_59 rfl (by omega) ⟨_, rfl, ⟨(Mod.tr (L := [33]) m2 m16 rfl rfl), (by exact Or.inr ⟨rfl, fun q => by have g := q.ops (fun s => (hop s).1) a0 (by omega) (by omega); unfold OpA at g; omega⟩)⟩⟩
          · skip
            refine r_aload_n hX dX6_isSound_41 rfl ?_
            refine r_aload_n hX dX6_isSound_42 rfl ?_
            refine fg_X27_13 hX dX6_isSound_43 ?_
            refine r_iconst hX dX6_isSound_46 ?_
            refine r_iload_n hX dX6_isSound_47 rfl ?_
            refine r_imul hX dX6_isSound_48 ?_
            refine r_iconst hX dX6_isSound_49 ?_
            refine r_iadd hX dX6_isSound_50 ?_
            refine ld_X29 hX dX6_isSound_51 (by omega) (by omega) (fun b51l b51u => ?_)
            have q51 : σ16 29 = σ 29 := ((m16.at 29 rfl).trans (m2.at 29 rfl))
            rw [q51]
            rw [q51] at b51l b51u
            refine r_callV hX dX6_isSound_52 (k_M_isAct l w σ16 _ (by omega)) mf_X6_isAct mv_X6_isAct lk_RX6_102 rfl rfl rfl rfl rfl ⟨Nat.le_of_ble_eq_true rfl, Nat.le_of_ble_eq_true rfl⟩ (Nat.le_of_ble_eq_true rfl) (kI fun z52 σ52 hh => ?_)
            obtain ⟨rfl, h52_0⟩ := hh
            have q52_5 : σ16 61 = σ 61 := ((m16.at 61 rfl).trans (m2.at 61 rfl))
            try simp only [q52_5] at h52_0
            refine r_if_ne hX (tgt := 60) dX6_isSound_55 (by decide) (by omega) (fun c55 => ?_) (fun c55 => ?_)
            · skip
              refine r_iinc hX (fun x60 => [some (.ref (w.2.2 27)), some (.int (iI x60)), none, none]) dX6_isSound_60 rfl rfl rfl (fun _ => rfl) (fun x60 e60 => ?_)
              refine r_goto hX dX6_isSound_63 (tgt := 2) (by decide) ?_
              exact ih2 x60 σ16 (Mod.tr (L := [33]) m2 m16 rfl rfl) (by omega) (fun b b0 b1 => by rw [s16]; split; rfl; exact hz b b0 (by omega)) (fun b b0 b1 => by
  by_cases e : b = a0
  · rw [e]; first | exact Or.inl (by omega) | exact Or.inr ⟨by omega, by omega, by omega, by omega⟩
  · exact hops b b0 (by omega)) (by omega)
            · skip
              refine r_iconst hX dX6_isSound_58 ?_
              exact r_zret hX dX6_isSound_59 rfl (by omega) ⟨_, rfl, ⟨(Mod.tr (L := [33]) m2 m16 rfl rfl), (by exact Or.inr ⟨rfl, fun q => by have g := q.ops (fun s => (hop s).1) a0 (by omega) (by omega); unfold OpA at g; omega⟩)⟩⟩
  exact lp2 ((9 - (x1)) + 1).toNat x1 σ Mod.rf (by omega) (fun b b0 b1 => by omega) (fun b b0 b1 => by omega) (by omega)
theorem dX6_sound_0 : decode cX6_sound 0 = .ok (.aload_n 0, 1) := by decide +kernel
theorem dX6_sound_1 : decode cX6_sound 1 = .ok (.invokevirtual 109, 3) := by decide +kernel
theorem dX6_sound_4 : decode cX6_sound 4 = .ok (.ifCond .eq 7, 3) := by decide +kernel
theorem dX6_sound_7 : decode cX6_sound 7 = .ok (.iconst 1, 1) := by decide +kernel
theorem dX6_sound_8 : decode cX6_sound 8 = .ok (.goto 4, 3) := by decide +kernel
theorem dX6_sound_11 : decode cX6_sound 11 = .ok (.iconst 0, 1) := by decide +kernel
theorem dX6_sound_12 : decode cX6_sound 12 = .ok (.ireturn, 1) := by decide +kernel
set_option maxRecDepth 20000 in
set_option maxHeartbeats 4000000 in
theorem k_M_sound (l : Launch) (w : WT) (σ : MM) : CT SX l w yX6_sound cX6_sound 1 (some .int) 3 69 [.ref (w.2.2 27)] σ (PI fun z σ1 => Mod [33] σ σ1 ∧ ((z = 1 ∧ SndM σ) ∨ (z = 0 ∧ ¬ SndM σ))) := by
  refine CT.of 0 [some (.ref (w.2.2 27))] (by decide +kernel) (by simp [lg_sl, Value.category]) rfl sh_X (fun G hX => ?_)
  refine r_aload_n hX dX6_sound_0 rfl ?_
  refine r_callV hX dX6_sound_1 (k_M_isSound l w σ) mf_X6_isSound mv_X6_isSound lk_RX6_109 rfl rfl rfl rfl rfl ⟨Nat.le_of_ble_eq_true rfl, Nat.le_of_ble_eq_true rfl⟩ (Nat.le_of_ble_eq_true rfl) (kI fun z1 σ1 hh => ?_)
  obtain ⟨m1, h1_0⟩ := hh
  refine r_if_eq hX (tgt := 11) dX6_sound_4 (by decide) (by omega) (fun c4 => ?_) (fun c4 => ?_)
  · skip
    refine r_iconst hX dX6_sound_11 ?_
    exact r_iret hX dX6_sound_12 rfl ⟨_, rfl, ⟨(m1.w rfl), (by rcases h1_0 with ⟨q1, q2⟩ | ⟨q1, q2⟩ <;> first | omega | exact Or.inl ⟨rfl, q2⟩ | exact Or.inr ⟨rfl, q2⟩)⟩⟩
  · skip
    refine r_iconst hX dX6_sound_7 ?_
    refine r_goto hX dX6_sound_8 (tgt := 12) (by decide) ?_
    exact r_iret hX dX6_sound_12 rfl ⟨_, rfl, ⟨(m1.w rfl), (by rcases h1_0 with ⟨q1, q2⟩ | ⟨q1, q2⟩ <;> first | omega | exact Or.inl ⟨rfl, q2⟩ | exact Or.inr ⟨rfl, q2⟩)⟩⟩
