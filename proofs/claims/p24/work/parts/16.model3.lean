theorem dX6_plan_0 : decode cX6_plan 0 = .ok (.iload_n 1, 1) := by decide +kernel
theorem dX6_plan_1 : decode cX6_plan 1 = .ok (.i2l, 1) := by decide +kernel
theorem dX6_plan_2 : decode cX6_plan 2 = .ok (.lconst 1, 1) := by decide +kernel
theorem dX6_plan_3 : decode cX6_plan 3 = .ok (.ldc2_w 147, 3) := by decide +kernel
theorem dX6_plan_6 : decode cX6_plan 6 = .ok (.invokestatic 75, 3) := by decide +kernel
theorem dX6_plan_9 : decode cX6_plan 9 = .ok (.ifCond .ne 6, 3) := by decide +kernel
theorem dX6_plan_12 : decode cX6_plan 12 = .ok (.bipush (-2), 2) := by decide +kernel
theorem dX6_plan_14 : decode cX6_plan 14 = .ok (.ireturn, 1) := by decide +kernel
theorem dX6_plan_15 : decode cX6_plan 15 = .ok (.aload_n 0, 1) := by decide +kernel
theorem dX6_plan_16 : decode cX6_plan 16 = .ok (.getfield 72, 3) := by decide +kernel
theorem dX6_plan_19 : decode cX6_plan 19 = .ok (.ifCond .ne 6, 3) := by decide +kernel
theorem dX6_plan_22 : decode cX6_plan 22 = .ok (.bipush (-3), 2) := by decide +kernel
theorem dX6_plan_24 : decode cX6_plan 24 = .ok (.ireturn, 1) := by decide +kernel
theorem dX6_plan_25 : decode cX6_plan 25 = .ok (.aload_n 0, 1) := by decide +kernel
theorem dX6_plan_26 : decode cX6_plan 26 = .ok (.iload_n 1, 1) := by decide +kernel
theorem dX6_plan_27 : decode cX6_plan 27 = .ok (.putfield 79, 3) := by decide +kernel
theorem dX6_plan_30 : decode cX6_plan 30 = .ok (.aload_n 0, 1) := by decide +kernel
theorem dX6_plan_31 : decode cX6_plan 31 = .ok (.iconst 0, 1) := by decide +kernel
theorem dX6_plan_32 : decode cX6_plan 32 = .ok (.putfield 82, 3) := by decide +kernel
theorem dX6_plan_35 : decode cX6_plan 35 = .ok (.iconst 0, 1) := by decide +kernel
theorem dX6_plan_36 : decode cX6_plan 36 = .ok (.istore_n 2, 1) := by decide +kernel
theorem dX6_plan_37 : decode cX6_plan 37 = .ok (.iload_n 2, 1) := by decide +kernel
theorem dX6_plan_38 : decode cX6_plan 38 = .ok (.aload_n 0, 1) := by decide +kernel
theorem dX6_plan_39 : decode cX6_plan 39 = .ok (.getfield 72, 3) := by decide +kernel
theorem dX6_plan_42 : decode cX6_plan 42 = .ok (.if_icmp .ge 23, 3) := by decide +kernel
theorem dX6_plan_45 : decode cX6_plan 45 = .ok (.aload_n 0, 1) := by decide +kernel
theorem dX6_plan_46 : decode cX6_plan 46 = .ok (.getfield 48, 3) := by decide +kernel
theorem dX6_plan_49 : decode cX6_plan 49 = .ok (.iload_n 2, 1) := by decide +kernel
theorem dX6_plan_50 : decode cX6_plan 50 = .ok (.iconst 0, 1) := by decide +kernel
theorem dX6_plan_51 : decode cX6_plan 51 = .ok (.iastore, 1) := by decide +kernel
theorem dX6_plan_52 : decode cX6_plan 52 = .ok (.aload_n 0, 1) := by decide +kernel
theorem dX6_plan_53 : decode cX6_plan 53 = .ok (.getfield 51, 3) := by decide +kernel
theorem dX6_plan_56 : decode cX6_plan 56 = .ok (.iload_n 2, 1) := by decide +kernel
theorem dX6_plan_57 : decode cX6_plan 57 = .ok (.iconst 0, 1) := by decide +kernel
theorem dX6_plan_58 : decode cX6_plan 58 = .ok (.iastore, 1) := by decide +kernel
theorem dX6_plan_59 : decode cX6_plan 59 = .ok (.iinc 2 1, 3) := by decide +kernel
theorem dX6_plan_62 : decode cX6_plan 62 = .ok (.goto (-25), 3) := by decide +kernel
theorem dX6_plan_65 : decode cX6_plan 65 = .ok (.iconst 1, 1) := by decide +kernel
theorem dX6_plan_66 : decode cX6_plan 66 = .ok (.ireturn, 1) := by decide +kernel
set_option maxRecDepth 20000 in
set_option maxHeartbeats 4000000 in
theorem k_M_plan (l : Launch) (w : WT) (σ : MM) (bt : Int) (i_bt : inr bt) : CT SX l w yX6_plan cX6_plan 3 (some .int) 1 25 [.ref (w.2.2 27), .int (iI bt)] σ (PI fun z σ1 => Mod [38, 39, 63, 64] σ σ1 ∧ (((bt < 1 ∨ 12 < bt) ∧ z = -2 ∧ σ1 = σ) ∨ ((1 ≤ bt ∧ bt ≤ 12) ∧ σ 61 0 = 0 ∧ z = -3 ∧ σ1 = σ) ∨ ((1 ≤ bt ∧ bt ≤ 12) ∧ σ 61 0 ≠ 0 ∧ z = 1 ∧ σ1 63 0 = bt ∧ σ1 64 0 = 0 ∧ ∀ a : Int, 0 ≤ a → a < σ 61 0 → σ1 38 a = 0 ∧ σ1 39 a = 0))) := by
  refine CT.of 1 [some (.ref (w.2.2 27)), some (.int (iI bt)), none] (by decide +kernel) (by simp [lg_sl, Value.category]) rfl sh_X (fun G hX => ?_)
  refine r_bd hX (fun hBd => ?_)
  have b_61 := hBd 61 0 8 rfl 0
  refine r_iload_n hX dX6_plan_0 rfl ?_
  refine r_i2l hX dX6_plan_1 (by omega) ?_
  refine r_lconst hX (z := 1) dX6_plan_2 rfl ?_
  refine r_ldc2 hX dX6_plan_3 lc_RX6_147 ?_
  refine r_callS hX dX6_plan_6 (k_M_in l w σ _ _ _ (by omega) (by omega) (by omega)) mf_X6_in ms_X6_in lk_RX6_75 rfl rfl ⟨Nat.le_of_ble_eq_true rfl, Nat.le_of_ble_eq_true rfl⟩ (Nat.le_of_ble_eq_true rfl) (kI fun z6 σ6 hh => ?_)
  obtain ⟨rfl, h6_0⟩ := hh
  refine r_if_ne hX (tgt := 15) dX6_plan_9 (by decide) (by omega) (fun c9 => ?_) (fun c9 => ?_)
  · skip
    refine r_aload_n hX dX6_plan_15 rfl ?_
    refine fg_X27_72 hX dX6_plan_16 (fun b16l b16u => ?_)
    refine r_if_ne hX (tgt := 25) dX6_plan_19 (by decide) (by omega) (fun c19 => ?_) (fun c19 => ?_)
    · skip
      refine r_aload_n hX dX6_plan_25 rfl ?_
      refine r_iload_n hX dX6_plan_26 rfl ?_
      refine fp_X27_79 hX dX6_plan_27 (by omega) (fun σ27 m27 s27 => ?_)
      refine r_aload_n hX dX6_plan_30 rfl ?_
      refine r_iconst hX dX6_plan_31 ?_
      refine fp_X27_82 hX dX6_plan_32 (by omega) (fun σ32 m32 s32 => ?_)
      refine r_iconst hX dX6_plan_35 ?_
      refine r_istore_n hX (fun x36 => [some (.ref (w.2.2 27)), some (.int (iI bt)), some (.int (iI x36))]) dX6_plan_36 (Nat.le_of_ble_eq_true rfl) rfl rfl (fun _ => rfl) (fun x36 e36 => ?_)
      have lp37 : ∀ (n : Nat) (i : Int) (σ37 : MM) (m37 : Mod [38, 39] σ32 σ37) (hi : 0 ≤ i ∧ i ≤ σ 61 0) (hz : ∀ b : Int, 0 ≤ b → b < i → σ37 38 b = 0 ∧ σ37 39 b = 0) (hmu : 9 - i < (n : Int)), G 37 [some (.ref (w.2.2 27)), some (.int (iI bt)), some (.int (iI i))] [] σ37 := by
        intro n
        induction n with
        | zero => intro i σ37 m37 hi hz hmu; omega
        | succ n ih =>
          intro i σ37 m37 hi hz hmu
          have ih37 := ih
          clear ih
          refine r_iload_n hX dX6_plan_37 rfl ?_
          refine r_aload_n hX dX6_plan_38 rfl ?_
          refine fg_X27_72 hX dX6_plan_39 (fun b39l b39u => ?_)
          have q39 : σ37 61 = σ 61 := ((m37.at 61 rfl).trans ((m32.at 61 rfl).trans (m27.at 61 rfl)))
          rw [q39]
          rw [q39] at b39l b39u
          refine r_icmp_ge hX (tgt := 65) dX6_plan_42 (by decide) (by omega) (by omega) (fun c42 => ?_) (fun c42 => ?_)
          · skip
            refine r_iconst hX dX6_plan_65 ?_
            exact r_iret hX dX6_plan_66 rfl ⟨_, rfl, ⟨(Mod.tr (L := [38, 39, 63, 64]) (Mod.tr (L := [38, 39, 63, 64]) m27 m32 rfl rfl) m37 rfl rfl), (by exact Or.inr (Or.inr ⟨by omega, by omega, rfl, by rw [m37.at 63 rfl, m32.at 63 rfl]; exact s27, by rw [m37.at 64 rfl]; exact s32, fun a a0 a1 => hz a a0 (by omega)⟩))⟩⟩
          · skip
            refine r_aload_n hX dX6_plan_45 rfl ?_
            refine fg_X27_48 hX dX6_plan_46 ?_
            refine r_iload_n hX dX6_plan_49 rfl ?_
            refine r_iconst hX dX6_plan_50 ?_
            refine st_X38 hX dX6_plan_51 (by omega) (by omega) (by omega) (fun σ51 m51 s51 => ?_)
            refine r_aload_n hX dX6_plan_52 rfl ?_
            refine fg_X27_51 hX dX6_plan_53 ?_
            refine r_iload_n hX dX6_plan_56 rfl ?_
            refine r_iconst hX dX6_plan_57 ?_
            refine st_X39 hX dX6_plan_58 (by omega) (by omega) (by omega) (fun σ58 m58 s58 => ?_)
            simp only [show σ51 39 = σ37 39 from (m51.at 39 rfl)] at s58
            refine r_iinc hX (fun x59 => [some (.ref (w.2.2 27)), some (.int (iI bt)), some (.int (iI x59))]) dX6_plan_59 rfl rfl rfl (fun _ => rfl) (fun x59 e59 => ?_)
            refine r_goto hX dX6_plan_62 (tgt := 37) (by decide) ?_
            exact ih37 x59 σ58 (Mod.tr (L := [38, 39]) (Mod.tr (L := [38, 39]) m37 m51 rfl rfl) m58 rfl rfl) (by omega) (by rw [e59, m58.at 38 rfl]; exact two_step hz s51 s58) (by omega)
      exact lp37 ((9 - (x36)) + 1).toNat x36 σ32 Mod.rf (by omega) (fun b b0 b1 => by omega) (by omega)
    · skip
      refine r_bipush hX dX6_plan_22 (by decide) ?_
      exact r_iret hX dX6_plan_24 rfl ⟨_, rfl, ⟨Mod.rf, (by exact Or.inr (Or.inl ⟨by omega, by omega, rfl, rfl⟩))⟩⟩
  · skip
    refine r_bipush hX dX6_plan_12 (by decide) ?_
    exact r_iret hX dX6_plan_14 rfl ⟨_, rfl, ⟨Mod.rf, (by exact Or.inl ⟨by omega, rfl, rfl⟩)⟩⟩
theorem dX6_lay_0 : decode cX6_lay 0 = .ok (.aload_n 0, 1) := by decide +kernel
theorem dX6_lay_1 : decode cX6_lay 1 = .ok (.iload_n 1, 1) := by decide +kernel
theorem dX6_lay_2 : decode cX6_lay 2 = .ok (.invokevirtual 102, 3) := by decide +kernel
theorem dX6_lay_5 : decode cX6_lay 5 = .ok (.ifCond .eq 11, 3) := by decide +kernel
theorem dX6_lay_8 : decode cX6_lay 8 = .ok (.aload_n 0, 1) := by decide +kernel
theorem dX6_lay_9 : decode cX6_lay 9 = .ok (.iload_n 2, 1) := by decide +kernel
theorem dX6_lay_10 : decode cX6_lay 10 = .ok (.invokevirtual 137, 3) := by decide +kernel
theorem dX6_lay_13 : decode cX6_lay 13 = .ok (.ifCond .ne 5, 3) := by decide +kernel
theorem dX6_lay_16 : decode cX6_lay 16 = .ok (.iconst (-1), 1) := by decide +kernel
theorem dX6_lay_17 : decode cX6_lay 17 = .ok (.ireturn, 1) := by decide +kernel
theorem dX6_lay_18 : decode cX6_lay 18 = .ok (.iload_n 3, 1) := by decide +kernel
theorem dX6_lay_19 : decode cX6_lay 19 = .ok (.i2l, 1) := by decide +kernel
theorem dX6_lay_20 : decode cX6_lay 20 = .ok (.lconst 0, 1) := by decide +kernel
theorem dX6_lay_21 : decode cX6_lay 21 = .ok (.ldc2_w 149, 3) := by decide +kernel
theorem dX6_lay_24 : decode cX6_lay 24 = .ok (.invokestatic 75, 3) := by decide +kernel
theorem dX6_lay_27 : decode cX6_lay 27 = .ok (.ifCond .ne 6, 3) := by decide +kernel
theorem dX6_lay_30 : decode cX6_lay 30 = .ok (.bipush (-2), 2) := by decide +kernel
theorem dX6_lay_32 : decode cX6_lay 32 = .ok (.ireturn, 1) := by decide +kernel
theorem dX6_lay_33 : decode cX6_lay 33 = .ok (.aload_n 0, 1) := by decide +kernel
theorem dX6_lay_34 : decode cX6_lay 34 = .ok (.getfield 79, 3) := by decide +kernel
theorem dX6_lay_37 : decode cX6_lay 37 = .ok (.ifCond .ne 6, 3) := by decide +kernel
theorem dX6_lay_40 : decode cX6_lay 40 = .ok (.bipush (-3), 2) := by decide +kernel
theorem dX6_lay_42 : decode cX6_lay 42 = .ok (.ireturn, 1) := by decide +kernel
theorem dX6_lay_43 : decode cX6_lay 43 = .ok (.aload_n 0, 1) := by decide +kernel
theorem dX6_lay_44 : decode cX6_lay 44 = .ok (.getfield 48, 3) := by decide +kernel
theorem dX6_lay_47 : decode cX6_lay 47 = .ok (.iload_n 1, 1) := by decide +kernel
theorem dX6_lay_48 : decode cX6_lay 48 = .ok (.iload_n 2, 1) := by decide +kernel
theorem dX6_lay_49 : decode cX6_lay 49 = .ok (.iastore, 1) := by decide +kernel
theorem dX6_lay_50 : decode cX6_lay 50 = .ok (.aload_n 0, 1) := by decide +kernel
theorem dX6_lay_51 : decode cX6_lay 51 = .ok (.getfield 51, 3) := by decide +kernel
theorem dX6_lay_54 : decode cX6_lay 54 = .ok (.iload_n 1, 1) := by decide +kernel
theorem dX6_lay_55 : decode cX6_lay 55 = .ok (.iload_n 3, 1) := by decide +kernel
theorem dX6_lay_56 : decode cX6_lay 56 = .ok (.iastore, 1) := by decide +kernel
theorem dX6_lay_57 : decode cX6_lay 57 = .ok (.aload_n 0, 1) := by decide +kernel
theorem dX6_lay_58 : decode cX6_lay 58 = .ok (.iconst 0, 1) := by decide +kernel
theorem dX6_lay_59 : decode cX6_lay 59 = .ok (.putfield 82, 3) := by decide +kernel
theorem dX6_lay_62 : decode cX6_lay 62 = .ok (.iconst 1, 1) := by decide +kernel
theorem dX6_lay_63 : decode cX6_lay 63 = .ok (.ireturn, 1) := by decide +kernel
set_option maxRecDepth 20000 in
set_option maxHeartbeats 4000000 in
theorem k_M_lay (l : Launch) (w : WT) (σ : MM) (a : Int) (k : Int) (t : Int) (i_a : inr a) (i_k : inr k) (i_t : inr t) : CT SX l w yX6_lay cX6_lay 4 (some .int) 2 46 [.ref (w.2.2 27), .int (iI a), .int (iI k), .int (iI t)] σ (PI fun z σ1 => Mod [38, 39, 64] σ σ1 ∧ (((a < 0 ∨ σ 61 0 ≤ a ∨ k < 0 ∨ σ 65 0 * σ 66 0 ≤ k) ∧ z = -1 ∧ σ1 = σ) ∨ ((0 ≤ a ∧ a < σ 61 0 ∧ 0 ≤ k ∧ k < σ 65 0 * σ 66 0) ∧ (((t < 0 ∨ 299 < t) ∧ z = -2 ∧ σ1 = σ) ∨ ((0 ≤ t ∧ t ≤ 299) ∧ σ 63 0 = 0 ∧ z = -3 ∧ σ1 = σ) ∨ ((0 ≤ t ∧ t ≤ 299) ∧ σ 63 0 ≠ 0 ∧ z = 1 ∧ σ1 64 0 = 0 ∧ (∀ b : Int, σ1 38 b = if b = a then k else σ 38 b) ∧ ∀ b : Int, σ1 39 b = if b = a then t else σ 39 b))))) := by
  refine CT.of 0 [some (.ref (w.2.2 27)), some (.int (iI a)), some (.int (iI k)), some (.int (iI t))] (by decide +kernel) (by simp [lg_sl, Value.category]) rfl sh_X (fun G hX => ?_)
  refine r_bd hX (fun hBd => ?_)
  have b_61 := hBd 61 0 8 rfl 0
  have b_65 := hBd 65 1 3 rfl 0
  have b_66 := hBd 66 1 3 rfl 0
  have hn := mul_bd b_65 b_66
  refine r_aload_n hX dX6_lay_0 rfl ?_
  refine r_iload_n hX dX6_lay_1 rfl ?_
  refine r_callV hX dX6_lay_2 (k_M_isAct l w σ _ (by omega)) mf_X6_isAct mv_X6_isAct lk_RX6_102 rfl rfl rfl rfl rfl ⟨Nat.le_of_ble_eq_true rfl, Nat.le_of_ble_eq_true rfl⟩ (Nat.le_of_ble_eq_true rfl) (kI fun z2 σ2 hh => ?_)
  obtain ⟨rfl, h2_0⟩ := hh
  refine r_if_eq hX (tgt := 16) dX6_lay_5 (by decide) (by omega) (fun c5 => ?_) (fun c5 => ?_)
  · skip
    refine r_iconst hX dX6_lay_16 ?_
    exact r_iret hX dX6_lay_17 rfl ⟨_, rfl, ⟨Mod.rf, (by exact Or.inl ⟨by omega, rfl, rfl⟩)⟩⟩
  · skip
    refine r_aload_n hX dX6_lay_8 rfl ?_
    refine r_iload_n hX dX6_lay_9 rfl ?_
    refine r_callV hX dX6_lay_10 (k_M_isCell l w σ _ (by omega)) mf_X6_isCell mv_X6_isCell lk_RX6_137 rfl rfl rfl rfl rfl ⟨Nat.le_of_ble_eq_true rfl, Nat.le_of_ble_eq_true rfl⟩ (Nat.le_of_ble_eq_true rfl) (kI fun z10 σ10 hh => ?_)
    obtain ⟨rfl, h10_0⟩ := hh
    refine r_if_ne hX (tgt := 18) dX6_lay_13 (by decide) (by omega) (fun c13 => ?_) (fun c13 => ?_)
    · skip
      refine r_iload_n hX dX6_lay_18 rfl ?_
      refine r_i2l hX dX6_lay_19 (by omega) ?_
      refine r_lconst hX (z := 0) dX6_lay_20 rfl ?_
      refine r_ldc2 hX dX6_lay_21 lc_RX6_149 ?_
      refine r_callS hX dX6_lay_24 (k_M_in l w σ _ _ _ (by omega) (by omega) (by omega)) mf_X6_in ms_X6_in lk_RX6_75 rfl rfl ⟨Nat.le_of_ble_eq_true rfl, Nat.le_of_ble_eq_true rfl⟩ (Nat.le_of_ble_eq_true rfl) (kI fun z24 σ24 hh => ?_)
      obtain ⟨rfl, h24_0⟩ := hh
      refine r_if_ne hX (tgt := 33) dX6_lay_27 (by decide) (by omega) (fun c27 => ?_) (fun c27 => ?_)
      · skip
        refine r_aload_n hX dX6_lay_33 rfl ?_
        refine fg_X27_79 hX dX6_lay_34 (fun b34l b34u => ?_)
        refine r_if_ne hX (tgt := 43) dX6_lay_37 (by decide) (by omega) (fun c37 => ?_) (fun c37 => ?_)
        · skip
          refine r_aload_n hX dX6_lay_43 rfl ?_
          refine fg_X27_48 hX dX6_lay_44 ?_
          refine r_iload_n hX dX6_lay_47 rfl ?_
          refine r_iload_n hX dX6_lay_48 rfl ?_
          refine st_X38 hX dX6_lay_49 (by omega) (by omega) (by omega) (fun σ49 m49 s49 => ?_)
          refine r_aload_n hX dX6_lay_50 rfl ?_
          refine fg_X27_51 hX dX6_lay_51 ?_
          refine r_iload_n hX dX6_lay_54 rfl ?_
          refine r_iload_n hX dX6_lay_55 rfl ?_
          refine st_X39 hX dX6_lay_56 (by omega) (by omega) (by omega) (fun σ56 m56 s56 => ?_)
          simp only [show σ49 39 = σ 39 from (m49.at 39 rfl)] at s56
          refine r_aload_n hX dX6_lay_57 rfl ?_
          refine r_iconst hX dX6_lay_58 ?_
          refine fp_X27_82 hX dX6_lay_59 (by omega) (fun σ59 m59 s59 => ?_)
          refine r_iconst hX dX6_lay_62 ?_
          exact r_iret hX dX6_lay_63 rfl ⟨_, rfl, ⟨(Mod.tr (L := [38, 39, 64]) (Mod.tr (L := [38, 39, 64]) m49 m56 rfl rfl) m59 rfl rfl), (by exact Or.inr ⟨by omega, Or.inr (Or.inr ⟨by omega, by omega, rfl, s59, fun b => by rw [m59.at 38 rfl, m56.at 38 rfl]; exact s49 b, fun b => by rw [m59.at 39 rfl]; exact s56 b⟩)⟩)⟩⟩
        · skip
          refine r_bipush hX dX6_lay_40 (by decide) ?_
          exact r_iret hX dX6_lay_42 rfl ⟨_, rfl, ⟨Mod.rf, (by exact Or.inr ⟨by omega, Or.inr (Or.inl ⟨by omega, by omega, rfl, rfl⟩)⟩)⟩⟩
      · skip
        refine r_bipush hX dX6_lay_30 (by decide) ?_
        exact r_iret hX dX6_lay_32 rfl ⟨_, rfl, ⟨Mod.rf, (by exact Or.inr ⟨by omega, Or.inl ⟨by omega, rfl, rfl⟩⟩)⟩⟩
    · skip
      refine r_iconst hX dX6_lay_16 ?_
      exact r_iret hX dX6_lay_17 rfl ⟨_, rfl, ⟨Mod.rf, (by exact Or.inl ⟨by omega, rfl, rfl⟩)⟩⟩
theorem dX6_isLate_0 : decode cX6_isLate 0 = .ok (.iload_n 1, 1) := by decide +kernel
theorem dX6_isLate_1 : decode cX6_isLate 1 = .ok (.iconst 2, 1) := by decide +kernel
theorem dX6_isLate_2 : decode cX6_isLate 2 = .ok (.idiv, 1) := by decide +kernel
theorem dX6_isLate_3 : decode cX6_isLate 3 = .ok (.istore_n 2, 1) := by decide +kernel
theorem dX6_isLate_4 : decode cX6_isLate 4 = .ok (.aload_n 0, 1) := by decide +kernel
theorem dX6_isLate_5 : decode cX6_isLate 5 = .ok (.getfield 13, 3) := by decide +kernel
theorem dX6_isLate_8 : decode cX6_isLate 8 = .ok (.iload_n 1, 1) := by decide +kernel
theorem dX6_isLate_9 : decode cX6_isLate 9 = .ok (.iaload, 1) := by decide +kernel
theorem dX6_isLate_10 : decode cX6_isLate 10 = .ok (.istore_n 3, 1) := by decide +kernel
theorem dX6_isLate_11 : decode cX6_isLate 11 = .ok (.aload_n 0, 1) := by decide +kernel
theorem dX6_isLate_12 : decode cX6_isLate 12 = .ok (.aload_n 0, 1) := by decide +kernel
theorem dX6_isLate_13 : decode cX6_isLate 13 = .ok (.getfield 48, 3) := by decide +kernel
theorem dX6_isLate_16 : decode cX6_isLate 16 = .ok (.iload_n 3, 1) := by decide +kernel
theorem dX6_isLate_17 : decode cX6_isLate 17 = .ok (.iaload, 1) := by decide +kernel
theorem dX6_isLate_18 : decode cX6_isLate 18 = .ok (.aload_n 0, 1) := by decide +kernel
theorem dX6_isLate_19 : decode cX6_isLate 19 = .ok (.getfield 48, 3) := by decide +kernel
theorem dX6_isLate_22 : decode cX6_isLate 22 = .ok (.iload_n 2, 1) := by decide +kernel
theorem dX6_isLate_23 : decode cX6_isLate 23 = .ok (.iaload, 1) := by decide +kernel
theorem dX6_isLate_24 : decode cX6_isLate 24 = .ok (.invokevirtual 144, 3) := by decide +kernel
theorem dX6_isLate_27 : decode cX6_isLate 27 = .ok (.istore 4, 2) := by decide +kernel
theorem dX6_isLate_29 : decode cX6_isLate 29 = .ok (.iload 4, 2) := by decide +kernel
theorem dX6_isLate_31 : decode cX6_isLate 31 = .ok (.sipush 1000, 3) := by decide +kernel
theorem dX6_isLate_34 : decode cX6_isLate 34 = .ok (.if_icmp .ge 39, 3) := by decide +kernel
theorem dX6_isLate_37 : decode cX6_isLate 37 = .ok (.aload_n 0, 1) := by decide +kernel
theorem dX6_isLate_38 : decode cX6_isLate 38 = .ok (.getfield 51, 3) := by decide +kernel
theorem dX6_isLate_41 : decode cX6_isLate 41 = .ok (.iload_n 2, 1) := by decide +kernel
theorem dX6_isLate_42 : decode cX6_isLate 42 = .ok (.iaload, 1) := by decide +kernel
theorem dX6_isLate_43 : decode cX6_isLate 43 = .ok (.aload_n 0, 1) := by decide +kernel
theorem dX6_isLate_44 : decode cX6_isLate 44 = .ok (.getfield 16, 3) := by decide +kernel
theorem dX6_isLate_47 : decode cX6_isLate 47 = .ok (.iload_n 1, 1) := by decide +kernel
theorem dX6_isLate_48 : decode cX6_isLate 48 = .ok (.iaload, 1) := by decide +kernel
theorem dX6_isLate_49 : decode cX6_isLate 49 = .ok (.aload_n 0, 1) := by decide +kernel
theorem dX6_isLate_50 : decode cX6_isLate 50 = .ok (.getfield 79, 3) := by decide +kernel
theorem dX6_isLate_53 : decode cX6_isLate 53 = .ok (.imul, 1) := by decide +kernel
theorem dX6_isLate_54 : decode cX6_isLate 54 = .ok (.iadd, 1) := by decide +kernel
theorem dX6_isLate_55 : decode cX6_isLate 55 = .ok (.aload_n 0, 1) := by decide +kernel
theorem dX6_isLate_56 : decode cX6_isLate 56 = .ok (.getfield 51, 3) := by decide +kernel
theorem dX6_isLate_59 : decode cX6_isLate 59 = .ok (.iload_n 3, 1) := by decide +kernel
theorem dX6_isLate_60 : decode cX6_isLate 60 = .ok (.iaload, 1) := by decide +kernel
theorem dX6_isLate_61 : decode cX6_isLate 61 = .ok (.aload_n 0, 1) := by decide +kernel
theorem dX6_isLate_62 : decode cX6_isLate 62 = .ok (.iload_n 3, 1) := by decide +kernel
theorem dX6_isLate_63 : decode cX6_isLate 63 = .ok (.invokevirtual 130, 3) := by decide +kernel
theorem dX6_isLate_66 : decode cX6_isLate 66 = .ok (.iadd, 1) := by decide +kernel
theorem dX6_isLate_67 : decode cX6_isLate 67 = .ok (.iload 4, 2) := by decide +kernel
theorem dX6_isLate_69 : decode cX6_isLate 69 = .ok (.iadd, 1) := by decide +kernel
theorem dX6_isLate_70 : decode cX6_isLate 70 = .ok (.if_icmp .ge 7, 3) := by decide +kernel
theorem dX6_isLate_73 : decode cX6_isLate 73 = .ok (.iconst 1, 1) := by decide +kernel
theorem dX6_isLate_74 : decode cX6_isLate 74 = .ok (.goto 4, 3) := by decide +kernel
theorem dX6_isLate_77 : decode cX6_isLate 77 = .ok (.iconst 0, 1) := by decide +kernel
theorem dX6_isLate_78 : decode cX6_isLate 78 = .ok (.ireturn, 1) := by decide +kernel
set_option maxRecDepth 20000 in
set_option maxHeartbeats 4000000 in
theorem k_M_isLate (l : Launch) (w : WT) (σ : MM) (s : Int) (i_s : inr s) (W : Int → Int) (hW : WayM σ W) (hs : 0 ≤ s ∧ s < 2 * σ 61 0) (hk : σ 28 (s / 2) ≠ 0) (hu : σ 29 s < σ 61 0) (hcl : ∀ x : Int, 0 ≤ x → x < σ 61 0 → σ 38 x < σ 65 0 * σ 66 0) : CT SX l w yX6_isLate cX6_isLate 5 (some .boolean) 2 49 [.ref (w.2.2 27), .int (iI s)] σ (PI fun z σ1 => Mod [37] σ σ1 ∧ ((z = 1 ∧ P4m σ W s) ∨ (z = 0 ∧ ¬ P4m σ W s))) := by
  refine CT.of 3 [some (.ref (w.2.2 27)), some (.int (iI s)), none, none, none] (by decide +kernel) (by simp [lg_sl, Value.category]) rfl sh_X (fun G hX => ?_)
  refine r_bd hX (fun hBd => ?_)
  have b_61 := hBd 61 0 8 rfl 0
  have b_63 := hBd 63 0 12 rfl 0
  refine r_iload_n hX dX6_isLate_0 rfl ?_
  refine r_iconst hX dX6_isLate_1 ?_
  refine r_idiv hX dX6_isLate_2 (by omega) (by omega) (by omega) (by omega) ?_
  refine r_istore_n hX (fun x3 => [some (.ref (w.2.2 27)), some (.int (iI s)), some (.int (iI x3)), none, none]) dX6_isLate_3 (Nat.le_of_ble_eq_true rfl) rfl rfl (fun _ => rfl) (fun x3 e3 => ?_)
  obtain rfl : x3 = s / 2 := e3
  refine r_aload_n hX dX6_isLate_4 rfl ?_
  refine fg_X27_13 hX dX6_isLate_5 ?_
  refine r_iload_n hX dX6_isLate_8 rfl ?_
  refine ld_X29 hX dX6_isLate_9 (by omega) (by omega) (fun b9l b9u => ?_)
  refine r_istore_n hX (fun x10 => [some (.ref (w.2.2 27)), some (.int (iI s)), some (.int (iI (s / 2))), some (.int (iI x10)), none]) dX6_isLate_10 (Nat.le_of_ble_eq_true rfl) rfl rfl (fun _ => rfl) (fun x10 e10 => ?_)
  obtain rfl : x10 = σ 29 s := by omega
  have hl1 := hcl (σ 29 s) (by omega) (by omega)
  have hl2 := hcl (s / 2) (by omega) (by omega)
  refine r_aload_n hX dX6_isLate_11 rfl ?_
  refine r_aload_n hX dX6_isLate_12 rfl ?_
  refine fg_X27_48 hX dX6_isLate_13 ?_
  refine r_iload_n hX dX6_isLate_16 rfl ?_
  refine ld_X38 hX dX6_isLate_17 (by omega) (by omega) (fun b17l b17u => ?_)
  refine r_aload_n hX dX6_isLate_18 rfl ?_
  refine fg_X27_48 hX dX6_isLate_19 ?_
  refine r_iload_n hX dX6_isLate_22 rfl ?_
  refine ld_X38 hX dX6_isLate_23 (by omega) (by omega) (fun b23l b23u => ?_)
  refine r_callV hX dX6_isLate_24 (k_M_wayOf l w σ _ _ (by omega) (by omega) _ (hW) (by omega) (by omega)) mf_X6_wayOf mv_X6_wayOf lk_RX6_144 rfl rfl rfl rfl rfl ⟨Nat.le_of_ble_eq_true rfl, Nat.le_of_ble_eq_true rfl⟩ (Nat.le_of_ble_eq_true rfl) (kI fun z24 σ24 hh => ?_)
  obtain ⟨m24, h24_0, h24_1⟩ := hh
  refine r_istore hX (fun x27 => [some (.ref (w.2.2 27)), some (.int (iI s)), some (.int (iI (s / 2))), some (.int (iI (σ 29 s))), some (.int (iI x27))]) dX6_isLate_27 (Nat.le_of_ble_eq_true rfl) rfl rfl (fun _ => rfl) (fun x27 e27 => ?_)
  have hx27 : x27 = W (σ 38 (σ 29 s) * 9 + σ 38 (s / 2)) := by omega
  refine r_iload hX dX6_isLate_29 rfl ?_
  refine r_sipush hX dX6_isLate_31 (by decide) ?_
  refine r_icmp_ge hX (tgt := 73) dX6_isLate_34 (by decide) (by omega) (by omega) (fun c34 => ?_) (fun c34 => ?_)
  · skip
    refine r_iconst hX dX6_isLate_73 ?_
    refine r_goto hX dX6_isLate_74 (tgt := 78) (by decide) ?_
    exact r_zret hX dX6_isLate_78 rfl (by omega) ⟨_, rfl, ⟨(m24.w rfl), (by rw [late_m hk (by omega), ← hx27]; first | exact Or.inl ⟨rfl, by omega⟩ | exact Or.inr ⟨rfl, by omega⟩)⟩⟩
  · skip
    refine r_aload_n hX dX6_isLate_37 rfl ?_
    refine fg_X27_51 hX dX6_isLate_38 ?_
    refine r_iload_n hX dX6_isLate_41 rfl ?_
    refine ld_X39 hX dX6_isLate_42 (by omega) (by omega) (fun b42l b42u => ?_)
    have q42 : σ24 39 = σ 39 := (m24.at 39 rfl)
    rw [q42]
    rw [q42] at b42l b42u
    refine r_aload_n hX dX6_isLate_43 rfl ?_
    refine fg_X27_16 hX dX6_isLate_44 ?_
    refine r_iload_n hX dX6_isLate_47 rfl ?_
    refine ld_X30 hX dX6_isLate_48 (by omega) (by omega) (fun b48l b48u => ?_)
    have q48 : σ24 30 = σ 30 := (m24.at 30 rfl)
    rw [q48]
    rw [q48] at b48l b48u
    refine r_aload_n hX dX6_isLate_49 rfl ?_
    refine fg_X27_79 hX dX6_isLate_50 (fun b50l b50u => ?_)
    have q50 : σ24 63 = σ 63 := (m24.at 63 rfl)
    rw [q50]
    rw [q50] at b50l b50u
    have hp := pm (a := σ 30 s) (A := 3) (b := σ 63 0) (B := 12) (by omega) (by omega)
    refine r_imul hX dX6_isLate_53 ?_
    refine r_iadd hX dX6_isLate_54 ?_
    refine r_aload_n hX dX6_isLate_55 rfl ?_
    refine fg_X27_51 hX dX6_isLate_56 ?_
    refine r_iload_n hX dX6_isLate_59 rfl ?_
    refine ld_X39 hX dX6_isLate_60 (by omega) (by omega) (fun b60l b60u => ?_)
    have q60 : σ24 39 = σ 39 := (m24.at 39 rfl)
    rw [q60]
    rw [q60] at b60l b60u
    refine r_aload_n hX dX6_isLate_61 rfl ?_
    refine r_iload_n hX dX6_isLate_62 rfl ?_
    refine r_callV hX dX6_isLate_63 (k_M_lengthOf l w σ24 _ (by omega) (by omega)) mf_X6_lengthOf mv_X6_lengthOf lk_RX6_130 rfl rfl rfl rfl rfl ⟨Nat.le_of_ble_eq_true rfl, Nat.le_of_ble_eq_true rfl⟩ (Nat.le_of_ble_eq_true rfl) (kI fun z63 σ63 hh => ?_)
    obtain ⟨rfl, h63_0, h63_1⟩ := hh
    have q63_1 : σ24 28 = σ 28 := (m24.at 28 rfl)
    try simp only [q63_1] at h63_0
    have hlb := @lenF_bd (σ 28) (σ 29 s)
    refine r_iadd hX dX6_isLate_66 ?_
    refine r_iload hX dX6_isLate_67 rfl ?_
    refine r_iadd hX dX6_isLate_69 ?_
    refine r_icmp_ge hX (tgt := 77) dX6_isLate_70 (by decide) (by omega) (by omega) (fun c70 => ?_) (fun c70 => ?_)
    · skip
      refine r_iconst hX dX6_isLate_77 ?_
      exact r_zret hX dX6_isLate_78 rfl (by omega) ⟨_, rfl, ⟨(m24.w rfl), (by rw [late_m hk (by omega), ← hx27]; first | exact Or.inl ⟨rfl, by omega⟩ | exact Or.inr ⟨rfl, by omega⟩)⟩⟩
    · skip
      refine r_iconst hX dX6_isLate_73 ?_
      refine r_goto hX dX6_isLate_74 (tgt := 78) (by decide) ?_
      exact r_zret hX dX6_isLate_78 rfl (by omega) ⟨_, rfl, ⟨(m24.w rfl), (by rw [late_m hk (by omega), ← hx27]; first | exact Or.inl ⟨rfl, by omega⟩ | exact Or.inr ⟨rfl, by omega⟩)⟩⟩
theorem dX6_lacking_0 : decode cX6_lacking 0 = .ok (.iconst 0, 1) := by decide +kernel
theorem dX6_lacking_1 : decode cX6_lacking 1 = .ok (.istore_n 1, 1) := by decide +kernel
theorem dX6_lacking_2 : decode cX6_lacking 2 = .ok (.iload_n 1, 1) := by decide +kernel
theorem dX6_lacking_3 : decode cX6_lacking 3 = .ok (.aload_n 0, 1) := by decide +kernel
theorem dX6_lacking_4 : decode cX6_lacking 4 = .ok (.getfield 72, 3) := by decide +kernel
theorem dX6_lacking_7 : decode cX6_lacking 7 = .ok (.if_icmp .ge 28, 3) := by decide +kernel
theorem dX6_lacking_10 : decode cX6_lacking 10 = .ok (.aload_n 0, 1) := by decide +kernel
theorem dX6_lacking_11 : decode cX6_lacking 11 = .ok (.getfield 39, 3) := by decide +kernel
theorem dX6_lacking_14 : decode cX6_lacking 14 = .ok (.aload_n 0, 1) := by decide +kernel
theorem dX6_lacking_15 : decode cX6_lacking 15 = .ok (.getfield 48, 3) := by decide +kernel
theorem dX6_lacking_18 : decode cX6_lacking 18 = .ok (.iload_n 1, 1) := by decide +kernel
theorem dX6_lacking_19 : decode cX6_lacking 19 = .ok (.iaload, 1) := by decide +kernel
theorem dX6_lacking_20 : decode cX6_lacking 20 = .ok (.baload, 1) := by decide +kernel
theorem dX6_lacking_21 : decode cX6_lacking 21 = .ok (.ifCond .eq 8, 3) := by decide +kernel
theorem dX6_lacking_24 : decode cX6_lacking 24 = .ok (.bipush 10, 2) := by decide +kernel
theorem dX6_lacking_26 : decode cX6_lacking 26 = .ok (.iload_n 1, 1) := by decide +kernel
theorem dX6_lacking_27 : decode cX6_lacking 27 = .ok (.iadd, 1) := by decide +kernel
theorem dX6_lacking_28 : decode cX6_lacking 28 = .ok (.ireturn, 1) := by decide +kernel
theorem dX6_lacking_29 : decode cX6_lacking 29 = .ok (.iinc 1 1, 3) := by decide +kernel
theorem dX6_lacking_32 : decode cX6_lacking 32 = .ok (.goto (-30), 3) := by decide +kernel
theorem dX6_lacking_35 : decode cX6_lacking 35 = .ok (.iconst 0, 1) := by decide +kernel
theorem dX6_lacking_36 : decode cX6_lacking 36 = .ok (.istore_n 1, 1) := by decide +kernel
theorem dX6_lacking_37 : decode cX6_lacking 37 = .ok (.iload_n 1, 1) := by decide +kernel
theorem dX6_lacking_38 : decode cX6_lacking 38 = .ok (.aload_n 0, 1) := by decide +kernel
theorem dX6_lacking_39 : decode cX6_lacking 39 = .ok (.getfield 72, 3) := by decide +kernel
theorem dX6_lacking_42 : decode cX6_lacking 42 = .ok (.if_icmp .ge 38, 3) := by decide +kernel
theorem dX6_lacking_45 : decode cX6_lacking 45 = .ok (.aload_n 0, 1) := by decide +kernel
theorem dX6_lacking_46 : decode cX6_lacking 46 = .ok (.getfield 7, 3) := by decide +kernel
theorem dX6_lacking_49 : decode cX6_lacking 49 = .ok (.iload_n 1, 1) := by decide +kernel
theorem dX6_lacking_50 : decode cX6_lacking 50 = .ok (.iaload, 1) := by decide +kernel
theorem dX6_lacking_51 : decode cX6_lacking 51 = .ok (.iconst 3, 1) := by decide +kernel
theorem dX6_lacking_52 : decode cX6_lacking 52 = .ok (.if_icmp .ne 22, 3) := by decide +kernel
theorem dX6_lacking_55 : decode cX6_lacking 55 = .ok (.aload_n 0, 1) := by decide +kernel
theorem dX6_lacking_56 : decode cX6_lacking 56 = .ok (.getfield 42, 3) := by decide +kernel
theorem dX6_lacking_59 : decode cX6_lacking 59 = .ok (.aload_n 0, 1) := by decide +kernel
theorem dX6_lacking_60 : decode cX6_lacking 60 = .ok (.getfield 48, 3) := by decide +kernel
theorem dX6_lacking_63 : decode cX6_lacking 63 = .ok (.iload_n 1, 1) := by decide +kernel
theorem dX6_lacking_64 : decode cX6_lacking 64 = .ok (.iaload, 1) := by decide +kernel
theorem dX6_lacking_65 : decode cX6_lacking 65 = .ok (.baload, 1) := by decide +kernel
theorem dX6_lacking_66 : decode cX6_lacking 66 = .ok (.ifCond .ne 8, 3) := by decide +kernel
theorem dX6_lacking_69 : decode cX6_lacking 69 = .ok (.bipush 20, 2) := by decide +kernel
theorem dX6_lacking_71 : decode cX6_lacking 71 = .ok (.iload_n 1, 1) := by decide +kernel
theorem dX6_lacking_72 : decode cX6_lacking 72 = .ok (.iadd, 1) := by decide +kernel
theorem dX6_lacking_73 : decode cX6_lacking 73 = .ok (.ireturn, 1) := by decide +kernel
theorem dX6_lacking_74 : decode cX6_lacking 74 = .ok (.iinc 1 1, 3) := by decide +kernel
theorem dX6_lacking_77 : decode cX6_lacking 77 = .ok (.goto (-40), 3) := by decide +kernel
theorem dX6_lacking_80 : decode cX6_lacking 80 = .ok (.iconst 0, 1) := by decide +kernel
theorem dX6_lacking_81 : decode cX6_lacking 81 = .ok (.istore_n 1, 1) := by decide +kernel
theorem dX6_lacking_82 : decode cX6_lacking 82 = .ok (.iload_n 1, 1) := by decide +kernel
theorem dX6_lacking_83 : decode cX6_lacking 83 = .ok (.aload_n 0, 1) := by decide +kernel
theorem dX6_lacking_84 : decode cX6_lacking 84 = .ok (.getfield 72, 3) := by decide +kernel
theorem dX6_lacking_87 : decode cX6_lacking 87 = .ok (.if_icmp .ge 67, 3) := by decide +kernel
theorem dX6_lacking_90 : decode cX6_lacking 90 = .ok (.iconst 0, 1) := by decide +kernel
theorem dX6_lacking_91 : decode cX6_lacking 91 = .ok (.istore_n 2, 1) := by decide +kernel
theorem dX6_lacking_92 : decode cX6_lacking 92 = .ok (.iload_n 2, 1) := by decide +kernel
theorem dX6_lacking_93 : decode cX6_lacking 93 = .ok (.iload_n 1, 1) := by decide +kernel
theorem dX6_lacking_94 : decode cX6_lacking 94 = .ok (.if_icmp .ge 54, 3) := by decide +kernel
theorem dX6_lacking_97 : decode cX6_lacking 97 = .ok (.aload_n 0, 1) := by decide +kernel
theorem dX6_lacking_98 : decode cX6_lacking 98 = .ok (.getfield 48, 3) := by decide +kernel
theorem dX6_lacking_101 : decode cX6_lacking 101 = .ok (.iload_n 1, 1) := by decide +kernel
theorem dX6_lacking_102 : decode cX6_lacking 102 = .ok (.iaload, 1) := by decide +kernel
theorem dX6_lacking_103 : decode cX6_lacking 103 = .ok (.aload_n 0, 1) := by decide +kernel
theorem dX6_lacking_104 : decode cX6_lacking 104 = .ok (.getfield 48, 3) := by decide +kernel
theorem dX6_lacking_107 : decode cX6_lacking 107 = .ok (.iload_n 2, 1) := by decide +kernel
theorem dX6_lacking_108 : decode cX6_lacking 108 = .ok (.iaload, 1) := by decide +kernel
theorem dX6_lacking_109 : decode cX6_lacking 109 = .ok (.if_icmp .ne 33, 3) := by decide +kernel
theorem dX6_lacking_112 : decode cX6_lacking 112 = .ok (.aload_n 0, 1) := by decide +kernel
theorem dX6_lacking_113 : decode cX6_lacking 113 = .ok (.getfield 51, 3) := by decide +kernel
theorem dX6_lacking_116 : decode cX6_lacking 116 = .ok (.iload_n 1, 1) := by decide +kernel
theorem dX6_lacking_117 : decode cX6_lacking 117 = .ok (.iaload, 1) := by decide +kernel
theorem dX6_lacking_118 : decode cX6_lacking 118 = .ok (.aload_n 0, 1) := by decide +kernel
theorem dX6_lacking_119 : decode cX6_lacking 119 = .ok (.getfield 79, 3) := by decide +kernel
theorem dX6_lacking_122 : decode cX6_lacking 122 = .ok (.irem, 1) := by decide +kernel
theorem dX6_lacking_123 : decode cX6_lacking 123 = .ok (.aload_n 0, 1) := by decide +kernel
theorem dX6_lacking_124 : decode cX6_lacking 124 = .ok (.getfield 51, 3) := by decide +kernel
theorem dX6_lacking_127 : decode cX6_lacking 127 = .ok (.iload_n 2, 1) := by decide +kernel
theorem dX6_lacking_128 : decode cX6_lacking 128 = .ok (.iaload, 1) := by decide +kernel
theorem dX6_lacking_129 : decode cX6_lacking 129 = .ok (.aload_n 0, 1) := by decide +kernel
theorem dX6_lacking_130 : decode cX6_lacking 130 = .ok (.getfield 79, 3) := by decide +kernel
theorem dX6_lacking_133 : decode cX6_lacking 133 = .ok (.irem, 1) := by decide +kernel
theorem dX6_lacking_134 : decode cX6_lacking 134 = .ok (.if_icmp .ne 8, 3) := by decide +kernel
theorem dX6_lacking_137 : decode cX6_lacking 137 = .ok (.bipush 30, 2) := by decide +kernel
theorem dX6_lacking_139 : decode cX6_lacking 139 = .ok (.iload_n 1, 1) := by decide +kernel
theorem dX6_lacking_140 : decode cX6_lacking 140 = .ok (.iadd, 1) := by decide +kernel
theorem dX6_lacking_141 : decode cX6_lacking 141 = .ok (.ireturn, 1) := by decide +kernel
theorem dX6_lacking_142 : decode cX6_lacking 142 = .ok (.iinc 2 1, 3) := by decide +kernel
theorem dX6_lacking_145 : decode cX6_lacking 145 = .ok (.goto (-53), 3) := by decide +kernel
theorem dX6_lacking_148 : decode cX6_lacking 148 = .ok (.iinc 1 1, 3) := by decide +kernel
theorem dX6_lacking_151 : decode cX6_lacking 151 = .ok (.goto (-69), 3) := by decide +kernel
theorem dX6_lacking_154 : decode cX6_lacking 154 = .ok (.iconst 0, 1) := by decide +kernel
theorem dX6_lacking_155 : decode cX6_lacking 155 = .ok (.istore_n 1, 1) := by decide +kernel
theorem dX6_lacking_156 : decode cX6_lacking 156 = .ok (.iload_n 1, 1) := by decide +kernel
theorem dX6_lacking_157 : decode cX6_lacking 157 = .ok (.iconst 2, 1) := by decide +kernel
theorem dX6_lacking_158 : decode cX6_lacking 158 = .ok (.aload_n 0, 1) := by decide +kernel
theorem dX6_lacking_159 : decode cX6_lacking 159 = .ok (.getfield 72, 3) := by decide +kernel
theorem dX6_lacking_162 : decode cX6_lacking 162 = .ok (.imul, 1) := by decide +kernel
theorem dX6_lacking_163 : decode cX6_lacking 163 = .ok (.if_icmp .ge 33, 3) := by decide +kernel
theorem dX6_lacking_166 : decode cX6_lacking 166 = .ok (.aload_n 0, 1) := by decide +kernel
theorem dX6_lacking_167 : decode cX6_lacking 167 = .ok (.getfield 7, 3) := by decide +kernel
theorem dX6_lacking_170 : decode cX6_lacking 170 = .ok (.iload_n 1, 1) := by decide +kernel
theorem dX6_lacking_171 : decode cX6_lacking 171 = .ok (.iconst 2, 1) := by decide +kernel
theorem dX6_lacking_172 : decode cX6_lacking 172 = .ok (.idiv, 1) := by decide +kernel
theorem dX6_lacking_173 : decode cX6_lacking 173 = .ok (.iaload, 1) := by decide +kernel
theorem dX6_lacking_174 : decode cX6_lacking 174 = .ok (.ifCond .le 16, 3) := by decide +kernel
theorem dX6_lacking_177 : decode cX6_lacking 177 = .ok (.aload_n 0, 1) := by decide +kernel
theorem dX6_lacking_178 : decode cX6_lacking 178 = .ok (.iload_n 1, 1) := by decide +kernel
theorem dX6_lacking_179 : decode cX6_lacking 179 = .ok (.invokevirtual 151, 3) := by decide +kernel
theorem dX6_lacking_182 : decode cX6_lacking 182 = .ok (.ifCond .eq 8, 3) := by decide +kernel
theorem dX6_lacking_185 : decode cX6_lacking 185 = .ok (.bipush 40, 2) := by decide +kernel
theorem dX6_lacking_187 : decode cX6_lacking 187 = .ok (.iload_n 1, 1) := by decide +kernel
theorem dX6_lacking_188 : decode cX6_lacking 188 = .ok (.iadd, 1) := by decide +kernel
theorem dX6_lacking_189 : decode cX6_lacking 189 = .ok (.ireturn, 1) := by decide +kernel
theorem dX6_lacking_190 : decode cX6_lacking 190 = .ok (.iinc 1 1, 3) := by decide +kernel
theorem dX6_lacking_193 : decode cX6_lacking 193 = .ok (.goto (-37), 3) := by decide +kernel
theorem dX6_lacking_196 : decode cX6_lacking 196 = .ok (.iconst 0, 1) := by decide +kernel
theorem dX6_lacking_197 : decode cX6_lacking 197 = .ok (.ireturn, 1) := by decide +kernel
set_option maxRecDepth 20000 in
set_option maxHeartbeats 4000000 in
theorem k_M_lacking (l : Launch) (w : WT) (σ : MM) (W : Int → Int) (hW : WayM σ W) (hsr : SrcM σ) (hcl : ∀ x : Int, 0 ≤ x → x < σ 61 0 → σ 38 x < σ 65 0 * σ 66 0) (hbt : 0 < σ 63 0) : CT SX l w yX6_lacking cX6_lacking 3 (some .int) 3 73 [.ref (w.2.2 27)] σ (PI fun z σ1 => Mod [37] σ σ1 ∧ (FLm σ W z) ∧ (0 ≤ z ∧ z ≤ 60)) := by
  refine CT.of 2 [some (.ref (w.2.2 27)), none, none] (by decide +kernel) (by simp [lg_sl, Value.category]) rfl sh_X (fun G hX => ?_)
  refine r_bd hX (fun hBd => ?_)
  have b_61 := hBd 61 0 8 rfl 0
  have b_63 := hBd 63 0 12 rfl 0
  refine r_iconst hX dX6_lacking_0 ?_
  refine r_istore_n hX (fun x1 => [some (.ref (w.2.2 27)), some (.int (iI x1)), none]) dX6_lacking_1 (Nat.le_of_ble_eq_true rfl) rfl rfl (fun _ => rfl) (fun x1 e1 => ?_)
  have lp2 : ∀ (n : Nat) (a1 : Int) (ha1 : 0 ≤ a1 ∧ a1 ≤ σ 61 0) (hn1 : Non (P1m σ) a1) (hmu : 9 - a1 < (n : Int)), G 2 [some (.ref (w.2.2 27)), some (.int (iI a1)), none] [] σ := by
    intro n
    induction n with
    | zero => intro a1 ha1 hn1 hmu; omega
    | succ n ih =>
      intro a1 ha1 hn1 hmu
      have ih2 := ih
      clear ih
      refine r_iload_n hX dX6_lacking_2 rfl ?_
      refine r_aload_n hX dX6_lacking_3 rfl ?_
      refine fg_X27_72 hX dX6_lacking_4 (fun b4l b4u => ?_)
      refine r_icmp_ge hX (tgt := 35) dX6_lacking_7 (by decide) (by omega) (by omega) (fun c7 => ?_) (fun c7 => ?_)
      · skip
        have hm1 : Non (P1m σ) (σ 61 0) := (show a1 = σ 61 0 by omega) ▸ hn1
        refine r_iconst hX dX6_lacking_35 ?_
        refine r_istore_n hX (fun x36 => [some (.ref (w.2.2 27)), some (.int (iI x36)), none]) dX6_lacking_36 (Nat.le_of_ble_eq_true rfl) rfl rfl (fun _ => rfl) (fun x36 e36 => ?_)
        have lp37 : ∀ (n : Nat) (a2 : Int) (ha2 : 0 ≤ a2 ∧ a2 ≤ σ 61 0) (hn2 : Non (P2m σ) a2) (hmu : 9 - a2 < (n : Int)), G 37 [some (.ref (w.2.2 27)), some (.int (iI a2)), none] [] σ := by
          intro n
          induction n with
          | zero => intro a2 ha2 hn2 hmu; omega
          | succ n ih =>
            intro a2 ha2 hn2 hmu
            have ih37 := ih
            clear ih
            refine r_iload_n hX dX6_lacking_37 rfl ?_
            refine r_aload_n hX dX6_lacking_38 rfl ?_
            refine fg_X27_72 hX dX6_lacking_39 (fun b39l b39u => ?_)
            refine r_icmp_ge hX (tgt := 80) dX6_lacking_42 (by decide) (by omega) (by omega) (fun c42 => ?_) (fun c42 => ?_)
            · skip
              have hm2 : Non (P2m σ) (σ 61 0) := (show a2 = σ 61 0 by omega) ▸ hn2
              refine r_iconst hX dX6_lacking_80 ?_
              refine r_istore_n hX (fun x81 => [some (.ref (w.2.2 27)), some (.int (iI x81)), none]) dX6_lacking_81 (Nat.le_of_ble_eq_true rfl) rfl rfl (fun _ => rfl) (fun x81 e81 => ?_)
              have lp82 : ∀ (n : Nat) (a3 : Int) (ha3 : 0 ≤ a3 ∧ a3 ≤ σ 61 0) (hn3 : Non (P3m σ) a3) (hmu : 9 - a3 < (n : Int)), G 82 [some (.ref (w.2.2 27)), some (.int (iI a3)), none] [] σ := by
                intro n
                induction n with
                | zero => intro a3 ha3 hn3 hmu; omega
                | succ n ih =>
                  intro a3 ha3 hn3 hmu
                  have ih82 := ih
                  clear ih
                  refine r_iload_n hX dX6_lacking_82 rfl ?_
                  refine r_aload_n hX dX6_lacking_83 rfl ?_
                  refine fg_X27_72 hX dX6_lacking_84 (fun b84l b84u => ?_)
                  refine r_icmp_ge hX (tgt := 154) dX6_lacking_87 (by decide) (by omega) (by omega) (fun c87 => ?_) (fun c87 => ?_)
                  · skip
                    have hm3 : Non (P3m σ) (σ 61 0) := (show a3 = σ 61 0 by omega) ▸ hn3
                    refine r_iconst hX dX6_lacking_154 ?_
                    refine r_istore_n hX (fun x155 => [some (.ref (w.2.2 27)), some (.int (iI x155)), none]) dX6_lacking_155 (Nat.le_of_ble_eq_true rfl) rfl rfl (fun _ => rfl) (fun x155 e155 => ?_)
                    have lp156 : ∀ (n : Nat) (s4 : Int) (σ156 : MM) (m156 : Mod [37] σ σ156) (hs4 : 0 ≤ s4 ∧ s4 ≤ 2 * σ 61 0) (hn4 : Non (P4m σ W) s4) (hmu : 17 - s4 < (n : Int)), G 156 [some (.ref (w.2.2 27)), some (.int (iI s4)), none] [] σ156 := by
                      intro n
                      induction n with
                      | zero => intro s4 σ156 m156 hs4 hn4 hmu; omega
                      | succ n ih =>
                        intro s4 σ156 m156 hs4 hn4 hmu
                        have ih156 := ih
                        clear ih
                        refine r_iload_n hX dX6_lacking_156 rfl ?_
                        refine r_iconst hX dX6_lacking_157 ?_
                        refine r_aload_n hX dX6_lacking_158 rfl ?_
                        refine fg_X27_72 hX dX6_lacking_159 (fun b159l b159u => ?_)
                        have q159 : σ156 61 = σ 61 := (m156.at 61 rfl)
                        rw [q159]
                        rw [q159] at b159l b159u
                        refine r_imul hX dX6_lacking_162 ?_
                        refine r_icmp_ge hX (tgt := 196) dX6_lacking_163 (by decide) (by omega) (by omega) (fun c163 => ?_) (fun c163 => ?_)
                        · skip
                          refine r_iconst hX dX6_lacking_196 ?_
                          exact r_iret hX dX6_lacking_197 rfl ⟨_, rfl, ⟨(m156.w rfl), (by exact Or.inr (Or.inr (Or.inr (Or.inr ⟨hm1, hm2, hm3, (show s4 = 2 * σ 61 0 by omega) ▸ hn4, rfl⟩)))), (by omega)⟩⟩
                        · skip
                          refine r_aload_n hX dX6_lacking_166 rfl ?_
                          refine fg_X27_7 hX dX6_lacking_167 ?_
                          refine r_iload_n hX dX6_lacking_170 rfl ?_
                          refine r_iconst hX dX6_lacking_171 ?_
                          refine r_idiv hX dX6_lacking_172 (by omega) (by omega) (by omega) (by omega) ?_
                          refine ld_X28 hX dX6_lacking_173 (by omega) (by omega) (fun b173l b173u => ?_)
                          have q173 : σ156 28 = σ 28 := (m156.at 28 rfl)
                          rw [q173]
                          rw [q173] at b173l b173u
                          refine r_if_le hX (tgt := 190) dX6_lacking_174 (by decide) (by omega) (fun c174 => ?_) (fun c174 => ?_)
                          · skip
                            refine r_iinc hX (fun x190 => [some (.ref (w.2.2 27)), some (.int (iI x190)), none]) dX6_lacking_190 rfl rfl rfl (fun _ => rfl) (fun x190 e190 => ?_)
                            refine r_goto hX dX6_lacking_193 (tgt := 156) (by decide) ?_
                            exact ih156 x190 σ156 (m156.w rfl) (by omega) (by first | exact hn4.next (cf_no h179_0 (by omega)) e190 | exact hn4.next (late_m0 (by omega)) e190) (by omega)
                          · skip
                            refine r_aload_n hX dX6_lacking_177 rfl ?_
                            refine r_iload_n hX dX6_lacking_178 rfl ?_
                            have qp179_61 : σ156 61 = σ 61 := (m156.at 61 rfl)
                            have qp179_28 : σ156 28 = σ 28 := (m156.at 28 rfl)
                            have qp179_29 : σ156 29 = σ 29 := (m156.at 29 rfl)
                            have qp179_61 : σ156 61 = σ 61 := (m156.at 61 rfl)
                            have qp179_38 : σ156 38 = σ 38 := (m156.at 38 rfl)
                            have qp179_61 : σ156 61 = σ 61 := (m156.at 61 rfl)
                            have qp179_65 : σ156 65 = σ 65 := (m156.at 65 rfl)
                            have qp179_66 : σ156 66 = σ 66 := (m156.at 66 rfl)
                            refine r_callV hX dX6_lacking_179 (k_M_isLate l w σ156 _ (by omega) _ (hW.keep m156 rfl) (by simp only [qp179_61]; omega) (by simp only [qp179_28]; omega) (by simp only [qp179_29, qp179_61]; exact hsr s4 (by omega) (by omega) (by omega)) (by simp only [qp179_38, qp179_61, qp179_65, qp179_66]; exact hcl)) mf_X6_isLate mv_X6_isLate lk_RX6_151 rfl rfl rfl rfl rfl ⟨Nat.le_of_ble_eq_true rfl, Nat.le_of_ble_eq_true rfl⟩ (Nat.le_of_ble_eq_true rfl) (kI fun z179 σ179 hh => ?_)
                            obtain ⟨m179, h179_0⟩ := hh
                            rw [P4m_keep m156 rfl] at h179_0
                            refine r_if_eq hX (tgt := 190) dX6_lacking_182 (by decide) (by omega) (fun c182 => ?_) (fun c182 => ?_)
                            · skip
                              refine r_iinc hX (fun x190 => [some (.ref (w.2.2 27)), some (.int (iI x190)), none]) dX6_lacking_190 rfl rfl rfl (fun _ => rfl) (fun x190 e190 => ?_)
                              refine r_goto hX dX6_lacking_193 (tgt := 156) (by decide) ?_
                              exact ih156 x190 σ179 (Mod.tr (L := [37]) m156 m179 rfl rfl) (by omega) (by first | exact hn4.next (cf_no h179_0 (by omega)) e190 | exact hn4.next (late_m0 (by omega)) e190) (by omega)
                            · skip
                              refine r_bipush hX dX6_lacking_185 (by decide) ?_
                              refine r_iload_n hX dX6_lacking_187 rfl ?_
                              refine r_iadd hX dX6_lacking_188 ?_
                              exact r_iret hX dX6_lacking_189 rfl ⟨_, rfl, ⟨(Mod.tr (L := [37]) m156 m179 rfl rfl), (by exact Or.inr (Or.inr (Or.inr (Or.inl ⟨hm1, hm2, hm3, s4, hn4.fst (by omega) (by omega) (cf_yes h179_0 (by omega)), by omega⟩)))), (by omega)⟩⟩
                    exact lp156 ((17 - (x155)) + 1).toNat x155 σ Mod.rf (by omega) (fun b b0 b1 => by omega) (by omega)
                  · skip
                    refine r_iconst hX dX6_lacking_90 ?_
                    refine r_istore_n hX (fun x91 => [some (.ref (w.2.2 27)), some (.int (iI a3)), some (.int (iI x91))]) dX6_lacking_91 (Nat.le_of_ble_eq_true rfl) rfl rfl (fun _ => rfl) (fun x91 e91 => ?_)
                    have lp92 : ∀ (n : Nat) (o3 : Int) (ho3 : 0 ≤ o3 ∧ o3 ≤ a3) (hm : Non (fun x => σ 38 x = σ 38 a3 ∧ σ 39 a3 % σ 63 0 = σ 39 x % σ 63 0) o3) (hmu : 9 - o3 < (n : Int)), G 92 [some (.ref (w.2.2 27)), some (.int (iI a3)), some (.int (iI o3))] [] σ := by
                      intro n
                      induction n with
                      | zero => intro o3 ho3 hm hmu; omega
                      | succ n ih =>
                        intro o3 ho3 hm hmu
                        have ih92 := ih
                        clear ih
                        refine r_iload_n hX dX6_lacking_92 rfl ?_
                        refine r_iload_n hX dX6_lacking_93 rfl ?_
                        refine r_icmp_ge hX (tgt := 148) dX6_lacking_94 (by decide) (by omega) (by omega) (fun c94 => ?_) (fun c94 => ?_)
                        · skip
                          refine r_iinc hX (fun x148 => [some (.ref (w.2.2 27)), some (.int (iI x148)), some (.int (iI o3))]) dX6_lacking_148 rfl rfl rfl (fun _ => rfl) (fun x148 e148 => ?_)
                          refine r_goto hX dX6_lacking_151 (tgt := 82) (by decide) ?_
                          refine r_wk hX (lv1 := [some (.ref (w.2.2 27)), some (.int (iI x148)), none]) ⟨rfl, ⟨rfl, trivial⟩⟩ ?_
                          exact ih82 x148 (by omega) (hn3.next (fun ⟨o, q0, q1, q2, q3⟩ => hm o q0 (by omega) ⟨q2, q3⟩) e148) (by omega)
                        · skip
                          refine r_aload_n hX dX6_lacking_97 rfl ?_
                          refine fg_X27_48 hX dX6_lacking_98 ?_
                          refine r_iload_n hX dX6_lacking_101 rfl ?_
                          refine ld_X38 hX dX6_lacking_102 (by omega) (by omega) (fun b102l b102u => ?_)
                          refine r_aload_n hX dX6_lacking_103 rfl ?_
                          refine fg_X27_48 hX dX6_lacking_104 ?_
                          refine r_iload_n hX dX6_lacking_107 rfl ?_
                          refine ld_X38 hX dX6_lacking_108 (by omega) (by omega) (fun b108l b108u => ?_)
                          refine r_icmp_ne hX (tgt := 142) dX6_lacking_109 (by decide) (by omega) (by omega) (fun c109 => ?_) (fun c109 => ?_)
                          · skip
                            refine r_iinc hX (fun x142 => [some (.ref (w.2.2 27)), some (.int (iI a3)), some (.int (iI x142))]) dX6_lacking_142 rfl rfl rfl (fun _ => rfl) (fun x142 e142 => ?_)
                            refine r_goto hX dX6_lacking_145 (tgt := 92) (by decide) ?_
                            exact ih92 x142 (by omega) (hm.next (fun q => by have q1 := q.1; have q2 := q.2; omega) e142) (by omega)
                          · skip
                            refine r_aload_n hX dX6_lacking_112 rfl ?_
                            refine fg_X27_51 hX dX6_lacking_113 ?_
                            refine r_iload_n hX dX6_lacking_116 rfl ?_
                            refine ld_X39 hX dX6_lacking_117 (by omega) (by omega) (fun b117l b117u => ?_)
                            refine r_aload_n hX dX6_lacking_118 rfl ?_
                            refine fg_X27_79 hX dX6_lacking_119 (fun b119l b119u => ?_)
                            refine r_irem hX dX6_lacking_122 (by omega) (by omega) (by omega) (by omega) ?_
                            refine r_aload_n hX dX6_lacking_123 rfl ?_
                            refine fg_X27_51 hX dX6_lacking_124 ?_
                            refine r_iload_n hX dX6_lacking_127 rfl ?_
                            refine ld_X39 hX dX6_lacking_128 (by omega) (by omega) (fun b128l b128u => ?_)
                            refine r_aload_n hX dX6_lacking_129 rfl ?_
                            refine fg_X27_79 hX dX6_lacking_130 (fun b130l b130u => ?_)
                            refine r_irem hX dX6_lacking_133 (by omega) (by omega) (by omega) (by omega) ?_
                            have em1 := Int.emod_nonneg (σ 39 a3) (show σ 63 0 ≠ 0 by omega)
                            have em2 := Int.emod_lt_of_pos (σ 39 a3) (show (0 : Int) < σ 63 0 by omega)
                            have em3 := Int.emod_nonneg (σ 39 o3) (show σ 63 0 ≠ 0 by omega)
                            have em4 := Int.emod_lt_of_pos (σ 39 o3) (show (0 : Int) < σ 63 0 by omega)
                            refine r_icmp_ne hX (tgt := 142) dX6_lacking_134 (by decide) (by omega) (by omega) (fun c134 => ?_) (fun c134 => ?_)
                            · skip
                              refine r_iinc hX (fun x142 => [some (.ref (w.2.2 27)), some (.int (iI a3)), some (.int (iI x142))]) dX6_lacking_142 rfl rfl rfl (fun _ => rfl) (fun x142 e142 => ?_)
                              refine r_goto hX dX6_lacking_145 (tgt := 92) (by decide) ?_
                              exact ih92 x142 (by omega) (hm.next (fun q => by have q1 := q.1; have q2 := q.2; omega) e142) (by omega)
                            · skip
                              refine r_bipush hX dX6_lacking_137 (by decide) ?_
                              refine r_iload_n hX dX6_lacking_139 rfl ?_
                              refine r_iadd hX dX6_lacking_140 ?_
                              exact r_iret hX dX6_lacking_141 rfl ⟨_, rfl, ⟨Mod.rf, (by exact Or.inr (Or.inr (Or.inl ⟨hm1, hm2, a3, hn3.fst (by omega) (by omega) ⟨o3, by omega, by omega, by omega, by omega⟩, by omega⟩))), (by omega)⟩⟩
                    exact lp92 ((9 - (x91)) + 1).toNat x91 (by omega) (fun b b0 b1 => by omega) (by omega)
              exact lp82 ((9 - (x81)) + 1).toNat x81 (by omega) (fun b b0 b1 => by omega) (by omega)
            · skip
              refine r_aload_n hX dX6_lacking_45 rfl ?_
              refine fg_X27_7 hX dX6_lacking_46 ?_
              refine r_iload_n hX dX6_lacking_49 rfl ?_
              refine ld_X28 hX dX6_lacking_50 (by omega) (by omega) (fun b50l b50u => ?_)
              refine r_iconst hX dX6_lacking_51 ?_
              refine r_icmp_ne hX (tgt := 74) dX6_lacking_52 (by decide) (by omega) (by omega) (fun c52 => ?_) (fun c52 => ?_)
              · skip
                refine r_iinc hX (fun x74 => [some (.ref (w.2.2 27)), some (.int (iI x74)), none]) dX6_lacking_74 rfl rfl rfl (fun _ => rfl) (fun x74 e74 => ?_)
                refine r_goto hX dX6_lacking_77 (tgt := 37) (by decide) ?_
                exact ih37 x74 (by omega) (hn2.next (by unfold P2m; omega) e74) (by omega)
              · skip
                refine r_aload_n hX dX6_lacking_55 rfl ?_
                refine fg_X27_42 hX dX6_lacking_56 ?_
                refine r_aload_n hX dX6_lacking_59 rfl ?_
                refine fg_X27_48 hX dX6_lacking_60 ?_
                refine r_iload_n hX dX6_lacking_63 rfl ?_
                refine ld_X38 hX dX6_lacking_64 (by omega) (by omega) (fun b64l b64u => ?_)
                refine ld_X36 hX dX6_lacking_65 (by omega) (by omega) (fun b65l b65u => ?_)
                refine r_if_ne hX (tgt := 74) dX6_lacking_66 (by decide) (by omega) (fun c66 => ?_) (fun c66 => ?_)
                · skip
                  refine r_iinc hX (fun x74 => [some (.ref (w.2.2 27)), some (.int (iI x74)), none]) dX6_lacking_74 rfl rfl rfl (fun _ => rfl) (fun x74 e74 => ?_)
                  refine r_goto hX dX6_lacking_77 (tgt := 37) (by decide) ?_
                  exact ih37 x74 (by omega) (hn2.next (by unfold P2m; omega) e74) (by omega)
                · skip
                  refine r_bipush hX dX6_lacking_69 (by decide) ?_
                  refine r_iload_n hX dX6_lacking_71 rfl ?_
                  refine r_iadd hX dX6_lacking_72 ?_
                  exact r_iret hX dX6_lacking_73 rfl ⟨_, rfl, ⟨Mod.rf, (by exact Or.inr (Or.inl ⟨hm1, a2, hn2.fst (by omega) (by omega) ⟨by omega, by omega⟩, by omega⟩)), (by omega)⟩⟩
        exact lp37 ((9 - (x36)) + 1).toNat x36 (by omega) (fun b b0 b1 => by omega) (by omega)
      · skip
        refine r_aload_n hX dX6_lacking_10 rfl ?_
        refine fg_X27_39 hX dX6_lacking_11 ?_
        refine r_aload_n hX dX6_lacking_14 rfl ?_
        refine fg_X27_48 hX dX6_lacking_15 ?_
        refine r_iload_n hX dX6_lacking_18 rfl ?_
        refine ld_X38 hX dX6_lacking_19 (by omega) (by omega) (fun b19l b19u => ?_)
        refine ld_X35 hX dX6_lacking_20 (by omega) (by omega) (fun b20l b20u => ?_)
        refine r_if_eq hX (tgt := 29) dX6_lacking_21 (by decide) (by omega) (fun c21 => ?_) (fun c21 => ?_)
        · skip
          refine r_iinc hX (fun x29 => [some (.ref (w.2.2 27)), some (.int (iI x29)), none]) dX6_lacking_29 rfl rfl rfl (fun _ => rfl) (fun x29 e29 => ?_)
          refine r_goto hX dX6_lacking_32 (tgt := 2) (by decide) ?_
          exact ih2 x29 (by omega) (hn1.next (by unfold P1m; omega) e29) (by omega)
        · skip
          refine r_bipush hX dX6_lacking_24 (by decide) ?_
          refine r_iload_n hX dX6_lacking_26 rfl ?_
          refine r_iadd hX dX6_lacking_27 ?_
          exact r_iret hX dX6_lacking_28 rfl ⟨_, rfl, ⟨Mod.rf, (by exact Or.inl ⟨a1, hn1.fst (by omega) (by omega) (by unfold P1m; omega), by omega⟩), (by omega)⟩⟩
  exact lp2 ((9 - (x1)) + 1).toNat x1 (by omega) (fun b b0 b1 => by omega) (by omega)
theorem dX6_whyNot_0 : decode cX6_whyNot 0 = .ok (.aload_n 0, 1) := by decide +kernel
theorem dX6_whyNot_1 : decode cX6_whyNot 1 = .ok (.getfield 79, 3) := by decide +kernel
theorem dX6_whyNot_4 : decode cX6_whyNot 4 = .ok (.ifCond .ne 8, 3) := by decide +kernel
theorem dX6_whyNot_7 : decode cX6_whyNot 7 = .ok (.bipush (-3), 2) := by decide +kernel
theorem dX6_whyNot_9 : decode cX6_whyNot 9 = .ok (.goto 23, 3) := by decide +kernel
theorem dX6_whyNot_12 : decode cX6_whyNot 12 = .ok (.aload_n 0, 1) := by decide +kernel
theorem dX6_whyNot_13 : decode cX6_whyNot 13 = .ok (.invokevirtual 109, 3) := by decide +kernel
theorem dX6_whyNot_16 : decode cX6_whyNot 16 = .ok (.ifCond .eq 10, 3) := by decide +kernel
theorem dX6_whyNot_19 : decode cX6_whyNot 19 = .ok (.aload_n 0, 1) := by decide +kernel
theorem dX6_whyNot_20 : decode cX6_whyNot 20 = .ok (.invokevirtual 154, 3) := by decide +kernel
theorem dX6_whyNot_23 : decode cX6_whyNot 23 = .ok (.ifCond .eq 8, 3) := by decide +kernel
theorem dX6_whyNot_26 : decode cX6_whyNot 26 = .ok (.bipush (-5), 2) := by decide +kernel
theorem dX6_whyNot_28 : decode cX6_whyNot 28 = .ok (.goto 4, 3) := by decide +kernel
theorem dX6_whyNot_31 : decode cX6_whyNot 31 = .ok (.iconst 0, 1) := by decide +kernel
theorem dX6_whyNot_32 : decode cX6_whyNot 32 = .ok (.ireturn, 1) := by decide +kernel
set_option maxRecDepth 20000 in
set_option maxHeartbeats 4000000 in
theorem k_M_whyNot (l : Launch) (w : WT) (σ : MM) (W : Int → Int) (hW : WayM σ W) (hLa : LayM σ) : CT SX l w yX6_whyNot cX6_whyNot 1 (some .int) 4 95 [.ref (w.2.2 27)] σ (PI fun z σ1 => Mod [33, 37] σ σ1 ∧ (WhyM σ W z)) := by
  refine CT.of 0 [some (.ref (w.2.2 27))] (by decide +kernel) (by simp [lg_sl, Value.category]) rfl sh_X (fun G hX => ?_)
  refine r_bd hX (fun hBd => ?_)
  have b_61 := hBd 61 0 8 rfl 0
  have b_63 := hBd 63 0 12 rfl 0
  have hop : ∀ s, 0 ≤ σ 29 s ∧ σ 29 s ≤ 7 := fun s => hBd 29 0 7 rfl s
  refine r_aload_n hX dX6_whyNot_0 rfl ?_
  refine fg_X27_79 hX dX6_whyNot_1 (fun b1l b1u => ?_)
  refine r_if_ne hX (tgt := 12) dX6_whyNot_4 (by decide) (by omega) (fun c4 => ?_) (fun c4 => ?_)
  · skip
    refine r_aload_n hX dX6_whyNot_12 rfl ?_
    refine r_callV hX dX6_whyNot_13 (k_M_isSound l w σ) mf_X6_isSound mv_X6_isSound lk_RX6_109 rfl rfl rfl rfl rfl ⟨Nat.le_of_ble_eq_true rfl, Nat.le_of_ble_eq_true rfl⟩ (Nat.le_of_ble_eq_true rfl) (kI fun z13 σ13 hh => ?_)
    obtain ⟨m13, h13_0⟩ := hh
    refine r_if_eq hX (tgt := 26) dX6_whyNot_16 (by decide) (by omega) (fun c16 => ?_) (fun c16 => ?_)
    · skip
      refine r_bipush hX dX6_whyNot_26 (by decide) ?_
      refine r_goto hX dX6_whyNot_28 (tgt := 32) (by decide) ?_
      exact r_iret hX dX6_whyNot_32 rfl ⟨_, rfl, ⟨(m13.w rfl), (by first | exact Or.inl ⟨by omega, rfl⟩ | exact Or.inr (Or.inl ⟨by omega, Or.inl (cf_no h13_0 (by omega)), rfl⟩) | exact Or.inr (Or.inl ⟨by omega, Or.inr ⟨z20, (FLm_keep m13 rfl _ _).mp h20_0, c23⟩, rfl⟩) | exact Or.inr (Or.inr ⟨⟨by omega, cf_yes h13_0 (by omega), (show z20 = 0 by omega) ▸ (FLm_keep m13 rfl _ _).mp h20_0⟩, rfl⟩))⟩⟩
    · skip
      have hsn : SndM σ := cf_yes h13_0 (by omega)
      refine r_aload_n hX dX6_whyNot_19 rfl ?_
      have qp20_38 : σ13 38 = σ 38 := (m13.at 38 rfl)
      have qp20_61 : σ13 61 = σ 61 := (m13.at 61 rfl)
      have qp20_65 : σ13 65 = σ 65 := (m13.at 65 rfl)
      have qp20_66 : σ13 66 = σ 66 := (m13.at 66 rfl)
      have qp20_63 : σ13 63 = σ 63 := (m13.at 63 rfl)
      refine r_callV hX dX6_whyNot_20 (k_M_lacking l w σ13 _ (hW.keep m13 rfl) ((hsn.src (fun s => (hop s).1)).keep m13 rfl) (by simp only [qp20_38, qp20_61, qp20_65, qp20_66]; exact hLa (by omega)) (by simp only [qp20_63]; omega)) mf_X6_lacking mv_X6_lacking lk_RX6_154 rfl rfl rfl rfl rfl ⟨Nat.le_of_ble_eq_true rfl, Nat.le_of_ble_eq_true rfl⟩ (Nat.le_of_ble_eq_true rfl) (kI fun z20 σ20 hh => ?_)
      obtain ⟨m20, h20_0, h20_1⟩ := hh
      refine r_if_eq hX (tgt := 31) dX6_whyNot_23 (by decide) (by omega) (fun c23 => ?_) (fun c23 => ?_)
      · skip
        refine r_iconst hX dX6_whyNot_31 ?_
        exact r_iret hX dX6_whyNot_32 rfl ⟨_, rfl, ⟨(Mod.tr (L := [33, 37]) m13 m20 rfl rfl), (by first | exact Or.inl ⟨by omega, rfl⟩ | exact Or.inr (Or.inl ⟨by omega, Or.inl (cf_no h13_0 (by omega)), rfl⟩) | exact Or.inr (Or.inl ⟨by omega, Or.inr ⟨z20, (FLm_keep m13 rfl _ _).mp h20_0, c23⟩, rfl⟩) | exact Or.inr (Or.inr ⟨⟨by omega, cf_yes h13_0 (by omega), (show z20 = 0 by omega) ▸ (FLm_keep m13 rfl _ _).mp h20_0⟩, rfl⟩))⟩⟩
      · skip
        refine r_bipush hX dX6_whyNot_26 (by decide) ?_
        refine r_goto hX dX6_whyNot_28 (tgt := 32) (by decide) ?_
        exact r_iret hX dX6_whyNot_32 rfl ⟨_, rfl, ⟨(Mod.tr (L := [33, 37]) m13 m20 rfl rfl), (by first | exact Or.inl ⟨by omega, rfl⟩ | exact Or.inr (Or.inl ⟨by omega, Or.inl (cf_no h13_0 (by omega)), rfl⟩) | exact Or.inr (Or.inl ⟨by omega, Or.inr ⟨z20, (FLm_keep m13 rfl _ _).mp h20_0, c23⟩, rfl⟩) | exact Or.inr (Or.inr ⟨⟨by omega, cf_yes h13_0 (by omega), (show z20 = 0 by omega) ▸ (FLm_keep m13 rfl _ _).mp h20_0⟩, rfl⟩))⟩⟩
  · skip
    refine r_bipush hX dX6_whyNot_7 (by decide) ?_
    refine r_goto hX dX6_whyNot_9 (tgt := 32) (by decide) ?_
    exact r_iret hX dX6_whyNot_32 rfl ⟨_, rfl, ⟨Mod.rf, (by first | exact Or.inl ⟨by omega, rfl⟩ | exact Or.inr (Or.inl ⟨by omega, Or.inl (cf_no h13_0 (by omega)), rfl⟩) | exact Or.inr (Or.inl ⟨by omega, Or.inr ⟨z20, (FLm_keep m13 rfl _ _).mp h20_0, c23⟩, rfl⟩) | exact Or.inr (Or.inr ⟨⟨by omega, cf_yes h13_0 (by omega), (show z20 = 0 by omega) ▸ (FLm_keep m13 rfl _ _).mp h20_0⟩, rfl⟩))⟩⟩
theorem dX6_lacks_0 : decode cX6_lacks 0 = .ok (.aload_n 0, 1) := by decide +kernel
theorem dX6_lacks_1 : decode cX6_lacks 1 = .ok (.getfield 79, 3) := by decide +kernel
theorem dX6_lacks_4 : decode cX6_lacks 4 = .ok (.ifCond .ne 8, 3) := by decide +kernel
theorem dX6_lacks_7 : decode cX6_lacks 7 = .ok (.bipush (-3), 2) := by decide +kernel
theorem dX6_lacks_9 : decode cX6_lacks 9 = .ok (.goto 19, 3) := by decide +kernel
theorem dX6_lacks_12 : decode cX6_lacks 12 = .ok (.aload_n 0, 1) := by decide +kernel
theorem dX6_lacks_13 : decode cX6_lacks 13 = .ok (.invokevirtual 109, 3) := by decide +kernel
theorem dX6_lacks_16 : decode cX6_lacks 16 = .ok (.ifCond .ne 8, 3) := by decide +kernel
theorem dX6_lacks_19 : decode cX6_lacks 19 = .ok (.bipush (-5), 2) := by decide +kernel
theorem dX6_lacks_21 : decode cX6_lacks 21 = .ok (.goto 7, 3) := by decide +kernel
theorem dX6_lacks_24 : decode cX6_lacks 24 = .ok (.aload_n 0, 1) := by decide +kernel
theorem dX6_lacks_25 : decode cX6_lacks 25 = .ok (.invokevirtual 154, 3) := by decide +kernel
theorem dX6_lacks_28 : decode cX6_lacks 28 = .ok (.ireturn, 1) := by decide +kernel
set_option maxRecDepth 20000 in
set_option maxHeartbeats 4000000 in
theorem k_M_lacks (l : Launch) (w : WT) (σ : MM) (W : Int → Int) (hW : WayM σ W) (hLa : LayM σ) : CT SX l w yX6_lacks cX6_lacks 1 (some .int) 4 95 [.ref (w.2.2 27)] σ (PI fun z σ1 => Mod [33, 37] σ σ1 ∧ ((σ 63 0 = 0 ∧ z = -3) ∨ (0 < σ 63 0 ∧ ¬ SndM σ ∧ z = -5) ∨ (0 < σ 63 0 ∧ SndM σ ∧ FLm σ W z))) := by
  refine CT.of 0 [some (.ref (w.2.2 27))] (by decide +kernel) (by simp [lg_sl, Value.category]) rfl sh_X (fun G hX => ?_)
  refine r_bd hX (fun hBd => ?_)
  have b_61 := hBd 61 0 8 rfl 0
  have b_63 := hBd 63 0 12 rfl 0
  have hop : ∀ s, 0 ≤ σ 29 s ∧ σ 29 s ≤ 7 := fun s => hBd 29 0 7 rfl s
  refine r_aload_n hX dX6_lacks_0 rfl ?_
  refine fg_X27_79 hX dX6_lacks_1 (fun b1l b1u => ?_)
  refine r_if_ne hX (tgt := 12) dX6_lacks_4 (by decide) (by omega) (fun c4 => ?_) (fun c4 => ?_)
  · skip
    refine r_aload_n hX dX6_lacks_12 rfl ?_
    refine r_callV hX dX6_lacks_13 (k_M_isSound l w σ) mf_X6_isSound mv_X6_isSound lk_RX6_109 rfl rfl rfl rfl rfl ⟨Nat.le_of_ble_eq_true rfl, Nat.le_of_ble_eq_true rfl⟩ (Nat.le_of_ble_eq_true rfl) (kI fun z13 σ13 hh => ?_)
    obtain ⟨m13, h13_0⟩ := hh
    refine r_if_ne hX (tgt := 24) dX6_lacks_16 (by decide) (by omega) (fun c16 => ?_) (fun c16 => ?_)
    · skip
      have hsn : SndM σ := cf_yes h13_0 (by omega)
      refine r_aload_n hX dX6_lacks_24 rfl ?_
      have qp25_38 : σ13 38 = σ 38 := (m13.at 38 rfl)
      have qp25_61 : σ13 61 = σ 61 := (m13.at 61 rfl)
      have qp25_65 : σ13 65 = σ 65 := (m13.at 65 rfl)
      have qp25_66 : σ13 66 = σ 66 := (m13.at 66 rfl)
      have qp25_63 : σ13 63 = σ 63 := (m13.at 63 rfl)
      refine r_callV hX dX6_lacks_25 (k_M_lacking l w σ13 _ (hW.keep m13 rfl) ((hsn.src (fun s => (hop s).1)).keep m13 rfl) (by simp only [qp25_38, qp25_61, qp25_65, qp25_66]; exact hLa (by omega)) (by simp only [qp25_63]; omega)) mf_X6_lacking mv_X6_lacking lk_RX6_154 rfl rfl rfl rfl rfl ⟨Nat.le_of_ble_eq_true rfl, Nat.le_of_ble_eq_true rfl⟩ (Nat.le_of_ble_eq_true rfl) (kI fun z25 σ25 hh => ?_)
      obtain ⟨m25, h25_0, h25_1⟩ := hh
      exact r_iret hX dX6_lacks_28 rfl ⟨_, rfl, ⟨(Mod.tr (L := [33, 37]) m13 m25 rfl rfl), (by first | exact Or.inl ⟨by omega, rfl⟩ | exact Or.inr (Or.inl ⟨by omega, cf_no h13_0 (by omega), rfl⟩) | exact Or.inr (Or.inr ⟨by omega, hsn, (FLm_keep m13 rfl _ _).mp h25_0⟩))⟩⟩
    · skip
      refine r_bipush hX dX6_lacks_19 (by decide) ?_
      refine r_goto hX dX6_lacks_21 (tgt := 28) (by decide) ?_
      exact r_iret hX dX6_lacks_28 rfl ⟨_, rfl, ⟨(m13.w rfl), (by first | exact Or.inl ⟨by omega, rfl⟩ | exact Or.inr (Or.inl ⟨by omega, cf_no h13_0 (by omega), rfl⟩) | exact Or.inr (Or.inr ⟨by omega, hsn, (FLm_keep m13 rfl _ _).mp h25_0⟩))⟩⟩
  · skip
    refine r_bipush hX dX6_lacks_7 (by decide) ?_
    refine r_goto hX dX6_lacks_9 (tgt := 28) (by decide) ?_
    exact r_iret hX dX6_lacks_28 rfl ⟨_, rfl, ⟨Mod.rf, (by first | exact Or.inl ⟨by omega, rfl⟩ | exact Or.inr (Or.inl ⟨by omega, cf_no h13_0 (by omega), rfl⟩) | exact Or.inr (Or.inr ⟨by omega, hsn, (FLm_keep m13 rfl _ _).mp h25_0⟩))⟩⟩
theorem dX6_laid_0 : decode cX6_laid 0 = .ok (.aload_n 0, 1) := by decide +kernel
theorem dX6_laid_1 : decode cX6_laid 1 = .ok (.iload_n 1, 1) := by decide +kernel
theorem dX6_laid_2 : decode cX6_laid 2 = .ok (.invokevirtual 102, 3) := by decide +kernel
theorem dX6_laid_5 : decode cX6_laid 5 = .ok (.ifCond .ne 5, 3) := by decide +kernel
theorem dX6_laid_8 : decode cX6_laid 8 = .ok (.iconst (-1), 1) := by decide +kernel
theorem dX6_laid_9 : decode cX6_laid 9 = .ok (.ireturn, 1) := by decide +kernel
theorem dX6_laid_10 : decode cX6_laid 10 = .ok (.iload_n 2, 1) := by decide +kernel
theorem dX6_laid_11 : decode cX6_laid 11 = .ok (.i2l, 1) := by decide +kernel
theorem dX6_laid_12 : decode cX6_laid 12 = .ok (.lconst 0, 1) := by decide +kernel
theorem dX6_laid_13 : decode cX6_laid 13 = .ok (.lconst 1, 1) := by decide +kernel
theorem dX6_laid_14 : decode cX6_laid 14 = .ok (.invokestatic 75, 3) := by decide +kernel
theorem dX6_laid_17 : decode cX6_laid 17 = .ok (.ifCond .ne 6, 3) := by decide +kernel
theorem dX6_laid_20 : decode cX6_laid 20 = .ok (.bipush (-2), 2) := by decide +kernel
theorem dX6_laid_22 : decode cX6_laid 22 = .ok (.ireturn, 1) := by decide +kernel
theorem dX6_laid_23 : decode cX6_laid 23 = .ok (.aload_n 0, 1) := by decide +kernel
theorem dX6_laid_24 : decode cX6_laid 24 = .ok (.getfield 79, 3) := by decide +kernel
theorem dX6_laid_27 : decode cX6_laid 27 = .ok (.ifCond .ne 8, 3) := by decide +kernel
theorem dX6_laid_30 : decode cX6_laid 30 = .ok (.bipush (-3), 2) := by decide +kernel
theorem dX6_laid_32 : decode cX6_laid 32 = .ok (.goto 22, 3) := by decide +kernel
theorem dX6_laid_35 : decode cX6_laid 35 = .ok (.iload_n 2, 1) := by decide +kernel
theorem dX6_laid_36 : decode cX6_laid 36 = .ok (.ifCond .ne 12, 3) := by decide +kernel
theorem dX6_laid_39 : decode cX6_laid 39 = .ok (.aload_n 0, 1) := by decide +kernel
theorem dX6_laid_40 : decode cX6_laid 40 = .ok (.getfield 48, 3) := by decide +kernel
theorem dX6_laid_43 : decode cX6_laid 43 = .ok (.iload_n 1, 1) := by decide +kernel
theorem dX6_laid_44 : decode cX6_laid 44 = .ok (.iaload, 1) := by decide +kernel
theorem dX6_laid_45 : decode cX6_laid 45 = .ok (.goto 9, 3) := by decide +kernel
theorem dX6_laid_48 : decode cX6_laid 48 = .ok (.aload_n 0, 1) := by decide +kernel
theorem dX6_laid_49 : decode cX6_laid 49 = .ok (.getfield 51, 3) := by decide +kernel
theorem dX6_laid_52 : decode cX6_laid 52 = .ok (.iload_n 1, 1) := by decide +kernel
theorem dX6_laid_53 : decode cX6_laid 53 = .ok (.iaload, 1) := by decide +kernel
theorem dX6_laid_54 : decode cX6_laid 54 = .ok (.ireturn, 1) := by decide +kernel
set_option maxRecDepth 20000 in
set_option maxHeartbeats 4000000 in
theorem k_M_laid (l : Launch) (w : WT) (σ : MM) (a : Int) (h : Int) (i_a : inr a) (i_h : inr h) : CT SX l w yX6_laid cX6_laid 3 (some .int) 2 46 [.ref (w.2.2 27), .int (iI a), .int (iI h)] σ (PI fun z σ1 => σ = σ1 ∧ (((a < 0 ∨ σ 61 0 ≤ a) ∧ z = -1) ∨ ((0 ≤ a ∧ a < σ 61 0) ∧ (((h < 0 ∨ 1 < h) ∧ z = -2) ∨ ((h = 0 ∨ h = 1) ∧ σ 63 0 = 0 ∧ z = -3) ∨ (σ 63 0 ≠ 0 ∧ ((h = 0 ∧ z = σ 38 a) ∨ (h = 1 ∧ z = σ 39 a))))))) := by
  refine CT.of 0 [some (.ref (w.2.2 27)), some (.int (iI a)), some (.int (iI h))] (by decide +kernel) (by simp [lg_sl, Value.category]) rfl sh_X (fun G hX => ?_)
  refine r_bd hX (fun hBd => ?_)
  have b_61 := hBd 61 0 8 rfl 0
  refine r_aload_n hX dX6_laid_0 rfl ?_
  refine r_iload_n hX dX6_laid_1 rfl ?_
  refine r_callV hX dX6_laid_2 (k_M_isAct l w σ _ (by omega)) mf_X6_isAct mv_X6_isAct lk_RX6_102 rfl rfl rfl rfl rfl ⟨Nat.le_of_ble_eq_true rfl, Nat.le_of_ble_eq_true rfl⟩ (Nat.le_of_ble_eq_true rfl) (kI fun z2 σ2 hh => ?_)
  obtain ⟨rfl, h2_0⟩ := hh
  refine r_if_ne hX (tgt := 10) dX6_laid_5 (by decide) (by omega) (fun c5 => ?_) (fun c5 => ?_)
  · skip
    refine r_iload_n hX dX6_laid_10 rfl ?_
    refine r_i2l hX dX6_laid_11 (by omega) ?_
    refine r_lconst hX (z := 0) dX6_laid_12 rfl ?_
    refine r_lconst hX (z := 1) dX6_laid_13 rfl ?_
    refine r_callS hX dX6_laid_14 (k_M_in l w σ _ _ _ (by omega) (by omega) (by omega)) mf_X6_in ms_X6_in lk_RX6_75 rfl rfl ⟨Nat.le_of_ble_eq_true rfl, Nat.le_of_ble_eq_true rfl⟩ (Nat.le_of_ble_eq_true rfl) (kI fun z14 σ14 hh => ?_)
    obtain ⟨rfl, h14_0⟩ := hh
    refine r_if_ne hX (tgt := 23) dX6_laid_17 (by decide) (by omega) (fun c17 => ?_) (fun c17 => ?_)
    · skip
      refine r_aload_n hX dX6_laid_23 rfl ?_
      refine fg_X27_79 hX dX6_laid_24 (fun b24l b24u => ?_)
      refine r_if_ne hX (tgt := 35) dX6_laid_27 (by decide) (by omega) (fun c27 => ?_) (fun c27 => ?_)
      · skip
        refine r_iload_n hX dX6_laid_35 rfl ?_
        refine r_if_ne hX (tgt := 48) dX6_laid_36 (by decide) (by omega) (fun c36 => ?_) (fun c36 => ?_)
        · skip
          refine r_aload_n hX dX6_laid_48 rfl ?_
          refine fg_X27_51 hX dX6_laid_49 ?_
          refine r_iload_n hX dX6_laid_52 rfl ?_
          refine ld_X39 hX dX6_laid_53 (by omega) (by omega) (fun b53l b53u => ?_)
          exact r_iret hX dX6_laid_54 rfl ⟨_, rfl, ⟨rfl, (by omega)⟩⟩
        · skip
          refine r_aload_n hX dX6_laid_39 rfl ?_
          refine fg_X27_48 hX dX6_laid_40 ?_
          refine r_iload_n hX dX6_laid_43 rfl ?_
          refine ld_X38 hX dX6_laid_44 (by omega) (by omega) (fun b44l b44u => ?_)
          refine r_goto hX dX6_laid_45 (tgt := 54) (by decide) ?_
          exact r_iret hX dX6_laid_54 rfl ⟨_, rfl, ⟨rfl, (by omega)⟩⟩
      · skip
        refine r_bipush hX dX6_laid_30 (by decide) ?_
        refine r_goto hX dX6_laid_32 (tgt := 54) (by decide) ?_
        exact r_iret hX dX6_laid_54 rfl ⟨_, rfl, ⟨rfl, (by omega)⟩⟩
    · skip
      refine r_bipush hX dX6_laid_20 (by decide) ?_
      exact r_iret hX dX6_laid_22 rfl ⟨_, rfl, ⟨rfl, (by omega)⟩⟩
  · skip
    refine r_iconst hX dX6_laid_8 ?_
    exact r_iret hX dX6_laid_9 rfl ⟨_, rfl, ⟨rfl, (by omega)⟩⟩
theorem dX6_kept_0 : decode cX6_kept 0 = .ok (.aload_n 0, 1) := by decide +kernel
theorem dX6_kept_1 : decode cX6_kept 1 = .ok (.iload_n 1, 1) := by decide +kernel
theorem dX6_kept_2 : decode cX6_kept 2 = .ok (.invokevirtual 102, 3) := by decide +kernel
theorem dX6_kept_5 : decode cX6_kept 5 = .ok (.ifCond .ne 5, 3) := by decide +kernel
theorem dX6_kept_8 : decode cX6_kept 8 = .ok (.iconst (-1), 1) := by decide +kernel
theorem dX6_kept_9 : decode cX6_kept 9 = .ok (.ireturn, 1) := by decide +kernel
theorem dX6_kept_10 : decode cX6_kept 10 = .ok (.aload_n 0, 1) := by decide +kernel
theorem dX6_kept_11 : decode cX6_kept 11 = .ok (.invokevirtual 157, 3) := by decide +kernel
theorem dX6_kept_14 : decode cX6_kept 14 = .ok (.istore_n 2, 1) := by decide +kernel
theorem dX6_kept_15 : decode cX6_kept 15 = .ok (.iload_n 2, 1) := by decide +kernel
theorem dX6_kept_16 : decode cX6_kept 16 = .ok (.ifCond .ge 5, 3) := by decide +kernel
theorem dX6_kept_19 : decode cX6_kept 19 = .ok (.iload_n 2, 1) := by decide +kernel
theorem dX6_kept_20 : decode cX6_kept 20 = .ok (.ireturn, 1) := by decide +kernel
theorem dX6_kept_21 : decode cX6_kept 21 = .ok (.aload_n 0, 1) := by decide +kernel
theorem dX6_kept_22 : decode cX6_kept 22 = .ok (.getfield 51, 3) := by decide +kernel
theorem dX6_kept_25 : decode cX6_kept 25 = .ok (.iload_n 1, 1) := by decide +kernel
theorem dX6_kept_26 : decode cX6_kept 26 = .ok (.iaload, 1) := by decide +kernel
theorem dX6_kept_27 : decode cX6_kept 27 = .ok (.aload_n 0, 1) := by decide +kernel
theorem dX6_kept_28 : decode cX6_kept 28 = .ok (.iload_n 1, 1) := by decide +kernel
theorem dX6_kept_29 : decode cX6_kept 29 = .ok (.invokevirtual 130, 3) := by decide +kernel
theorem dX6_kept_32 : decode cX6_kept 32 = .ok (.iadd, 1) := by decide +kernel
theorem dX6_kept_33 : decode cX6_kept 33 = .ok (.istore_n 3, 1) := by decide +kernel
theorem dX6_kept_34 : decode cX6_kept 34 = .ok (.iload_n 3, 1) := by decide +kernel
theorem dX6_kept_35 : decode cX6_kept 35 = .ok (.istore 4, 2) := by decide +kernel
theorem dX6_kept_37 : decode cX6_kept 37 = .ok (.iconst 0, 1) := by decide +kernel
theorem dX6_kept_38 : decode cX6_kept 38 = .ok (.istore 5, 2) := by decide +kernel
theorem dX6_kept_40 : decode cX6_kept 40 = .ok (.iload 5, 2) := by decide +kernel
theorem dX6_kept_42 : decode cX6_kept 42 = .ok (.iconst 2, 1) := by decide +kernel
theorem dX6_kept_43 : decode cX6_kept 43 = .ok (.aload_n 0, 1) := by decide +kernel
theorem dX6_kept_44 : decode cX6_kept 44 = .ok (.getfield 72, 3) := by decide +kernel
theorem dX6_kept_47 : decode cX6_kept 47 = .ok (.imul, 1) := by decide +kernel
theorem dX6_kept_48 : decode cX6_kept 48 = .ok (.if_icmp .ge 72, 3) := by decide +kernel
theorem dX6_kept_51 : decode cX6_kept 51 = .ok (.aload_n 0, 1) := by decide +kernel
theorem dX6_kept_52 : decode cX6_kept 52 = .ok (.getfield 7, 3) := by decide +kernel
theorem dX6_kept_55 : decode cX6_kept 55 = .ok (.iload 5, 2) := by decide +kernel
theorem dX6_kept_57 : decode cX6_kept 57 = .ok (.iconst 2, 1) := by decide +kernel
theorem dX6_kept_58 : decode cX6_kept 58 = .ok (.idiv, 1) := by decide +kernel
theorem dX6_kept_59 : decode cX6_kept 59 = .ok (.iaload, 1) := by decide +kernel
theorem dX6_kept_60 : decode cX6_kept 60 = .ok (.ifCond .le 54, 3) := by decide +kernel
theorem dX6_kept_63 : decode cX6_kept 63 = .ok (.aload_n 0, 1) := by decide +kernel
theorem dX6_kept_64 : decode cX6_kept 64 = .ok (.getfield 13, 3) := by decide +kernel
theorem dX6_kept_67 : decode cX6_kept 67 = .ok (.iload 5, 2) := by decide +kernel
theorem dX6_kept_69 : decode cX6_kept 69 = .ok (.iaload, 1) := by decide +kernel
theorem dX6_kept_70 : decode cX6_kept 70 = .ok (.iload_n 1, 1) := by decide +kernel
theorem dX6_kept_71 : decode cX6_kept 71 = .ok (.if_icmp .ne 43, 3) := by decide +kernel
theorem dX6_kept_74 : decode cX6_kept 74 = .ok (.aload_n 0, 1) := by decide +kernel
theorem dX6_kept_75 : decode cX6_kept 75 = .ok (.getfield 51, 3) := by decide +kernel
theorem dX6_kept_78 : decode cX6_kept 78 = .ok (.iload 5, 2) := by decide +kernel
theorem dX6_kept_80 : decode cX6_kept 80 = .ok (.iconst 2, 1) := by decide +kernel
theorem dX6_kept_81 : decode cX6_kept 81 = .ok (.idiv, 1) := by decide +kernel
theorem dX6_kept_82 : decode cX6_kept 82 = .ok (.iaload, 1) := by decide +kernel
theorem dX6_kept_83 : decode cX6_kept 83 = .ok (.aload_n 0, 1) := by decide +kernel
theorem dX6_kept_84 : decode cX6_kept 84 = .ok (.getfield 16, 3) := by decide +kernel
theorem dX6_kept_87 : decode cX6_kept 87 = .ok (.iload 5, 2) := by decide +kernel
theorem dX6_kept_89 : decode cX6_kept 89 = .ok (.iaload, 1) := by decide +kernel
theorem dX6_kept_90 : decode cX6_kept 90 = .ok (.aload_n 0, 1) := by decide +kernel
theorem dX6_kept_91 : decode cX6_kept 91 = .ok (.getfield 79, 3) := by decide +kernel
theorem dX6_kept_94 : decode cX6_kept 94 = .ok (.imul, 1) := by decide +kernel
theorem dX6_kept_95 : decode cX6_kept 95 = .ok (.iadd, 1) := by decide +kernel
theorem dX6_kept_96 : decode cX6_kept 96 = .ok (.istore 6, 2) := by decide +kernel
theorem dX6_kept_98 : decode cX6_kept 98 = .ok (.iload 6, 2) := by decide +kernel
theorem dX6_kept_100 : decode cX6_kept 100 = .ok (.iload 4, 2) := by decide +kernel
theorem dX6_kept_102 : decode cX6_kept 102 = .ok (.if_icmp .le 8, 3) := by decide +kernel
theorem dX6_kept_105 : decode cX6_kept 105 = .ok (.iload 6, 2) := by decide +kernel
theorem dX6_kept_107 : decode cX6_kept 107 = .ok (.goto 5, 3) := by decide +kernel
theorem dX6_kept_110 : decode cX6_kept 110 = .ok (.iload 4, 2) := by decide +kernel
theorem dX6_kept_112 : decode cX6_kept 112 = .ok (.istore 4, 2) := by decide +kernel
theorem dX6_kept_114 : decode cX6_kept 114 = .ok (.iinc 5 1, 3) := by decide +kernel
theorem dX6_kept_117 : decode cX6_kept 117 = .ok (.goto (-77), 3) := by decide +kernel
theorem dX6_kept_120 : decode cX6_kept 120 = .ok (.iload 4, 2) := by decide +kernel
theorem dX6_kept_122 : decode cX6_kept 122 = .ok (.iload_n 3, 1) := by decide +kernel
theorem dX6_kept_123 : decode cX6_kept 123 = .ok (.isub, 1) := by decide +kernel
theorem dX6_kept_124 : decode cX6_kept 124 = .ok (.aload_n 0, 1) := by decide +kernel
theorem dX6_kept_125 : decode cX6_kept 125 = .ok (.getfield 79, 3) := by decide +kernel
theorem dX6_kept_128 : decode cX6_kept 128 = .ok (.idiv, 1) := by decide +kernel
theorem dX6_kept_129 : decode cX6_kept 129 = .ok (.iconst 1, 1) := by decide +kernel
theorem dX6_kept_130 : decode cX6_kept 130 = .ok (.iadd, 1) := by decide +kernel
theorem dX6_kept_131 : decode cX6_kept 131 = .ok (.ireturn, 1) := by decide +kernel
set_option maxRecDepth 20000 in
set_option maxHeartbeats 4000000 in
theorem k_M_kept (l : Launch) (w : WT) (σ : MM) (a : Int) (i_a : inr a) (W : Int → Int) (hW : WayM σ W) (hLa : LayM σ) : CT SX l w yX6_kept cX6_kept 7 (some .int) 5 115 [.ref (w.2.2 27), .int (iI a)] σ (PI fun z σ1 => Mod [33, 37] σ σ1 ∧ (((a < 0 ∨ σ 61 0 ≤ a) ∧ z = -1) ∨ ((0 ≤ a ∧ a < σ 61 0) ∧ ((σ 63 0 = 0 ∧ z = -3) ∨ (0 < σ 63 0 ∧ BadM σ W ∧ z = -5) ∨ (GoodM σ W ∧ ∃ y : Int, IsMax (fun s => sM (σ 28) (σ 29) s = a) (useM σ) (2 * σ 61 0) (madeM σ a) y ∧ z = (y - madeM σ a) / σ 63 0 + 1))))) := by
  refine CT.of 5 [some (.ref (w.2.2 27)), some (.int (iI a)), none, none, none, none, none] (by decide +kernel) (by simp [lg_sl, Value.category]) rfl sh_X (fun G hX => ?_)
  refine r_bd hX (fun hBd => ?_)
  have b_61 := hBd 61 0 8 rfl 0
  have b_63 := hBd 63 0 12 rfl 0
  refine r_aload_n hX dX6_kept_0 rfl ?_
  refine r_iload_n hX dX6_kept_1 rfl ?_
  refine r_callV hX dX6_kept_2 (k_M_isAct l w σ _ (by omega)) mf_X6_isAct mv_X6_isAct lk_RX6_102 rfl rfl rfl rfl rfl ⟨Nat.le_of_ble_eq_true rfl, Nat.le_of_ble_eq_true rfl⟩ (Nat.le_of_ble_eq_true rfl) (kI fun z2 σ2 hh => ?_)
  obtain ⟨rfl, h2_0⟩ := hh
  refine r_if_ne hX (tgt := 10) dX6_kept_5 (by decide) (by omega) (fun c5 => ?_) (fun c5 => ?_)
  · skip
    refine r_aload_n hX dX6_kept_10 rfl ?_
    refine r_callV hX dX6_kept_11 (k_M_whyNot l w σ _ (hW) (by omega)) mf_X6_whyNot mv_X6_whyNot lk_RX6_157 rfl rfl rfl rfl rfl ⟨Nat.le_of_ble_eq_true rfl, Nat.le_of_ble_eq_true rfl⟩ (Nat.le_of_ble_eq_true rfl) (kI fun z11 σ11 hh => ?_)
    obtain ⟨m11, h11_0⟩ := hh
    refine r_istore_n hX (fun x14 => [some (.ref (w.2.2 27)), some (.int (iI a)), some (.int (iI x14)), none, none, none, none]) dX6_kept_14 (Nat.le_of_ble_eq_true rfl) rfl rfl (fun _ => rfl) (fun x14 e14 => ?_)
    have hrg := h11_0.rng
    refine r_iload_n hX dX6_kept_15 rfl ?_
    refine r_if_ge hX (tgt := 21) dX6_kept_16 (by decide) (by omega) (fun c16 => ?_) (fun c16 => ?_)
    · skip
      have hg := h11_0.good (by omega)
      have hb63 := hg.1
      clear h11_0
      refine r_aload_n hX dX6_kept_21 rfl ?_
      refine fg_X27_51 hX dX6_kept_22 ?_
      refine r_iload_n hX dX6_kept_25 rfl ?_
      refine ld_X39 hX dX6_kept_26 (by omega) (by omega) (fun b26l b26u => ?_)
      have q26 : σ11 39 = σ 39 := (m11.at 39 rfl)
      rw [q26]
      rw [q26] at b26l b26u
      refine r_aload_n hX dX6_kept_27 rfl ?_
      refine r_iload_n hX dX6_kept_28 rfl ?_
      refine r_callV hX dX6_kept_29 (k_M_lengthOf l w σ11 _ (by omega) (by omega)) mf_X6_lengthOf mv_X6_lengthOf lk_RX6_130 rfl rfl rfl rfl rfl ⟨Nat.le_of_ble_eq_true rfl, Nat.le_of_ble_eq_true rfl⟩ (Nat.le_of_ble_eq_true rfl) (kI fun z29 σ29 hh => ?_)
      obtain ⟨rfl, h29_0, h29_1⟩ := hh
      have q29_1 : σ11 28 = σ 28 := (m11.at 28 rfl)
      try simp only [q29_1] at h29_0
      refine r_iadd hX dX6_kept_32 ?_
      refine r_istore_n hX (fun x33 => [some (.ref (w.2.2 27)), some (.int (iI a)), some (.int (iI x14)), some (.int (iI x33)), none, none, none]) dX6_kept_33 (Nat.le_of_ble_eq_true rfl) rfl rfl (fun _ => rfl) (fun x33 e33 => ?_)
      have hx33 : x33 = madeM σ a := by unfold madeM; omega
      have hlb := @lenF_bd (σ 28) a
      have hx0 : 1 ≤ x33 := by omega
      refine r_iload_n hX dX6_kept_34 rfl ?_
      refine r_istore hX (fun x35 => [some (.ref (w.2.2 27)), some (.int (iI a)), some (.int (iI x14)), some (.int (iI x33)), some (.int (iI x35)), none, none]) dX6_kept_35 (Nat.le_of_ble_eq_true rfl) rfl rfl (fun _ => rfl) (fun x35 e35 => ?_)
      refine r_iconst hX dX6_kept_37 ?_
      refine r_istore hX (fun x38 => [some (.ref (w.2.2 27)), some (.int (iI a)), some (.int (iI x14)), some (.int (iI x33)), some (.int (iI x35)), some (.int (iI x38)), none]) dX6_kept_38 (Nat.le_of_ble_eq_true rfl) rfl rfl (fun _ => rfl) (fun x38 e38 => ?_)
      have lp40 : ∀ (n : Nat) (last : Int) (s : Int) (hs : 0 ≤ s ∧ s ≤ 2 * σ 61 0) (hl0 : 1 ≤ last ∧ last ≤ 20000036) (hM : IsMax (fun s => sM (σ 28) (σ 29) s = a) (useM σ) s (madeM σ a) last) (hmu : 17 - s < (n : Int)), G 40 [some (.ref (w.2.2 27)), some (.int (iI a)), some (.int (iI x14)), some (.int (iI x33)), some (.int (iI last)), some (.int (iI s)), none] [] σ11 := by
        intro n
        induction n with
        | zero => intro last s hs hl0 hM hmu; omega
        | succ n ih =>
          intro last s hs hl0 hM hmu
          have ih40 := ih
          clear ih
          refine r_iload hX dX6_kept_40 rfl ?_
          refine r_iconst hX dX6_kept_42 ?_
          refine r_aload_n hX dX6_kept_43 rfl ?_
          refine fg_X27_72 hX dX6_kept_44 (fun b44l b44u => ?_)
          have q44 : σ11 61 = σ 61 := (m11.at 61 rfl)
          rw [q44]
          rw [q44] at b44l b44u
          refine r_imul hX dX6_kept_47 ?_
          refine r_icmp_ge hX (tgt := 120) dX6_kept_48 (by decide) (by omega) (by omega) (fun c48 => ?_) (fun c48 => ?_)
          · skip
            refine r_iload hX dX6_kept_120 rfl ?_
            refine r_iload_n hX dX6_kept_122 rfl ?_
            refine r_isub hX dX6_kept_123 ?_
            have hl9 := hM.1
            refine r_aload_n hX dX6_kept_124 rfl ?_
            refine fg_X27_79 hX dX6_kept_125 (fun b125l b125u => ?_)
            have q125 : σ11 63 = σ 63 := (m11.at 63 rfl)
            rw [q125]
            rw [q125] at b125l b125u
            have hd := Int.ediv_le_self (b := σ 63 0) (show 0 ≤ last - x33 by omega)
            refine r_idiv hX dX6_kept_128 (by omega) (by omega) (by omega) (by omega) ?_
            refine r_iconst hX dX6_kept_129 ?_
            refine r_iadd hX dX6_kept_130 ?_
            exact r_iret hX dX6_kept_131 rfl ⟨_, rfl, ⟨(m11.w rfl), (by exact Or.inr ⟨by omega, Or.inr (Or.inr ⟨hg, last, (show s = 2 * σ 61 0 by omega) ▸ hM, by rw [← hx33]⟩)⟩)⟩⟩
          · skip
            refine r_aload_n hX dX6_kept_51 rfl ?_
            refine fg_X27_7 hX dX6_kept_52 ?_
            refine r_iload hX dX6_kept_55 rfl ?_
            refine r_iconst hX dX6_kept_57 ?_
            refine r_idiv hX dX6_kept_58 (by omega) (by omega) (by omega) (by omega) ?_
            refine ld_X28 hX dX6_kept_59 (by omega) (by omega) (fun b59l b59u => ?_)
            have q59 : σ11 28 = σ 28 := (m11.at 28 rfl)
            rw [q59]
            rw [q59] at b59l b59u
            refine r_if_le hX (tgt := 114) dX6_kept_60 (by decide) (by omega) (fun c60 => ?_) (fun c60 => ?_)
            · skip
              refine r_iinc hX (fun x114 => [some (.ref (w.2.2 27)), some (.int (iI a)), some (.int (iI x14)), some (.int (iI x33)), some (.int (iI last)), some (.int (iI x114)), none]) dX6_kept_114 rfl rfl rfl (fun _ => rfl) (fun x114 e114 => ?_)
              refine r_goto hX dX6_kept_117 (tgt := 40) (by decide) ?_
              exact ih40 last x114 (by omega) (by omega) (by first | exact hM.skip (by rw [sM_0 (by omega)]; omega) e114 | exact hM.skip (by rw [sM_1 (by omega)]; omega) e114 | exact hM.take (by omega) (by show sM _ _ _ = _; rw [sM_1 (by omega)]; omega) (by omega) e114) (by omega)
            · skip
              refine r_aload_n hX dX6_kept_63 rfl ?_
              refine fg_X27_13 hX dX6_kept_64 ?_
              refine r_iload hX dX6_kept_67 rfl ?_
              refine ld_X29 hX dX6_kept_69 (by omega) (by omega) (fun b69l b69u => ?_)
              have q69 : σ11 29 = σ 29 := (m11.at 29 rfl)
              rw [q69]
              rw [q69] at b69l b69u
              refine r_iload_n hX dX6_kept_70 rfl ?_
              refine r_icmp_ne hX (tgt := 114) dX6_kept_71 (by decide) (by omega) (by omega) (fun c71 => ?_) (fun c71 => ?_)
              · skip
                refine r_iinc hX (fun x114 => [some (.ref (w.2.2 27)), some (.int (iI a)), some (.int (iI x14)), some (.int (iI x33)), some (.int (iI last)), some (.int (iI x114)), none]) dX6_kept_114 rfl rfl rfl (fun _ => rfl) (fun x114 e114 => ?_)
                refine r_goto hX dX6_kept_117 (tgt := 40) (by decide) ?_
                exact ih40 last x114 (by omega) (by omega) (by first | exact hM.skip (by rw [sM_0 (by omega)]; omega) e114 | exact hM.skip (by rw [sM_1 (by omega)]; omega) e114 | exact hM.take (by omega) (by show sM _ _ _ = _; rw [sM_1 (by omega)]; omega) (by omega) e114) (by omega)
              · skip
                refine r_aload_n hX dX6_kept_74 rfl ?_
                refine fg_X27_51 hX dX6_kept_75 ?_
                refine r_iload hX dX6_kept_78 rfl ?_
                refine r_iconst hX dX6_kept_80 ?_
                refine r_idiv hX dX6_kept_81 (by omega) (by omega) (by omega) (by omega) ?_
                refine ld_X39 hX dX6_kept_82 (by omega) (by omega) (fun b82l b82u => ?_)
                have q82 : σ11 39 = σ 39 := (m11.at 39 rfl)
                rw [q82]
                rw [q82] at b82l b82u
                refine r_aload_n hX dX6_kept_83 rfl ?_
                refine fg_X27_16 hX dX6_kept_84 ?_
                refine r_iload hX dX6_kept_87 rfl ?_
                refine ld_X30 hX dX6_kept_89 (by omega) (by omega) (fun b89l b89u => ?_)
                have q89 : σ11 30 = σ 30 := (m11.at 30 rfl)
                rw [q89]
                rw [q89] at b89l b89u
                refine r_aload_n hX dX6_kept_90 rfl ?_
                refine fg_X27_79 hX dX6_kept_91 (fun b91l b91u => ?_)
                have q91 : σ11 63 = σ 63 := (m11.at 63 rfl)
                rw [q91]
                rw [q91] at b91l b91u
                have hp := pm (a := σ 30 s) (A := 3) (b := σ 63 0) (B := 12) (by omega) (by omega)
                refine r_imul hX dX6_kept_94 ?_
                refine r_iadd hX dX6_kept_95 ?_
                refine r_istore hX (fun x96 => [some (.ref (w.2.2 27)), some (.int (iI a)), some (.int (iI x14)), some (.int (iI x33)), some (.int (iI last)), some (.int (iI s)), some (.int (iI x96))]) dX6_kept_96 (Nat.le_of_ble_eq_true rfl) rfl rfl (fun _ => rfl) (fun x96 e96 => ?_)
                have hu : x96 = useM σ s := by unfold useM; omega
                refine r_iload hX dX6_kept_98 rfl ?_
                refine r_iload hX dX6_kept_100 rfl ?_
                refine r_icmp_le hX (tgt := 110) dX6_kept_102 (by decide) (by omega) (by omega) (fun c102 => ?_) (fun c102 => ?_)
                · skip
                  refine r_iload hX dX6_kept_110 rfl ?_
                  refine r_istore hX (fun x112 => [some (.ref (w.2.2 27)), some (.int (iI a)), some (.int (iI x14)), some (.int (iI x33)), some (.int (iI x112)), some (.int (iI s)), some (.int (iI x96))]) dX6_kept_112 (Nat.le_of_ble_eq_true rfl) rfl rfl (fun _ => rfl) (fun x112 e112 => ?_)
                  refine r_iinc hX (fun x114 => [some (.ref (w.2.2 27)), some (.int (iI a)), some (.int (iI x14)), some (.int (iI x33)), some (.int (iI x112)), some (.int (iI x114)), some (.int (iI x96))]) dX6_kept_114 rfl rfl rfl (fun _ => rfl) (fun x114 e114 => ?_)
                  refine r_goto hX dX6_kept_117 (tgt := 40) (by decide) ?_
                  refine r_wk hX (lv1 := [some (.ref (w.2.2 27)), some (.int (iI a)), some (.int (iI x14)), some (.int (iI x33)), some (.int (iI x112)), some (.int (iI x114)), none]) ⟨rfl, ⟨rfl, ⟨rfl, ⟨rfl, ⟨rfl, ⟨rfl, trivial⟩⟩⟩⟩⟩⟩ ?_
                  exact ih40 x112 x114 (by omega) (by omega) (by first | exact hM.skip (by rw [sM_0 (by omega)]; omega) e114 | exact hM.skip (by rw [sM_1 (by omega)]; omega) e114 | exact hM.take (by omega) (by show sM _ _ _ = _; rw [sM_1 (by omega)]; omega) (by omega) e114) (by omega)
                · skip
                  refine r_iload hX dX6_kept_105 rfl ?_
                  refine r_goto hX dX6_kept_107 (tgt := 112) (by decide) ?_
                  refine r_istore hX (fun x112 => [some (.ref (w.2.2 27)), some (.int (iI a)), some (.int (iI x14)), some (.int (iI x33)), some (.int (iI x112)), some (.int (iI s)), some (.int (iI x96))]) dX6_kept_112 (Nat.le_of_ble_eq_true rfl) rfl rfl (fun _ => rfl) (fun x112 e112 => ?_)
                  refine r_iinc hX (fun x114 => [some (.ref (w.2.2 27)), some (.int (iI a)), some (.int (iI x14)), some (.int (iI x33)), some (.int (iI x112)), some (.int (iI x114)), some (.int (iI x96))]) dX6_kept_114 rfl rfl rfl (fun _ => rfl) (fun x114 e114 => ?_)
                  refine r_goto hX dX6_kept_117 (tgt := 40) (by decide) ?_
                  refine r_wk hX (lv1 := [some (.ref (w.2.2 27)), some (.int (iI a)), some (.int (iI x14)), some (.int (iI x33)), some (.int (iI x112)), some (.int (iI x114)), none]) ⟨rfl, ⟨rfl, ⟨rfl, ⟨rfl, ⟨rfl, ⟨rfl, trivial⟩⟩⟩⟩⟩⟩ ?_
                  exact ih40 x112 x114 (by omega) (by omega) (by first | exact hM.skip (by rw [sM_0 (by omega)]; omega) e114 | exact hM.skip (by rw [sM_1 (by omega)]; omega) e114 | exact hM.take (by omega) (by show sM _ _ _ = _; rw [sM_1 (by omega)]; omega) (by omega) e114) (by omega)
      exact lp40 ((17 - (x38)) + 1).toNat x35 x38 (by omega) (by omega) (by rw [e35, ← hx33]; exact IsMax.init e38) (by omega)
    · skip
      refine r_iload_n hX dX6_kept_19 rfl ?_
      exact r_iret hX dX6_kept_20 rfl ⟨_, rfl, ⟨(m11.w rfl), (by refine Or.inr ⟨by omega, ?_⟩; rcases h11_0 with ⟨q1, q2⟩ | ⟨q1, q2, q3⟩ | ⟨q1, q2⟩; exact Or.inl ⟨q1, by omega⟩; exact Or.inr (Or.inl ⟨q1, q2, by clear q2; omega⟩); (exfalso; clear q1; omega))⟩⟩
  · skip
    refine r_iconst hX dX6_kept_8 ?_
    exact r_iret hX dX6_kept_9 rfl ⟨_, rfl, ⟨Mod.rf, (by exact Or.inl ⟨by omega, rfl⟩)⟩⟩
theorem dX6_step_0 : decode cX6_step 0 = .ok (.iload_n 1, 1) := by decide +kernel
theorem dX6_step_1 : decode cX6_step 1 = .ok (.i2l, 1) := by decide +kernel
theorem dX6_step_2 : decode cX6_step 2 = .ok (.lconst 1, 1) := by decide +kernel
theorem dX6_step_3 : decode cX6_step 3 = .ok (.ldc2_w 120, 3) := by decide +kernel
theorem dX6_step_6 : decode cX6_step 6 = .ok (.invokestatic 75, 3) := by decide +kernel
theorem dX6_step_9 : decode cX6_step 9 = .ok (.ifCond .ne 6, 3) := by decide +kernel
theorem dX6_step_12 : decode cX6_step 12 = .ok (.bipush (-2), 2) := by decide +kernel
theorem dX6_step_14 : decode cX6_step 14 = .ok (.ireturn, 1) := by decide +kernel
theorem dX6_step_15 : decode cX6_step 15 = .ok (.aload_n 0, 1) := by decide +kernel
theorem dX6_step_16 : decode cX6_step 16 = .ok (.invokevirtual 157, 3) := by decide +kernel
theorem dX6_step_19 : decode cX6_step 19 = .ok (.istore_n 2, 1) := by decide +kernel
theorem dX6_step_20 : decode cX6_step 20 = .ok (.iload_n 2, 1) := by decide +kernel
theorem dX6_step_21 : decode cX6_step 21 = .ok (.ifCond .ge 5, 3) := by decide +kernel
theorem dX6_step_24 : decode cX6_step 24 = .ok (.iload_n 2, 1) := by decide +kernel
theorem dX6_step_25 : decode cX6_step 25 = .ok (.ireturn, 1) := by decide +kernel
theorem dX6_step_26 : decode cX6_step 26 = .ok (.aload_n 0, 1) := by decide +kernel
theorem dX6_step_27 : decode cX6_step 27 = .ok (.iload_n 1, 1) := by decide +kernel
theorem dX6_step_28 : decode cX6_step 28 = .ok (.putfield 82, 3) := by decide +kernel
theorem dX6_step_31 : decode cX6_step 31 = .ok (.iconst 0, 1) := by decide +kernel
theorem dX6_step_32 : decode cX6_step 32 = .ok (.istore_n 3, 1) := by decide +kernel
theorem dX6_step_33 : decode cX6_step 33 = .ok (.iconst 0, 1) := by decide +kernel
theorem dX6_step_34 : decode cX6_step 34 = .ok (.istore 4, 2) := by decide +kernel
theorem dX6_step_36 : decode cX6_step 36 = .ok (.iload 4, 2) := by decide +kernel
theorem dX6_step_38 : decode cX6_step 38 = .ok (.aload_n 0, 1) := by decide +kernel
theorem dX6_step_39 : decode cX6_step 39 = .ok (.getfield 72, 3) := by decide +kernel
theorem dX6_step_42 : decode cX6_step 42 = .ok (.if_icmp .ge 47, 3) := by decide +kernel
theorem dX6_step_45 : decode cX6_step 45 = .ok (.aload_n 0, 1) := by decide +kernel
theorem dX6_step_46 : decode cX6_step 46 = .ok (.getfield 51, 3) := by decide +kernel
theorem dX6_step_49 : decode cX6_step 49 = .ok (.iload 4, 2) := by decide +kernel
theorem dX6_step_51 : decode cX6_step 51 = .ok (.iaload, 1) := by decide +kernel
theorem dX6_step_52 : decode cX6_step 52 = .ok (.aload_n 0, 1) := by decide +kernel
theorem dX6_step_53 : decode cX6_step 53 = .ok (.iload 4, 2) := by decide +kernel
theorem dX6_step_55 : decode cX6_step 55 = .ok (.invokevirtual 130, 3) := by decide +kernel
theorem dX6_step_58 : decode cX6_step 58 = .ok (.iadd, 1) := by decide +kernel
theorem dX6_step_59 : decode cX6_step 59 = .ok (.iload_n 1, 1) := by decide +kernel
theorem dX6_step_60 : decode cX6_step 60 = .ok (.iconst 1, 1) := by decide +kernel
theorem dX6_step_61 : decode cX6_step 61 = .ok (.isub, 1) := by decide +kernel
theorem dX6_step_62 : decode cX6_step 62 = .ok (.aload_n 0, 1) := by decide +kernel
theorem dX6_step_63 : decode cX6_step 63 = .ok (.getfield 79, 3) := by decide +kernel
theorem dX6_step_66 : decode cX6_step 66 = .ok (.imul, 1) := by decide +kernel
theorem dX6_step_67 : decode cX6_step 67 = .ok (.iadd, 1) := by decide +kernel
theorem dX6_step_68 : decode cX6_step 68 = .ok (.istore 5, 2) := by decide +kernel
theorem dX6_step_70 : decode cX6_step 70 = .ok (.iload 5, 2) := by decide +kernel
theorem dX6_step_72 : decode cX6_step 72 = .ok (.iload_n 3, 1) := by decide +kernel
theorem dX6_step_73 : decode cX6_step 73 = .ok (.if_icmp .le 8, 3) := by decide +kernel
theorem dX6_step_76 : decode cX6_step 76 = .ok (.iload 5, 2) := by decide +kernel
theorem dX6_step_78 : decode cX6_step 78 = .ok (.goto 4, 3) := by decide +kernel
theorem dX6_step_81 : decode cX6_step 81 = .ok (.iload_n 3, 1) := by decide +kernel
theorem dX6_step_82 : decode cX6_step 82 = .ok (.istore_n 3, 1) := by decide +kernel
theorem dX6_step_83 : decode cX6_step 83 = .ok (.iinc 4 1, 3) := by decide +kernel
theorem dX6_step_86 : decode cX6_step 86 = .ok (.goto (-50), 3) := by decide +kernel
theorem dX6_step_89 : decode cX6_step 89 = .ok (.iload_n 3, 1) := by decide +kernel
theorem dX6_step_90 : decode cX6_step 90 = .ok (.ireturn, 1) := by decide +kernel
set_option maxRecDepth 20000 in
set_option maxHeartbeats 4000000 in
theorem k_M_step (l : Launch) (w : WT) (σ : MM) (R : Int) (i_R : inr R) (W : Int → Int) (hW : WayM σ W) (hLa : LayM σ) : CT SX l w yX6_step cX6_step 6 (some .int) 5 115 [.ref (w.2.2 27), .int (iI R)] σ (PI fun z σ1 => Mod [33, 37, 64] σ σ1 ∧ (((R < 1 ∨ 60 < R) ∧ z = -2 ∧ σ1 64 = σ 64) ∨ ((1 ≤ R ∧ R ≤ 60) ∧ ((σ 63 0 = 0 ∧ z = -3 ∧ σ1 64 = σ 64) ∨ (0 < σ 63 0 ∧ BadM σ W ∧ z = -5 ∧ σ1 64 = σ 64) ∨ (GoodM σ W ∧ IsMax (fun _ => True) (fun a => madeM σ a + (R - 1) * σ 63 0) (σ 61 0) 0 z ∧ σ1 64 0 = R))))) := by
  refine CT.of 4 [some (.ref (w.2.2 27)), some (.int (iI R)), none, none, none, none] (by decide +kernel) (by simp [lg_sl, Value.category]) rfl sh_X (fun G hX => ?_)
  refine r_bd hX (fun hBd => ?_)
  have b_61 := hBd 61 0 8 rfl 0
  have b_63 := hBd 63 0 12 rfl 0
  refine r_iload_n hX dX6_step_0 rfl ?_
  refine r_i2l hX dX6_step_1 (by omega) ?_
  refine r_lconst hX (z := 1) dX6_step_2 rfl ?_
  refine r_ldc2 hX dX6_step_3 lc_RX6_120 ?_
  refine r_callS hX dX6_step_6 (k_M_in l w σ _ _ _ (by omega) (by omega) (by omega)) mf_X6_in ms_X6_in lk_RX6_75 rfl rfl ⟨Nat.le_of_ble_eq_true rfl, Nat.le_of_ble_eq_true rfl⟩ (Nat.le_of_ble_eq_true rfl) (kI fun z6 σ6 hh => ?_)
  obtain ⟨rfl, h6_0⟩ := hh
  refine r_if_ne hX (tgt := 15) dX6_step_9 (by decide) (by omega) (fun c9 => ?_) (fun c9 => ?_)
  · skip
    refine r_aload_n hX dX6_step_15 rfl ?_
    refine r_callV hX dX6_step_16 (k_M_whyNot l w σ _ (hW) (by omega)) mf_X6_whyNot mv_X6_whyNot lk_RX6_157 rfl rfl rfl rfl rfl ⟨Nat.le_of_ble_eq_true rfl, Nat.le_of_ble_eq_true rfl⟩ (Nat.le_of_ble_eq_true rfl) (kI fun z16 σ16 hh => ?_)
    obtain ⟨m16, h16_0⟩ := hh
    refine r_istore_n hX (fun x19 => [some (.ref (w.2.2 27)), some (.int (iI R)), some (.int (iI x19)), none, none, none]) dX6_step_19 (Nat.le_of_ble_eq_true rfl) rfl rfl (fun _ => rfl) (fun x19 e19 => ?_)
    have hrg := h16_0.rng
    refine r_iload_n hX dX6_step_20 rfl ?_
    refine r_if_ge hX (tgt := 26) dX6_step_21 (by decide) (by omega) (fun c21 => ?_) (fun c21 => ?_)
    · skip
      have hg := h16_0.good (by omega)
      have hb63 := hg.1
      clear h16_0
      refine r_aload_n hX dX6_step_26 rfl ?_
      refine r_iload_n hX dX6_step_27 rfl ?_
      refine fp_X27_82 hX dX6_step_28 (by omega) (fun σ28 m28 s28 => ?_)
      refine r_iconst hX dX6_step_31 ?_
      refine r_istore_n hX (fun x32 => [some (.ref (w.2.2 27)), some (.int (iI R)), some (.int (iI x19)), some (.int (iI x32)), none, none]) dX6_step_32 (Nat.le_of_ble_eq_true rfl) rfl rfl (fun _ => rfl) (fun x32 e32 => ?_)
      refine r_iconst hX dX6_step_33 ?_
      refine r_istore hX (fun x34 => [some (.ref (w.2.2 27)), some (.int (iI R)), some (.int (iI x19)), some (.int (iI x32)), some (.int (iI x34)), none]) dX6_step_34 (Nat.le_of_ble_eq_true rfl) rfl rfl (fun _ => rfl) (fun x34 e34 => ?_)
      have lp36 : ∀ (n : Nat) (last : Int) (a : Int) (ha : 0 ≤ a ∧ a ≤ σ 61 0) (hl0 : 0 ≤ last ∧ last ≤ 20000800) (hM : IsMax (fun _ => True) (fun a => madeM σ a + (R - 1) * σ 63 0) a 0 last) (hmu : 9 - a < (n : Int)), G 36 [some (.ref (w.2.2 27)), some (.int (iI R)), some (.int (iI x19)), some (.int (iI last)), some (.int (iI a)), none] [] σ28 := by
        intro n
        induction n with
        | zero => intro last a ha hl0 hM hmu; omega
        | succ n ih =>
          intro last a ha hl0 hM hmu
          have ih36 := ih
          clear ih
          refine r_iload hX dX6_step_36 rfl ?_
          refine r_aload_n hX dX6_step_38 rfl ?_
          refine fg_X27_72 hX dX6_step_39 (fun b39l b39u => ?_)
          have q39 : σ28 61 = σ 61 := ((m28.at 61 rfl).trans (m16.at 61 rfl))
          rw [q39]
          rw [q39] at b39l b39u
          refine r_icmp_ge hX (tgt := 89) dX6_step_42 (by decide) (by omega) (by omega) (fun c42 => ?_) (fun c42 => ?_)
          · skip
            refine r_iload_n hX dX6_step_89 rfl ?_
            exact r_iret hX dX6_step_90 rfl ⟨_, rfl, ⟨(Mod.tr (L := [33, 37, 64]) m16 m28 rfl rfl), (by exact Or.inr ⟨by omega, Or.inr (Or.inr ⟨hg, (show a = σ 61 0 by omega) ▸ hM, s28⟩)⟩)⟩⟩
          · skip
            refine r_aload_n hX dX6_step_45 rfl ?_
            refine fg_X27_51 hX dX6_step_46 ?_
            refine r_iload hX dX6_step_49 rfl ?_
            refine ld_X39 hX dX6_step_51 (by omega) (by omega) (fun b51l b51u => ?_)
            have q51 : σ28 39 = σ 39 := ((m28.at 39 rfl).trans (m16.at 39 rfl))
            rw [q51]
            rw [q51] at b51l b51u
            refine r_aload_n hX dX6_step_52 rfl ?_
            refine r_iload hX dX6_step_53 rfl ?_
            refine r_callV hX dX6_step_55 (k_M_lengthOf l w σ28 _ (by omega) (by omega)) mf_X6_lengthOf mv_X6_lengthOf lk_RX6_130 rfl rfl rfl rfl rfl ⟨Nat.le_of_ble_eq_true rfl, Nat.le_of_ble_eq_true rfl⟩ (Nat.le_of_ble_eq_true rfl) (kI fun z55 σ55 hh => ?_)
            obtain ⟨rfl, h55_0, h55_1⟩ := hh
            have q55_1 : σ28 28 = σ 28 := ((m28.at 28 rfl).trans (m16.at 28 rfl))
            try simp only [q55_1] at h55_0
            refine r_iadd hX dX6_step_58 ?_
            refine r_iload_n hX dX6_step_59 rfl ?_
            refine r_iconst hX dX6_step_60 ?_
            refine r_isub hX dX6_step_61 ?_
            refine r_aload_n hX dX6_step_62 rfl ?_
            refine fg_X27_79 hX dX6_step_63 (fun b63l b63u => ?_)
            have q63 : σ28 63 = σ 63 := ((m28.at 63 rfl).trans (m16.at 63 rfl))
            rw [q63]
            rw [q63] at b63l b63u
            have hp := pm (a := R - 1) (A := 59) (b := σ 63 0) (B := 12) (by omega) (by omega)
            have hlb := @lenF_bd (σ 28) a
            refine r_imul hX dX6_step_66 ?_
            refine r_iadd hX dX6_step_67 ?_
            refine r_istore hX (fun x68 => [some (.ref (w.2.2 27)), some (.int (iI R)), some (.int (iI x19)), some (.int (iI last)), some (.int (iI a)), some (.int (iI x68))]) dX6_step_68 (Nat.le_of_ble_eq_true rfl) rfl rfl (fun _ => rfl) (fun x68 e68 => ?_)
            have hmd : x68 = madeM σ a + (R - 1) * σ 63 0 := by unfold madeM; omega
            refine r_iload hX dX6_step_70 rfl ?_
            refine r_iload_n hX dX6_step_72 rfl ?_
            refine r_icmp_le hX (tgt := 81) dX6_step_73 (by decide) (by omega) (by omega) (fun c73 => ?_) (fun c73 => ?_)
            · skip
              refine r_iload_n hX dX6_step_81 rfl ?_
              refine r_istore_n hX (fun x82 => [some (.ref (w.2.2 27)), some (.int (iI R)), some (.int (iI x19)), some (.int (iI x82)), some (.int (iI a)), some (.int (iI x68))]) dX6_step_82 (Nat.le_of_ble_eq_true rfl) rfl rfl (fun _ => rfl) (fun x82 e82 => ?_)
              refine r_iinc hX (fun x83 => [some (.ref (w.2.2 27)), some (.int (iI R)), some (.int (iI x19)), some (.int (iI x82)), some (.int (iI x83)), some (.int (iI x68))]) dX6_step_83 rfl rfl rfl (fun _ => rfl) (fun x83 e83 => ?_)
              refine r_goto hX dX6_step_86 (tgt := 36) (by decide) ?_
              refine r_wk hX (lv1 := [some (.ref (w.2.2 27)), some (.int (iI R)), some (.int (iI x19)), some (.int (iI x82)), some (.int (iI x83)), none]) ⟨rfl, ⟨rfl, ⟨rfl, ⟨rfl, ⟨rfl, trivial⟩⟩⟩⟩⟩ ?_
              exact ih36 x82 x83 (by omega) (by omega) (hM.take (by omega) trivial (by omega) e83) (by omega)
            · skip
              refine r_iload hX dX6_step_76 rfl ?_
              refine r_goto hX dX6_step_78 (tgt := 82) (by decide) ?_
              refine r_istore_n hX (fun x82 => [some (.ref (w.2.2 27)), some (.int (iI R)), some (.int (iI x19)), some (.int (iI x82)), some (.int (iI a)), some (.int (iI x68))]) dX6_step_82 (Nat.le_of_ble_eq_true rfl) rfl rfl (fun _ => rfl) (fun x82 e82 => ?_)
              refine r_iinc hX (fun x83 => [some (.ref (w.2.2 27)), some (.int (iI R)), some (.int (iI x19)), some (.int (iI x82)), some (.int (iI x83)), some (.int (iI x68))]) dX6_step_83 rfl rfl rfl (fun _ => rfl) (fun x83 e83 => ?_)
              refine r_goto hX dX6_step_86 (tgt := 36) (by decide) ?_
              refine r_wk hX (lv1 := [some (.ref (w.2.2 27)), some (.int (iI R)), some (.int (iI x19)), some (.int (iI x82)), some (.int (iI x83)), none]) ⟨rfl, ⟨rfl, ⟨rfl, ⟨rfl, ⟨rfl, trivial⟩⟩⟩⟩⟩ ?_
              exact ih36 x82 x83 (by omega) (by omega) (hM.take (by omega) trivial (by omega) e83) (by omega)
      exact lp36 ((9 - (x34)) + 1).toNat x32 x34 (by omega) (by omega) (by rw [e32]; exact IsMax.init e34) (by omega)
    · skip
      refine r_iload_n hX dX6_step_24 rfl ?_
      exact r_iret hX dX6_step_25 rfl ⟨_, rfl, ⟨(m16.w rfl), (by refine Or.inr ⟨by omega, ?_⟩; rcases h16_0 with ⟨q1, q2⟩ | ⟨q1, q2, q3⟩ | ⟨q1, q2⟩; exact Or.inl ⟨q1, by omega, m16.at 64 rfl⟩; exact Or.inr (Or.inl ⟨q1, q2, by clear q2; omega, m16.at 64 rfl⟩); (exfalso; clear q1; omega))⟩⟩
  · skip
    refine r_bipush hX dX6_step_12 (by decide) ?_
    exact r_iret hX dX6_step_14 rfl ⟨_, rfl, ⟨Mod.rf, (by exact Or.inl ⟨by omega, rfl, rfl⟩)⟩⟩
theorem dX6_stepped_0 : decode cX6_stepped 0 = .ok (.aload_n 0, 1) := by decide +kernel
theorem dX6_stepped_1 : decode cX6_stepped 1 = .ok (.getfield 82, 3) := by decide +kernel
theorem dX6_stepped_4 : decode cX6_stepped 4 = .ok (.ifCond .ne 7, 3) := by decide +kernel
theorem dX6_stepped_7 : decode cX6_stepped 7 = .ok (.ldc2_w 160, 3) := by decide +kernel
theorem dX6_stepped_10 : decode cX6_stepped 10 = .ok (.lreturn, 1) := by decide +kernel
theorem dX6_stepped_11 : decode cX6_stepped 11 = .ok (.iload_n 2, 1) := by decide +kernel
theorem dX6_stepped_12 : decode cX6_stepped 12 = .ok (.i2l, 1) := by decide +kernel
theorem dX6_stepped_13 : decode cX6_stepped 13 = .ok (.lconst 0, 1) := by decide +kernel
theorem dX6_stepped_14 : decode cX6_stepped 14 = .ok (.aload_n 0, 1) := by decide +kernel
theorem dX6_stepped_15 : decode cX6_stepped 15 = .ok (.getfield 82, 3) := by decide +kernel
theorem dX6_stepped_18 : decode cX6_stepped 18 = .ok (.iconst 1, 1) := by decide +kernel
theorem dX6_stepped_19 : decode cX6_stepped 19 = .ok (.isub, 1) := by decide +kernel
theorem dX6_stepped_20 : decode cX6_stepped 20 = .ok (.i2l, 1) := by decide +kernel
theorem dX6_stepped_21 : decode cX6_stepped 21 = .ok (.invokestatic 75, 3) := by decide +kernel
theorem dX6_stepped_24 : decode cX6_stepped 24 = .ok (.ifCond .eq 12, 3) := by decide +kernel
theorem dX6_stepped_27 : decode cX6_stepped 27 = .ok (.aload_n 0, 1) := by decide +kernel
theorem dX6_stepped_28 : decode cX6_stepped 28 = .ok (.iload_n 1, 1) := by decide +kernel
theorem dX6_stepped_29 : decode cX6_stepped 29 = .ok (.iload_n 2, 1) := by decide +kernel
theorem dX6_stepped_30 : decode cX6_stepped 30 = .ok (.invokevirtual 162, 3) := by decide +kernel
theorem dX6_stepped_33 : decode cX6_stepped 33 = .ok (.goto 6, 3) := by decide +kernel
theorem dX6_stepped_36 : decode cX6_stepped 36 = .ok (.ldc2_w 122, 3) := by decide +kernel
theorem dX6_stepped_39 : decode cX6_stepped 39 = .ok (.lreturn, 1) := by decide +kernel
set_option maxRecDepth 20000 in
set_option maxHeartbeats 4000000 in
theorem k_M_stepped (l : Launch) (w : WT) (σ : MM) (a : Int) (r : Int) (i_a : inr a) (i_r : inr r) : CT SX l w yX6_stepped cX6_stepped 3 (some .long) 4 93 [.ref (w.2.2 27), .int (iI a), .int (iI r)] σ (PL fun z σ1 => Mod [33, 34] σ σ1 ∧ ((σ 64 0 = 0 ∧ z = -10000000003) ∨ (σ 64 0 ≠ 0 ∧ (r < 0 ∨ σ 64 0 ≤ r) ∧ z = -10000000001) ∨ (σ 64 0 ≠ 0 ∧ (0 ≤ r ∧ r < σ 64 0) ∧ PlM σ σ1 a r z))) := by
  refine CT.of 0 [some (.ref (w.2.2 27)), some (.int (iI a)), some (.int (iI r))] (by decide +kernel) (by simp [lg_sl, Value.category]) rfl sh_X (fun G hX => ?_)
  refine r_bd hX (fun hBd => ?_)
  have b_61 := hBd 61 0 8 rfl 0
  have b_64 := hBd 64 0 60 rfl 0
  refine r_aload_n hX dX6_stepped_0 rfl ?_
  refine fg_X27_82 hX dX6_stepped_1 (fun b1l b1u => ?_)
  refine r_if_ne hX (tgt := 11) dX6_stepped_4 (by decide) (by omega) (fun c4 => ?_) (fun c4 => ?_)
  · skip
    refine r_iload_n hX dX6_stepped_11 rfl ?_
    refine r_i2l hX dX6_stepped_12 (by omega) ?_
    refine r_lconst hX (z := 0) dX6_stepped_13 rfl ?_
    refine r_aload_n hX dX6_stepped_14 rfl ?_
    refine fg_X27_82 hX dX6_stepped_15 (fun b15l b15u => ?_)
    refine r_iconst hX dX6_stepped_18 ?_
    refine r_isub hX dX6_stepped_19 ?_
    refine r_i2l hX dX6_stepped_20 (by omega) ?_
    refine r_callS hX dX6_stepped_21 (k_M_in l w σ _ _ _ (by omega) (by omega) (by omega)) mf_X6_in ms_X6_in lk_RX6_75 rfl rfl ⟨Nat.le_of_ble_eq_true rfl, Nat.le_of_ble_eq_true rfl⟩ (Nat.le_of_ble_eq_true rfl) (kI fun z21 σ21 hh => ?_)
    obtain ⟨rfl, h21_0⟩ := hh
    refine r_if_eq hX (tgt := 36) dX6_stepped_24 (by decide) (by omega) (fun c24 => ?_) (fun c24 => ?_)
    · skip
      refine r_ldc2 hX dX6_stepped_36 lc_RX6_122 ?_
      exact r_lret hX dX6_stepped_39 rfl ⟨_, rfl, ⟨Mod.rf, (by first | exact Or.inl ⟨by omega, rfl⟩ | exact Or.inr (Or.inl ⟨by omega, by omega, rfl⟩) | exact Or.inr (Or.inr ⟨by omega, by omega, h30_0⟩))⟩⟩
    · skip
      refine r_aload_n hX dX6_stepped_27 rfl ?_
      refine r_iload_n hX dX6_stepped_28 rfl ?_
      refine r_iload_n hX dX6_stepped_29 rfl ?_
      refine r_callV hX dX6_stepped_30 (k_M_plain l w σ _ _ (by omega) (by omega)) mf_X6_plain mv_X6_plain lk_RX6_162 rfl rfl rfl rfl rfl ⟨Nat.le_of_ble_eq_true rfl, Nat.le_of_ble_eq_true rfl⟩ (Nat.le_of_ble_eq_true rfl) (kL fun z30 σ30 hh => ?_)
      obtain ⟨m30, h30_0⟩ := hh
      refine r_goto hX dX6_stepped_33 (tgt := 39) (by decide) ?_
      exact r_lret hX dX6_stepped_39 rfl ⟨_, rfl, ⟨(m30.w rfl), (by first | exact Or.inl ⟨by omega, rfl⟩ | exact Or.inr (Or.inl ⟨by omega, by omega, rfl⟩) | exact Or.inr (Or.inr ⟨by omega, by omega, h30_0⟩))⟩⟩
  · skip
    refine r_ldc2 hX dX6_stepped_7 lc_RX6_160 ?_
    exact r_lret hX dX6_stepped_10 rfl ⟨_, rfl, ⟨Mod.rf, (by first | exact Or.inl ⟨by omega, rfl⟩ | exact Or.inr (Or.inl ⟨by omega, by omega, rfl⟩) | exact Or.inr (Or.inr ⟨by omega, by omega, h30_0⟩))⟩⟩
theorem dX6_works_0 : decode cX6_works 0 = .ok (.aload_n 0, 1) := by decide +kernel
theorem dX6_works_1 : decode cX6_works 1 = .ok (.iload_n 1, 1) := by decide +kernel
theorem dX6_works_2 : decode cX6_works 2 = .ok (.invokevirtual 137, 3) := by decide +kernel
theorem dX6_works_5 : decode cX6_works 5 = .ok (.ifCond .ne 5, 3) := by decide +kernel
theorem dX6_works_8 : decode cX6_works 8 = .ok (.iconst (-1), 1) := by decide +kernel
theorem dX6_works_9 : decode cX6_works 9 = .ok (.ireturn, 1) := by decide +kernel
theorem dX6_works_10 : decode cX6_works 10 = .ok (.iload_n 2, 1) := by decide +kernel
theorem dX6_works_11 : decode cX6_works 11 = .ok (.i2l, 1) := by decide +kernel
theorem dX6_works_12 : decode cX6_works 12 = .ok (.lconst 0, 1) := by decide +kernel
theorem dX6_works_13 : decode cX6_works 13 = .ok (.ldc2_w 166, 3) := by decide +kernel
theorem dX6_works_16 : decode cX6_works 16 = .ok (.invokestatic 75, 3) := by decide +kernel
theorem dX6_works_19 : decode cX6_works 19 = .ok (.ifCond .ne 6, 3) := by decide +kernel
theorem dX6_works_22 : decode cX6_works 22 = .ok (.bipush (-2), 2) := by decide +kernel
theorem dX6_works_24 : decode cX6_works 24 = .ok (.ireturn, 1) := by decide +kernel
theorem dX6_works_25 : decode cX6_works 25 = .ok (.aload_n 0, 1) := by decide +kernel
theorem dX6_works_26 : decode cX6_works 26 = .ok (.invokevirtual 157, 3) := by decide +kernel
theorem dX6_works_29 : decode cX6_works 29 = .ok (.istore_n 3, 1) := by decide +kernel
theorem dX6_works_30 : decode cX6_works 30 = .ok (.iload_n 3, 1) := by decide +kernel
theorem dX6_works_31 : decode cX6_works 31 = .ok (.ifCond .ge 5, 3) := by decide +kernel
theorem dX6_works_34 : decode cX6_works 34 = .ok (.iload_n 3, 1) := by decide +kernel
theorem dX6_works_35 : decode cX6_works 35 = .ok (.ireturn, 1) := by decide +kernel
theorem dX6_works_36 : decode cX6_works 36 = .ok (.iconst 0, 1) := by decide +kernel
theorem dX6_works_37 : decode cX6_works 37 = .ok (.istore 4, 2) := by decide +kernel
theorem dX6_works_39 : decode cX6_works 39 = .ok (.iload 4, 2) := by decide +kernel
theorem dX6_works_41 : decode cX6_works 41 = .ok (.aload_n 0, 1) := by decide +kernel
theorem dX6_works_42 : decode cX6_works 42 = .ok (.getfield 72, 3) := by decide +kernel
theorem dX6_works_45 : decode cX6_works 45 = .ok (.if_icmp .ge 51, 3) := by decide +kernel
theorem dX6_works_48 : decode cX6_works 48 = .ok (.aload_n 0, 1) := by decide +kernel
theorem dX6_works_49 : decode cX6_works 49 = .ok (.getfield 48, 3) := by decide +kernel
theorem dX6_works_52 : decode cX6_works 52 = .ok (.iload 4, 2) := by decide +kernel
theorem dX6_works_54 : decode cX6_works 54 = .ok (.iaload, 1) := by decide +kernel
theorem dX6_works_55 : decode cX6_works 55 = .ok (.iload_n 1, 1) := by decide +kernel
theorem dX6_works_56 : decode cX6_works 56 = .ok (.if_icmp .ne 34, 3) := by decide +kernel
theorem dX6_works_59 : decode cX6_works 59 = .ok (.aload_n 0, 1) := by decide +kernel
theorem dX6_works_60 : decode cX6_works 60 = .ok (.getfield 51, 3) := by decide +kernel
theorem dX6_works_63 : decode cX6_works 63 = .ok (.iload 4, 2) := by decide +kernel
theorem dX6_works_65 : decode cX6_works 65 = .ok (.iaload, 1) := by decide +kernel
theorem dX6_works_66 : decode cX6_works 66 = .ok (.iload_n 2, 1) := by decide +kernel
theorem dX6_works_67 : decode cX6_works 67 = .ok (.if_icmp .gt 23, 3) := by decide +kernel
theorem dX6_works_70 : decode cX6_works 70 = .ok (.iload_n 2, 1) := by decide +kernel
theorem dX6_works_71 : decode cX6_works 71 = .ok (.aload_n 0, 1) := by decide +kernel
theorem dX6_works_72 : decode cX6_works 72 = .ok (.getfield 51, 3) := by decide +kernel
theorem dX6_works_75 : decode cX6_works 75 = .ok (.iload 4, 2) := by decide +kernel
theorem dX6_works_77 : decode cX6_works 77 = .ok (.iaload, 1) := by decide +kernel
theorem dX6_works_78 : decode cX6_works 78 = .ok (.isub, 1) := by decide +kernel
theorem dX6_works_79 : decode cX6_works 79 = .ok (.aload_n 0, 1) := by decide +kernel
theorem dX6_works_80 : decode cX6_works 80 = .ok (.getfield 79, 3) := by decide +kernel
theorem dX6_works_83 : decode cX6_works 83 = .ok (.irem, 1) := by decide +kernel
theorem dX6_works_84 : decode cX6_works 84 = .ok (.ifCond .ne 6, 3) := by decide +kernel
theorem dX6_works_87 : decode cX6_works 87 = .ok (.iload 4, 2) := by decide +kernel
theorem dX6_works_89 : decode cX6_works 89 = .ok (.ireturn, 1) := by decide +kernel
theorem dX6_works_90 : decode cX6_works 90 = .ok (.iinc 4 1, 3) := by decide +kernel
theorem dX6_works_93 : decode cX6_works 93 = .ok (.goto (-54), 3) := by decide +kernel
theorem dX6_works_96 : decode cX6_works 96 = .ok (.bipush (-6), 2) := by decide +kernel
theorem dX6_works_98 : decode cX6_works 98 = .ok (.ireturn, 1) := by decide +kernel
set_option maxRecDepth 20000 in
set_option maxHeartbeats 4000000 in
theorem k_M_works (l : Launch) (w : WT) (σ : MM) (k : Int) (t : Int) (i_k : inr k) (i_t : inr t) (W : Int → Int) (hW : WayM σ W) (hLa : LayM σ) : CT SX l w yX6_works cX6_works 5 (some .int) 5 115 [.ref (w.2.2 27), .int (iI k), .int (iI t)] σ (PI fun z σ1 => Mod [33, 37] σ σ1 ∧ (((k < 0 ∨ σ 65 0 * σ 66 0 ≤ k) ∧ z = -1) ∨ ((0 ≤ k ∧ k < σ 65 0 * σ 66 0) ∧ (((t < 0 ∨ 10000 < t) ∧ z = -2) ∨ ((0 ≤ t ∧ t ≤ 10000) ∧ ((σ 63 0 = 0 ∧ z = -3) ∨ (0 < σ 63 0 ∧ BadM σ W ∧ z = -5) ∨ (GoodM σ W ∧ (Fst (fun a => σ 38 a = k ∧ σ 39 a ≤ t ∧ (t - σ 39 a) % σ 63 0 = 0) (σ 61 0) z ∨ (Non (fun a => σ 38 a = k ∧ σ 39 a ≤ t ∧ (t - σ 39 a) % σ 63 0 = 0) (σ 61 0) ∧ z = -6))))))))) := by
  refine CT.of 2 [some (.ref (w.2.2 27)), some (.int (iI k)), some (.int (iI t)), none, none] (by decide +kernel) (by simp [lg_sl, Value.category]) rfl sh_X (fun G hX => ?_)
  refine r_bd hX (fun hBd => ?_)
  have b_61 := hBd 61 0 8 rfl 0
  have b_63 := hBd 63 0 12 rfl 0
  have b_65 := hBd 65 1 3 rfl 0
  have b_66 := hBd 66 1 3 rfl 0
  have hn := mul_bd b_65 b_66
  refine r_aload_n hX dX6_works_0 rfl ?_
  refine r_iload_n hX dX6_works_1 rfl ?_
  refine r_callV hX dX6_works_2 (k_M_isCell l w σ _ (by omega)) mf_X6_isCell mv_X6_isCell lk_RX6_137 rfl rfl rfl rfl rfl ⟨Nat.le_of_ble_eq_true rfl, Nat.le_of_ble_eq_true rfl⟩ (Nat.le_of_ble_eq_true rfl) (kI fun z2 σ2 hh => ?_)
  obtain ⟨rfl, h2_0⟩ := hh
  refine r_if_ne hX (tgt := 10) dX6_works_5 (by decide) (by omega) (fun c5 => ?_) (fun c5 => ?_)
  · skip
    refine r_iload_n hX dX6_works_10 rfl ?_
    refine r_i2l hX dX6_works_11 (by omega) ?_
    refine r_lconst hX (z := 0) dX6_works_12 rfl ?_
    refine r_ldc2 hX dX6_works_13 lc_RX6_166 ?_
    refine r_callS hX dX6_works_16 (k_M_in l w σ _ _ _ (by omega) (by omega) (by omega)) mf_X6_in ms_X6_in lk_RX6_75 rfl rfl ⟨Nat.le_of_ble_eq_true rfl, Nat.le_of_ble_eq_true rfl⟩ (Nat.le_of_ble_eq_true rfl) (kI fun z16 σ16 hh => ?_)
    obtain ⟨rfl, h16_0⟩ := hh
    refine r_if_ne hX (tgt := 25) dX6_works_19 (by decide) (by omega) (fun c19 => ?_) (fun c19 => ?_)
    · skip
      refine r_aload_n hX dX6_works_25 rfl ?_
      refine r_callV hX dX6_works_26 (k_M_whyNot l w σ _ (hW) (by omega)) mf_X6_whyNot mv_X6_whyNot lk_RX6_157 rfl rfl rfl rfl rfl ⟨Nat.le_of_ble_eq_true rfl, Nat.le_of_ble_eq_true rfl⟩ (Nat.le_of_ble_eq_true rfl) (kI fun z26 σ26 hh => ?_)
      obtain ⟨m26, h26_0⟩ := hh
      refine r_istore_n hX (fun x29 => [some (.ref (w.2.2 27)), some (.int (iI k)), some (.int (iI t)), some (.int (iI x29)), none]) dX6_works_29 (Nat.le_of_ble_eq_true rfl) rfl rfl (fun _ => rfl) (fun x29 e29 => ?_)
      have hrg := h26_0.rng
      refine r_iload_n hX dX6_works_30 rfl ?_
      refine r_if_ge hX (tgt := 36) dX6_works_31 (by decide) (by omega) (fun c31 => ?_) (fun c31 => ?_)
      · skip
        have hg := h26_0.good (by omega)
        have hb63 := hg.1
        clear h26_0
        refine r_iconst hX dX6_works_36 ?_
        refine r_istore hX (fun x37 => [some (.ref (w.2.2 27)), some (.int (iI k)), some (.int (iI t)), some (.int (iI x29)), some (.int (iI x37))]) dX6_works_37 (Nat.le_of_ble_eq_true rfl) rfl rfl (fun _ => rfl) (fun x37 e37 => ?_)
        have lp39 : ∀ (n : Nat) (a : Int) (ha : 0 ≤ a ∧ a ≤ σ 61 0) (hn1 : Non (fun a => σ 38 a = k ∧ σ 39 a ≤ t ∧ (t - σ 39 a) % σ 63 0 = 0) a) (hmu : 9 - a < (n : Int)), G 39 [some (.ref (w.2.2 27)), some (.int (iI k)), some (.int (iI t)), some (.int (iI x29)), some (.int (iI a))] [] σ26 := by
          intro n
          induction n with
          | zero => intro a ha hn1 hmu; omega
          | succ n ih =>
            intro a ha hn1 hmu
            have ih39 := ih
            clear ih
            refine r_iload hX dX6_works_39 rfl ?_
            refine r_aload_n hX dX6_works_41 rfl ?_
            refine fg_X27_72 hX dX6_works_42 (fun b42l b42u => ?_)
            have q42 : σ26 61 = σ 61 := (m26.at 61 rfl)
            rw [q42]
            rw [q42] at b42l b42u
            refine r_icmp_ge hX (tgt := 96) dX6_works_45 (by decide) (by omega) (by omega) (fun c45 => ?_) (fun c45 => ?_)
            · skip
              refine r_bipush hX dX6_works_96 (by decide) ?_
              exact r_iret hX dX6_works_98 rfl ⟨_, rfl, ⟨(m26.w rfl), (by exact Or.inr ⟨by omega, Or.inr ⟨by omega, Or.inr (Or.inr ⟨hg, Or.inr ⟨(show a = σ 61 0 by omega) ▸ hn1, rfl⟩⟩)⟩⟩)⟩⟩
            · skip
              refine r_aload_n hX dX6_works_48 rfl ?_
              refine fg_X27_48 hX dX6_works_49 ?_
              refine r_iload hX dX6_works_52 rfl ?_
              refine ld_X38 hX dX6_works_54 (by omega) (by omega) (fun b54l b54u => ?_)
              have q54 : σ26 38 = σ 38 := (m26.at 38 rfl)
              rw [q54]
              rw [q54] at b54l b54u
              refine r_iload_n hX dX6_works_55 rfl ?_
              refine r_icmp_ne hX (tgt := 90) dX6_works_56 (by decide) (by omega) (by omega) (fun c56 => ?_) (fun c56 => ?_)
              · skip
                refine r_iinc hX (fun x90 => [some (.ref (w.2.2 27)), some (.int (iI k)), some (.int (iI t)), some (.int (iI x29)), some (.int (iI x90))]) dX6_works_90 rfl rfl rfl (fun _ => rfl) (fun x90 e90 => ?_)
                refine r_goto hX dX6_works_93 (tgt := 39) (by decide) ?_
                exact ih39 x90 (by omega) (hn1.next (fun q => by have q1 := q.1; have q2 := q.2.1; have q3 := q.2.2; omega) e90) (by omega)
              · skip
                refine r_aload_n hX dX6_works_59 rfl ?_
                refine fg_X27_51 hX dX6_works_60 ?_
                refine r_iload hX dX6_works_63 rfl ?_
                refine ld_X39 hX dX6_works_65 (by omega) (by omega) (fun b65l b65u => ?_)
                have q65 : σ26 39 = σ 39 := (m26.at 39 rfl)
                rw [q65]
                rw [q65] at b65l b65u
                refine r_iload_n hX dX6_works_66 rfl ?_
                refine r_icmp_gt hX (tgt := 90) dX6_works_67 (by decide) (by omega) (by omega) (fun c67 => ?_) (fun c67 => ?_)
                · skip
                  refine r_iinc hX (fun x90 => [some (.ref (w.2.2 27)), some (.int (iI k)), some (.int (iI t)), some (.int (iI x29)), some (.int (iI x90))]) dX6_works_90 rfl rfl rfl (fun _ => rfl) (fun x90 e90 => ?_)
                  refine r_goto hX dX6_works_93 (tgt := 39) (by decide) ?_
                  exact ih39 x90 (by omega) (hn1.next (fun q => by have q1 := q.1; have q2 := q.2.1; have q3 := q.2.2; omega) e90) (by omega)
                · skip
                  refine r_iload_n hX dX6_works_70 rfl ?_
                  refine r_aload_n hX dX6_works_71 rfl ?_
                  refine fg_X27_51 hX dX6_works_72 ?_
                  refine r_iload hX dX6_works_75 rfl ?_
                  refine ld_X39 hX dX6_works_77 (by omega) (by omega) (fun b77l b77u => ?_)
                  have q77 : σ26 39 = σ 39 := (m26.at 39 rfl)
                  rw [q77]
                  rw [q77] at b77l b77u
                  refine r_isub hX dX6_works_78 ?_
                  refine r_aload_n hX dX6_works_79 rfl ?_
                  refine fg_X27_79 hX dX6_works_80 (fun b80l b80u => ?_)
                  have q80 : σ26 63 = σ 63 := (m26.at 63 rfl)
                  rw [q80]
                  rw [q80] at b80l b80u
                  refine r_irem hX dX6_works_83 (by omega) (by omega) (by omega) (by omega) ?_
                  have hm := Int.emod_lt_of_pos (t - σ 39 a) (show (0 : Int) < σ 63 0 by omega)
                  have hm2 := Int.emod_nonneg (t - σ 39 a) (show σ 63 0 ≠ 0 by omega)
                  refine r_if_ne hX (tgt := 90) dX6_works_84 (by decide) (by omega) (fun c84 => ?_) (fun c84 => ?_)
                  · skip
                    refine r_iinc hX (fun x90 => [some (.ref (w.2.2 27)), some (.int (iI k)), some (.int (iI t)), some (.int (iI x29)), some (.int (iI x90))]) dX6_works_90 rfl rfl rfl (fun _ => rfl) (fun x90 e90 => ?_)
                    refine r_goto hX dX6_works_93 (tgt := 39) (by decide) ?_
                    exact ih39 x90 (by omega) (hn1.next (fun q => by have q1 := q.1; have q2 := q.2.1; have q3 := q.2.2; omega) e90) (by omega)
                  · skip
                    refine r_iload hX dX6_works_87 rfl ?_
                    exact r_iret hX dX6_works_89 rfl ⟨_, rfl, ⟨(m26.w rfl), (by exact Or.inr ⟨by omega, Or.inr ⟨by omega, Or.inr (Or.inr ⟨hg, Or.inl (hn1.fst (by omega) (by omega) ⟨by omega, by omega, by omega⟩)⟩)⟩⟩)⟩⟩
        exact lp39 ((9 - (x37)) + 1).toNat x37 (by omega) (fun b b0 b1 => by omega) (by omega)
      · skip
        refine r_iload_n hX dX6_works_34 rfl ?_
        exact r_iret hX dX6_works_35 rfl ⟨_, rfl, ⟨(m26.w rfl), (by refine Or.inr ⟨by omega, Or.inr ⟨by omega, ?_⟩⟩; rcases h26_0 with ⟨q1, q2⟩ | ⟨q1, q2, q3⟩ | ⟨q1, q2⟩; exact Or.inl ⟨q1, by omega⟩; exact Or.inr (Or.inl ⟨q1, q2, by clear q2; omega⟩); (exfalso; clear q1; omega))⟩⟩
    · skip
      refine r_bipush hX dX6_works_22 (by decide) ?_
      exact r_iret hX dX6_works_24 rfl ⟨_, rfl, ⟨Mod.rf, (by exact Or.inr ⟨by omega, Or.inl ⟨by omega, rfl⟩⟩)⟩⟩
  · skip
    refine r_iconst hX dX6_works_8 ?_
    exact r_iret hX dX6_works_9 rfl ⟨_, rfl, ⟨Mod.rf, (by exact Or.inl ⟨by omega, rfl⟩)⟩⟩
theorem dX6_places_0 : decode cX6_places 0 = .ok (.iconst 0, 1) := by decide +kernel
theorem dX6_places_1 : decode cX6_places 1 = .ok (.istore_n 1, 1) := by decide +kernel
theorem dX6_places_2 : decode cX6_places 2 = .ok (.iconst 0, 1) := by decide +kernel
theorem dX6_places_3 : decode cX6_places 3 = .ok (.istore_n 2, 1) := by decide +kernel
theorem dX6_places_4 : decode cX6_places 4 = .ok (.iconst 0, 1) := by decide +kernel
theorem dX6_places_5 : decode cX6_places 5 = .ok (.istore_n 3, 1) := by decide +kernel
theorem dX6_places_6 : decode cX6_places 6 = .ok (.iconst 0, 1) := by decide +kernel
theorem dX6_places_7 : decode cX6_places 7 = .ok (.istore 4, 2) := by decide +kernel
theorem dX6_places_9 : decode cX6_places 9 = .ok (.iload 4, 2) := by decide +kernel
theorem dX6_places_11 : decode cX6_places 11 = .ok (.aload_n 0, 1) := by decide +kernel
theorem dX6_places_12 : decode cX6_places 12 = .ok (.invokevirtual 133, 3) := by decide +kernel
theorem dX6_places_15 : decode cX6_places 15 = .ok (.if_icmp .ge 55, 3) := by decide +kernel
theorem dX6_places_18 : decode cX6_places 18 = .ok (.iload_n 1, 1) := by decide +kernel
theorem dX6_places_19 : decode cX6_places 19 = .ok (.aload_n 0, 1) := by decide +kernel
theorem dX6_places_20 : decode cX6_places 20 = .ok (.getfield 39, 3) := by decide +kernel
theorem dX6_places_23 : decode cX6_places 23 = .ok (.iload 4, 2) := by decide +kernel
theorem dX6_places_25 : decode cX6_places 25 = .ok (.baload, 1) := by decide +kernel
theorem dX6_places_26 : decode cX6_places 26 = .ok (.ifCond .eq 7, 3) := by decide +kernel
theorem dX6_places_29 : decode cX6_places 29 = .ok (.iconst 0, 1) := by decide +kernel
theorem dX6_places_30 : decode cX6_places 30 = .ok (.goto 4, 3) := by decide +kernel
theorem dX6_places_33 : decode cX6_places 33 = .ok (.iconst 1, 1) := by decide +kernel
theorem dX6_places_34 : decode cX6_places 34 = .ok (.iadd, 1) := by decide +kernel
theorem dX6_places_35 : decode cX6_places 35 = .ok (.istore_n 1, 1) := by decide +kernel
theorem dX6_places_36 : decode cX6_places 36 = .ok (.iload_n 2, 1) := by decide +kernel
theorem dX6_places_37 : decode cX6_places 37 = .ok (.aload_n 0, 1) := by decide +kernel
theorem dX6_places_38 : decode cX6_places 38 = .ok (.getfield 39, 3) := by decide +kernel
theorem dX6_places_41 : decode cX6_places 41 = .ok (.iload 4, 2) := by decide +kernel
theorem dX6_places_43 : decode cX6_places 43 = .ok (.baload, 1) := by decide +kernel
theorem dX6_places_44 : decode cX6_places 44 = .ok (.ifCond .ne 17, 3) := by decide +kernel
theorem dX6_places_47 : decode cX6_places 47 = .ok (.aload_n 0, 1) := by decide +kernel
theorem dX6_places_48 : decode cX6_places 48 = .ok (.getfield 42, 3) := by decide +kernel
theorem dX6_places_51 : decode cX6_places 51 = .ok (.iload 4, 2) := by decide +kernel
theorem dX6_places_53 : decode cX6_places 53 = .ok (.baload, 1) := by decide +kernel
theorem dX6_places_54 : decode cX6_places 54 = .ok (.ifCond .eq 7, 3) := by decide +kernel
theorem dX6_places_57 : decode cX6_places 57 = .ok (.iconst 1, 1) := by decide +kernel
theorem dX6_places_58 : decode cX6_places 58 = .ok (.goto 4, 3) := by decide +kernel
theorem dX6_places_61 : decode cX6_places 61 = .ok (.iconst 0, 1) := by decide +kernel
theorem dX6_places_62 : decode cX6_places 62 = .ok (.iadd, 1) := by decide +kernel
theorem dX6_places_63 : decode cX6_places 63 = .ok (.istore_n 2, 1) := by decide +kernel
theorem dX6_places_64 : decode cX6_places 64 = .ok (.iinc 4 1, 3) := by decide +kernel
theorem dX6_places_67 : decode cX6_places 67 = .ok (.goto (-58), 3) := by decide +kernel
theorem dX6_places_70 : decode cX6_places 70 = .ok (.iconst 0, 1) := by decide +kernel
theorem dX6_places_71 : decode cX6_places 71 = .ok (.istore 4, 2) := by decide +kernel
theorem dX6_places_73 : decode cX6_places 73 = .ok (.iload 4, 2) := by decide +kernel
theorem dX6_places_75 : decode cX6_places 75 = .ok (.aload_n 0, 1) := by decide +kernel
theorem dX6_places_76 : decode cX6_places 76 = .ok (.getfield 72, 3) := by decide +kernel
theorem dX6_places_79 : decode cX6_places 79 = .ok (.if_icmp .ge 28, 3) := by decide +kernel
theorem dX6_places_82 : decode cX6_places 82 = .ok (.iload_n 3, 1) := by decide +kernel
theorem dX6_places_83 : decode cX6_places 83 = .ok (.aload_n 0, 1) := by decide +kernel
theorem dX6_places_84 : decode cX6_places 84 = .ok (.getfield 7, 3) := by decide +kernel
theorem dX6_places_87 : decode cX6_places 87 = .ok (.iload 4, 2) := by decide +kernel
theorem dX6_places_89 : decode cX6_places 89 = .ok (.iaload, 1) := by decide +kernel
theorem dX6_places_90 : decode cX6_places 90 = .ok (.iconst 3, 1) := by decide +kernel
theorem dX6_places_91 : decode cX6_places 91 = .ok (.if_icmp .ne 7, 3) := by decide +kernel
theorem dX6_places_94 : decode cX6_places 94 = .ok (.iconst 1, 1) := by decide +kernel
theorem dX6_places_95 : decode cX6_places 95 = .ok (.goto 4, 3) := by decide +kernel
theorem dX6_places_98 : decode cX6_places 98 = .ok (.iconst 0, 1) := by decide +kernel
theorem dX6_places_99 : decode cX6_places 99 = .ok (.iadd, 1) := by decide +kernel
theorem dX6_places_100 : decode cX6_places 100 = .ok (.istore_n 3, 1) := by decide +kernel
theorem dX6_places_101 : decode cX6_places 101 = .ok (.iinc 4 1, 3) := by decide +kernel
theorem dX6_places_104 : decode cX6_places 104 = .ok (.goto (-31), 3) := by decide +kernel
theorem dX6_places_107 : decode cX6_places 107 = .ok (.iload_n 1, 1) := by decide +kernel
theorem dX6_places_108 : decode cX6_places 108 = .ok (.ifCond .eq 11, 3) := by decide +kernel
theorem dX6_places_111 : decode cX6_places 111 = .ok (.iload_n 3, 1) := by decide +kernel
theorem dX6_places_112 : decode cX6_places 112 = .ok (.ifCond .le 10, 3) := by decide +kernel
theorem dX6_places_115 : decode cX6_places 115 = .ok (.iload_n 2, 1) := by decide +kernel
theorem dX6_places_116 : decode cX6_places 116 = .ok (.ifCond .ne 6, 3) := by decide +kernel
theorem dX6_places_119 : decode cX6_places 119 = .ok (.bipush (-6), 2) := by decide +kernel
theorem dX6_places_121 : decode cX6_places 121 = .ok (.ireturn, 1) := by decide +kernel
theorem dX6_places_122 : decode cX6_places 122 = .ok (.aload_n 0, 1) := by decide +kernel
theorem dX6_places_123 : decode cX6_places 123 = .ok (.getfield 72, 3) := by decide +kernel
theorem dX6_places_126 : decode cX6_places 126 = .ok (.iload_n 1, 1) := by decide +kernel
theorem dX6_places_127 : decode cX6_places 127 = .ok (.iadd, 1) := by decide +kernel
theorem dX6_places_128 : decode cX6_places 128 = .ok (.iconst 1, 1) := by decide +kernel
theorem dX6_places_129 : decode cX6_places 129 = .ok (.isub, 1) := by decide +kernel
theorem dX6_places_130 : decode cX6_places 130 = .ok (.iload_n 1, 1) := by decide +kernel
theorem dX6_places_131 : decode cX6_places 131 = .ok (.idiv, 1) := by decide +kernel
theorem dX6_places_132 : decode cX6_places 132 = .ok (.istore 4, 2) := by decide +kernel
theorem dX6_places_134 : decode cX6_places 134 = .ok (.iload_n 3, 1) := by decide +kernel
theorem dX6_places_135 : decode cX6_places 135 = .ok (.ifCond .ne 7, 3) := by decide +kernel
theorem dX6_places_138 : decode cX6_places 138 = .ok (.iconst 0, 1) := by decide +kernel
theorem dX6_places_139 : decode cX6_places 139 = .ok (.goto 10, 3) := by decide +kernel
theorem dX6_places_142 : decode cX6_places 142 = .ok (.iload_n 3, 1) := by decide +kernel
theorem dX6_places_143 : decode cX6_places 143 = .ok (.iload_n 2, 1) := by decide +kernel
theorem dX6_places_144 : decode cX6_places 144 = .ok (.iadd, 1) := by decide +kernel
theorem dX6_places_145 : decode cX6_places 145 = .ok (.iconst 1, 1) := by decide +kernel
theorem dX6_places_146 : decode cX6_places 146 = .ok (.isub, 1) := by decide +kernel
theorem dX6_places_147 : decode cX6_places 147 = .ok (.iload_n 2, 1) := by decide +kernel
theorem dX6_places_148 : decode cX6_places 148 = .ok (.idiv, 1) := by decide +kernel
theorem dX6_places_149 : decode cX6_places 149 = .ok (.istore 5, 2) := by decide +kernel
theorem dX6_places_151 : decode cX6_places 151 = .ok (.iload 4, 2) := by decide +kernel
theorem dX6_places_153 : decode cX6_places 153 = .ok (.iload 5, 2) := by decide +kernel
theorem dX6_places_155 : decode cX6_places 155 = .ok (.if_icmp .le 8, 3) := by decide +kernel
theorem dX6_places_158 : decode cX6_places 158 = .ok (.iload 4, 2) := by decide +kernel
theorem dX6_places_160 : decode cX6_places 160 = .ok (.goto 5, 3) := by decide +kernel
theorem dX6_places_163 : decode cX6_places 163 = .ok (.iload 5, 2) := by decide +kernel
theorem dX6_places_165 : decode cX6_places 165 = .ok (.ireturn, 1) := by decide +kernel
set_option maxRecDepth 20000 in
set_option maxHeartbeats 4000000 in
theorem k_M_places (l : Launch) (w : WT) (σ : MM) : CT SX l w yX6_places cX6_places 6 (some .int) 1 20 [.ref (w.2.2 27)] σ (PI fun z σ1 => σ = σ1 ∧ (PLm σ z) ∧ (-6 ≤ z ∧ z ≤ 8) ∧ (z = -6 ∨ 0 ≤ z)) := by
  refine CT.of 5 [some (.ref (w.2.2 27)), none, none, none, none, none] (by decide +kernel) (by simp [lg_sl, Value.category]) rfl sh_X (fun G hX => ?_)
  refine r_bd hX (fun hBd => ?_)
  have b_61 := hBd 61 0 8 rfl 0
  have b_65 := hBd 65 1 3 rfl 0
  have b_66 := hBd 66 1 3 rfl 0
  have hn := mul_bd b_65 b_66
  refine r_iconst hX dX6_places_0 ?_
  refine r_istore_n hX (fun x1 => [some (.ref (w.2.2 27)), some (.int (iI x1)), none, none, none, none]) dX6_places_1 (Nat.le_of_ble_eq_true rfl) rfl rfl (fun _ => rfl) (fun x1 e1 => ?_)
  refine r_iconst hX dX6_places_2 ?_
  refine r_istore_n hX (fun x3 => [some (.ref (w.2.2 27)), some (.int (iI x1)), some (.int (iI x3)), none, none, none]) dX6_places_3 (Nat.le_of_ble_eq_true rfl) rfl rfl (fun _ => rfl) (fun x3 e3 => ?_)
  refine r_iconst hX dX6_places_4 ?_
  refine r_istore_n hX (fun x5 => [some (.ref (w.2.2 27)), some (.int (iI x1)), some (.int (iI x3)), some (.int (iI x5)), none, none]) dX6_places_5 (Nat.le_of_ble_eq_true rfl) rfl rfl (fun _ => rfl) (fun x5 e5 => ?_)
  refine r_iconst hX dX6_places_6 ?_
  refine r_istore hX (fun x7 => [some (.ref (w.2.2 27)), some (.int (iI x1)), some (.int (iI x3)), some (.int (iI x5)), some (.int (iI x7)), none]) dX6_places_7 (Nat.le_of_ble_eq_true rfl) rfl rfl (fun _ => rfl) (fun x7 e7 => ?_)
  have lp9 : ∀ (n : Nat) (wc : Int) (ab : Int) (cl : Int) (hcl : 0 ≤ cl ∧ cl ≤ σ 65 0 * σ 66 0) (hwc : wc = cn0 (σ 35) cl) (hab : ab = cn2 (σ 35) (σ 36) cl) (hr1 : 0 ≤ wc ∧ wc ≤ cl ∧ 0 ≤ ab ∧ ab ≤ cl) (hmu : 10 - cl < (n : Int)), G 9 [some (.ref (w.2.2 27)), some (.int (iI wc)), some (.int (iI ab)), some (.int (iI x5)), some (.int (iI cl)), none] [] σ := by
    intro n
    induction n with
    | zero => intro wc ab cl hcl hwc hab hr1 hmu; omega
    | succ n ih =>
      intro wc ab cl hcl hwc hab hr1 hmu
      have ih9 := ih
      clear ih
      refine r_iload hX dX6_places_9 rfl ?_
      refine r_aload_n hX dX6_places_11 rfl ?_
      refine r_callV hX dX6_places_12 (k_M_cells l w σ) mf_X6_cells mv_X6_cells lk_RX6_133 rfl rfl rfl rfl rfl ⟨Nat.le_of_ble_eq_true rfl, Nat.le_of_ble_eq_true rfl⟩ (Nat.le_of_ble_eq_true rfl) (kI fun z12 σ12 hh => ?_)
      obtain ⟨rfl, h12_0, h12_1⟩ := hh
      refine r_icmp_ge hX (tgt := 70) dX6_places_15 (by decide) (by omega) (by omega) (fun c15 => ?_) (fun c15 => ?_)
      · skip
        have fw : wc = cn0 (σ 35) (σ 65 0 * σ 66 0) := (show cl = σ 65 0 * σ 66 0 by omega) ▸ hwc
        have fb : ab = cn2 (σ 35) (σ 36) (σ 65 0 * σ 66 0) := (show cl = σ 65 0 * σ 66 0 by omega) ▸ hab
        refine r_iconst hX dX6_places_70 ?_
        refine r_istore hX (fun x71 => [some (.ref (w.2.2 27)), some (.int (iI wc)), some (.int (iI ab)), some (.int (iI x5)), some (.int (iI x71)), none]) dX6_places_71 (Nat.le_of_ble_eq_true rfl) rfl rfl (fun _ => rfl) (fun x71 e71 => ?_)
        have lp73 : ∀ (n : Nat) (pr : Int) (a : Int) (ha : 0 ≤ a ∧ a ≤ σ 61 0) (hpr : pr = cnK (σ 28) a) (hr2 : 0 ≤ pr ∧ pr ≤ a) (hmu : 9 - a < (n : Int)), G 73 [some (.ref (w.2.2 27)), some (.int (iI wc)), some (.int (iI ab)), some (.int (iI pr)), some (.int (iI a)), none] [] σ := by
          intro n
          induction n with
          | zero => intro pr a ha hpr hr2 hmu; omega
          | succ n ih =>
            intro pr a ha hpr hr2 hmu
            have ih73 := ih
            clear ih
            refine r_iload hX dX6_places_73 rfl ?_
            refine r_aload_n hX dX6_places_75 rfl ?_
            refine fg_X27_72 hX dX6_places_76 (fun b76l b76u => ?_)
            refine r_icmp_ge hX (tgt := 107) dX6_places_79 (by decide) (by omega) (by omega) (fun c79 => ?_) (fun c79 => ?_)
            · skip
              have fp : pr = cnK (σ 28) (σ 61 0) := (show a = σ 61 0 by omega) ▸ hpr
              refine r_iload_n hX dX6_places_107 rfl ?_
              refine r_if_eq hX (tgt := 119) dX6_places_108 (by decide) (by omega) (fun c108 => ?_) (fun c108 => ?_)
              · skip
                refine r_bipush hX dX6_places_119 (by decide) ?_
                exact r_iret hX dX6_places_121 rfl ⟨_, rfl, ⟨rfl, (by unfold PLm PBx; rw [← fp, ← fw, ← fb]; omega), (by omega), (by omega)⟩⟩
              · skip
                refine r_iload_n hX dX6_places_111 rfl ?_
                refine r_if_le hX (tgt := 122) dX6_places_112 (by decide) (by omega) (fun c112 => ?_) (fun c112 => ?_)
                · skip
                  refine r_aload_n hX dX6_places_122 rfl ?_
                  refine fg_X27_72 hX dX6_places_123 (fun b123l b123u => ?_)
                  refine r_iload_n hX dX6_places_126 rfl ?_
                  refine r_iadd hX dX6_places_127 ?_
                  refine r_iconst hX dX6_places_128 ?_
                  refine r_isub hX dX6_places_129 ?_
                  refine r_iload_n hX dX6_places_130 rfl ?_
                  refine r_idiv hX dX6_places_131 (by omega) (by omega) (by omega) (by omega) ?_
                  refine r_istore hX (fun x132 => [some (.ref (w.2.2 27)), some (.int (iI wc)), some (.int (iI ab)), some (.int (iI pr)), some (.int (iI x132)), none]) dX6_places_132 (Nat.le_of_ble_eq_true rfl) rfl rfl (fun _ => rfl) (fun x132 e132 => ?_)
                  have g1 : x132 = cdiv (σ 61 0) wc := by rw [e132]; exact ceil_eq (by omega)
                  have g2 := cdiv_bd (x := σ 61 0) (n := wc) (B := 8) (by omega) (by omega) (by omega)
                  have g3 := cdiv_nn (x := σ 61 0) (n := wc) (by omega) (by omega)
                  refine r_iload_n hX dX6_places_134 rfl ?_
                  refine r_if_ne hX (tgt := 142) dX6_places_135 (by decide) (by omega) (fun c135 => ?_) (fun c135 => ?_)
                  · skip
                    refine r_iload_n hX dX6_places_142 rfl ?_
                    refine r_iload_n hX dX6_places_143 rfl ?_
                    refine r_iadd hX dX6_places_144 ?_
                    refine r_iconst hX dX6_places_145 ?_
                    refine r_isub hX dX6_places_146 ?_
                    refine r_iload_n hX dX6_places_147 rfl ?_
                    refine r_idiv hX dX6_places_148 (by omega) (by omega) (by omega) (by omega) ?_
                    refine r_istore hX (fun x149 => [some (.ref (w.2.2 27)), some (.int (iI wc)), some (.int (iI ab)), some (.int (iI pr)), some (.int (iI x132)), some (.int (iI x149))]) dX6_places_149 (Nat.le_of_ble_eq_true rfl) rfl rfl (fun _ => rfl) (fun x149 e149 => ?_)
                    have g4 : (pr = 0 ∧ x149 = 0) ∨ (pr ≠ 0 ∧ x149 = cdiv pr ab) := by first | exact Or.inl ⟨by omega, by omega⟩ | exact Or.inr ⟨by omega, by rw [e149]; exact ceil_eq (by omega)⟩
                    have g5 : 0 ≤ x149 ∧ x149 ≤ 8 := by
                      rcases g4 with ⟨-, q⟩ | ⟨q0, q⟩
                      · omega
                      · rw [q]; exact ⟨cdiv_nn (by omega) (by omega), (cdiv_bd (B := 8) (by omega) (by omega) (by omega)).2⟩
                    refine r_iload hX dX6_places_151 rfl ?_
                    refine r_iload hX dX6_places_153 rfl ?_
                    refine r_icmp_le hX (tgt := 163) dX6_places_155 (by decide) (by omega) (by omega) (fun c155 => ?_) (fun c155 => ?_)
                    · skip
                      refine r_iload hX dX6_places_163 rfl ?_
                      exact r_iret hX dX6_places_165 rfl ⟨_, rfl, ⟨rfl, (by unfold PLm PBx; rw [← fp, ← fw, ← fb]; omega), (by omega), (by omega)⟩⟩
                    · skip
                      refine r_iload hX dX6_places_158 rfl ?_
                      refine r_goto hX dX6_places_160 (tgt := 165) (by decide) ?_
                      exact r_iret hX dX6_places_165 rfl ⟨_, rfl, ⟨rfl, (by unfold PLm PBx; rw [← fp, ← fw, ← fb]; omega), (by omega), (by omega)⟩⟩
                  · skip
                    refine r_iconst hX dX6_places_138 ?_
                    refine r_goto hX dX6_places_139 (tgt := 149) (by decide) ?_
                    refine r_istore hX (fun x149 => [some (.ref (w.2.2 27)), some (.int (iI wc)), some (.int (iI ab)), some (.int (iI pr)), some (.int (iI x132)), some (.int (iI x149))]) dX6_places_149 (Nat.le_of_ble_eq_true rfl) rfl rfl (fun _ => rfl) (fun x149 e149 => ?_)
                    have g4 : (pr = 0 ∧ x149 = 0) ∨ (pr ≠ 0 ∧ x149 = cdiv pr ab) := by first | exact Or.inl ⟨by omega, by omega⟩ | exact Or.inr ⟨by omega, by rw [e149]; exact ceil_eq (by omega)⟩
                    have g5 : 0 ≤ x149 ∧ x149 ≤ 8 := by
                      rcases g4 with ⟨-, q⟩ | ⟨q0, q⟩
                      · omega
                      · rw [q]; exact ⟨cdiv_nn (by omega) (by omega), (cdiv_bd (B := 8) (by omega) (by omega) (by omega)).2⟩
                    refine r_iload hX dX6_places_151 rfl ?_
                    refine r_iload hX dX6_places_153 rfl ?_
                    refine r_icmp_le hX (tgt := 163) dX6_places_155 (by decide) (by omega) (by omega) (fun c155 => ?_) (fun c155 => ?_)
                    · skip
                      refine r_iload hX dX6_places_163 rfl ?_
                      exact r_iret hX dX6_places_165 rfl ⟨_, rfl, ⟨rfl, (by unfold PLm PBx; rw [← fp, ← fw, ← fb]; omega), (by omega), (by omega)⟩⟩
                    · skip
                      refine r_iload hX dX6_places_158 rfl ?_
                      refine r_goto hX dX6_places_160 (tgt := 165) (by decide) ?_
                      exact r_iret hX dX6_places_165 rfl ⟨_, rfl, ⟨rfl, (by unfold PLm PBx; rw [← fp, ← fw, ← fb]; omega), (by omega), (by omega)⟩⟩
                · skip
                  refine r_iload_n hX dX6_places_115 rfl ?_
                  refine r_if_ne hX (tgt := 122) dX6_places_116 (by decide) (by omega) (fun c116 => ?_) (fun c116 => ?_)
                  · skip
                    refine r_aload_n hX dX6_places_122 rfl ?_
                    refine fg_X27_72 hX dX6_places_123 (fun b123l b123u => ?_)
                    refine r_iload_n hX dX6_places_126 rfl ?_
                    refine r_iadd hX dX6_places_127 ?_
                    refine r_iconst hX dX6_places_128 ?_
                    refine r_isub hX dX6_places_129 ?_
                    refine r_iload_n hX dX6_places_130 rfl ?_
                    refine r_idiv hX dX6_places_131 (by omega) (by omega) (by omega) (by omega) ?_
                    refine r_istore hX (fun x132 => [some (.ref (w.2.2 27)), some (.int (iI wc)), some (.int (iI ab)), some (.int (iI pr)), some (.int (iI x132)), none]) dX6_places_132 (Nat.le_of_ble_eq_true rfl) rfl rfl (fun _ => rfl) (fun x132 e132 => ?_)
                    have g1 : x132 = cdiv (σ 61 0) wc := by rw [e132]; exact ceil_eq (by omega)
                    have g2 := cdiv_bd (x := σ 61 0) (n := wc) (B := 8) (by omega) (by omega) (by omega)
                    have g3 := cdiv_nn (x := σ 61 0) (n := wc) (by omega) (by omega)
                    refine r_iload_n hX dX6_places_134 rfl ?_
                    refine r_if_ne hX (tgt := 142) dX6_places_135 (by decide) (by omega) (fun c135 => ?_) (fun c135 => ?_)
                    · skip
                      refine r_iload_n hX dX6_places_142 rfl ?_
                      refine r_iload_n hX dX6_places_143 rfl ?_
                      refine r_iadd hX dX6_places_144 ?_
                      refine r_iconst hX dX6_places_145 ?_
                      refine r_isub hX dX6_places_146 ?_
                      refine r_iload_n hX dX6_places_147 rfl ?_
                      refine r_idiv hX dX6_places_148 (by omega) (by omega) (by omega) (by omega) ?_
                      refine r_istore hX (fun x149 => [some (.ref (w.2.2 27)), some (.int (iI wc)), some (.int (iI ab)), some (.int (iI pr)), some (.int (iI x132)), some (.int (iI x149))]) dX6_places_149 (Nat.le_of_ble_eq_true rfl) rfl rfl (fun _ => rfl) (fun x149 e149 => ?_)
                      have g4 : (pr = 0 ∧ x149 = 0) ∨ (pr ≠ 0 ∧ x149 = cdiv pr ab) := by first | exact Or.inl ⟨by omega, by omega⟩ | exact Or.inr ⟨by omega, by rw [e149]; exact ceil_eq (by omega)⟩
                      have g5 : 0 ≤ x149 ∧ x149 ≤ 8 := by
                        rcases g4 with ⟨-, q⟩ | ⟨q0, q⟩
                        · omega
                        · rw [q]; exact ⟨cdiv_nn (by omega) (by omega), (cdiv_bd (B := 8) (by omega) (by omega) (by omega)).2⟩
                      refine r_iload hX dX6_places_151 rfl ?_
                      refine r_iload hX dX6_places_153 rfl ?_
                      refine r_icmp_le hX (tgt := 163) dX6_places_155 (by decide) (by omega) (by omega) (fun c155 => ?_) (fun c155 => ?_)
                      · skip
                        refine r_iload hX dX6_places_163 rfl ?_
                        exact r_iret hX dX6_places_165 rfl ⟨_, rfl, ⟨rfl, (by unfold PLm PBx; rw [← fp, ← fw, ← fb]; omega), (by omega), (by omega)⟩⟩
                      · skip
                        refine r_iload hX dX6_places_158 rfl ?_
                        refine r_goto hX dX6_places_160 (tgt := 165) (by decide) ?_
                        exact r_iret hX dX6_places_165 rfl ⟨_, rfl, ⟨rfl, (by unfold PLm PBx; rw [← fp, ← fw, ← fb]; omega), (by omega), (by omega)⟩⟩
                    · skip
                      refine r_iconst hX dX6_places_138 ?_
                      refine r_goto hX dX6_places_139 (tgt := 149) (by decide) ?_
                      refine r_istore hX (fun x149 => [some (.ref (w.2.2 27)), some (.int (iI wc)), some (.int (iI ab)), some (.int (iI pr)), some (.int (iI x132)), some (.int (iI x149))]) dX6_places_149 (Nat.le_of_ble_eq_true rfl) rfl rfl (fun _ => rfl) (fun x149 e149 => ?_)
                      have g4 : (pr = 0 ∧ x149 = 0) ∨ (pr ≠ 0 ∧ x149 = cdiv pr ab) := by first | exact Or.inl ⟨by omega, by omega⟩ | exact Or.inr ⟨by omega, by rw [e149]; exact ceil_eq (by omega)⟩
                      have g5 : 0 ≤ x149 ∧ x149 ≤ 8 := by
                        rcases g4 with ⟨-, q⟩ | ⟨q0, q⟩
                        · omega
                        · rw [q]; exact ⟨cdiv_nn (by omega) (by omega), (cdiv_bd (B := 8) (by omega) (by omega) (by omega)).2⟩
                      refine r_iload hX dX6_places_151 rfl ?_
                      refine r_iload hX dX6_places_153 rfl ?_
                      refine r_icmp_le hX (tgt := 163) dX6_places_155 (by decide) (by omega) (by omega) (fun c155 => ?_) (fun c155 => ?_)
                      · skip
                        refine r_iload hX dX6_places_163 rfl ?_
                        exact r_iret hX dX6_places_165 rfl ⟨_, rfl, ⟨rfl, (by unfold PLm PBx; rw [← fp, ← fw, ← fb]; omega), (by omega), (by omega)⟩⟩
                      · skip
                        refine r_iload hX dX6_places_158 rfl ?_
                        refine r_goto hX dX6_places_160 (tgt := 165) (by decide) ?_
                        exact r_iret hX dX6_places_165 rfl ⟨_, rfl, ⟨rfl, (by unfold PLm PBx; rw [← fp, ← fw, ← fb]; omega), (by omega), (by omega)⟩⟩
                  · skip
                    refine r_bipush hX dX6_places_119 (by decide) ?_
                    exact r_iret hX dX6_places_121 rfl ⟨_, rfl, ⟨rfl, (by unfold PLm PBx; rw [← fp, ← fw, ← fb]; omega), (by omega), (by omega)⟩⟩
            · skip
              refine r_iload_n hX dX6_places_82 rfl ?_
              refine r_aload_n hX dX6_places_83 rfl ?_
              refine fg_X27_7 hX dX6_places_84 ?_
              refine r_iload hX dX6_places_87 rfl ?_
              refine ld_X28 hX dX6_places_89 (by omega) (by omega) (fun b89l b89u => ?_)
              refine r_iconst hX dX6_places_90 ?_
              refine r_icmp_ne hX (tgt := 98) dX6_places_91 (by decide) (by omega) (by omega) (fun c91 => ?_) (fun c91 => ?_)
              · skip
                refine r_iconst hX dX6_places_98 ?_
                refine r_iadd hX dX6_places_99 ?_
                refine r_istore_n hX (fun x100 => [some (.ref (w.2.2 27)), some (.int (iI wc)), some (.int (iI ab)), some (.int (iI x100)), some (.int (iI a)), none]) dX6_places_100 (Nat.le_of_ble_eq_true rfl) rfl rfl (fun _ => rfl) (fun x100 e100 => ?_)
                refine r_iinc hX (fun x101 => [some (.ref (w.2.2 27)), some (.int (iI wc)), some (.int (iI ab)), some (.int (iI x100)), some (.int (iI x101)), none]) dX6_places_101 rfl rfl rfl (fun _ => rfl) (fun x101 e101 => ?_)
                refine r_goto hX dX6_places_104 (tgt := 73) (by decide) ?_
                exact ih73 x100 x101 (by omega) (by rw [e101, cnK, sm_succ ha.1, show sm _ a.toNat = pr from hpr.symm]; first | (rw [if_neg (by omega)]; omega) | (rw [if_pos (by omega)]; omega)) (by omega) (by omega)
              · skip
                refine r_iconst hX dX6_places_94 ?_
                refine r_goto hX dX6_places_95 (tgt := 99) (by decide) ?_
                refine r_iadd hX dX6_places_99 ?_
                refine r_istore_n hX (fun x100 => [some (.ref (w.2.2 27)), some (.int (iI wc)), some (.int (iI ab)), some (.int (iI x100)), some (.int (iI a)), none]) dX6_places_100 (Nat.le_of_ble_eq_true rfl) rfl rfl (fun _ => rfl) (fun x100 e100 => ?_)
                refine r_iinc hX (fun x101 => [some (.ref (w.2.2 27)), some (.int (iI wc)), some (.int (iI ab)), some (.int (iI x100)), some (.int (iI x101)), none]) dX6_places_101 rfl rfl rfl (fun _ => rfl) (fun x101 e101 => ?_)
                refine r_goto hX dX6_places_104 (tgt := 73) (by decide) ?_
                exact ih73 x100 x101 (by omega) (by rw [e101, cnK, sm_succ ha.1, show sm _ a.toNat = pr from hpr.symm]; first | (rw [if_neg (by omega)]; omega) | (rw [if_pos (by omega)]; omega)) (by omega) (by omega)
        exact lp73 ((9 - (x71)) + 1).toNat x5 x71 (by omega) (by rw [e5, e71]; rfl) (by omega) (by omega)
      · skip
        refine r_iload_n hX dX6_places_18 rfl ?_
        refine r_aload_n hX dX6_places_19 rfl ?_
        refine fg_X27_39 hX dX6_places_20 ?_
        refine r_iload hX dX6_places_23 rfl ?_
        refine ld_X35 hX dX6_places_25 (by omega) (by omega) (fun b25l b25u => ?_)
        refine r_if_eq hX (tgt := 33) dX6_places_26 (by decide) (by omega) (fun c26 => ?_) (fun c26 => ?_)
        · skip
          refine r_iconst hX dX6_places_33 ?_
          refine r_iadd hX dX6_places_34 ?_
          refine r_istore_n hX (fun x35 => [some (.ref (w.2.2 27)), some (.int (iI x35)), some (.int (iI ab)), some (.int (iI x5)), some (.int (iI cl)), none]) dX6_places_35 (Nat.le_of_ble_eq_true rfl) rfl rfl (fun _ => rfl) (fun x35 e35 => ?_)
          refine r_iload_n hX dX6_places_36 rfl ?_
          refine r_aload_n hX dX6_places_37 rfl ?_
          refine fg_X27_39 hX dX6_places_38 ?_
          refine r_iload hX dX6_places_41 rfl ?_
          refine ld_X35 hX dX6_places_43 (by omega) (by omega) (fun b43l b43u => ?_)
          refine r_if_ne hX (tgt := 61) dX6_places_44 (by decide) (by omega) (fun c44 => ?_) (fun c44 => ?_)
          · skip
            refine r_iconst hX dX6_places_61 ?_
            refine r_iadd hX dX6_places_62 ?_
            refine r_istore_n hX (fun x63 => [some (.ref (w.2.2 27)), some (.int (iI x35)), some (.int (iI x63)), some (.int (iI x5)), some (.int (iI cl)), none]) dX6_places_63 (Nat.le_of_ble_eq_true rfl) rfl rfl (fun _ => rfl) (fun x63 e63 => ?_)
            refine r_iinc hX (fun x64 => [some (.ref (w.2.2 27)), some (.int (iI x35)), some (.int (iI x63)), some (.int (iI x5)), some (.int (iI x64)), none]) dX6_places_64 rfl rfl rfl (fun _ => rfl) (fun x64 e64 => ?_)
            refine r_goto hX dX6_places_67 (tgt := 9) (by decide) ?_
            exact ih9 x35 x63 x64 (by omega) (by rw [e64, cn0, sm_succ hcl.1, show sm _ cl.toNat = wc from hwc.symm]; first | (rw [if_neg (by omega)]; omega) | (rw [if_pos (by omega)]; omega)) (by rw [e64, cn2, sm_succ hcl.1, show sm _ cl.toNat = ab from hab.symm]; first | (rw [if_neg (by omega)]; omega) | (rw [if_pos (by omega)]; omega)) (by omega) (by omega)
          · skip
            refine r_aload_n hX dX6_places_47 rfl ?_
            refine fg_X27_42 hX dX6_places_48 ?_
            refine r_iload hX dX6_places_51 rfl ?_
            refine ld_X36 hX dX6_places_53 (by omega) (by omega) (fun b53l b53u => ?_)
            refine r_if_eq hX (tgt := 61) dX6_places_54 (by decide) (by omega) (fun c54 => ?_) (fun c54 => ?_)
            · skip
              refine r_iconst hX dX6_places_61 ?_
              refine r_iadd hX dX6_places_62 ?_
              refine r_istore_n hX (fun x63 => [some (.ref (w.2.2 27)), some (.int (iI x35)), some (.int (iI x63)), some (.int (iI x5)), some (.int (iI cl)), none]) dX6_places_63 (Nat.le_of_ble_eq_true rfl) rfl rfl (fun _ => rfl) (fun x63 e63 => ?_)
              refine r_iinc hX (fun x64 => [some (.ref (w.2.2 27)), some (.int (iI x35)), some (.int (iI x63)), some (.int (iI x5)), some (.int (iI x64)), none]) dX6_places_64 rfl rfl rfl (fun _ => rfl) (fun x64 e64 => ?_)
              refine r_goto hX dX6_places_67 (tgt := 9) (by decide) ?_
              exact ih9 x35 x63 x64 (by omega) (by rw [e64, cn0, sm_succ hcl.1, show sm _ cl.toNat = wc from hwc.symm]; first | (rw [if_neg (by omega)]; omega) | (rw [if_pos (by omega)]; omega)) (by rw [e64, cn2, sm_succ hcl.1, show sm _ cl.toNat = ab from hab.symm]; first | (rw [if_neg (by omega)]; omega) | (rw [if_pos (by omega)]; omega)) (by omega) (by omega)
            · skip
              refine r_iconst hX dX6_places_57 ?_
              refine r_goto hX dX6_places_58 (tgt := 62) (by decide) ?_
              refine r_iadd hX dX6_places_62 ?_
              refine r_istore_n hX (fun x63 => [some (.ref (w.2.2 27)), some (.int (iI x35)), some (.int (iI x63)), some (.int (iI x5)), some (.int (iI cl)), none]) dX6_places_63 (Nat.le_of_ble_eq_true rfl) rfl rfl (fun _ => rfl) (fun x63 e63 => ?_)
              refine r_iinc hX (fun x64 => [some (.ref (w.2.2 27)), some (.int (iI x35)), some (.int (iI x63)), some (.int (iI x5)), some (.int (iI x64)), none]) dX6_places_64 rfl rfl rfl (fun _ => rfl) (fun x64 e64 => ?_)
              refine r_goto hX dX6_places_67 (tgt := 9) (by decide) ?_
              exact ih9 x35 x63 x64 (by omega) (by rw [e64, cn0, sm_succ hcl.1, show sm _ cl.toNat = wc from hwc.symm]; first | (rw [if_neg (by omega)]; omega) | (rw [if_pos (by omega)]; omega)) (by rw [e64, cn2, sm_succ hcl.1, show sm _ cl.toNat = ab from hab.symm]; first | (rw [if_neg (by omega)]; omega) | (rw [if_pos (by omega)]; omega)) (by omega) (by omega)
        · skip
          refine r_iconst hX dX6_places_29 ?_
          refine r_goto hX dX6_places_30 (tgt := 34) (by decide) ?_
          refine r_iadd hX dX6_places_34 ?_
          refine r_istore_n hX (fun x35 => [some (.ref (w.2.2 27)), some (.int (iI x35)), some (.int (iI ab)), some (.int (iI x5)), some (.int (iI cl)), none]) dX6_places_35 (Nat.le_of_ble_eq_true rfl) rfl rfl (fun _ => rfl) (fun x35 e35 => ?_)
          refine r_iload_n hX dX6_places_36 rfl ?_
          refine r_aload_n hX dX6_places_37 rfl ?_
          refine fg_X27_39 hX dX6_places_38 ?_
          refine r_iload hX dX6_places_41 rfl ?_
          refine ld_X35 hX dX6_places_43 (by omega) (by omega) (fun b43l b43u => ?_)
          refine r_if_ne hX (tgt := 61) dX6_places_44 (by decide) (by omega) (fun c44 => ?_) (fun c44 => ?_)
          · skip
            refine r_iconst hX dX6_places_61 ?_
            refine r_iadd hX dX6_places_62 ?_
            refine r_istore_n hX (fun x63 => [some (.ref (w.2.2 27)), some (.int (iI x35)), some (.int (iI x63)), some (.int (iI x5)), some (.int (iI cl)), none]) dX6_places_63 (Nat.le_of_ble_eq_true rfl) rfl rfl (fun _ => rfl) (fun x63 e63 => ?_)
            refine r_iinc hX (fun x64 => [some (.ref (w.2.2 27)), some (.int (iI x35)), some (.int (iI x63)), some (.int (iI x5)), some (.int (iI x64)), none]) dX6_places_64 rfl rfl rfl (fun _ => rfl) (fun x64 e64 => ?_)
            refine r_goto hX dX6_places_67 (tgt := 9) (by decide) ?_
            exact ih9 x35 x63 x64 (by omega) (by rw [e64, cn0, sm_succ hcl.1, show sm _ cl.toNat = wc from hwc.symm]; first | (rw [if_neg (by omega)]; omega) | (rw [if_pos (by omega)]; omega)) (by rw [e64, cn2, sm_succ hcl.1, show sm _ cl.toNat = ab from hab.symm]; first | (rw [if_neg (by omega)]; omega) | (rw [if_pos (by omega)]; omega)) (by omega) (by omega)
          · skip
            refine r_aload_n hX dX6_places_47 rfl ?_
            refine fg_X27_42 hX dX6_places_48 ?_
            refine r_iload hX dX6_places_51 rfl ?_
            refine ld_X36 hX dX6_places_53 (by omega) (by omega) (fun b53l b53u => ?_)
            refine r_if_eq hX (tgt := 61) dX6_places_54 (by decide) (by omega) (fun c54 => ?_) (fun c54 => ?_)
            · skip
              refine r_iconst hX dX6_places_61 ?_
              refine r_iadd hX dX6_places_62 ?_
              refine r_istore_n hX (fun x63 => [some (.ref (w.2.2 27)), some (.int (iI x35)), some (.int (iI x63)), some (.int (iI x5)), some (.int (iI cl)), none]) dX6_places_63 (Nat.le_of_ble_eq_true rfl) rfl rfl (fun _ => rfl) (fun x63 e63 => ?_)
              refine r_iinc hX (fun x64 => [some (.ref (w.2.2 27)), some (.int (iI x35)), some (.int (iI x63)), some (.int (iI x5)), some (.int (iI x64)), none]) dX6_places_64 rfl rfl rfl (fun _ => rfl) (fun x64 e64 => ?_)
              refine r_goto hX dX6_places_67 (tgt := 9) (by decide) ?_
              exact ih9 x35 x63 x64 (by omega) (by rw [e64, cn0, sm_succ hcl.1, show sm _ cl.toNat = wc from hwc.symm]; first | (rw [if_neg (by omega)]; omega) | (rw [if_pos (by omega)]; omega)) (by rw [e64, cn2, sm_succ hcl.1, show sm _ cl.toNat = ab from hab.symm]; first | (rw [if_neg (by omega)]; omega) | (rw [if_pos (by omega)]; omega)) (by omega) (by omega)
            · skip
              refine r_iconst hX dX6_places_57 ?_
              refine r_goto hX dX6_places_58 (tgt := 62) (by decide) ?_
              refine r_iadd hX dX6_places_62 ?_
              refine r_istore_n hX (fun x63 => [some (.ref (w.2.2 27)), some (.int (iI x35)), some (.int (iI x63)), some (.int (iI x5)), some (.int (iI cl)), none]) dX6_places_63 (Nat.le_of_ble_eq_true rfl) rfl rfl (fun _ => rfl) (fun x63 e63 => ?_)
              refine r_iinc hX (fun x64 => [some (.ref (w.2.2 27)), some (.int (iI x35)), some (.int (iI x63)), some (.int (iI x5)), some (.int (iI x64)), none]) dX6_places_64 rfl rfl rfl (fun _ => rfl) (fun x64 e64 => ?_)
              refine r_goto hX dX6_places_67 (tgt := 9) (by decide) ?_
              exact ih9 x35 x63 x64 (by omega) (by rw [e64, cn0, sm_succ hcl.1, show sm _ cl.toNat = wc from hwc.symm]; first | (rw [if_neg (by omega)]; omega) | (rw [if_pos (by omega)]; omega)) (by rw [e64, cn2, sm_succ hcl.1, show sm _ cl.toNat = ab from hab.symm]; first | (rw [if_neg (by omega)]; omega) | (rw [if_pos (by omega)]; omega)) (by omega) (by omega)
  exact lp9 ((10 - (x7)) + 1).toNat x1 x3 x7 (by omega) (by rw [e1, e7]; rfl) (by rw [e3, e7]; rfl) (by omega) (by omega)
theorem dX6_tries_0 : decode cX6_tries 0 = .ok (.aload_n 0, 1) := by decide +kernel
theorem dX6_tries_1 : decode cX6_tries 1 = .ok (.getfield 183, 3) := by decide +kernel
theorem dX6_tries_4 : decode cX6_tries 4 = .ok (.ireturn, 1) := by decide +kernel
set_option maxRecDepth 20000 in
set_option maxHeartbeats 4000000 in
theorem k_M_tries (l : Launch) (w : WT) (σ : MM) : CT SX l w yX6_tries cX6_tries 1 (some .int) 0 0 [.ref (w.2.2 27)] σ (PI fun z σ1 => σ = σ1 ∧ (z = σ 67 0)) := by
  refine CT.of 0 [some (.ref (w.2.2 27))] (by decide +kernel) (by simp [lg_sl, Value.category]) rfl sh_X (fun G hX => ?_)
  refine r_aload_n hX dX6_tries_0 rfl ?_
  refine fg_X27_183 hX dX6_tries_1 ?_
  exact r_iret hX dX6_tries_4 rfl ⟨_, rfl, ⟨rfl, (by omega)⟩⟩
theorem dX6_told_0 : decode cX6_told 0 = .ok (.iconst 0, 1) := by decide +kernel
theorem dX6_told_1 : decode cX6_told 1 = .ok (.istore_n 2, 1) := by decide +kernel
theorem dX6_told_2 : decode cX6_told 2 = .ok (.iconst 0, 1) := by decide +kernel
theorem dX6_told_3 : decode cX6_told 3 = .ok (.istore_n 3, 1) := by decide +kernel
theorem dX6_told_4 : decode cX6_told 4 = .ok (.iload_n 3, 1) := by decide +kernel
theorem dX6_told_5 : decode cX6_told 5 = .ok (.aload_n 0, 1) := by decide +kernel
theorem dX6_told_6 : decode cX6_told 6 = .ok (.invokevirtual 133, 3) := by decide +kernel
theorem dX6_told_9 : decode cX6_told 9 = .ok (.if_icmp .ge 26, 3) := by decide +kernel
theorem dX6_told_12 : decode cX6_told 12 = .ok (.iload_n 2, 1) := by decide +kernel
theorem dX6_told_13 : decode cX6_told 13 = .ok (.aload_n 0, 1) := by decide +kernel
theorem dX6_told_14 : decode cX6_told 14 = .ok (.getfield 39, 3) := by decide +kernel
theorem dX6_told_17 : decode cX6_told 17 = .ok (.iload_n 3, 1) := by decide +kernel
theorem dX6_told_18 : decode cX6_told 18 = .ok (.baload, 1) := by decide +kernel
theorem dX6_told_19 : decode cX6_told 19 = .ok (.ifCond .eq 7, 3) := by decide +kernel
theorem dX6_told_22 : decode cX6_told 22 = .ok (.iconst 0, 1) := by decide +kernel
theorem dX6_told_23 : decode cX6_told 23 = .ok (.goto 4, 3) := by decide +kernel
theorem dX6_told_26 : decode cX6_told 26 = .ok (.iconst 1, 1) := by decide +kernel
theorem dX6_told_27 : decode cX6_told 27 = .ok (.iadd, 1) := by decide +kernel
theorem dX6_told_28 : decode cX6_told 28 = .ok (.istore_n 2, 1) := by decide +kernel
theorem dX6_told_29 : decode cX6_told 29 = .ok (.iinc 3 1, 3) := by decide +kernel
theorem dX6_told_32 : decode cX6_told 32 = .ok (.goto (-28), 3) := by decide +kernel
theorem dX6_told_35 : decode cX6_told 35 = .ok (.iload_n 1, 1) := by decide +kernel
theorem dX6_told_36 : decode cX6_told 36 = .ok (.tableswitch 67 0 5 #[40, 45, 50, 55, 57, 62], 40) := by decide +kernel
theorem dX6_told_76 : decode cX6_told 76 = .ok (.aload_n 0, 1) := by decide +kernel
theorem dX6_told_77 : decode cX6_told 77 = .ok (.getfield 72, 3) := by decide +kernel
theorem dX6_told_80 : decode cX6_told 80 = .ok (.ireturn, 1) := by decide +kernel
theorem dX6_told_81 : decode cX6_told 81 = .ok (.aload_n 0, 1) := by decide +kernel
theorem dX6_told_82 : decode cX6_told 82 = .ok (.getfield 32, 3) := by decide +kernel
theorem dX6_told_85 : decode cX6_told 85 = .ok (.ireturn, 1) := by decide +kernel
theorem dX6_told_86 : decode cX6_told 86 = .ok (.aload_n 0, 1) := by decide +kernel
theorem dX6_told_87 : decode cX6_told 87 = .ok (.getfield 36, 3) := by decide +kernel
theorem dX6_told_90 : decode cX6_told 90 = .ok (.ireturn, 1) := by decide +kernel
theorem dX6_told_91 : decode cX6_told 91 = .ok (.iload_n 2, 1) := by decide +kernel
theorem dX6_told_92 : decode cX6_told 92 = .ok (.ireturn, 1) := by decide +kernel
theorem dX6_told_93 : decode cX6_told 93 = .ok (.aload_n 0, 1) := by decide +kernel
theorem dX6_told_94 : decode cX6_told 94 = .ok (.getfield 79, 3) := by decide +kernel
theorem dX6_told_97 : decode cX6_told 97 = .ok (.ireturn, 1) := by decide +kernel
theorem dX6_told_98 : decode cX6_told 98 = .ok (.aload_n 0, 1) := by decide +kernel
theorem dX6_told_99 : decode cX6_told 99 = .ok (.getfield 82, 3) := by decide +kernel
theorem dX6_told_102 : decode cX6_told 102 = .ok (.ireturn, 1) := by decide +kernel
theorem dX6_told_103 : decode cX6_told 103 = .ok (.bipush (-2), 2) := by decide +kernel
theorem dX6_told_105 : decode cX6_told 105 = .ok (.ireturn, 1) := by decide +kernel
set_option maxRecDepth 20000 in
set_option maxHeartbeats 4000000 in
theorem k_M_told (l : Launch) (w : WT) (σ : MM) (h : Int) (i_h : inr h) : CT SX l w yX6_told cX6_told 4 (some .int) 1 20 [.ref (w.2.2 27), .int (iI h)] σ (PI fun z σ1 => σ = σ1 ∧ ((h = 0 ∧ z = σ 61 0) ∨ (h = 1 ∧ z = σ 65 0) ∨ (h = 2 ∧ z = σ 66 0) ∨ (h = 3 ∧ z = cn0 (σ 35) (σ 65 0 * σ 66 0)) ∨ (h = 4 ∧ z = σ 63 0) ∨ (h = 5 ∧ z = σ 64 0) ∨ ((h < 0 ∨ 5 < h) ∧ z = -2))) := by
  refine CT.of 2 [some (.ref (w.2.2 27)), some (.int (iI h)), none, none] (by decide +kernel) (by simp [lg_sl, Value.category]) rfl sh_X (fun G hX => ?_)
  refine r_bd hX (fun hBd => ?_)
  have b_65 := hBd 65 1 3 rfl 0
  have b_66 := hBd 66 1 3 rfl 0
  have hn := mul_bd b_65 b_66
  refine r_iconst hX dX6_told_0 ?_
  refine r_istore_n hX (fun x1 => [some (.ref (w.2.2 27)), some (.int (iI h)), some (.int (iI x1)), none]) dX6_told_1 (Nat.le_of_ble_eq_true rfl) rfl rfl (fun _ => rfl) (fun x1 e1 => ?_)
  refine r_iconst hX dX6_told_2 ?_
  refine r_istore_n hX (fun x3 => [some (.ref (w.2.2 27)), some (.int (iI h)), some (.int (iI x1)), some (.int (iI x3))]) dX6_told_3 (Nat.le_of_ble_eq_true rfl) rfl rfl (fun _ => rfl) (fun x3 e3 => ?_)
  have lp4 : ∀ (n : Nat) (wc : Int) (cl : Int) (hcl : 0 ≤ cl ∧ cl ≤ σ 65 0 * σ 66 0) (hwc : wc = cn0 (σ 35) cl) (hmu : 10 - cl < (n : Int)), G 4 [some (.ref (w.2.2 27)), some (.int (iI h)), some (.int (iI wc)), some (.int (iI cl))] [] σ := by
    intro n
    induction n with
    | zero => intro wc cl hcl hwc hmu; omega
    | succ n ih =>
      intro wc cl hcl hwc hmu
      have ih4 := ih
      clear ih
      refine r_iload_n hX dX6_told_4 rfl ?_
      refine r_aload_n hX dX6_told_5 rfl ?_
      refine r_callV hX dX6_told_6 (k_M_cells l w σ) mf_X6_cells mv_X6_cells lk_RX6_133 rfl rfl rfl rfl rfl ⟨Nat.le_of_ble_eq_true rfl, Nat.le_of_ble_eq_true rfl⟩ (Nat.le_of_ble_eq_true rfl) (kI fun z6 σ6 hh => ?_)
      obtain ⟨rfl, h6_0, h6_1⟩ := hh
      refine r_icmp_ge hX (tgt := 35) dX6_told_9 (by decide) (by omega) (by omega) (fun c9 => ?_) (fun c9 => ?_)
      · skip
        have fw : wc = cn0 (σ 35) (σ 65 0 * σ 66 0) := (show cl = σ 65 0 * σ 66 0 by omega) ▸ hwc
        refine r_iload_n hX dX6_told_35 rfl ?_
        refine r_nm hX (fun x36 e36 => ?_)
        rcases (by omega : x36 < 0 ∨ 5 < x36 ∨ x36 = 0 ∨ x36 = 1 ∨ x36 = 2 ∨ x36 = 3 ∨ x36 = 4 ∨ x36 = 5) with c36 | c36 | c36 | c36 | c36 | c36 | c36 | c36
        · skip
          refine r_tblOut hX dX6_told_36 (by omega) (Or.inl c36) (tgt := 103) (by decide) ?_
          refine r_bipush hX dX6_told_103 (by decide) ?_
          exact r_iret hX dX6_told_105 rfl ⟨_, rfl, ⟨rfl, (by exact Or.inr (Or.inr (Or.inr (Or.inr (Or.inr (Or.inr (⟨by omega, rfl⟩)))))))⟩⟩
        · skip
          refine r_tblOut hX dX6_told_36 (by omega) (Or.inr c36) (tgt := 103) (by decide) ?_
          refine r_bipush hX dX6_told_103 (by decide) ?_
          exact r_iret hX dX6_told_105 rfl ⟨_, rfl, ⟨rfl, (by exact Or.inr (Or.inr (Or.inr (Or.inr (Or.inr (Or.inr (⟨by omega, rfl⟩)))))))⟩⟩
        · skip
          refine r_tblIn hX 0 dX6_told_36 c36 (by decide) rfl (tgt := 76) (by decide) ?_
          refine r_aload_n hX dX6_told_76 rfl ?_
          refine fg_X27_72 hX dX6_told_77 (fun b77l b77u => ?_)
          exact r_iret hX dX6_told_80 rfl ⟨_, rfl, ⟨rfl, (by exact Or.inl ⟨by omega, rfl⟩)⟩⟩
        · skip
          refine r_tblIn hX 1 dX6_told_36 c36 (by decide) rfl (tgt := 81) (by decide) ?_
          refine r_aload_n hX dX6_told_81 rfl ?_
          refine fg_X27_32 hX dX6_told_82 (fun b82l b82u => ?_)
          exact r_iret hX dX6_told_85 rfl ⟨_, rfl, ⟨rfl, (by exact Or.inr (Or.inl ⟨by omega, rfl⟩))⟩⟩
        · skip
          refine r_tblIn hX 2 dX6_told_36 c36 (by decide) rfl (tgt := 86) (by decide) ?_
          refine r_aload_n hX dX6_told_86 rfl ?_
          refine fg_X27_36 hX dX6_told_87 (fun b87l b87u => ?_)
          exact r_iret hX dX6_told_90 rfl ⟨_, rfl, ⟨rfl, (by exact Or.inr (Or.inr (Or.inl ⟨by omega, rfl⟩)))⟩⟩
        · skip
          refine r_tblIn hX 3 dX6_told_36 c36 (by decide) rfl (tgt := 91) (by decide) ?_
          refine r_iload_n hX dX6_told_91 rfl ?_
          exact r_iret hX dX6_told_92 rfl ⟨_, rfl, ⟨rfl, (by exact Or.inr (Or.inr (Or.inr (Or.inl ⟨by omega, fw⟩))))⟩⟩
        · skip
          refine r_tblIn hX 4 dX6_told_36 c36 (by decide) rfl (tgt := 93) (by decide) ?_
          refine r_aload_n hX dX6_told_93 rfl ?_
          refine fg_X27_79 hX dX6_told_94 (fun b94l b94u => ?_)
          exact r_iret hX dX6_told_97 rfl ⟨_, rfl, ⟨rfl, (by exact Or.inr (Or.inr (Or.inr (Or.inr (Or.inl ⟨by omega, rfl⟩)))))⟩⟩
        · skip
          refine r_tblIn hX 5 dX6_told_36 c36 (by decide) rfl (tgt := 98) (by decide) ?_
          refine r_aload_n hX dX6_told_98 rfl ?_
          refine fg_X27_82 hX dX6_told_99 (fun b99l b99u => ?_)
          exact r_iret hX dX6_told_102 rfl ⟨_, rfl, ⟨rfl, (by exact Or.inr (Or.inr (Or.inr (Or.inr (Or.inr (Or.inl ⟨by omega, rfl⟩))))))⟩⟩
      · skip
        refine r_iload_n hX dX6_told_12 rfl ?_
        refine r_aload_n hX dX6_told_13 rfl ?_
        refine fg_X27_39 hX dX6_told_14 ?_
        refine r_iload_n hX dX6_told_17 rfl ?_
        refine ld_X35 hX dX6_told_18 (by omega) (by omega) (fun b18l b18u => ?_)
        refine r_if_eq hX (tgt := 26) dX6_told_19 (by decide) (by omega) (fun c19 => ?_) (fun c19 => ?_)
        · skip
          refine r_iconst hX dX6_told_26 ?_
          refine r_iadd hX dX6_told_27 ?_
          refine r_istore_n hX (fun x28 => [some (.ref (w.2.2 27)), some (.int (iI h)), some (.int (iI x28)), some (.int (iI cl))]) dX6_told_28 (Nat.le_of_ble_eq_true rfl) rfl rfl (fun _ => rfl) (fun x28 e28 => ?_)
          refine r_iinc hX (fun x29 => [some (.ref (w.2.2 27)), some (.int (iI h)), some (.int (iI x28)), some (.int (iI x29))]) dX6_told_29 rfl rfl rfl (fun _ => rfl) (fun x29 e29 => ?_)
          refine r_goto hX dX6_told_32 (tgt := 4) (by decide) ?_
          exact ih4 x28 x29 (by omega) (by rw [e29, cn0, sm_succ hcl.1, show sm _ cl.toNat = wc from hwc.symm]; first | (rw [if_neg (by omega)]; omega) | (rw [if_pos (by omega)]; omega)) (by omega)
        · skip
          refine r_iconst hX dX6_told_22 ?_
          refine r_goto hX dX6_told_23 (tgt := 27) (by decide) ?_
          refine r_iadd hX dX6_told_27 ?_
          refine r_istore_n hX (fun x28 => [some (.ref (w.2.2 27)), some (.int (iI h)), some (.int (iI x28)), some (.int (iI cl))]) dX6_told_28 (Nat.le_of_ble_eq_true rfl) rfl rfl (fun _ => rfl) (fun x28 e28 => ?_)
          refine r_iinc hX (fun x29 => [some (.ref (w.2.2 27)), some (.int (iI h)), some (.int (iI x28)), some (.int (iI x29))]) dX6_told_29 rfl rfl rfl (fun _ => rfl) (fun x29 e29 => ?_)
          refine r_goto hX dX6_told_32 (tgt := 4) (by decide) ?_
          exact ih4 x28 x29 (by omega) (by rw [e29, cn0, sm_succ hcl.1, show sm _ cl.toNat = wc from hwc.symm]; first | (rw [if_neg (by omega)]; omega) | (rw [if_pos (by omega)]; omega)) (by omega)
  exact lp4 ((10 - (x3)) + 1).toNat x1 x3 (by omega) (by rw [e1, e3]; rfl) (by omega)
