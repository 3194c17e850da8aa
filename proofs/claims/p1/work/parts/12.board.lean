theorem dX5_isWithin_0 : decode cX5_isWithin 0 = .ok (.iload_n 0, 1) := by decide +kernel
theorem dX5_isWithin_1 : decode cX5_isWithin 1 = .ok (.iload_n 1, 1) := by decide +kernel
theorem dX5_isWithin_2 : decode cX5_isWithin 2 = .ok (.if_icmp .lt 12, 3) := by decide +kernel
theorem dX5_isWithin_5 : decode cX5_isWithin 5 = .ok (.iload_n 0, 1) := by decide +kernel
theorem dX5_isWithin_6 : decode cX5_isWithin 6 = .ok (.iload_n 2, 1) := by decide +kernel
theorem dX5_isWithin_7 : decode cX5_isWithin 7 = .ok (.if_icmp .gt 7, 3) := by decide +kernel
theorem dX5_isWithin_10 : decode cX5_isWithin 10 = .ok (.iconst 1, 1) := by decide +kernel
theorem dX5_isWithin_11 : decode cX5_isWithin 11 = .ok (.goto 4, 3) := by decide +kernel
theorem dX5_isWithin_14 : decode cX5_isWithin 14 = .ok (.iconst 0, 1) := by decide +kernel
theorem dX5_isWithin_15 : decode cX5_isWithin 15 = .ok (.ireturn, 1) := by decide +kernel
set_option maxRecDepth 20000 in
set_option maxHeartbeats 4000000 in
theorem k_B_isWithin (l : Launch) (w : WT) (σ : MM) (x : Int) (a : Int) (b : Int) (i_x : inr x) (i_a : inr a) (i_b : inr b) : CT SX l w yX5_isWithin cX5_isWithin 3 (some .boolean) 0 0 [.int (iI x), .int (iI a), .int (iI b)] σ (PI fun z σ1 => σ = σ1 ∧ ((z = 1 ∧ a ≤ x ∧ x ≤ b) ∨ (z = 0 ∧ (x < a ∨ b < x)))) := by
  refine CT.of 0 [some (.int (iI x)), some (.int (iI a)), some (.int (iI b))] (by decide +kernel) (by simp [lg_sl, Value.category]) rfl sh_X (fun G hX => ?_)
  refine r_iload_n hX dX5_isWithin_0 rfl ?_
  refine r_iload_n hX dX5_isWithin_1 rfl ?_
  refine r_icmp_lt hX (tgt := 14) dX5_isWithin_2 (by decide) (by omega) (by omega) (fun c2 => ?_) (fun c2 => ?_)
  · skip
    refine r_iconst hX dX5_isWithin_14 ?_
    exact r_zret hX dX5_isWithin_15 rfl (by omega) ⟨_, rfl, ⟨rfl, (by omega)⟩⟩
  · skip
    refine r_iload_n hX dX5_isWithin_5 rfl ?_
    refine r_iload_n hX dX5_isWithin_6 rfl ?_
    refine r_icmp_gt hX (tgt := 14) dX5_isWithin_7 (by decide) (by omega) (by omega) (fun c7 => ?_) (fun c7 => ?_)
    · skip
      refine r_iconst hX dX5_isWithin_14 ?_
      exact r_zret hX dX5_isWithin_15 rfl (by omega) ⟨_, rfl, ⟨rfl, (by omega)⟩⟩
    · skip
      refine r_iconst hX dX5_isWithin_10 ?_
      refine r_goto hX dX5_isWithin_11 (tgt := 15) (by decide) ?_
      exact r_zret hX dX5_isWithin_15 rfl (by omega) ⟨_, rfl, ⟨rfl, (by omega)⟩⟩
theorem dX5_isOperand_0 : decode cX5_isOperand 0 = .ok (.iload_n 0, 1) := by decide +kernel
theorem dX5_isOperand_1 : decode cX5_isOperand 1 = .ok (.iconst 0, 1) := by decide +kernel
theorem dX5_isOperand_2 : decode cX5_isOperand 2 = .ok (.bipush 7, 2) := by decide +kernel
theorem dX5_isOperand_4 : decode cX5_isOperand 4 = .ok (.invokestatic 51, 3) := by decide +kernel
theorem dX5_isOperand_7 : decode cX5_isOperand 7 = .ok (.ifCond .eq 16, 3) := by decide +kernel
theorem dX5_isOperand_10 : decode cX5_isOperand 10 = .ok (.iload_n 1, 1) := by decide +kernel
theorem dX5_isOperand_11 : decode cX5_isOperand 11 = .ok (.iconst 0, 1) := by decide +kernel
theorem dX5_isOperand_12 : decode cX5_isOperand 12 = .ok (.iconst 3, 1) := by decide +kernel
theorem dX5_isOperand_13 : decode cX5_isOperand 13 = .ok (.invokestatic 51, 3) := by decide +kernel
theorem dX5_isOperand_16 : decode cX5_isOperand 16 = .ok (.ifCond .eq 7, 3) := by decide +kernel
theorem dX5_isOperand_19 : decode cX5_isOperand 19 = .ok (.iconst 1, 1) := by decide +kernel
theorem dX5_isOperand_20 : decode cX5_isOperand 20 = .ok (.goto 4, 3) := by decide +kernel
theorem dX5_isOperand_23 : decode cX5_isOperand 23 = .ok (.iconst 0, 1) := by decide +kernel
theorem dX5_isOperand_24 : decode cX5_isOperand 24 = .ok (.ireturn, 1) := by decide +kernel
set_option maxRecDepth 20000 in
set_option maxHeartbeats 4000000 in
theorem k_B_isOperand (l : Launch) (w : WT) (σ : MM) (a : Int) (d : Int) (i_a : inr a) (i_d : inr d) : CT SX l w yX5_isOperand cX5_isOperand 2 (some .boolean) 1 22 [.int (iI a), .int (iI d)] σ (PI fun z σ1 => σ = σ1 ∧ ((z = 1 ∧ 0 ≤ a ∧ a ≤ 7 ∧ 0 ≤ d ∧ d ≤ 3) ∨ (z = 0 ∧ (a < 0 ∨ 7 < a ∨ d < 0 ∨ 3 < d)))) := by
  refine CT.of 0 [some (.int (iI a)), some (.int (iI d))] (by decide +kernel) (by simp [lg_sl, Value.category]) rfl sh_X (fun G hX => ?_)
  refine r_iload_n hX dX5_isOperand_0 rfl ?_
  refine r_iconst hX dX5_isOperand_1 ?_
  refine r_bipush hX dX5_isOperand_2 (by decide) ?_
  refine r_callS hX dX5_isOperand_4 (k_B_isWithin l w σ _ _ _ (by omega) (by omega) (by omega)) mf_X5_isWithin ms_X5_isWithin lk_RX5_51 rfl rfl ⟨Nat.le_of_ble_eq_true rfl, Nat.le_of_ble_eq_true rfl⟩ (Nat.le_of_ble_eq_true rfl) (kI fun z4 σ4 hh => ?_)
  obtain ⟨rfl, h4_0⟩ := hh
  refine r_if_eq hX (tgt := 23) dX5_isOperand_7 (by decide) (by omega) (fun c7 => ?_) (fun c7 => ?_)
  · skip
    refine r_iconst hX dX5_isOperand_23 ?_
    exact r_zret hX dX5_isOperand_24 rfl (by omega) ⟨_, rfl, ⟨rfl, (by omega)⟩⟩
  · skip
    refine r_iload_n hX dX5_isOperand_10 rfl ?_
    refine r_iconst hX dX5_isOperand_11 ?_
    refine r_iconst hX dX5_isOperand_12 ?_
    refine r_callS hX dX5_isOperand_13 (k_B_isWithin l w σ _ _ _ (by omega) (by omega) (by omega)) mf_X5_isWithin ms_X5_isWithin lk_RX5_51 rfl rfl ⟨Nat.le_of_ble_eq_true rfl, Nat.le_of_ble_eq_true rfl⟩ (Nat.le_of_ble_eq_true rfl) (kI fun z13 σ13 hh => ?_)
    obtain ⟨rfl, h13_0⟩ := hh
    refine r_if_eq hX (tgt := 23) dX5_isOperand_16 (by decide) (by omega) (fun c16 => ?_) (fun c16 => ?_)
    · skip
      refine r_iconst hX dX5_isOperand_23 ?_
      exact r_zret hX dX5_isOperand_24 rfl (by omega) ⟨_, rfl, ⟨rfl, (by omega)⟩⟩
    · skip
      refine r_iconst hX dX5_isOperand_19 ?_
      refine r_goto hX dX5_isOperand_20 (tgt := 24) (by decide) ?_
      exact r_zret hX dX5_isOperand_24 rfl (by omega) ⟨_, rfl, ⟨rfl, (by omega)⟩⟩
theorem dX5_actsChanged_0 : decode cX5_actsChanged 0 = .ok (.aload_n 0, 1) := by decide +kernel
theorem dX5_actsChanged_1 : decode cX5_actsChanged 1 = .ok (.getfield 28, 3) := by decide +kernel
theorem dX5_actsChanged_4 : decode cX5_actsChanged 4 = .ok (.invokevirtual 132, 3) := by decide +kernel
theorem dX5_actsChanged_7 : decode cX5_actsChanged 7 = .ok (.aload_n 0, 1) := by decide +kernel
theorem dX5_actsChanged_8 : decode cX5_actsChanged 8 = .ok (.iconst 0, 1) := by decide +kernel
theorem dX5_actsChanged_9 : decode cX5_actsChanged 9 = .ok (.putfield 78, 3) := by decide +kernel
theorem dX5_actsChanged_12 : decode cX5_actsChanged 12 = .ok (.aload_n 0, 1) := by decide +kernel
theorem dX5_actsChanged_13 : decode cX5_actsChanged 13 = .ok (.iconst 0, 1) := by decide +kernel
theorem dX5_actsChanged_14 : decode cX5_actsChanged 14 = .ok (.putfield 82, 3) := by decide +kernel
theorem dX5_actsChanged_17 : decode cX5_actsChanged 17 = .ok (.return_, 1) := by decide +kernel
set_option maxRecDepth 20000 in
set_option maxHeartbeats 4000000 in
theorem k_B_actsChanged (l : Launch) (w : WT) (σ : MM) : CT SX l w yX5_actsChanged cX5_actsChanged 1 none 1 20 [.ref (w.2.2 0)] σ (PV fun σ1 => Mod [50, 51, 58] σ σ1 ∧ (σ1 50 0 = 0 ∧ σ1 51 0 = 0 ∧ σ1 58 0 = 0)) := by
  refine CT.of 0 [some (.ref (w.2.2 0))] (by decide +kernel) (by simp [lg_sl, Value.category]) rfl sh_X (fun G hX => ?_)
  refine r_aload_n hX dX5_actsChanged_0 rfl ?_
  refine fg_X0_28 hX dX5_actsChanged_1 ?_
  refine r_callV hX dX5_actsChanged_4 (k_Ly_drop l w σ) mf_X1_drop mv_X1_drop lk_RX5_132 rfl rfl rfl rfl rfl ⟨Nat.le_of_ble_eq_true rfl, Nat.le_of_ble_eq_true rfl⟩ (Nat.le_of_ble_eq_true rfl) (kV fun σ4 hh => ?_)
  obtain ⟨m4, h4_0⟩ := hh
  refine r_aload_n hX dX5_actsChanged_7 rfl ?_
  refine r_iconst hX dX5_actsChanged_8 ?_
  refine fp_X0_78 hX dX5_actsChanged_9 (by omega) (fun σ9 m9 s9 => ?_)
  refine r_aload_n hX dX5_actsChanged_12 rfl ?_
  refine r_iconst hX dX5_actsChanged_13 ?_
  refine fp_X0_82 hX dX5_actsChanged_14 (by omega) (fun σ14 m14 s14 => ?_)
  exact r_ret hX dX5_actsChanged_17 rfl ⟨rfl, ⟨(Mod.tr (L := [50, 51, 58]) (Mod.tr (L := [50, 51, 58]) m4 m9 rfl rfl) m14 rfl rfl), (by refine ⟨?_, ?_, ?_⟩; (rw [m14.at 50 rfl]; exact s9); exact s14; (rw [m14.at 58 rfl, m9.at 58 rfl]; exact h4_0))⟩⟩
theorem dX5_stepBeat_0 : decode cX5_stepBeat 0 = .ok (.iconst 0, 1) := by decide +kernel
theorem dX5_stepBeat_1 : decode cX5_stepBeat 1 = .ok (.istore_n 3, 1) := by decide +kernel
theorem dX5_stepBeat_2 : decode cX5_stepBeat 2 = .ok (.iload_n 3, 1) := by decide +kernel
theorem dX5_stepBeat_3 : decode cX5_stepBeat 3 = .ok (.aload_n 0, 1) := by decide +kernel
theorem dX5_stepBeat_4 : decode cX5_stepBeat 4 = .ok (.getfield 12, 3) := by decide +kernel
theorem dX5_stepBeat_7 : decode cX5_stepBeat 7 = .ok (.invokevirtual 85, 3) := by decide +kernel
theorem dX5_stepBeat_10 : decode cX5_stepBeat 10 = .ok (.if_icmp .ge 41, 3) := by decide +kernel
theorem dX5_stepBeat_13 : decode cX5_stepBeat 13 = .ok (.aload_n 0, 1) := by decide +kernel
theorem dX5_stepBeat_14 : decode cX5_stepBeat 14 = .ok (.getfield 28, 3) := by decide +kernel
theorem dX5_stepBeat_17 : decode cX5_stepBeat 17 = .ok (.iload_n 3, 1) := by decide +kernel
theorem dX5_stepBeat_18 : decode cX5_stepBeat 18 = .ok (.iload_n 1, 1) := by decide +kernel
theorem dX5_stepBeat_19 : decode cX5_stepBeat 19 = .ok (.invokevirtual 229, 3) := by decide +kernel
theorem dX5_stepBeat_22 : decode cX5_stepBeat 22 = .ok (.istore 4, 2) := by decide +kernel
theorem dX5_stepBeat_24 : decode cX5_stepBeat 24 = .ok (.iload 4, 2) := by decide +kernel
theorem dX5_stepBeat_26 : decode cX5_stepBeat 26 = .ok (.ifCond .lt 19, 3) := by decide +kernel
theorem dX5_stepBeat_29 : decode cX5_stepBeat 29 = .ok (.iload 4, 2) := by decide +kernel
theorem dX5_stepBeat_31 : decode cX5_stepBeat 31 = .ok (.iload_n 2, 1) := by decide +kernel
theorem dX5_stepBeat_32 : decode cX5_stepBeat 32 = .ok (.if_icmp .ge 13, 3) := by decide +kernel
theorem dX5_stepBeat_35 : decode cX5_stepBeat 35 = .ok (.aload_n 0, 1) := by decide +kernel
theorem dX5_stepBeat_36 : decode cX5_stepBeat 36 = .ok (.getfield 48, 3) := by decide +kernel
theorem dX5_stepBeat_39 : decode cX5_stepBeat 39 = .ok (.iload_n 3, 1) := by decide +kernel
theorem dX5_stepBeat_40 : decode cX5_stepBeat 40 = .ok (.iload 4, 2) := by decide +kernel
theorem dX5_stepBeat_42 : decode cX5_stepBeat 42 = .ok (.invokevirtual 232, 3) := by decide +kernel
theorem dX5_stepBeat_45 : decode cX5_stepBeat 45 = .ok (.iinc 3 1, 3) := by decide +kernel
theorem dX5_stepBeat_48 : decode cX5_stepBeat 48 = .ok (.goto (-46), 3) := by decide +kernel
theorem dX5_stepBeat_51 : decode cX5_stepBeat 51 = .ok (.return_, 1) := by decide +kernel
set_option maxRecDepth 20000 in
set_option maxHeartbeats 4000000 in
theorem k_B_stepBeat (l : Launch) (w : WT) (σ : MM) (bt : Int) (R : Int) (i_bt : inr bt) (i_R : inr R) (hLO : LoopOK σ) (hso : σ 54 0 = σ 53 0) (hD : DatOK σ) (hbt : 0 < σ 58 0) (hL : ∀ s : Int, 0 ≤ s → s < 2 * σ 53 0 → ¬ P4x σ s) (ht : 0 ≤ bt ∧ bt ≤ 20000800) (hR : 1 ≤ R ∧ R ≤ 60) : CT SX l w yX5_stepBeat cX5_stepBeat 5 none 5 112 [.ref (w.2.2 0), .int (iI bt), .int (iI R)] σ (PV fun σ1 => Mod [26] σ σ1 ∧ (SBx σ (σ 26) R bt 0 → SBx σ (σ1 26) R (bt + 1) 0)) := by
  refine CT.of 2 [some (.ref (w.2.2 0)), some (.int (iI bt)), some (.int (iI R)), none, none] (by decide +kernel) (by simp [lg_sl, Value.category]) rfl sh_X (fun G hX => ?_)
  refine r_bd hX (fun hBd => ?_)
  have b_53 := hBd 53 0 8 rfl 0
  have hdi : ∀ s : Int, 0 ≤ σ 6 s ∧ σ 6 s ≤ 3 := fun s => hBd 6 0 3 rfl s
  have hwy : ∀ s : Int, 0 ≤ σ 13 s := fun s => (hBd 13 0 1000 rfl s).1
  have hsr := srcOK_of hLO hso
  refine r_iconst hX dX5_stepBeat_0 ?_
  refine r_istore_n hX (fun x1 => [some (.ref (w.2.2 0)), some (.int (iI bt)), some (.int (iI R)), some (.int (iI x1)), none]) dX5_stepBeat_1 (Nat.le_of_ble_eq_true rfl) rfl rfl (fun _ => rfl) (fun x1 e1 => ?_)
  have lp2 : ∀ (n : Nat) (act : Int) (σ2 : MM) (m2 : Mod [26] σ σ2) (ha : 0 ≤ act ∧ act ≤ σ 53 0) (hS : SBx σ (σ 26) R bt 0 → SBx σ (σ2 26) R bt act) (hmu : 9 - act < (n : Int)), G 2 [some (.ref (w.2.2 0)), some (.int (iI bt)), some (.int (iI R)), some (.int (iI act)), none] [] σ2 := by
    intro n
    induction n with
    | zero => intro act σ2 m2 ha hS hmu; omega
    | succ n ih =>
      intro act σ2 m2 ha hS hmu
      have ih2 := ih
      clear ih
      refine r_iload_n hX dX5_stepBeat_2 rfl ?_
      refine r_aload_n hX dX5_stepBeat_3 rfl ?_
      refine fg_X0_12 hX dX5_stepBeat_4 ?_
      refine r_callV hX dX5_stepBeat_7 (k_Lp_count l w σ2) mf_X2_count mv_X2_count lk_RX5_85 rfl rfl rfl rfl rfl ⟨Nat.le_of_ble_eq_true rfl, Nat.le_of_ble_eq_true rfl⟩ (Nat.le_of_ble_eq_true rfl) (kI fun z7 σ7 hh => ?_)
      obtain ⟨rfl, h7_0, h7_1⟩ := hh
      have q7_1 : σ2 53 = σ 53 := (m2.at 53 rfl)
      try simp only [q7_1] at h7_0
      refine r_icmp_ge hX (tgt := 51) dX5_stepBeat_10 (by decide) (by omega) (by omega) (fun c10 => ?_) (fun c10 => ?_)
      · skip
        exact r_ret hX dX5_stepBeat_51 rfl ⟨rfl, ⟨(m2.w rfl), (by intro hE; exact (hS hE).beat (by omega))⟩⟩
      · skip
        refine r_aload_n hX dX5_stepBeat_13 rfl ?_
        refine fg_X0_28 hX dX5_stepBeat_14 ?_
        refine r_iload_n hX dX5_stepBeat_17 rfl ?_
        refine r_iload_n hX dX5_stepBeat_18 rfl ?_
        have qp19_53 : σ2 53 = σ 53 := (m2.at 53 rfl)
        have qp19_58 : σ2 58 = σ 58 := (m2.at 58 rfl)
        refine r_callV hX dX5_stepBeat_19 (k_Ly_roundStarting l w σ2 _ _ (by omega) (by omega) (by simp only [qp19_53]; omega) (by simp only [qp19_58]; omega) (by omega)) mf_X1_roundStarting mv_X1_roundStarting lk_RX5_229 rfl rfl rfl rfl rfl ⟨Nat.le_of_ble_eq_true rfl, Nat.le_of_ble_eq_true rfl⟩ (Nat.le_of_ble_eq_true rfl) (kI fun z19 σ19 hh => ?_)
        obtain ⟨rfl, h19_0, h19_1⟩ := hh
        have q19_2 : σ2 16 = σ 16 := (m2.at 16 rfl)
        have q19_3 : σ2 58 = σ 58 := (m2.at 58 rfl)
        try simp only [q19_2, q19_3] at h19_0
        refine r_istore hX (fun x22 => [some (.ref (w.2.2 0)), some (.int (iI bt)), some (.int (iI R)), some (.int (iI act)), some (.int (iI x22))]) dX5_stepBeat_22 (Nat.le_of_ble_eq_true rfl) rfl rfl (fun _ => rfl) (fun x22 e22 => ?_)
        refine r_iload hX dX5_stepBeat_24 rfl ?_
        refine r_if_lt hX (tgt := 45) dX5_stepBeat_26 (by decide) (by omega) (fun c26 => ?_) (fun c26 => ?_)
        · skip
          try obtain ⟨v, hv, hw⟩ := h42_0
          try rw [VALx_of m2 rfl] at hv
          refine r_iinc hX (fun x45 => [some (.ref (w.2.2 0)), some (.int (iI bt)), some (.int (iI R)), some (.int (iI x45)), some (.int (iI x22))]) dX5_stepBeat_45 rfl rfl rfl (fun _ => rfl) (fun x45 e45 => ?_)
          refine r_goto hX dX5_stepBeat_48 (tgt := 2) (by decide) ?_
          refine r_wk hX (lv1 := [some (.ref (w.2.2 0)), some (.int (iI bt)), some (.int (iI R)), some (.int (iI x45)), none]) ⟨rfl, ⟨rfl, ⟨rfl, ⟨rfl, trivial⟩⟩⟩⟩ ?_
          exact ih2 x45 σ2 (m2.w rfl) (by omega) (by intro hE; rw [e45]; have h19 := h19_0; rw [m2.at 16 rfl, m2.at 58 rfl] at h19; first | exact (hS hE).make b_53.2 (by omega) hbt hD hsr hdi hwy hL (by omega) ⟨by omega, by omega⟩ (rs_hit h19 (by omega)) hv hw | exact (hS hE).skip (rs_miss h19 hbt (by omega))) (by omega)
        · skip
          refine r_iload hX dX5_stepBeat_29 rfl ?_
          refine r_iload_n hX dX5_stepBeat_31 rfl ?_
          refine r_icmp_ge hX (tgt := 45) dX5_stepBeat_32 (by decide) (by omega) (by omega) (fun c32 => ?_) (fun c32 => ?_)
          · skip
            try obtain ⟨v, hv, hw⟩ := h42_0
            try rw [VALx_of m2 rfl] at hv
            refine r_iinc hX (fun x45 => [some (.ref (w.2.2 0)), some (.int (iI bt)), some (.int (iI R)), some (.int (iI x45)), some (.int (iI x22))]) dX5_stepBeat_45 rfl rfl rfl (fun _ => rfl) (fun x45 e45 => ?_)
            refine r_goto hX dX5_stepBeat_48 (tgt := 2) (by decide) ?_
            refine r_wk hX (lv1 := [some (.ref (w.2.2 0)), some (.int (iI bt)), some (.int (iI R)), some (.int (iI x45)), none]) ⟨rfl, ⟨rfl, ⟨rfl, ⟨rfl, trivial⟩⟩⟩⟩ ?_
            exact ih2 x45 σ2 (m2.w rfl) (by omega) (by intro hE; rw [e45]; have h19 := h19_0; rw [m2.at 16 rfl, m2.at 58 rfl] at h19; first | exact (hS hE).make b_53.2 (by omega) hbt hD hsr hdi hwy hL (by omega) ⟨by omega, by omega⟩ (rs_hit h19 (by omega)) hv hw | exact (hS hE).skip (rs_miss h19 hbt (by omega))) (by omega)
          · skip
            have hdp := hD act (by omega) (by omega)
            have hs1 := hsr (2 * act) (by omega) (by omega)
            have hs2 := hsr (2 * act + 1) (by omega) (by omega)
            refine r_aload_n hX dX5_stepBeat_35 rfl ?_
            refine fg_X0_48 hX dX5_stepBeat_36 ?_
            refine r_iload_n hX dX5_stepBeat_39 rfl ?_
            refine r_iload hX dX5_stepBeat_40 rfl ?_
            have qp42_53 : σ2 53 = σ 53 := (m2.at 53 rfl)
            have qp42_53 : σ2 53 = σ 53 := (m2.at 53 rfl)
            have qp42_2 : σ2 2 = σ 2 := (m2.at 2 rfl)
            have qp42_5 : σ2 5 = σ 5 := (m2.at 5 rfl)
            refine r_callV hX dX5_stepBeat_42 (k_V2_make l w σ2 _ _ (by omega) (by omega) (by simp only [qp42_53]; omega) (by simp only [qp42_53]; omega) (by simp only [qp42_2, qp42_5]; intro q; omega) (by omega)) mf_X4_make mv_X4_make lk_RX5_232 rfl rfl rfl rfl rfl ⟨Nat.le_of_ble_eq_true rfl, Nat.le_of_ble_eq_true rfl⟩ (Nat.le_of_ble_eq_true rfl) (kV fun σ42 hh => ?_)
            obtain ⟨m42, h42_0⟩ := hh
            try obtain ⟨v, hv, hw⟩ := h42_0
            try rw [VALx_of m2 rfl] at hv
            refine r_iinc hX (fun x45 => [some (.ref (w.2.2 0)), some (.int (iI bt)), some (.int (iI R)), some (.int (iI x45)), some (.int (iI x22))]) dX5_stepBeat_45 rfl rfl rfl (fun _ => rfl) (fun x45 e45 => ?_)
            refine r_goto hX dX5_stepBeat_48 (tgt := 2) (by decide) ?_
            refine r_wk hX (lv1 := [some (.ref (w.2.2 0)), some (.int (iI bt)), some (.int (iI R)), some (.int (iI x45)), none]) ⟨rfl, ⟨rfl, ⟨rfl, ⟨rfl, trivial⟩⟩⟩⟩ ?_
            exact ih2 x45 σ42 (Mod.tr (L := [26]) m2 m42 rfl rfl) (by omega) (by intro hE; rw [e45]; have h19 := h19_0; rw [m2.at 16 rfl, m2.at 58 rfl] at h19; first | exact (hS hE).make b_53.2 (by omega) hbt hD hsr hdi hwy hL (by omega) ⟨by omega, by omega⟩ (rs_hit h19 (by omega)) hv hw | exact (hS hE).skip (rs_miss h19 hbt (by omega))) (by omega)
  exact lp2 ((9 - (x1)) + 1).toNat x1 σ Mod.rf (by omega) (by rw [e1]; exact fun hE => hE) (by omega)
theorem dX5_placesBound_0 : decode cX5_placesBound 0 = .ok (.aload_n 0, 1) := by decide +kernel
theorem dX5_placesBound_1 : decode cX5_placesBound 1 = .ok (.getfield 12, 3) := by decide +kernel
theorem dX5_placesBound_4 : decode cX5_placesBound 4 = .ok (.invokevirtual 235, 3) := by decide +kernel
theorem dX5_placesBound_7 : decode cX5_placesBound 7 = .ok (.istore_n 1, 1) := by decide +kernel
theorem dX5_placesBound_8 : decode cX5_placesBound 8 = .ok (.aload_n 0, 1) := by decide +kernel
theorem dX5_placesBound_9 : decode cX5_placesBound 9 = .ok (.getfield 19, 3) := by decide +kernel
theorem dX5_placesBound_12 : decode cX5_placesBound 12 = .ok (.invokevirtual 220, 3) := by decide +kernel
theorem dX5_placesBound_15 : decode cX5_placesBound 15 = .ok (.istore_n 2, 1) := by decide +kernel
theorem dX5_placesBound_16 : decode cX5_placesBound 16 = .ok (.aload_n 0, 1) := by decide +kernel
theorem dX5_placesBound_17 : decode cX5_placesBound 17 = .ok (.getfield 19, 3) := by decide +kernel
theorem dX5_placesBound_20 : decode cX5_placesBound 20 = .ok (.invokevirtual 238, 3) := by decide +kernel
theorem dX5_placesBound_23 : decode cX5_placesBound 23 = .ok (.istore_n 3, 1) := by decide +kernel
theorem dX5_placesBound_24 : decode cX5_placesBound 24 = .ok (.iload_n 2, 1) := by decide +kernel
theorem dX5_placesBound_25 : decode cX5_placesBound 25 = .ok (.ifCond .eq 11, 3) := by decide +kernel
theorem dX5_placesBound_28 : decode cX5_placesBound 28 = .ok (.iload_n 1, 1) := by decide +kernel
theorem dX5_placesBound_29 : decode cX5_placesBound 29 = .ok (.ifCond .le 10, 3) := by decide +kernel
theorem dX5_placesBound_32 : decode cX5_placesBound 32 = .ok (.iload_n 3, 1) := by decide +kernel
theorem dX5_placesBound_33 : decode cX5_placesBound 33 = .ok (.ifCond .ne 6, 3) := by decide +kernel
theorem dX5_placesBound_36 : decode cX5_placesBound 36 = .ok (.bipush (-6), 2) := by decide +kernel
theorem dX5_placesBound_38 : decode cX5_placesBound 38 = .ok (.ireturn, 1) := by decide +kernel
theorem dX5_placesBound_39 : decode cX5_placesBound 39 = .ok (.aload_n 0, 1) := by decide +kernel
theorem dX5_placesBound_40 : decode cX5_placesBound 40 = .ok (.getfield 12, 3) := by decide +kernel
theorem dX5_placesBound_43 : decode cX5_placesBound 43 = .ok (.invokevirtual 85, 3) := by decide +kernel
theorem dX5_placesBound_46 : decode cX5_placesBound 46 = .ok (.iload_n 2, 1) := by decide +kernel
theorem dX5_placesBound_47 : decode cX5_placesBound 47 = .ok (.invokestatic 241, 3) := by decide +kernel
theorem dX5_placesBound_50 : decode cX5_placesBound 50 = .ok (.istore 4, 2) := by decide +kernel
theorem dX5_placesBound_52 : decode cX5_placesBound 52 = .ok (.iload_n 1, 1) := by decide +kernel
theorem dX5_placesBound_53 : decode cX5_placesBound 53 = .ok (.ifCond .ne 8, 3) := by decide +kernel
theorem dX5_placesBound_56 : decode cX5_placesBound 56 = .ok (.iload 4, 2) := by decide +kernel
theorem dX5_placesBound_58 : decode cX5_placesBound 58 = .ok (.goto 13, 3) := by decide +kernel
theorem dX5_placesBound_61 : decode cX5_placesBound 61 = .ok (.iload 4, 2) := by decide +kernel
theorem dX5_placesBound_63 : decode cX5_placesBound 63 = .ok (.iload_n 1, 1) := by decide +kernel
theorem dX5_placesBound_64 : decode cX5_placesBound 64 = .ok (.iload_n 3, 1) := by decide +kernel
theorem dX5_placesBound_65 : decode cX5_placesBound 65 = .ok (.invokestatic 241, 3) := by decide +kernel
theorem dX5_placesBound_68 : decode cX5_placesBound 68 = .ok (.invokestatic 197, 3) := by decide +kernel
theorem dX5_placesBound_71 : decode cX5_placesBound 71 = .ok (.ireturn, 1) := by decide +kernel
set_option maxRecDepth 20000 in
set_option maxHeartbeats 4000000 in
theorem k_B_placesBound (l : Launch) (w : WT) (σ : MM) : CT SX l w yX5_placesBound cX5_placesBound 5 (some .int) 3 64 [.ref (w.2.2 0)] σ (PI fun z σ1 => σ = σ1 ∧ (PBX σ z) ∧ (-6 ≤ z ∧ z ≤ 8)) := by
  refine CT.of 4 [some (.ref (w.2.2 0)), none, none, none, none] (by decide +kernel) (by simp [lg_sl, Value.category]) rfl sh_X (fun G hX => ?_)
  refine r_bd hX (fun hBd => ?_)
  have b_53 := hBd 53 0 8 rfl 0
  have b_56 := hBd 56 1 3 rfl 0
  have b_57 := hBd 57 1 3 rfl 0
  have hn := mul_bd b_56 b_57
  refine r_aload_n hX dX5_placesBound_0 rfl ?_
  refine fg_X0_12 hX dX5_placesBound_1 ?_
  refine r_callV hX dX5_placesBound_4 (k_Lp_products l w σ) mf_X2_products mv_X2_products lk_RX5_235 rfl rfl rfl rfl rfl ⟨Nat.le_of_ble_eq_true rfl, Nat.le_of_ble_eq_true rfl⟩ (Nat.le_of_ble_eq_true rfl) (kI fun z4 σ4 hh => ?_)
  obtain ⟨rfl, h4_0, h4_1⟩ := hh
  refine r_istore_n hX (fun x7 => [some (.ref (w.2.2 0)), some (.int (iI x7)), none, none, none]) dX5_placesBound_7 (Nat.le_of_ble_eq_true rfl) rfl rfl (fun _ => rfl) (fun x7 e7 => ?_)
  refine r_aload_n hX dX5_placesBound_8 rfl ?_
  refine fg_X0_19 hX dX5_placesBound_9 ?_
  refine r_callV hX dX5_placesBound_12 (k_Gd_unbroken l w σ) mf_X0_unbroken mv_X0_unbroken lk_RX5_220 rfl rfl rfl rfl rfl ⟨Nat.le_of_ble_eq_true rfl, Nat.le_of_ble_eq_true rfl⟩ (Nat.le_of_ble_eq_true rfl) (kI fun z12 σ12 hh => ?_)
  obtain ⟨rfl, h12_0, h12_1⟩ := hh
  refine r_istore_n hX (fun x15 => [some (.ref (w.2.2 0)), some (.int (iI x7)), some (.int (iI x15)), none, none]) dX5_placesBound_15 (Nat.le_of_ble_eq_true rfl) rfl rfl (fun _ => rfl) (fun x15 e15 => ?_)
  refine r_aload_n hX dX5_placesBound_16 rfl ?_
  refine fg_X0_19 hX dX5_placesBound_17 ?_
  refine r_callV hX dX5_placesBound_20 (k_Gd_unbrokenMul l w σ) mf_X0_unbrokenMultiplying mv_X0_unbrokenMultiplying lk_RX5_238 rfl rfl rfl rfl rfl ⟨Nat.le_of_ble_eq_true rfl, Nat.le_of_ble_eq_true rfl⟩ (Nat.le_of_ble_eq_true rfl) (kI fun z20 σ20 hh => ?_)
  obtain ⟨rfl, h20_0, h20_1⟩ := hh
  refine r_istore_n hX (fun x23 => [some (.ref (w.2.2 0)), some (.int (iI x7)), some (.int (iI x15)), some (.int (iI x23)), none]) dX5_placesBound_23 (Nat.le_of_ble_eq_true rfl) rfl rfl (fun _ => rfl) (fun x23 e23 => ?_)
  refine r_iload_n hX dX5_placesBound_24 rfl ?_
  refine r_if_eq hX (tgt := 36) dX5_placesBound_25 (by decide) (by omega) (fun c25 => ?_) (fun c25 => ?_)
  · skip
    refine r_bipush hX dX5_placesBound_36 (by decide) ?_
    exact r_iret hX dX5_placesBound_38 rfl ⟨_, rfl, ⟨rfl, (by first | exact Or.inl ⟨by omega, rfl⟩ | exact Or.inr (Or.inl ⟨by omega, by omega, by omega⟩) | exact Or.inr (Or.inr ⟨by omega, by omega, by omega, by omega, by omega, by omega⟩)), (by omega)⟩⟩
  · skip
    refine r_iload_n hX dX5_placesBound_28 rfl ?_
    refine r_if_le hX (tgt := 39) dX5_placesBound_29 (by decide) (by omega) (fun c29 => ?_) (fun c29 => ?_)
    · skip
      refine r_aload_n hX dX5_placesBound_39 rfl ?_
      refine fg_X0_12 hX dX5_placesBound_40 ?_
      refine r_callV hX dX5_placesBound_43 (k_Lp_count l w σ) mf_X2_count mv_X2_count lk_RX5_85 rfl rfl rfl rfl rfl ⟨Nat.le_of_ble_eq_true rfl, Nat.le_of_ble_eq_true rfl⟩ (Nat.le_of_ble_eq_true rfl) (kI fun z43 σ43 hh => ?_)
      obtain ⟨rfl, h43_0, h43_1⟩ := hh
      refine r_iload_n hX dX5_placesBound_46 rfl ?_
      refine r_callS hX dX5_placesBound_47 (k_cutUp l w σ _ _ (by omega) (by omega) (by omega) (by omega)) mf_X5_cutUp ms_X5_cutUp lk_RX5_241 rfl rfl ⟨Nat.le_of_ble_eq_true rfl, Nat.le_of_ble_eq_true rfl⟩ (Nat.le_of_ble_eq_true rfl) (kI fun z47 σ47 hh => ?_)
      obtain ⟨rfl, h47_0⟩ := hh
      refine r_istore hX (fun x50 => [some (.ref (w.2.2 0)), some (.int (iI x7)), some (.int (iI x15)), some (.int (iI x23)), some (.int (iI x50))]) dX5_placesBound_50 (Nat.le_of_ble_eq_true rfl) rfl rfl (fun _ => rfl) (fun x50 e50 => ?_)
      refine r_iload_n hX dX5_placesBound_52 rfl ?_
      refine r_if_ne hX (tgt := 61) dX5_placesBound_53 (by decide) (by omega) (fun c53 => ?_) (fun c53 => ?_)
      · skip
        refine r_iload hX dX5_placesBound_61 rfl ?_
        refine r_iload_n hX dX5_placesBound_63 rfl ?_
        refine r_iload_n hX dX5_placesBound_64 rfl ?_
        refine r_callS hX dX5_placesBound_65 (k_cutUp l w σ _ _ (by omega) (by omega) (by omega) (by omega)) mf_X5_cutUp ms_X5_cutUp lk_RX5_241 rfl rfl ⟨Nat.le_of_ble_eq_true rfl, Nat.le_of_ble_eq_true rfl⟩ (Nat.le_of_ble_eq_true rfl) (kI fun z65 σ65 hh => ?_)
        obtain ⟨rfl, h65_0⟩ := hh
        refine r_max hX dX5_placesBound_68 lq_RX5_197 ma_max_s ma_i ma_max_c (Nat.le_of_ble_eq_true rfl) (Nat.le_of_ble_eq_true rfl) (fun z68 h68 => ?_)
        rw [iI_lt (by omega) (by omega)] at h68
        exact r_iret hX dX5_placesBound_71 rfl ⟨_, rfl, ⟨rfl, (by first | exact Or.inl ⟨by omega, rfl⟩ | exact Or.inr (Or.inl ⟨by omega, by omega, by omega⟩) | exact Or.inr (Or.inr ⟨by omega, by omega, by omega, by omega, by omega, by omega⟩)), (by omega)⟩⟩
      · skip
        refine r_iload hX dX5_placesBound_56 rfl ?_
        refine r_goto hX dX5_placesBound_58 (tgt := 71) (by decide) ?_
        exact r_iret hX dX5_placesBound_71 rfl ⟨_, rfl, ⟨rfl, (by first | exact Or.inl ⟨by omega, rfl⟩ | exact Or.inr (Or.inl ⟨by omega, by omega, by omega⟩) | exact Or.inr (Or.inr ⟨by omega, by omega, by omega, by omega, by omega, by omega⟩)), (by omega)⟩⟩
    · skip
      refine r_iload_n hX dX5_placesBound_32 rfl ?_
      refine r_if_ne hX (tgt := 39) dX5_placesBound_33 (by decide) (by omega) (fun c33 => ?_) (fun c33 => ?_)
      · skip
        refine r_aload_n hX dX5_placesBound_39 rfl ?_
        refine fg_X0_12 hX dX5_placesBound_40 ?_
        refine r_callV hX dX5_placesBound_43 (k_Lp_count l w σ) mf_X2_count mv_X2_count lk_RX5_85 rfl rfl rfl rfl rfl ⟨Nat.le_of_ble_eq_true rfl, Nat.le_of_ble_eq_true rfl⟩ (Nat.le_of_ble_eq_true rfl) (kI fun z43 σ43 hh => ?_)
        obtain ⟨rfl, h43_0, h43_1⟩ := hh
        refine r_iload_n hX dX5_placesBound_46 rfl ?_
        refine r_callS hX dX5_placesBound_47 (k_cutUp l w σ _ _ (by omega) (by omega) (by omega) (by omega)) mf_X5_cutUp ms_X5_cutUp lk_RX5_241 rfl rfl ⟨Nat.le_of_ble_eq_true rfl, Nat.le_of_ble_eq_true rfl⟩ (Nat.le_of_ble_eq_true rfl) (kI fun z47 σ47 hh => ?_)
        obtain ⟨rfl, h47_0⟩ := hh
        refine r_istore hX (fun x50 => [some (.ref (w.2.2 0)), some (.int (iI x7)), some (.int (iI x15)), some (.int (iI x23)), some (.int (iI x50))]) dX5_placesBound_50 (Nat.le_of_ble_eq_true rfl) rfl rfl (fun _ => rfl) (fun x50 e50 => ?_)
        refine r_iload_n hX dX5_placesBound_52 rfl ?_
        refine r_if_ne hX (tgt := 61) dX5_placesBound_53 (by decide) (by omega) (fun c53 => ?_) (fun c53 => ?_)
        · skip
          refine r_iload hX dX5_placesBound_61 rfl ?_
          refine r_iload_n hX dX5_placesBound_63 rfl ?_
          refine r_iload_n hX dX5_placesBound_64 rfl ?_
          refine r_callS hX dX5_placesBound_65 (k_cutUp l w σ _ _ (by omega) (by omega) (by omega) (by omega)) mf_X5_cutUp ms_X5_cutUp lk_RX5_241 rfl rfl ⟨Nat.le_of_ble_eq_true rfl, Nat.le_of_ble_eq_true rfl⟩ (Nat.le_of_ble_eq_true rfl) (kI fun z65 σ65 hh => ?_)
          obtain ⟨rfl, h65_0⟩ := hh
          refine r_max hX dX5_placesBound_68 lq_RX5_197 ma_max_s ma_i ma_max_c (Nat.le_of_ble_eq_true rfl) (Nat.le_of_ble_eq_true rfl) (fun z68 h68 => ?_)
          rw [iI_lt (by omega) (by omega)] at h68
          exact r_iret hX dX5_placesBound_71 rfl ⟨_, rfl, ⟨rfl, (by first | exact Or.inl ⟨by omega, rfl⟩ | exact Or.inr (Or.inl ⟨by omega, by omega, by omega⟩) | exact Or.inr (Or.inr ⟨by omega, by omega, by omega, by omega, by omega, by omega⟩)), (by omega)⟩⟩
        · skip
          refine r_iload hX dX5_placesBound_56 rfl ?_
          refine r_goto hX dX5_placesBound_58 (tgt := 71) (by decide) ?_
          exact r_iret hX dX5_placesBound_71 rfl ⟨_, rfl, ⟨rfl, (by first | exact Or.inl ⟨by omega, rfl⟩ | exact Or.inr (Or.inl ⟨by omega, by omega, by omega⟩) | exact Or.inr (Or.inr ⟨by omega, by omega, by omega, by omega, by omega, by omega⟩)), (by omega)⟩⟩
      · skip
        refine r_bipush hX dX5_placesBound_36 (by decide) ?_
        exact r_iret hX dX5_placesBound_38 rfl ⟨_, rfl, ⟨rfl, (by first | exact Or.inl ⟨by omega, rfl⟩ | exact Or.inr (Or.inl ⟨by omega, by omega, by omega⟩) | exact Or.inr (Or.inr ⟨by omega, by omega, by omega, by omega, by omega, by omega⟩)), (by omega)⟩⟩
