theorem dX5_isWithin_0 : decode cX5_isWithin 0 = .ok (.iload_n 0, 1) := by decide +kernel
theorem dX5_isWithin_1 : decode cX5_isWithin 1 = .ok (.iload_n 1, 1) := by decide +kernel
theorem dX5_isWithin_2 : decode cX5_isWithin 2 = .ok (.if_icmp .lt 12, 3) := by decide +kernel
theorem dX5_isWithin_5 : decode cX5_isWithin 5 = .ok (.iload_n 0, 1) := by decide +kernel
theorem dX5_isWithin_6 : decode cX5_isWithin 6 = .ok (.iload_n 2, 1) := by decide +kernel
theorem dX5_isWithin_7 : decode cX5_isWithin 7 = .ok (.if_icmp .gt 7, 3) := by decide +kernel
theorem dX5_isWithin_10 : decode cX5_isWithin 10 = .ok (.iconst 1, 1) := by decide +kernel
theorem dX5_isWithin_11 : decode cX5_isWithin 11 = .ok (.goto 4, 3) := by decide +kernel
theorem dX5_isWithin_14 : decode cX5_isWithin 14 = .ok (.iconst 0, 1) := by decide +kernel
theorem dX5_isWithin_15 : decode cX5_isWithin 15 = .ok (.ireturn, 1) := by decide +kernel
set_option maxRecDepth 20000 in
set_option maxHeartbeats 4000000 in
theorem k_B_isWithin (l : Launch) (w : WT) (σ : MM) (x : Int) (a : Int) (b : Int) (i_x : inr x) (i_a : inr a) (i_b : inr b) : CT SX l w yX5_isWithin cX5_isWithin 3 (some .boolean) 0 0 [.int (iI x), .int (iI a), .int (iI b)] σ (PI fun z σ1 => σ = σ1 ∧ ((z = 1 ∧ a ≤ x ∧ x ≤ b) ∨ (z = 0 ∧ (x < a ∨ b < x)))) := by
  refine CT.of 0 [some (.int (iI x)), some (.int (iI a)), some (.int (iI b))] (by decide +kernel) (by simp [lg_sl, Value.category]) rfl sh_X (fun G hX => ?_)
  refine r_iload_n hX dX5_isWithin_0 rfl ?_
  refine r_iload_n hX dX5_isWithin_1 rfl ?_
  refine r_icmp_lt hX (tgt := 14) dX5_isWithin_2 (by decide) (by omega) (by omega) (fun c2 => ?_) (fun c2 => ?_)
  · skip
    refine r_iconst hX dX5_isWithin_14 ?_
    exact r_zret hX dX5_isWithin_15 rfl (by omega) ⟨_, rfl, ⟨rfl, (by omega)⟩⟩
  · skip
    refine r_iload_n hX dX5_isWithin_5 rfl ?_
    refine r_iload_n hX dX5_isWithin_6 rfl ?_
    refine r_icmp_gt hX (tgt := 14) dX5_isWithin_7 (by decide) (by omega) (by omega) (fun c7 => ?_) (fun c7 => ?_)
    · skip
      refine r_iconst hX dX5_isWithin_14 ?_
      exact r_zret hX dX5_isWithin_15 rfl (by omega) ⟨_, rfl, ⟨rfl, (by omega)⟩⟩
    · skip
      refine r_iconst hX dX5_isWithin_10 ?_
      refine r_goto hX dX5_isWithin_11 (tgt := 15) (by decide) ?_
      exact r_zret hX dX5_isWithin_15 rfl (by omega) ⟨_, rfl, ⟨rfl, (by omega)⟩⟩
theorem dX5_isOperand_0 : decode cX5_isOperand 0 = .ok (.iload_n 0, 1) := by decide +kernel
theorem dX5_isOperand_1 : decode cX5_isOperand 1 = .ok (.iconst 0, 1) := by decide +kernel
theorem dX5_isOperand_2 : decode cX5_isOperand 2 = .ok (.bipush 7, 2) := by decide +kernel
theorem dX5_isOperand_4 : decode cX5_isOperand 4 = .ok (.invokestatic 51, 3) := by decide +kernel
theorem dX5_isOperand_7 : decode cX5_isOperand 7 = .ok (.ifCond .eq 16, 3) := by decide +kernel
theorem dX5_isOperand_10 : decode cX5_isOperand 10 = .ok (.iload_n 1, 1) := by decide +kernel
theorem dX5_isOperand_11 : decode cX5_isOperand 11 = .ok (.iconst 0, 1) := by decide +kernel
theorem dX5_isOperand_12 : decode cX5_isOperand 12 = .ok (.iconst 3, 1) := by decide +kernel
theorem dX5_isOperand_13 : decode cX5_isOperand 13 = .ok (.invokestatic 51, 3) := by decide +kernel
theorem dX5_isOperand_16 : decode cX5_isOperand 16 = .ok (.ifCond .eq 7, 3) := by decide +kernel
theorem dX5_isOperand_19 : decode cX5_isOperand 19 = .ok (.iconst 1, 1) := by decide +kernel
theorem dX5_isOperand_20 : decode cX5_isOperand 20 = .ok (.goto 4, 3) := by decide +kernel
theorem dX5_isOperand_23 : decode cX5_isOperand 23 = .ok (.iconst 0, 1) := by decide +kernel
theorem dX5_isOperand_24 : decode cX5_isOperand 24 = .ok (.ireturn, 1) := by decide +kernel
set_option maxRecDepth 20000 in
set_option maxHeartbeats 4000000 in
theorem k_B_isOperand (l : Launch) (w : WT) (σ : MM) (a : Int) (d : Int) (i_a : inr a) (i_d : inr d) : CT SX l w yX5_isOperand cX5_isOperand 2 (some .boolean) 1 22 [.int (iI a), .int (iI d)] σ (PI fun z σ1 => σ = σ1 ∧ ((z = 1 ∧ 0 ≤ a ∧ a ≤ 7 ∧ 0 ≤ d ∧ d ≤ 3) ∨ (z = 0 ∧ (a < 0 ∨ 7 < a ∨ d < 0 ∨ 3 < d)))) := by
  refine CT.of 0 [some (.int (iI a)), some (.int (iI d))] (by decide +kernel) (by simp [lg_sl, Value.category]) rfl sh_X (fun G hX => ?_)
  refine r_iload_n hX dX5_isOperand_0 rfl ?_
  refine r_iconst hX dX5_isOperand_1 ?_
  refine r_bipush hX dX5_isOperand_2 (by decide) ?_
  refine r_callS hX dX5_isOperand_4 (k_B_isWithin l w σ _ _ _ (by omega) (by omega) (by omega)) mf_X5_isWithin ms_X5_isWithin lk_RX5_51 rfl rfl ⟨Nat.le_of_ble_eq_true rfl, Nat.le_of_ble_eq_true rfl⟩ (Nat.le_of_ble_eq_true rfl) (kI fun z4 σ4 hh => ?_)
  obtain ⟨rfl, h4_0⟩ := hh
  refine r_if_eq hX (tgt := 23) dX5_isOperand_7 (by decide) (by omega) (fun c7 => ?_) (fun c7 => ?_)
  · skip
    refine r_iconst hX dX5_isOperand_23 ?_
    exact r_zret hX dX5_isOperand_24 rfl (by omega) ⟨_, rfl, ⟨rfl, (by omega)⟩⟩
  · skip
    refine r_iload_n hX dX5_isOperand_10 rfl ?_
    refine r_iconst hX dX5_isOperand_11 ?_
    refine r_iconst hX dX5_isOperand_12 ?_
    refine r_callS hX dX5_isOperand_13 (k_B_isWithin l w σ _ _ _ (by omega) (by omega) (by omega)) mf_X5_isWithin ms_X5_isWithin lk_RX5_51 rfl rfl ⟨Nat.le_of_ble_eq_true rfl, Nat.le_of_ble_eq_true rfl⟩ (Nat.le_of_ble_eq_true rfl) (kI fun z13 σ13 hh => ?_)
    obtain ⟨rfl, h13_0⟩ := hh
    refine r_if_eq hX (tgt := 23) dX5_isOperand_16 (by decide) (by omega) (fun c16 => ?_) (fun c16 => ?_)
    · skip
      refine r_iconst hX dX5_isOperand_23 ?_
      exact r_zret hX dX5_isOperand_24 rfl (by omega) ⟨_, rfl, ⟨rfl, (by omega)⟩⟩
    · skip
      refine r_iconst hX dX5_isOperand_19 ?_
      refine r_goto hX dX5_isOperand_20 (tgt := 24) (by decide) ?_
      exact r_zret hX dX5_isOperand_24 rfl (by omega) ⟨_, rfl, ⟨rfl, (by omega)⟩⟩
theorem dX5_actsChanged_0 : decode cX5_actsChanged 0 = .ok (.aload_n 0, 1) := by decide +kernel
theorem dX5_actsChanged_1 : decode cX5_actsChanged 1 = .ok (.getfield 28, 3) := by decide +kernel
theorem dX5_actsChanged_4 : decode cX5_actsChanged 4 = .ok (.invokevirtual 132, 3) := by decide +kernel
theorem dX5_actsChanged_7 : decode cX5_actsChanged 7 = .ok (.aload_n 0, 1) := by decide +kernel
theorem dX5_actsChanged_8 : decode cX5_actsChanged 8 = .ok (.iconst 0, 1) := by decide +kernel
theorem dX5_actsChanged_9 : decode cX5_actsChanged 9 = .ok (.putfield 78, 3) := by decide +kernel
theorem dX5_actsChanged_12 : decode cX5_actsChanged 12 = .ok (.aload_n 0, 1) := by decide +kernel
theorem dX5_actsChanged_13 : decode cX5_actsChanged 13 = .ok (.iconst 0, 1) := by decide +kernel
theorem dX5_actsChanged_14 : decode cX5_actsChanged 14 = .ok (.putfield 82, 3) := by decide +kernel
theorem dX5_actsChanged_17 : decode cX5_actsChanged 17 = .ok (.return_, 1) := by decide +kernel
set_option maxRecDepth 20000 in
set_option maxHeartbeats 4000000 in
theorem k_B_actsChanged (l : Launch) (w : WT) (σ : MM) : CT SX l w yX5_actsChanged cX5_actsChanged 1 none 1 20 [.ref (w.2.2 0)] σ (PV fun σ1 => Mod [50, 51, 58] σ σ1 ∧ (σ1 50 0 = 0 ∧ σ1 51 0 = 0 ∧ σ1 58 0 = 0)) := by
  refine CT.of 0 [some (.ref (w.2.2 0))] (by decide +kernel) (by simp [lg_sl, Value.category]) rfl sh_X (fun G hX => ?_)
  refine r_aload_n hX dX5_actsChanged_0 rfl ?_
  refine fg_X0_28 hX dX5_actsChanged_1 ?_
  refine r_callV hX dX5_actsChanged_4 (k_Ly_drop l w σ) mf_X1_drop mv_X1_drop lk_RX5_132 rfl rfl rfl rfl rfl ⟨Nat.le_of_ble_eq_true rfl, Nat.le_of_ble_eq_true rfl⟩ (Nat.le_of_ble_eq_true rfl) (kV fun σ4 hh => ?_)
  obtain ⟨m4, h4_0⟩ := hh
  refine r_aload_n hX dX5_actsChanged_7 rfl ?_
  refine r_iconst hX dX5_actsChanged_8 ?_
  refine fp_X0_78 hX dX5_actsChanged_9 (by omega) (fun σ9 m9 s9 => ?_)
  refine r_aload_n hX dX5_actsChanged_12 rfl ?_
  refine r_iconst hX dX5_actsChanged_13 ?_
  refine fp_X0_82 hX dX5_actsChanged_14 (by omega) (fun σ14 m14 s14 => ?_)
  exact r_ret hX dX5_actsChanged_17 rfl ⟨rfl, ⟨(Mod.tr (L := [50, 51, 58]) (Mod.tr (L := [50, 51, 58]) m4 m9 rfl rfl) m14 rfl rfl), (by refine ⟨?_, ?_, ?_⟩; (rw [m14.at 50 rfl]; exact s9); exact s14; (rw [m14.at 58 rfl, m9.at 58 rfl]; exact h4_0))⟩⟩
theorem dX5_stepBeat_0 : decode cX5_stepBeat 0 = .ok (.iconst 0, 1) := by decide +kernel
theorem dX5_stepBeat_1 : decode cX5_stepBeat 1 = .ok (.istore_n 3, 1) := by decide +kernel
theorem dX5_stepBeat_2 : decode cX5_stepBeat 2 = .ok (.iload_n 3, 1) := by decide +kernel
theorem dX5_stepBeat_3 : decode cX5_stepBeat 3 = .ok (.aload_n 0, 1) := by decide +kernel
theorem dX5_stepBeat_4 : decode cX5_stepBeat 4 = .ok (.getfield 12, 3) := by decide +kernel
theorem dX5_stepBeat_7 : decode cX5_stepBeat 7 = .ok (.invokevirtual 85, 3) := by decide +kernel
theorem dX5_stepBeat_10 : decode cX5_stepBeat 10 = .ok (.if_icmp .ge 41, 3) := by decide +kernel
theorem dX5_stepBeat_13 : decode cX5_stepBeat 13 = .ok (.aload_n 0, 1) := by decide +kernel
theorem dX5_stepBeat_14 : decode cX5_stepBeat 14 = .ok (.getfield 28, 3) := by decide +kernel
theorem dX5_stepBeat_17 : decode cX5_stepBeat 17 = .ok (.iload_n 3, 1) := by decide +kernel
theorem dX5_stepBeat_18 : decode cX5_stepBeat 18 = .ok (.iload_n 1, 1) := by decide +kernel
theorem dX5_stepBeat_19 : decode cX5_stepBeat 19 = .ok (.invokevirtual 229, 3) := by decide +kernel
theorem dX5_stepBeat_22 : decode cX5_stepBeat 22 = .ok (.istore 4, 2) := by decide +kernel
theorem dX5_stepBeat_24 : decode cX5_stepBeat 24 = .ok (.iload 4, 2) := by decide +kernel
theorem dX5_stepBeat_26 : decode cX5_stepBeat 26 = .ok (.ifCond .lt 19, 3) := by decide +kernel
theorem dX5_stepBeat_29 : decode cX5_stepBeat 29 = .ok (.iload 4, 2) := by decide +kernel
theorem dX5_stepBeat_31 : decode cX5_stepBeat 31 = .ok (.iload_n 2, 1) := by decide +kernel
theorem dX5_stepBeat_32 : decode cX5_stepBeat 32 = .ok (.if_icmp .ge 13, 3) := by decide +kernel
theorem dX5_stepBeat_35 : decode cX5_stepBeat 35 = .ok (.aload_n 0, 1) := by decide +kernel
theorem dX5_stepBeat_36 : decode cX5_stepBeat 36 = .ok (.getfield 48, 3) := by decide +kernel
theorem dX5_stepBeat_39 : decode cX5_stepBeat 39 = .ok (.iload_n 3, 1) := by decide +kernel
theorem dX5_stepBeat_40 : decode cX5_stepBeat 40 = .ok (.iload 4, 2) := by decide +kernel
theorem dX5_stepBeat_42 : decode cX5_stepBeat 42 = .ok (.invokevirtual 232, 3) := by decide +kernel
theorem dX5_stepBeat_45 : decode cX5_stepBeat 45 = .ok (.iinc 3 1, 3) := by decide +kernel
theorem dX5_stepBeat_48 : decode cX5_stepBeat 48 = .ok (.goto (-46), 3) := by decide +kernel
theorem dX5_stepBeat_51 : decode cX5_stepBeat 51 = .ok (.return_, 1) := by decide +kernel
set_option maxRecDepth 20000 in
set_option maxHeartbeats 4000000 in
theorem k_B_stepBeat (l : Launch) (w : WT) (σ : MM) (bt : Int) (R : Int) (i_bt : inr bt) (i_R : inr R) (hLO : LoopOK σ) (hso : σ 54 0 = σ 53 0) (hD : DatOK σ) (hbt : 0 < σ 58 0) (hL : ∀ s : Int, 0 ≤ s → s < 2 * σ 53 0 → ¬ P4x σ s) (ht : 0 ≤ bt ∧ bt ≤ 20000800) (hR : 1 ≤ R ∧ R ≤ 60) : CT SX l w yX5_stepBeat cX5_stepBeat 5 none 5 112 [.ref (w.2.2 0), .int (iI bt), .int (iI R)] σ (PV fun σ1 => Mod [26] σ σ1 ∧ (SBx σ (σ 26) R bt 0 → SBx σ (σ1 26) R (bt + 1) 0)) := by
  refine CT.of 2 [some (.ref (w.2.2 0)), some (.int (iI bt)), some (.int (iI R)), none, none] (by decide +kernel) (by simp [lg_sl, Value.category]) rfl sh_X (fun G hX => ?_)
  refine r_bd hX (fun hBd => ?_)
  have b_53 := hBd 53 0 8 rfl 0
  have hdi : ∀ s : Int, 0 ≤ σ 6 s ∧ σ 6 s ≤ 3 := fun s => hBd 6 0 3 rfl s
  have hwy : ∀ s : Int, 0 ≤ σ 13 s := fun s => (hBd 13 0 1000 rfl s).1
  have hsr := srcOK_of hLO hso
  refine r_iconst hX dX5_stepBeat_0 ?_
  refine r_istore_n hX (fun x1 => [some (.ref (w.2.2 0)), some (.int (iI bt)), some (.int (iI R)), some (.int (iI x1)), none]) dX5_stepBeat_1 (Nat.le_of_ble_eq_true rfl) rfl rfl (fun _ => rfl) (fun x1 e1 => ?_)
  have lp2 : ∀ (n : Nat) (act : Int) (σ2 : MM) (m2 : Mod [26] σ σ2) (ha : 0 ≤ act ∧ act ≤ σ 53 0) (hS : SBx σ (σ 26) R bt 0 → SBx σ (σ2 26) R bt act) (hmu : 9 - act < (n : Int)), G 2 [some (.ref (w.2.2 0)), some (.int (iI bt)), some (.int (iI R)), some (.int (iI act)), none] [] σ2 := by
    intro n
    induction n with
    | zero => intro act σ2 m2 ha hS hmu; omega
    | succ n ih =>
      intro act σ2 m2 ha hS hmu
      have ih2 := ih
      clear ih
      refine r_iload_n hX dX5_stepBeat_2 rfl ?_
      refine r_aload_n hX dX5_stepBeat_3 rfl ?_
      refine fg_X0_12 hX dX5_stepBeat_4 ?_
      refine r_callV hX dX5_stepBeat_7 (k_Lp_count l w σ2) mf_X2_count mv_X2_count lk_RX5_85 rfl rfl rfl rfl rfl ⟨Nat.le_of_ble_eq_true rfl, Nat.le_of_ble_eq_true rfl⟩ (Nat.le_of_ble_eq_true rfl) (kI fun z7 σ7 hh => ?_)
      obtain ⟨rfl, h7_0, h7_1⟩ := hh
      have q7_1 : σ2 53 = σ 53 := (m2.at 53 rfl)
      try simp only [q7_1] at h7_0
      refine r_icmp_ge hX (tgt := 51) dX5_stepBeat_10 (by decide) (by omega) (by omega) (fun c10 => ?_) (fun c10 => ?_)
      · skip
        exact r_ret hX dX5_stepBeat_51 rfl ⟨rfl, ⟨(m2.w rfl), (by intro hE; exact (hS hE).beat (by omega))⟩⟩
      · skip
        refine r_aload_n hX dX5_stepBeat_13 rfl ?_
        refine fg_X0_28 hX dX5_stepBeat_14 ?_
        refine r_iload_n hX dX5_stepBeat_17 rfl ?_
        refine r_iload_n hX dX5_stepBeat_18 rfl ?_
        have qp19_53 : σ2 53 = σ 53 := (m2.at 53 rfl)
        have qp19_58 : σ2 58 = σ 58 := (m2.at 58 rfl)
        refine r_callV hX dX5_stepBeat_19 (k_Ly_roundStarting l w σ2 _ _ (by omega) (by omega) (by simp only [qp19_53]; omega) (by simp only [qp19_58]; omega) (by omega)) mf_X1_roundStarting mv_X1_roundStarting lk_RX5_229 rfl rfl rfl rfl rfl ⟨Nat.le_of_ble_eq_true rfl, Nat.le_of_ble_eq_true rfl⟩ (Nat.le_of_ble_eq_true rfl) (kI fun z19 σ19 hh => ?_)
        obtain ⟨rfl, h19_0, h19_1⟩ := hh
        have q19_2 : σ2 16 = σ 16 := (m2.at 16 rfl)
        have q19_3 : σ2 58 = σ 58 := (m2.at 58 rfl)
        try simp only [q19_2, q19_3] at h19_0
        refine r_istore hX (fun x22 => [some (.ref (w.2.2 0)), some (.int (iI bt)), some (.int (iI R)), some (.int (iI act)), some (.int (iI x22))]) dX5_stepBeat_22 (Nat.le_of_ble_eq_true rfl) rfl rfl (fun _ => rfl) (fun x22 e22 => ?_)
        refine r_iload hX dX5_stepBeat_24 rfl ?_
        refine r_if_lt hX (tgt := 45) dX5_stepBeat_26 (by decide) (by omega) (fun c26 => ?_) (fun c26 => ?_)
        · skip
          try obtain ⟨v, hv, hw⟩ := h42_0
          try rw [VALx_of m2 rfl] at hv
          refine r_iinc hX (fun x45 => [some (.ref (w.2.2 0)), some (.int (iI bt)), some (.int (iI R)), some (.int (iI x45)), some (.int (iI x22))]) dX5_stepBeat_45 rfl rfl rfl (fun _ => rfl) (fun x45 e45 => ?_)
          refine r_goto hX dX5_stepBeat_48 (tgt := 2) (by decide) ?_
          refine r_wk hX (lv1 := [some (.ref (w.2.2 0)), some (.int (iI bt)), some (.int (iI R)), some (.int (iI x45)), none]) ⟨rfl, ⟨rfl, ⟨rfl, ⟨rfl, trivial⟩⟩⟩⟩ ?_
          exact ih2 x45 σ2 (m2.w rfl) (by omega) (by intro hE; rw [e45]; have h19 := h19_0; rw [← e22] at h19; first | exact (hS hE).make b_53.2 (by omega) hbt hD hsr hdi hwy hL (by omega) ⟨by omega, by omega⟩ (rs_hit h19 (by omega)) hv hw | exact (hS hE).skip (rs_miss h19 hbt (by omega))) (by omega)
        · skip
          refine r_iload hX dX5_stepBeat_29 rfl ?_
          refine r_iload_n hX dX5_stepBeat_31 rfl ?_
          refine r_icmp_ge hX (tgt := 45) dX5_stepBeat_32 (by decide) (by omega) (by omega) (fun c32 => ?_) (fun c32 => ?_)
          · skip
            try obtain ⟨v, hv, hw⟩ := h42_0
            try rw [VALx_of m2 rfl] at hv
            refine r_iinc hX (fun x45 => [some (.ref (w.2.2 0)), some (.int (iI bt)), some (.int (iI R)), some (.int (iI x45)), some (.int (iI x22))]) dX5_stepBeat_45 rfl rfl rfl (fun _ => rfl) (fun x45 e45 => ?_)
            refine r_goto hX dX5_stepBeat_48 (tgt := 2) (by decide) ?_
            refine r_wk hX (lv1 := [some (.ref (w.2.2 0)), some (.int (iI bt)), some (.int (iI R)), some (.int (iI x45)), none]) ⟨rfl, ⟨rfl, ⟨rfl, ⟨rfl, trivial⟩⟩⟩⟩ ?_
            exact ih2 x45 σ2 (m2.w rfl) (by omega) (by intro hE; rw [e45]; have h19 := h19_0; rw [← e22] at h19; first | exact (hS hE).make b_53.2 (by omega) hbt hD hsr hdi hwy hL (by omega) ⟨by omega, by omega⟩ (rs_hit h19 (by omega)) hv hw | exact (hS hE).skip (rs_miss h19 hbt (by omega))) (by omega)
          · skip
            have hdp := hD act (by omega) (by omega)
            have hs1 := hsr (2 * act) (by omega) (by omega)
            have hs2 := hsr (2 * act + 1) (by omega) (by omega)
            refine r_aload_n hX dX5_stepBeat_35 rfl ?_
            refine fg_X0_48 hX dX5_stepBeat_36 ?_
            refine r_iload_n hX dX5_stepBeat_39 rfl ?_
            refine r_iload hX dX5_stepBeat_40 rfl ?_
            have qp42_53 : σ2 53 = σ 53 := (m2.at 53 rfl)
            have qp42_53 : σ2 53 = σ 53 := (m2.at 53 rfl)
            have qp42_2 : σ2 2 = σ 2 := (m2.at 2 rfl)
            have qp42_5 : σ2 5 = σ 5 := (m2.at 5 rfl)
            refine r_callV hX dX5_stepBeat_42 (k_V2_make l w σ2 _ _ (by omega) (by omega) (by simp only [qp42_53]; omega) (by simp only [qp42_53]; omega) (by simp only [qp42_2, qp42_5]; intro q; omega) (by omega)) mf_X4_make mv_X4_make lk_RX5_232 rfl rfl rfl rfl rfl ⟨Nat.le_of_ble_eq_true rfl, Nat.le_of_ble_eq_true rfl⟩ (Nat.le_of_ble_eq_true rfl) (kV fun σ42 hh => ?_)
            obtain ⟨m42, h42_0⟩ := hh
            try obtain ⟨v, hv, hw⟩ := h42_0
            try rw [VALx_of m2 rfl] at hv
            refine r_iinc hX (fun x45 => [some (.ref (w.2.2 0)), some (.int (iI bt)), some (.int (iI R)), some (.int (iI x45)), some (.int (iI x22))]) dX5_stepBeat_45 rfl rfl rfl (fun _ => rfl) (fun x45 e45 => ?_)
            refine r_goto hX dX5_stepBeat_48 (tgt := 2) (by decide) ?_
            refine r_wk hX (lv1 := [some (.ref (w.2.2 0)), some (.int (iI bt)), some (.int (iI R)), some (.int (iI x45)), none]) ⟨rfl, ⟨rfl, ⟨rfl, ⟨rfl, trivial⟩⟩⟩⟩ ?_
            exact ih2 x45 σ42 (Mod.tr (L := [26]) m2 m42 rfl rfl) (by omega) (by intro hE; rw [e45]; have h19 := h19_0; rw [← e22] at h19; first | exact (hS hE).make b_53.2 (by omega) hbt hD hsr hdi hwy hL (by omega) ⟨by omega, by omega⟩ (rs_hit h19 (by omega)) hv hw | exact (hS hE).skip (rs_miss h19 hbt (by omega))) (by omega)
  exact lp2 ((9 - (x1)) + 1).toNat x1 σ Mod.rf (by omega) (by rw [e1]; exact fun hE => hE) (by omega)
theorem dX5_placesBound_0 : decode cX5_placesBound 0 = .ok (.aload_n 0, 1) := by decide +kernel
theorem dX5_placesBound_1 : decode cX5_placesBound 1 = .ok (.getfield 12, 3) := by decide +kernel
theorem dX5_placesBound_4 : decode cX5_placesBound 4 = .ok (.invokevirtual 235, 3) := by decide +kernel
theorem dX5_placesBound_7 : decode cX5_placesBound 7 = .ok (.istore_n 1, 1) := by decide +kernel
theorem dX5_placesBound_8 : decode cX5_placesBound 8 = .ok (.aload_n 0, 1) := by decide +kernel
theorem dX5_placesBound_9 : decode cX5_placesBound 9 = .ok (.getfield 19, 3) := by decide +kernel
theorem dX5_placesBound_12 : decode cX5_placesBound 12 = .ok (.invokevirtual 220, 3) := by decide +kernel
theorem dX5_placesBound_15 : decode cX5_placesBound 15 = .ok (.istore_n 2, 1) := by decide +kernel
theorem dX5_placesBound_16 : decode cX5_placesBound 16 = .ok (.aload_n 0, 1) := by decide +kernel
theorem dX5_placesBound_17 : decode cX5_placesBound 17 = .ok (.getfield 19, 3) := by decide +kernel
theorem dX5_placesBound_20 : decode cX5_placesBound 20 = .ok (.invokevirtual 238, 3) := by decide +kernel
theorem dX5_placesBound_23 : decode cX5_placesBound 23 = .ok (.istore_n 3, 1) := by decide +kernel
theorem dX5_placesBound_24 : decode cX5_placesBound 24 = .ok (.iload_n 2, 1) := by decide +kernel
theorem dX5_placesBound_25 : decode cX5_placesBound 25 = .ok (.ifCond .eq 11, 3) := by decide +kernel
theorem dX5_placesBound_28 : decode cX5_placesBound 28 = .ok (.iload_n 1, 1) := by decide +kernel
theorem dX5_placesBound_29 : decode cX5_placesBound 29 = .ok (.ifCond .le 10, 3) := by decide +kernel
theorem dX5_placesBound_32 : decode cX5_placesBound 32 = .ok (.iload_n 3, 1) := by decide +kernel
theorem dX5_placesBound_33 : decode cX5_placesBound 33 = .ok (.ifCond .ne 6, 3) := by decide +kernel
theorem dX5_placesBound_36 : decode cX5_placesBound 36 = .ok (.bipush (-6), 2) := by decide +kernel
theorem dX5_placesBound_38 : decode cX5_placesBound 38 = .ok (.ireturn, 1) := by decide +kernel
theorem dX5_placesBound_39 : decode cX5_placesBound 39 = .ok (.aload_n 0, 1) := by decide +kernel
theorem dX5_placesBound_40 : decode cX5_placesBound 40 = .ok (.getfield 12, 3) := by decide +kernel
theorem dX5_placesBound_43 : decode cX5_placesBound 43 = .ok (.invokevirtual 85, 3) := by decide +kernel
theorem dX5_placesBound_46 : decode cX5_placesBound 46 = .ok (.iload_n 2, 1) := by decide +kernel
theorem dX5_placesBound_47 : decode cX5_placesBound 47 = .ok (.invokestatic 241, 3) := by decide +kernel
theorem dX5_placesBound_50 : decode cX5_placesBound 50 = .ok (.istore 4, 2) := by decide +kernel
theorem dX5_placesBound_52 : decode cX5_placesBound 52 = .ok (.iload_n 1, 1) := by decide +kernel
theorem dX5_placesBound_53 : decode cX5_placesBound 53 = .ok (.ifCond .ne 8, 3) := by decide +kernel
theorem dX5_placesBound_56 : decode cX5_placesBound 56 = .ok (.iload 4, 2) := by decide +kernel
theorem dX5_placesBound_58 : decode cX5_placesBound 58 = .ok (.goto 13, 3) := by decide +kernel
theorem dX5_placesBound_61 : decode cX5_placesBound 61 = .ok (.iload 4, 2) := by decide +kernel
theorem dX5_placesBound_63 : decode cX5_placesBound 63 = .ok (.iload_n 1, 1) := by decide +kernel
theorem dX5_placesBound_64 : decode cX5_placesBound 64 = .ok (.iload_n 3, 1) := by decide +kernel
theorem dX5_placesBound_65 : decode cX5_placesBound 65 = .ok (.invokestatic 241, 3) := by decide +kernel
theorem dX5_placesBound_68 : decode cX5_placesBound 68 = .ok (.invokestatic 197, 3) := by decide +kernel
theorem dX5_placesBound_71 : decode cX5_placesBound 71 = .ok (.ireturn, 1) := by decide +kernel
set_option maxRecDepth 20000 in
set_option maxHeartbeats 4000000 in
theorem k_B_placesBound (l : Launch) (w : WT) (σ : MM) : CT SX l w yX5_placesBound cX5_placesBound 5 (some .int) 3 64 [.ref (w.2.2 0)] σ (PI fun z σ1 => σ = σ1 ∧ (PBX σ z) ∧ (-6 ≤ z ∧ z ≤ 8)) := by
  refine CT.of 4 [some (.ref (w.2.2 0)), none, none, none, none] (by decide +kernel) (by simp [lg_sl, Value.category]) rfl sh_X (fun G hX => ?_)
  refine r_bd hX (fun hBd => ?_)
  have b_53 := hBd 53 0 8 rfl 0
  have b_56 := hBd 56 1 3 rfl 0
  have b_57 := hBd 57 1 3 rfl 0
  have hn := mul_bd b_56 b_57
  refine r_aload_n hX dX5_placesBound_0 rfl ?_
  refine fg_X0_12 hX dX5_placesBound_1 ?_
  refine r_callV hX dX5_placesBound_4 (k_Lp_products l w σ) mf_X2_products mv_X2_products lk_RX5_235 rfl rfl rfl rfl rfl ⟨Nat.le_of_ble_eq_true rfl, Nat.le_of_ble_eq_true rfl⟩ (Nat.le_of_ble_eq_true rfl) (kI fun z4 σ4 hh => ?_)
  obtain ⟨rfl, h4_0, h4_1⟩ := hh
  refine r_istore_n hX (fun x7 => [some (.ref (w.2.2 0)), some (.int (iI x7)), none, none, none]) dX5_placesBound_7 (Nat.le_of_ble_eq_true rfl) rfl rfl (fun _ => rfl) (fun x7 e7 => ?_)
  refine r_aload_n hX dX5_placesBound_8 rfl ?_
  refine fg_X0_19 hX dX5_placesBound_9 ?_
  refine r_callV hX dX5_placesBound_12 (k_Gd_unbroken l w σ) mf_X0_unbroken mv_X0_unbroken lk_RX5_220 rfl rfl rfl rfl rfl ⟨Nat.le_of_ble_eq_true rfl, Nat.le_of_ble_eq_true rfl⟩ (Nat.le_of_ble_eq_true rfl) (kI fun z12 σ12 hh => ?_)
  obtain ⟨rfl, h12_0, h12_1⟩ := hh
  refine r_istore_n hX (fun x15 => [some (.ref (w.2.2 0)), some (.int (iI x7)), some (.int (iI x15)), none, none]) dX5_placesBound_15 (Nat.le_of_ble_eq_true rfl) rfl rfl (fun _ => rfl) (fun x15 e15 => ?_)
  refine r_aload_n hX dX5_placesBound_16 rfl ?_
  refine fg_X0_19 hX dX5_placesBound_17 ?_
  refine r_callV hX dX5_placesBound_20 (k_Gd_unbrokenMul l w σ) mf_X0_unbrokenMultiplying mv_X0_unbrokenMultiplying lk_RX5_238 rfl rfl rfl rfl rfl ⟨Nat.le_of_ble_eq_true rfl, Nat.le_of_ble_eq_true rfl⟩ (Nat.le_of_ble_eq_true rfl) (kI fun z20 σ20 hh => ?_)
  obtain ⟨rfl, h20_0, h20_1⟩ := hh
  refine r_istore_n hX (fun x23 => [some (.ref (w.2.2 0)), some (.int (iI x7)), some (.int (iI x15)), some (.int (iI x23)), none]) dX5_placesBound_23 (Nat.le_of_ble_eq_true rfl) rfl rfl (fun _ => rfl) (fun x23 e23 => ?_)
  refine r_iload_n hX dX5_placesBound_24 rfl ?_
  refine r_if_eq hX (tgt := 36) dX5_placesBound_25 (by decide) (by omega) (fun c25 => ?_) (fun c25 => ?_)
  · skip
    refine r_bipush hX dX5_placesBound_36 (by decide) ?_
    exact r_iret hX dX5_placesBound_38 rfl ⟨_, rfl, ⟨rfl, (by first | exact Or.inl ⟨by omega, rfl⟩ | exact Or.inr (Or.inl ⟨by omega, by omega, by omega⟩) | exact Or.inr (Or.inr ⟨by omega, by omega, by omega, by omega, by omega, by omega⟩)), (by omega)⟩⟩
  · skip
    refine r_iload_n hX dX5_placesBound_28 rfl ?_
    refine r_if_le hX (tgt := 39) dX5_placesBound_29 (by decide) (by omega) (fun c29 => ?_) (fun c29 => ?_)
    · skip
      refine r_aload_n hX dX5_placesBound_39 rfl ?_
      refine fg_X0_12 hX dX5_placesBound_40 ?_
      refine r_callV hX dX5_placesBound_43 (k_Lp_count l w σ) mf_X2_count mv_X2_count lk_RX5_85 rfl rfl rfl rfl rfl ⟨Nat.le_of_ble_eq_true rfl, Nat.le_of_ble_eq_true rfl⟩ (Nat.le_of_ble_eq_true rfl) (kI fun z43 σ43 hh => ?_)
      obtain ⟨rfl, h43_0, h43_1⟩ := hh
      refine r_iload_n hX dX5_placesBound_46 rfl ?_
      refine r_callS hX dX5_placesBound_47 (k_cutUp l w σ _ _ (by omega) (by omega) (by omega) (by omega)) mf_X5_cutUp ms_X5_cutUp lk_RX5_241 rfl rfl ⟨Nat.le_of_ble_eq_true rfl, Nat.le_of_ble_eq_true rfl⟩ (Nat.le_of_ble_eq_true rfl) (kI fun z47 σ47 hh => ?_)
      obtain ⟨rfl, h47_0⟩ := hh
      refine r_istore hX (fun x50 => [some (.ref (w.2.2 0)), some (.int (iI x7)), some (.int (iI x15)), some (.int (iI x23)), some (.int (iI x50))]) dX5_placesBound_50 (Nat.le_of_ble_eq_true rfl) rfl rfl (fun _ => rfl) (fun x50 e50 => ?_)
      refine r_iload_n hX dX5_placesBound_52 rfl ?_
      have f1 : x50 = cdiv (σ 53 0) (cn0 (σ 11) (σ 56 0 * σ 57 0)) := by rw [e50, h47_0, h43_0, e15, h12_0]
      have f0 : 0 ≤ x50 := by rw [e50, h47_0]; exact cdiv_nn (by omega) (by omega)
      have f9 : x50 ≤ 8 := by rw [e50, h47_0]; exact (cdiv_bd (B := 8) (by omega) (by omega) (by omega)).2
      refine r_if_ne hX (tgt := 61) dX5_placesBound_53 (by decide) (by omega) (fun c53 => ?_) (fun c53 => ?_)
      · skip
        refine r_iload hX dX5_placesBound_61 rfl ?_
        refine r_iload_n hX dX5_placesBound_63 rfl ?_
        refine r_iload_n hX dX5_placesBound_64 rfl ?_
        refine r_callS hX dX5_placesBound_65 (k_cutUp l w σ _ _ (by omega) (by omega) (by omega) (by omega)) mf_X5_cutUp ms_X5_cutUp lk_RX5_241 rfl rfl ⟨Nat.le_of_ble_eq_true rfl, Nat.le_of_ble_eq_true rfl⟩ (Nat.le_of_ble_eq_true rfl) (kI fun z65 σ65 hh => ?_)
        obtain ⟨rfl, h65_0⟩ := hh
        have f2 : z65 = cdiv (cnK (σ 2) (σ 53 0)) (cn2 (σ 11) (σ 12) (σ 56 0 * σ 57 0)) := by rw [h65_0, e7, h4_0, e23, h20_0]
        have g0 : 0 ≤ z65 := by rw [h65_0]; exact cdiv_nn (by omega) (by omega)
        have g9 : z65 ≤ 8 := by rw [h65_0]; exact (cdiv_bd (B := 8) (by omega) (by omega) (by omega)).2
        refine r_max hX dX5_placesBound_68 lq_RX5_197 ma_max_s ma_i ma_max_c (Nat.le_of_ble_eq_true rfl) (Nat.le_of_ble_eq_true rfl) (fun z68 h68 => ?_)
        rw [iI_lt (by omega) (by omega)] at h68
        exact r_iret hX dX5_placesBound_71 rfl ⟨_, rfl, ⟨rfl, (by first | exact Or.inl ⟨by omega, rfl⟩ | exact Or.inr (Or.inl ⟨by omega, by omega, by omega⟩) | exact Or.inr (Or.inr ⟨by omega, by omega, by omega, by omega, by omega, by omega⟩)), (by omega)⟩⟩
      · skip
        refine r_iload hX dX5_placesBound_56 rfl ?_
        refine r_goto hX dX5_placesBound_58 (tgt := 71) (by decide) ?_
        exact r_iret hX dX5_placesBound_71 rfl ⟨_, rfl, ⟨rfl, (by first | exact Or.inl ⟨by omega, rfl⟩ | exact Or.inr (Or.inl ⟨by omega, by omega, by omega⟩) | exact Or.inr (Or.inr ⟨by omega, by omega, by omega, by omega, by omega, by omega⟩)), (by omega)⟩⟩
    · skip
      refine r_iload_n hX dX5_placesBound_32 rfl ?_
      refine r_if_ne hX (tgt := 39) dX5_placesBound_33 (by decide) (by omega) (fun c33 => ?_) (fun c33 => ?_)
      · skip
        refine r_aload_n hX dX5_placesBound_39 rfl ?_
        refine fg_X0_12 hX dX5_placesBound_40 ?_
        refine r_callV hX dX5_placesBound_43 (k_Lp_count l w σ) mf_X2_count mv_X2_count lk_RX5_85 rfl rfl rfl rfl rfl ⟨Nat.le_of_ble_eq_true rfl, Nat.le_of_ble_eq_true rfl⟩ (Nat.le_of_ble_eq_true rfl) (kI fun z43 σ43 hh => ?_)
        obtain ⟨rfl, h43_0, h43_1⟩ := hh
        refine r_iload_n hX dX5_placesBound_46 rfl ?_
        refine r_callS hX dX5_placesBound_47 (k_cutUp l w σ _ _ (by omega) (by omega) (by omega) (by omega)) mf_X5_cutUp ms_X5_cutUp lk_RX5_241 rfl rfl ⟨Nat.le_of_ble_eq_true rfl, Nat.le_of_ble_eq_true rfl⟩ (Nat.le_of_ble_eq_true rfl) (kI fun z47 σ47 hh => ?_)
        obtain ⟨rfl, h47_0⟩ := hh
        refine r_istore hX (fun x50 => [some (.ref (w.2.2 0)), some (.int (iI x7)), some (.int (iI x15)), some (.int (iI x23)), some (.int (iI x50))]) dX5_placesBound_50 (Nat.le_of_ble_eq_true rfl) rfl rfl (fun _ => rfl) (fun x50 e50 => ?_)
        refine r_iload_n hX dX5_placesBound_52 rfl ?_
        have f1 : x50 = cdiv (σ 53 0) (cn0 (σ 11) (σ 56 0 * σ 57 0)) := by rw [e50, h47_0, h43_0, e15, h12_0]
        have f0 : 0 ≤ x50 := by rw [e50, h47_0]; exact cdiv_nn (by omega) (by omega)
        have f9 : x50 ≤ 8 := by rw [e50, h47_0]; exact (cdiv_bd (B := 8) (by omega) (by omega) (by omega)).2
        refine r_if_ne hX (tgt := 61) dX5_placesBound_53 (by decide) (by omega) (fun c53 => ?_) (fun c53 => ?_)
        · skip
          refine r_iload hX dX5_placesBound_61 rfl ?_
          refine r_iload_n hX dX5_placesBound_63 rfl ?_
          refine r_iload_n hX dX5_placesBound_64 rfl ?_
          refine r_callS hX dX5_placesBound_65 (k_cutUp l w σ _ _ (by omega) (by omega) (by omega) (by omega)) mf_X5_cutUp ms_X5_cutUp lk_RX5_241 rfl rfl ⟨Nat.le_of_ble_eq_true rfl, Nat.le_of_ble_eq_true rfl⟩ (Nat.le_of_ble_eq_true rfl) (kI fun z65 σ65 hh => ?_)
          obtain ⟨rfl, h65_0⟩ := hh
          have f2 : z65 = cdiv (cnK (σ 2) (σ 53 0)) (cn2 (σ 11) (σ 12) (σ 56 0 * σ 57 0)) := by rw [h65_0, e7, h4_0, e23, h20_0]
          have g0 : 0 ≤ z65 := by rw [h65_0]; exact cdiv_nn (by omega) (by omega)
          have g9 : z65 ≤ 8 := by rw [h65_0]; exact (cdiv_bd (B := 8) (by omega) (by omega) (by omega)).2
          refine r_max hX dX5_placesBound_68 lq_RX5_197 ma_max_s ma_i ma_max_c (Nat.le_of_ble_eq_true rfl) (Nat.le_of_ble_eq_true rfl) (fun z68 h68 => ?_)
          rw [iI_lt (by omega) (by omega)] at h68
          exact r_iret hX dX5_placesBound_71 rfl ⟨_, rfl, ⟨rfl, (by first | exact Or.inl ⟨by omega, rfl⟩ | exact Or.inr (Or.inl ⟨by omega, by omega, by omega⟩) | exact Or.inr (Or.inr ⟨by omega, by omega, by omega, by omega, by omega, by omega⟩)), (by omega)⟩⟩
        · skip
          refine r_iload hX dX5_placesBound_56 rfl ?_
          refine r_goto hX dX5_placesBound_58 (tgt := 71) (by decide) ?_
          exact r_iret hX dX5_placesBound_71 rfl ⟨_, rfl, ⟨rfl, (by first | exact Or.inl ⟨by omega, rfl⟩ | exact Or.inr (Or.inl ⟨by omega, by omega, by omega⟩) | exact Or.inr (Or.inr ⟨by omega, by omega, by omega, by omega, by omega, by omega⟩)), (by omega)⟩⟩
      · skip
        refine r_bipush hX dX5_placesBound_36 (by decide) ?_
        exact r_iret hX dX5_placesBound_38 rfl ⟨_, rfl, ⟨rfl, (by first | exact Or.inl ⟨by omega, rfl⟩ | exact Or.inr (Or.inl ⟨by omega, by omega, by omega⟩) | exact Or.inr (Or.inr ⟨by omega, by omega, by omega, by omega, by omega, by omega⟩)), (by omega)⟩⟩
theorem dX5_takeFound_0 : decode cX5_takeFound 0 = .ok (.aload_n 0, 1) := by decide +kernel
theorem dX5_takeFound_1 : decode cX5_takeFound 1 = .ok (.getfield 28, 3) := by decide +kernel
theorem dX5_takeFound_4 : decode cX5_takeFound 4 = .ok (.iload_n 1, 1) := by decide +kernel
theorem dX5_takeFound_5 : decode cX5_takeFound 5 = .ok (.invokevirtual 155, 3) := by decide +kernel
theorem dX5_takeFound_8 : decode cX5_takeFound 8 = .ok (.iconst 0, 1) := by decide +kernel
theorem dX5_takeFound_9 : decode cX5_takeFound 9 = .ok (.istore_n 2, 1) := by decide +kernel
theorem dX5_takeFound_10 : decode cX5_takeFound 10 = .ok (.iload_n 2, 1) := by decide +kernel
theorem dX5_takeFound_11 : decode cX5_takeFound 11 = .ok (.aload_n 0, 1) := by decide +kernel
theorem dX5_takeFound_12 : decode cX5_takeFound 12 = .ok (.getfield 12, 3) := by decide +kernel
theorem dX5_takeFound_15 : decode cX5_takeFound 15 = .ok (.invokevirtual 85, 3) := by decide +kernel
theorem dX5_takeFound_18 : decode cX5_takeFound 18 = .ok (.if_icmp .ge 33, 3) := by decide +kernel
theorem dX5_takeFound_21 : decode cX5_takeFound 21 = .ok (.aload_n 0, 1) := by decide +kernel
theorem dX5_takeFound_22 : decode cX5_takeFound 22 = .ok (.getfield 28, 3) := by decide +kernel
theorem dX5_takeFound_25 : decode cX5_takeFound 25 = .ok (.iload_n 2, 1) := by decide +kernel
theorem dX5_takeFound_26 : decode cX5_takeFound 26 = .ok (.aload_n 0, 1) := by decide +kernel
theorem dX5_takeFound_27 : decode cX5_takeFound 27 = .ok (.getfield 35, 3) := by decide +kernel
theorem dX5_takeFound_30 : decode cX5_takeFound 30 = .ok (.iload_n 2, 1) := by decide +kernel
theorem dX5_takeFound_31 : decode cX5_takeFound 31 = .ok (.invokevirtual 244, 3) := by decide +kernel
theorem dX5_takeFound_34 : decode cX5_takeFound 34 = .ok (.aload_n 0, 1) := by decide +kernel
theorem dX5_takeFound_35 : decode cX5_takeFound 35 = .ok (.getfield 35, 3) := by decide +kernel
theorem dX5_takeFound_38 : decode cX5_takeFound 38 = .ok (.iload_n 2, 1) := by decide +kernel
theorem dX5_takeFound_39 : decode cX5_takeFound 39 = .ok (.invokevirtual 245, 3) := by decide +kernel
theorem dX5_takeFound_42 : decode cX5_takeFound 42 = .ok (.invokevirtual 161, 3) := by decide +kernel
theorem dX5_takeFound_45 : decode cX5_takeFound 45 = .ok (.iinc 2 1, 3) := by decide +kernel
theorem dX5_takeFound_48 : decode cX5_takeFound 48 = .ok (.goto (-38), 3) := by decide +kernel
theorem dX5_takeFound_51 : decode cX5_takeFound 51 = .ok (.aload_n 0, 1) := by decide +kernel
theorem dX5_takeFound_52 : decode cX5_takeFound 52 = .ok (.iconst 0, 1) := by decide +kernel
theorem dX5_takeFound_53 : decode cX5_takeFound 53 = .ok (.putfield 82, 3) := by decide +kernel
theorem dX5_takeFound_56 : decode cX5_takeFound 56 = .ok (.return_, 1) := by decide +kernel
set_option maxRecDepth 20000 in
set_option maxHeartbeats 4000000 in
theorem k_B_takeFound (l : Launch) (w : WT) (σ : MM) (bt : Int) (i_bt : inr bt) (hb : 1 ≤ bt ∧ bt ≤ 12) : CT SX l w yX5_takeFound cX5_takeFound 3 none 2 44 [.ref (w.2.2 0), .int (iI bt)] σ (PV fun σ1 => Mod [15, 16, 51, 58] σ σ1 ∧ (σ1 58 0 = bt ∧ σ1 51 0 = 0) ∧ (∀ a : Int, 0 ≤ a → a < σ 53 0 → σ1 15 a = σ 18 a ∧ σ1 16 a = σ 19 a + σ 59 0 * σ 22 ((σ 53 0 - 1) * 8 + a))) := by
  refine CT.of 1 [some (.ref (w.2.2 0)), some (.int (iI bt)), none] (by decide +kernel) (by simp [lg_sl, Value.category]) rfl sh_X (fun G hX => ?_)
  refine r_bd hX (fun hBd => ?_)
  have b_53 := hBd 53 0 8 rfl 0
  refine r_aload_n hX dX5_takeFound_0 rfl ?_
  refine fg_X0_28 hX dX5_takeFound_1 ?_
  refine r_iload_n hX dX5_takeFound_4 rfl ?_
  refine r_callV hX dX5_takeFound_5 (k_Ly_begin l w σ _ (by omega) (by omega)) mf_X1_begin mv_X1_begin lk_RX5_155 rfl rfl rfl rfl rfl ⟨Nat.le_of_ble_eq_true rfl, Nat.le_of_ble_eq_true rfl⟩ (Nat.le_of_ble_eq_true rfl) (kV fun σ5 hh => ?_)
  obtain ⟨m5, h5_0, h5_1⟩ := hh
  refine r_iconst hX dX5_takeFound_8 ?_
  refine r_istore_n hX (fun x9 => [some (.ref (w.2.2 0)), some (.int (iI bt)), some (.int (iI x9))]) dX5_takeFound_9 (Nat.le_of_ble_eq_true rfl) rfl rfl (fun _ => rfl) (fun x9 e9 => ?_)
  have lp10 : ∀ (n : Nat) (act : Int) (σ10 : MM) (m10 : Mod [15, 16] σ5 σ10) (ha : 0 ≤ act ∧ act ≤ σ 53 0) (hp : ∀ a : Int, 0 ≤ a → a < act → σ10 15 a = σ 18 a ∧ σ10 16 a = σ 19 a + σ 59 0 * σ 22 ((σ 53 0 - 1) * 8 + a)) (hmu : 9 - act < (n : Int)), G 10 [some (.ref (w.2.2 0)), some (.int (iI bt)), some (.int (iI act))] [] σ10 := by
    intro n
    induction n with
    | zero => intro act σ10 m10 ha hp hmu; omega
    | succ n ih =>
      intro act σ10 m10 ha hp hmu
      have ih10 := ih
      clear ih
      refine r_iload_n hX dX5_takeFound_10 rfl ?_
      refine r_aload_n hX dX5_takeFound_11 rfl ?_
      refine fg_X0_12 hX dX5_takeFound_12 ?_
      refine r_callV hX dX5_takeFound_15 (k_Lp_count l w σ10) mf_X2_count mv_X2_count lk_RX5_85 rfl rfl rfl rfl rfl ⟨Nat.le_of_ble_eq_true rfl, Nat.le_of_ble_eq_true rfl⟩ (Nat.le_of_ble_eq_true rfl) (kI fun z15 σ15 hh => ?_)
      obtain ⟨rfl, h15_0, h15_1⟩ := hh
      have q15_1 : σ10 53 = σ 53 := ((m10.at 53 rfl).trans (m5.at 53 rfl))
      try simp only [q15_1] at h15_0
      refine r_icmp_ge hX (tgt := 51) dX5_takeFound_18 (by decide) (by omega) (by omega) (fun c18 => ?_) (fun c18 => ?_)
      · skip
        refine r_aload_n hX dX5_takeFound_51 rfl ?_
        refine r_iconst hX dX5_takeFound_52 ?_
        refine fp_X0_82 hX dX5_takeFound_53 (by omega) (fun σ53 m53 s53 => ?_)
        exact r_ret hX dX5_takeFound_56 rfl ⟨rfl, ⟨(Mod.tr (L := [15, 16, 51, 58]) (Mod.tr (L := [15, 16, 51, 58]) m5 m10 rfl rfl) m53 rfl rfl), (by exact ⟨by rw [m53.at 58 rfl, m10.at 58 rfl]; exact h5_0, s53⟩), (by intro a a0 a1; rw [m53.at 15 rfl, m53.at 16 rfl]; exact hp a a0 (by omega))⟩⟩
      · skip
        refine r_aload_n hX dX5_takeFound_21 rfl ?_
        refine fg_X0_28 hX dX5_takeFound_22 ?_
        refine r_iload_n hX dX5_takeFound_25 rfl ?_
        refine r_aload_n hX dX5_takeFound_26 rfl ?_
        refine fg_X0_35 hX dX5_takeFound_27 ?_
        refine r_iload_n hX dX5_takeFound_30 rfl ?_
        refine r_callV hX dX5_takeFound_31 (k_Sr_cellOf l w σ10 _ (by omega)) mf_X3_cellOf mv_X3_cellOf lk_RX5_244 rfl rfl rfl rfl rfl ⟨Nat.le_of_ble_eq_true rfl, Nat.le_of_ble_eq_true rfl⟩ (Nat.le_of_ble_eq_true rfl) (kI fun z31 σ31 hh => ?_)
        obtain ⟨rfl, h31_0, h31_1⟩ := hh
        have q31_2 : σ10 18 = σ 18 := ((m10.at 18 rfl).trans (m5.at 18 rfl))
        have q31_3 : σ10 53 = σ 53 := ((m10.at 53 rfl).trans (m5.at 53 rfl))
        try simp only [q31_2, q31_3] at h31_0
        refine r_aload_n hX dX5_takeFound_34 rfl ?_
        refine fg_X0_35 hX dX5_takeFound_35 ?_
        refine r_iload_n hX dX5_takeFound_38 rfl ?_
        have qp39_53 : σ10 53 = σ 53 := ((m10.at 53 rfl).trans (m5.at 53 rfl))
        refine r_callV hX dX5_takeFound_39 (k_Sr_startOf l w σ10 _ (by omega) (by simp only [qp39_53]; omega)) mf_X3_startOf mv_X3_startOf lk_RX5_245 rfl rfl rfl rfl rfl ⟨Nat.le_of_ble_eq_true rfl, Nat.le_of_ble_eq_true rfl⟩ (Nat.le_of_ble_eq_true rfl) (kI fun z39 σ39 hh => ?_)
        obtain ⟨rfl, h39_0, h39_1⟩ := hh
        have q39_4 : σ10 19 = σ 19 := ((m10.at 19 rfl).trans (m5.at 19 rfl))
        have q39_5 : σ10 22 = σ 22 := ((m10.at 22 rfl).trans (m5.at 22 rfl))
        have q39_6 : σ10 53 = σ 53 := ((m10.at 53 rfl).trans (m5.at 53 rfl))
        have q39_7 : σ10 59 = σ 59 := ((m10.at 59 rfl).trans (m5.at 59 rfl))
        try simp only [q39_4, q39_5, q39_6, q39_7] at h39_0
        have qp42_53 : σ10 53 = σ 53 := ((m10.at 53 rfl).trans (m5.at 53 rfl))
        refine r_callV hX dX5_takeFound_42 (k_Ly_put l w σ10 _ _ _ (by omega) (by omega) (by omega) (by simp only [qp42_53]; omega) (by omega) (by omega)) mf_X1_put mv_X1_put lk_RX5_161 rfl rfl rfl rfl rfl ⟨Nat.le_of_ble_eq_true rfl, Nat.le_of_ble_eq_true rfl⟩ (Nat.le_of_ble_eq_true rfl) (kV fun σ42 hh => ?_)
        obtain ⟨m42, h42_0, h42_1⟩ := hh
        refine r_iinc hX (fun x45 => [some (.ref (w.2.2 0)), some (.int (iI bt)), some (.int (iI x45))]) dX5_takeFound_45 rfl rfl rfl (fun _ => rfl) (fun x45 e45 => ?_)
        refine r_goto hX dX5_takeFound_48 (tgt := 10) (by decide) ?_
        exact ih10 x45 σ42 (Mod.tr (L := [15, 16]) m10 m42 rfl rfl) (by omega) (fun a a0 a1 => by rw [h42_0 a, h42_1 a]; by_cases e : a = act; (rw [e, if_pos rfl, if_pos rfl]; exact ⟨by omega, by omega⟩); (rw [if_neg e, if_neg e]; exact hp a a0 (by omega))) (by omega)
  exact lp10 ((9 - (x9)) + 1).toNat x9 σ5 Mod.rf (by omega) (fun a a0 a1 => by omega) (by omega)
theorem dX5_input_0 : decode cX5_input 0 = .ok (.iload_n 1, 1) := by decide +kernel
theorem dX5_input_1 : decode cX5_input 1 = .ok (.sipush (-1000), 3) := by decide +kernel
theorem dX5_input_4 : decode cX5_input 4 = .ok (.sipush 1000, 3) := by decide +kernel
theorem dX5_input_7 : decode cX5_input 7 = .ok (.invokestatic 51, 3) := by decide +kernel
theorem dX5_input_10 : decode cX5_input 10 = .ok (.ifCond .eq 16, 3) := by decide +kernel
theorem dX5_input_13 : decode cX5_input 13 = .ok (.iload_n 2, 1) := by decide +kernel
theorem dX5_input_14 : decode cX5_input 14 = .ok (.sipush (-1000), 3) := by decide +kernel
theorem dX5_input_17 : decode cX5_input 17 = .ok (.sipush 1000, 3) := by decide +kernel
theorem dX5_input_20 : decode cX5_input 20 = .ok (.invokestatic 51, 3) := by decide +kernel
theorem dX5_input_23 : decode cX5_input 23 = .ok (.ifCond .ne 6, 3) := by decide +kernel
theorem dX5_input_26 : decode cX5_input 26 = .ok (.bipush (-2), 2) := by decide +kernel
theorem dX5_input_28 : decode cX5_input 28 = .ok (.ireturn, 1) := by decide +kernel
theorem dX5_input_29 : decode cX5_input 29 = .ok (.aload_n 0, 1) := by decide +kernel
theorem dX5_input_30 : decode cX5_input 30 = .ok (.getfield 12, 3) := by decide +kernel
theorem dX5_input_33 : decode cX5_input 33 = .ok (.iload_n 1, 1) := by decide +kernel
theorem dX5_input_34 : decode cX5_input 34 = .ok (.iload_n 2, 1) := by decide +kernel
theorem dX5_input_35 : decode cX5_input 35 = .ok (.invokevirtual 55, 3) := by decide +kernel
theorem dX5_input_38 : decode cX5_input 38 = .ok (.istore_n 3, 1) := by decide +kernel
theorem dX5_input_39 : decode cX5_input 39 = .ok (.iload_n 3, 1) := by decide +kernel
theorem dX5_input_40 : decode cX5_input 40 = .ok (.ifCond .lt 7, 3) := by decide +kernel
theorem dX5_input_43 : decode cX5_input 43 = .ok (.aload_n 0, 1) := by decide +kernel
theorem dX5_input_44 : decode cX5_input 44 = .ok (.invokevirtual 59, 3) := by decide +kernel
theorem dX5_input_47 : decode cX5_input 47 = .ok (.iload_n 3, 1) := by decide +kernel
theorem dX5_input_48 : decode cX5_input 48 = .ok (.ireturn, 1) := by decide +kernel
set_option maxRecDepth 20000 in
set_option maxHeartbeats 4000000 in
theorem k_B_input (l : Launch) (w : WT) (σ : MM) (p : Int) (q : Int) (i_p : inr p) (i_q : inr q) : CT SX l w yX5_input cX5_input 4 (some .int) 5 110 [.ref (w.2.2 0), .int (iI p), .int (iI q)] σ (PI fun z σ1 => Mod [2, 3, 4, 5, 6, 7, 8, 53, 54, 50, 51, 58] σ σ1 ∧ (((p < -1000 ∨ 1000 < p ∨ q < -1000 ∨ 1000 < q) ∧ z = -2 ∧ σ1 = σ) ∨ ((-1000 ≤ p ∧ p ≤ 1000 ∧ -1000 ≤ q ∧ q ≤ 1000) ∧ σ 53 0 = 8 ∧ z = -4 ∧ σ1 = σ) ∨ ((-1000 ≤ p ∧ p ≤ 1000 ∧ -1000 ≤ q ∧ q ≤ 1000) ∧ σ 53 0 < 8 ∧ z = σ 53 0 ∧ Added σ σ1 0 p q (-6) 0 (-6) 0 ∧ LoopOK σ1 ∧ σ1 50 0 = 0 ∧ σ1 51 0 = 0 ∧ σ1 58 0 = 0))) := by
  refine CT.of 1 [some (.ref (w.2.2 0)), some (.int (iI p)), some (.int (iI q)), none] (by decide +kernel) (by simp [lg_sl, Value.category]) rfl sh_X (fun G hX => ?_)
  refine r_bd hX (fun hBd => ?_)
  have b_53 := hBd 53 0 8 rfl 0
  refine r_iload_n hX dX5_input_0 rfl ?_
  refine r_sipush hX dX5_input_1 (by decide) ?_
  refine r_sipush hX dX5_input_4 (by decide) ?_
  refine r_callS hX dX5_input_7 (k_B_isWithin l w σ _ _ _ (by omega) (by omega) (by omega)) mf_X5_isWithin ms_X5_isWithin lk_RX5_51 rfl rfl ⟨Nat.le_of_ble_eq_true rfl, Nat.le_of_ble_eq_true rfl⟩ (Nat.le_of_ble_eq_true rfl) (kI fun z7 σ7 hh => ?_)
  obtain ⟨rfl, h7_0⟩ := hh
  refine r_if_eq hX (tgt := 26) dX5_input_10 (by decide) (by omega) (fun c10 => ?_) (fun c10 => ?_)
  · skip
    refine r_bipush hX dX5_input_26 (by decide) ?_
    exact r_iret hX dX5_input_28 rfl ⟨_, rfl, ⟨Mod.rf, (by first | exact Or.inl ⟨by omega, rfl, rfl⟩ | (rcases h35_0 with ⟨q1, q2, q3⟩ | ⟨q1, q2, q3, q4⟩; (first | exact Or.inr (Or.inl ⟨by omega, q1, by omega, q3⟩) | omega); (first | exact Or.inr (Or.inr ⟨by omega, q1, by omega, q3.keep m44 rfl, q4.keep m44 rfl, h44_0⟩) | omega)))⟩⟩
  · skip
    refine r_iload_n hX dX5_input_13 rfl ?_
    refine r_sipush hX dX5_input_14 (by decide) ?_
    refine r_sipush hX dX5_input_17 (by decide) ?_
    refine r_callS hX dX5_input_20 (k_B_isWithin l w σ _ _ _ (by omega) (by omega) (by omega)) mf_X5_isWithin ms_X5_isWithin lk_RX5_51 rfl rfl ⟨Nat.le_of_ble_eq_true rfl, Nat.le_of_ble_eq_true rfl⟩ (Nat.le_of_ble_eq_true rfl) (kI fun z20 σ20 hh => ?_)
    obtain ⟨rfl, h20_0⟩ := hh
    refine r_if_ne hX (tgt := 29) dX5_input_23 (by decide) (by omega) (fun c23 => ?_) (fun c23 => ?_)
    · skip
      refine r_aload_n hX dX5_input_29 rfl ?_
      refine fg_X0_12 hX dX5_input_30 ?_
      refine r_iload_n hX dX5_input_33 rfl ?_
      refine r_iload_n hX dX5_input_34 rfl ?_
      refine r_callV hX dX5_input_35 (k_Lp_addInput l w σ _ _ (by omega) (by omega)) mf_X2_addInput mv_X2_addInput lk_RX5_55 rfl rfl rfl rfl rfl ⟨Nat.le_of_ble_eq_true rfl, Nat.le_of_ble_eq_true rfl⟩ (Nat.le_of_ble_eq_true rfl) (kI fun z35 σ35 hh => ?_)
      obtain ⟨m35, h35_0⟩ := hh
      have q35_1 : σ35 0 = σ 0 := (m35.at 0 rfl)
      try simp only [q35_1] at h35_0
      refine r_istore_n hX (fun x38 => [some (.ref (w.2.2 0)), some (.int (iI p)), some (.int (iI q)), some (.int (iI x38))]) dX5_input_38 (Nat.le_of_ble_eq_true rfl) rfl rfl (fun _ => rfl) (fun x38 e38 => ?_)
      refine r_iload_n hX dX5_input_39 rfl ?_
      refine r_if_lt hX (tgt := 47) dX5_input_40 (by decide) (by omega) (fun c40 => ?_) (fun c40 => ?_)
      · skip
        refine r_iload_n hX dX5_input_47 rfl ?_
        exact r_iret hX dX5_input_48 rfl ⟨_, rfl, ⟨(m35.w rfl), (by first | exact Or.inl ⟨by omega, rfl, rfl⟩ | (rcases h35_0 with ⟨q1, q2, q3⟩ | ⟨q1, q2, q3, q4⟩; (first | exact Or.inr (Or.inl ⟨by omega, q1, by omega, q3⟩) | omega); (first | exact Or.inr (Or.inr ⟨by omega, q1, by omega, q3.keep m44 rfl, q4.keep m44 rfl, h44_0⟩) | omega)))⟩⟩
      · skip
        refine r_aload_n hX dX5_input_43 rfl ?_
        refine r_callV hX dX5_input_44 (k_B_actsChanged l w σ35) mf_X5_actsChanged mv_X5_actsChanged lk_RX5_59 rfl rfl rfl rfl rfl ⟨Nat.le_of_ble_eq_true rfl, Nat.le_of_ble_eq_true rfl⟩ (Nat.le_of_ble_eq_true rfl) (kV fun σ44 hh => ?_)
        obtain ⟨m44, h44_0⟩ := hh
        refine r_iload_n hX dX5_input_47 rfl ?_
        exact r_iret hX dX5_input_48 rfl ⟨_, rfl, ⟨(Mod.tr (L := [2, 3, 4, 5, 6, 7, 8, 53, 54, 50, 51, 58]) m35 m44 rfl rfl), (by first | exact Or.inl ⟨by omega, rfl, rfl⟩ | (rcases h35_0 with ⟨q1, q2, q3⟩ | ⟨q1, q2, q3, q4⟩; (first | exact Or.inr (Or.inl ⟨by omega, q1, by omega, q3⟩) | omega); (first | exact Or.inr (Or.inr ⟨by omega, q1, by omega, q3.keep m44 rfl, q4.keep m44 rfl, h44_0⟩) | omega)))⟩⟩
    · skip
      refine r_bipush hX dX5_input_26 (by decide) ?_
      exact r_iret hX dX5_input_28 rfl ⟨_, rfl, ⟨Mod.rf, (by first | exact Or.inl ⟨by omega, rfl, rfl⟩ | (rcases h35_0 with ⟨q1, q2, q3⟩ | ⟨q1, q2, q3, q4⟩; (first | exact Or.inr (Or.inl ⟨by omega, q1, by omega, q3⟩) | omega); (first | exact Or.inr (Or.inr ⟨by omega, q1, by omega, q3.keep m44 rfl, q4.keep m44 rfl, h44_0⟩) | omega)))⟩⟩
theorem dX5_act_0 : decode cX5_act 0 = .ok (.iload_n 2, 1) := by decide +kernel
theorem dX5_act_1 : decode cX5_act 1 = .ok (.iload_n 3, 1) := by decide +kernel
theorem dX5_act_2 : decode cX5_act 2 = .ok (.invokestatic 62, 3) := by decide +kernel
theorem dX5_act_5 : decode cX5_act 5 = .ok (.ifCond .eq 17, 3) := by decide +kernel
theorem dX5_act_8 : decode cX5_act 8 = .ok (.iload 4, 2) := by decide +kernel
theorem dX5_act_10 : decode cX5_act 10 = .ok (.iload 5, 2) := by decide +kernel
theorem dX5_act_12 : decode cX5_act 12 = .ok (.invokestatic 62, 3) := by decide +kernel
theorem dX5_act_15 : decode cX5_act 15 = .ok (.ifCond .eq 7, 3) := by decide +kernel
theorem dX5_act_18 : decode cX5_act 18 = .ok (.iconst 1, 1) := by decide +kernel
theorem dX5_act_19 : decode cX5_act 19 = .ok (.goto 4, 3) := by decide +kernel
theorem dX5_act_22 : decode cX5_act 22 = .ok (.iconst 0, 1) := by decide +kernel
theorem dX5_act_23 : decode cX5_act 23 = .ok (.istore 6, 2) := by decide +kernel
theorem dX5_act_25 : decode cX5_act 25 = .ok (.iload_n 1, 1) := by decide +kernel
theorem dX5_act_26 : decode cX5_act 26 = .ok (.iconst 1, 1) := by decide +kernel
theorem dX5_act_27 : decode cX5_act 27 = .ok (.iconst 5, 1) := by decide +kernel
theorem dX5_act_28 : decode cX5_act 28 = .ok (.invokestatic 51, 3) := by decide +kernel
theorem dX5_act_31 : decode cX5_act 31 = .ok (.ifCond .eq 8, 3) := by decide +kernel
theorem dX5_act_34 : decode cX5_act 34 = .ok (.iload 6, 2) := by decide +kernel
theorem dX5_act_36 : decode cX5_act 36 = .ok (.ifCond .ne 6, 3) := by decide +kernel
theorem dX5_act_39 : decode cX5_act 39 = .ok (.bipush (-2), 2) := by decide +kernel
theorem dX5_act_41 : decode cX5_act 41 = .ok (.ireturn, 1) := by decide +kernel
theorem dX5_act_42 : decode cX5_act 42 = .ok (.aload_n 0, 1) := by decide +kernel
theorem dX5_act_43 : decode cX5_act 43 = .ok (.getfield 12, 3) := by decide +kernel
theorem dX5_act_46 : decode cX5_act 46 = .ok (.iload_n 1, 1) := by decide +kernel
theorem dX5_act_47 : decode cX5_act 47 = .ok (.iload_n 2, 1) := by decide +kernel
theorem dX5_act_48 : decode cX5_act 48 = .ok (.iload_n 3, 1) := by decide +kernel
theorem dX5_act_49 : decode cX5_act 49 = .ok (.iload 4, 2) := by decide +kernel
theorem dX5_act_51 : decode cX5_act 51 = .ok (.iload 5, 2) := by decide +kernel
theorem dX5_act_53 : decode cX5_act 53 = .ok (.invokevirtual 66, 3) := by decide +kernel
theorem dX5_act_56 : decode cX5_act 56 = .ok (.istore 7, 2) := by decide +kernel
theorem dX5_act_58 : decode cX5_act 58 = .ok (.iload 7, 2) := by decide +kernel
theorem dX5_act_60 : decode cX5_act 60 = .ok (.ifCond .lt 7, 3) := by decide +kernel
theorem dX5_act_63 : decode cX5_act 63 = .ok (.aload_n 0, 1) := by decide +kernel
theorem dX5_act_64 : decode cX5_act 64 = .ok (.invokevirtual 59, 3) := by decide +kernel
theorem dX5_act_67 : decode cX5_act 67 = .ok (.iload 7, 2) := by decide +kernel
theorem dX5_act_69 : decode cX5_act 69 = .ok (.ireturn, 1) := by decide +kernel
set_option maxRecDepth 20000 in
set_option maxHeartbeats 4000000 in
theorem k_B_act (l : Launch) (w : WT) (σ : MM) (kd : Int) (a : Int) (da : Int) (b : Int) (db : Int) (i_kd : inr kd) (i_a : inr a) (i_da : inr da) (i_b : inr b) (i_db : inr db) : CT SX l w yX5_act cX5_act 8 (some .int) 5 113 [.ref (w.2.2 0), .int (iI kd), .int (iI a), .int (iI da), .int (iI b), .int (iI db)] σ (PI fun z σ1 => Mod [2, 3, 4, 5, 6, 7, 8, 53, 54, 50, 51, 58] σ σ1 ∧ (((kd < 1 ∨ 5 < kd ∨ a < 0 ∨ 7 < a ∨ da < 0 ∨ 3 < da ∨ b < 0 ∨ 7 < b ∨ db < 0 ∨ 3 < db) ∧ z = -2 ∧ σ1 = σ) ∨ ((1 ≤ kd ∧ kd ≤ 5 ∧ 0 ≤ a ∧ a ≤ 7 ∧ 0 ≤ da ∧ da ≤ 3 ∧ 0 ≤ b ∧ b ≤ 7 ∧ 0 ≤ db ∧ db ≤ 3) ∧ σ 53 0 = 8 ∧ z = -4 ∧ σ1 = σ) ∨ ((1 ≤ kd ∧ kd ≤ 5 ∧ 0 ≤ a ∧ a ≤ 7 ∧ 0 ≤ da ∧ da ≤ 3 ∧ 0 ≤ b ∧ b ≤ 7 ∧ 0 ≤ db ∧ db ≤ 3) ∧ σ 53 0 < 8 ∧ z = σ 53 0 ∧ Added σ σ1 kd 0 0 a da b db ∧ LoopOK σ1 ∧ σ1 50 0 = 0 ∧ σ1 51 0 = 0 ∧ σ1 58 0 = 0))) := by
  refine CT.of 2 [some (.ref (w.2.2 0)), some (.int (iI kd)), some (.int (iI a)), some (.int (iI da)), some (.int (iI b)), some (.int (iI db)), none, none] (by decide +kernel) (by simp [lg_sl, Value.category]) rfl sh_X (fun G hX => ?_)
  refine r_bd hX (fun hBd => ?_)
  have b_53 := hBd 53 0 8 rfl 0
  refine r_iload_n hX dX5_act_0 rfl ?_
  refine r_iload_n hX dX5_act_1 rfl ?_
  refine r_callS hX dX5_act_2 (k_B_isOperand l w σ _ _ (by omega) (by omega)) mf_X5_isOperand ms_X5_isOperand lk_RX5_62 rfl rfl ⟨Nat.le_of_ble_eq_true rfl, Nat.le_of_ble_eq_true rfl⟩ (Nat.le_of_ble_eq_true rfl) (kI fun z2 σ2 hh => ?_)
  obtain ⟨rfl, h2_0⟩ := hh
  refine r_if_eq hX (tgt := 22) dX5_act_5 (by decide) (by omega) (fun c5 => ?_) (fun c5 => ?_)
  · skip
    refine r_iconst hX dX5_act_22 ?_
    refine r_istore hX (fun x23 => [some (.ref (w.2.2 0)), some (.int (iI kd)), some (.int (iI a)), some (.int (iI da)), some (.int (iI b)), some (.int (iI db)), some (.int (iI x23)), none]) dX5_act_23 (Nat.le_of_ble_eq_true rfl) rfl rfl (fun _ => rfl) (fun x23 e23 => ?_)
    refine r_iload_n hX dX5_act_25 rfl ?_
    refine r_iconst hX dX5_act_26 ?_
    refine r_iconst hX dX5_act_27 ?_
    refine r_callS hX dX5_act_28 (k_B_isWithin l w σ _ _ _ (by omega) (by omega) (by omega)) mf_X5_isWithin ms_X5_isWithin lk_RX5_51 rfl rfl ⟨Nat.le_of_ble_eq_true rfl, Nat.le_of_ble_eq_true rfl⟩ (Nat.le_of_ble_eq_true rfl) (kI fun z28 σ28 hh => ?_)
    obtain ⟨rfl, h28_0⟩ := hh
    refine r_if_eq hX (tgt := 39) dX5_act_31 (by decide) (by omega) (fun c31 => ?_) (fun c31 => ?_)
    · skip
      refine r_bipush hX dX5_act_39 (by decide) ?_
      exact r_iret hX dX5_act_41 rfl ⟨_, rfl, ⟨Mod.rf, (by first | exact Or.inl ⟨by omega, rfl, rfl⟩ | (rcases h53_0 with ⟨q1, q2, q3⟩ | ⟨q1, q2, q3, q4⟩; (first | exact Or.inr (Or.inl ⟨by omega, q1, by omega, q3⟩) | omega); (first | exact Or.inr (Or.inr ⟨by omega, q1, by omega, q3.keep m64 rfl, q4.keep m64 rfl, h64_0⟩) | omega)))⟩⟩
    · skip
      refine r_iload hX dX5_act_34 rfl ?_
      refine r_if_ne hX (tgt := 42) dX5_act_36 (by decide) (by omega) (fun c36 => by exfalso; omega) (fun c36 => ?_)
      refine r_bipush hX dX5_act_39 (by decide) ?_
      exact r_iret hX dX5_act_41 rfl ⟨_, rfl, ⟨Mod.rf, (by first | exact Or.inl ⟨by omega, rfl, rfl⟩ | (rcases h53_0 with ⟨q1, q2, q3⟩ | ⟨q1, q2, q3, q4⟩; (first | exact Or.inr (Or.inl ⟨by omega, q1, by omega, q3⟩) | omega); (first | exact Or.inr (Or.inr ⟨by omega, q1, by omega, q3.keep m64 rfl, q4.keep m64 rfl, h64_0⟩) | omega)))⟩⟩
  · skip
    refine r_iload hX dX5_act_8 rfl ?_
    refine r_iload hX dX5_act_10 rfl ?_
    refine r_callS hX dX5_act_12 (k_B_isOperand l w σ _ _ (by omega) (by omega)) mf_X5_isOperand ms_X5_isOperand lk_RX5_62 rfl rfl ⟨Nat.le_of_ble_eq_true rfl, Nat.le_of_ble_eq_true rfl⟩ (Nat.le_of_ble_eq_true rfl) (kI fun z12 σ12 hh => ?_)
    obtain ⟨rfl, h12_0⟩ := hh
    refine r_if_eq hX (tgt := 22) dX5_act_15 (by decide) (by omega) (fun c15 => ?_) (fun c15 => ?_)
    · skip
      refine r_iconst hX dX5_act_22 ?_
      refine r_istore hX (fun x23 => [some (.ref (w.2.2 0)), some (.int (iI kd)), some (.int (iI a)), some (.int (iI da)), some (.int (iI b)), some (.int (iI db)), some (.int (iI x23)), none]) dX5_act_23 (Nat.le_of_ble_eq_true rfl) rfl rfl (fun _ => rfl) (fun x23 e23 => ?_)
      refine r_iload_n hX dX5_act_25 rfl ?_
      refine r_iconst hX dX5_act_26 ?_
      refine r_iconst hX dX5_act_27 ?_
      refine r_callS hX dX5_act_28 (k_B_isWithin l w σ _ _ _ (by omega) (by omega) (by omega)) mf_X5_isWithin ms_X5_isWithin lk_RX5_51 rfl rfl ⟨Nat.le_of_ble_eq_true rfl, Nat.le_of_ble_eq_true rfl⟩ (Nat.le_of_ble_eq_true rfl) (kI fun z28 σ28 hh => ?_)
      obtain ⟨rfl, h28_0⟩ := hh
      refine r_if_eq hX (tgt := 39) dX5_act_31 (by decide) (by omega) (fun c31 => ?_) (fun c31 => ?_)
      · skip
        refine r_bipush hX dX5_act_39 (by decide) ?_
        exact r_iret hX dX5_act_41 rfl ⟨_, rfl, ⟨Mod.rf, (by first | exact Or.inl ⟨by omega, rfl, rfl⟩ | (rcases h53_0 with ⟨q1, q2, q3⟩ | ⟨q1, q2, q3, q4⟩; (first | exact Or.inr (Or.inl ⟨by omega, q1, by omega, q3⟩) | omega); (first | exact Or.inr (Or.inr ⟨by omega, q1, by omega, q3.keep m64 rfl, q4.keep m64 rfl, h64_0⟩) | omega)))⟩⟩
      · skip
        refine r_iload hX dX5_act_34 rfl ?_
        refine r_if_ne hX (tgt := 42) dX5_act_36 (by decide) (by omega) (fun c36 => by exfalso; omega) (fun c36 => ?_)
        refine r_bipush hX dX5_act_39 (by decide) ?_
        exact r_iret hX dX5_act_41 rfl ⟨_, rfl, ⟨Mod.rf, (by first | exact Or.inl ⟨by omega, rfl, rfl⟩ | (rcases h53_0 with ⟨q1, q2, q3⟩ | ⟨q1, q2, q3, q4⟩; (first | exact Or.inr (Or.inl ⟨by omega, q1, by omega, q3⟩) | omega); (first | exact Or.inr (Or.inr ⟨by omega, q1, by omega, q3.keep m64 rfl, q4.keep m64 rfl, h64_0⟩) | omega)))⟩⟩
    · skip
      refine r_iconst hX dX5_act_18 ?_
      refine r_goto hX dX5_act_19 (tgt := 23) (by decide) ?_
      refine r_istore hX (fun x23 => [some (.ref (w.2.2 0)), some (.int (iI kd)), some (.int (iI a)), some (.int (iI da)), some (.int (iI b)), some (.int (iI db)), some (.int (iI x23)), none]) dX5_act_23 (Nat.le_of_ble_eq_true rfl) rfl rfl (fun _ => rfl) (fun x23 e23 => ?_)
      refine r_iload_n hX dX5_act_25 rfl ?_
      refine r_iconst hX dX5_act_26 ?_
      refine r_iconst hX dX5_act_27 ?_
      refine r_callS hX dX5_act_28 (k_B_isWithin l w σ _ _ _ (by omega) (by omega) (by omega)) mf_X5_isWithin ms_X5_isWithin lk_RX5_51 rfl rfl ⟨Nat.le_of_ble_eq_true rfl, Nat.le_of_ble_eq_true rfl⟩ (Nat.le_of_ble_eq_true rfl) (kI fun z28 σ28 hh => ?_)
      obtain ⟨rfl, h28_0⟩ := hh
      refine r_if_eq hX (tgt := 39) dX5_act_31 (by decide) (by omega) (fun c31 => ?_) (fun c31 => ?_)
      · skip
        refine r_bipush hX dX5_act_39 (by decide) ?_
        exact r_iret hX dX5_act_41 rfl ⟨_, rfl, ⟨Mod.rf, (by first | exact Or.inl ⟨by omega, rfl, rfl⟩ | (rcases h53_0 with ⟨q1, q2, q3⟩ | ⟨q1, q2, q3, q4⟩; (first | exact Or.inr (Or.inl ⟨by omega, q1, by omega, q3⟩) | omega); (first | exact Or.inr (Or.inr ⟨by omega, q1, by omega, q3.keep m64 rfl, q4.keep m64 rfl, h64_0⟩) | omega)))⟩⟩
      · skip
        refine r_iload hX dX5_act_34 rfl ?_
        refine r_if_ne hX (tgt := 42) dX5_act_36 (by decide) (by omega) (fun c36 => ?_) (fun c36 => by exfalso; omega)
        refine r_aload_n hX dX5_act_42 rfl ?_
        refine fg_X0_12 hX dX5_act_43 ?_
        refine r_iload_n hX dX5_act_46 rfl ?_
        refine r_iload_n hX dX5_act_47 rfl ?_
        refine r_iload_n hX dX5_act_48 rfl ?_
        refine r_iload hX dX5_act_49 rfl ?_
        refine r_iload hX dX5_act_51 rfl ?_
        refine r_callV hX dX5_act_53 (k_Lp_addWork l w σ _ _ _ _ _ (by omega) (by omega) (by omega) (by omega) (by omega) (by omega) (by omega) (by omega) (by omega) (by omega)) mf_X2_addWork mv_X2_addWork lk_RX5_66 rfl rfl rfl rfl rfl ⟨Nat.le_of_ble_eq_true rfl, Nat.le_of_ble_eq_true rfl⟩ (Nat.le_of_ble_eq_true rfl) (kI fun z53 σ53 hh => ?_)
        obtain ⟨m53, h53_0⟩ := hh
        refine r_istore hX (fun x56 => [some (.ref (w.2.2 0)), some (.int (iI kd)), some (.int (iI a)), some (.int (iI da)), some (.int (iI b)), some (.int (iI db)), some (.int (iI x23)), some (.int (iI x56))]) dX5_act_56 (Nat.le_of_ble_eq_true rfl) rfl rfl (fun _ => rfl) (fun x56 e56 => ?_)
        refine r_iload hX dX5_act_58 rfl ?_
        refine r_if_lt hX (tgt := 67) dX5_act_60 (by decide) (by omega) (fun c60 => ?_) (fun c60 => ?_)
        · skip
          refine r_iload hX dX5_act_67 rfl ?_
          exact r_iret hX dX5_act_69 rfl ⟨_, rfl, ⟨(m53.w rfl), (by first | exact Or.inl ⟨by omega, rfl, rfl⟩ | (rcases h53_0 with ⟨q1, q2, q3⟩ | ⟨q1, q2, q3, q4⟩; (first | exact Or.inr (Or.inl ⟨by omega, q1, by omega, q3⟩) | omega); (first | exact Or.inr (Or.inr ⟨by omega, q1, by omega, q3.keep m64 rfl, q4.keep m64 rfl, h64_0⟩) | omega)))⟩⟩
        · skip
          refine r_aload_n hX dX5_act_63 rfl ?_
          refine r_callV hX dX5_act_64 (k_B_actsChanged l w σ53) mf_X5_actsChanged mv_X5_actsChanged lk_RX5_59 rfl rfl rfl rfl rfl ⟨Nat.le_of_ble_eq_true rfl, Nat.le_of_ble_eq_true rfl⟩ (Nat.le_of_ble_eq_true rfl) (kV fun σ64 hh => ?_)
          obtain ⟨m64, h64_0⟩ := hh
          refine r_iload hX dX5_act_67 rfl ?_
          exact r_iret hX dX5_act_69 rfl ⟨_, rfl, ⟨(Mod.tr (L := [2, 3, 4, 5, 6, 7, 8, 53, 54, 50, 51, 58]) m53 m64 rfl rfl), (by first | exact Or.inl ⟨by omega, rfl, rfl⟩ | (rcases h53_0 with ⟨q1, q2, q3⟩ | ⟨q1, q2, q3, q4⟩; (first | exact Or.inr (Or.inl ⟨by omega, q1, by omega, q3⟩) | omega); (first | exact Or.inr (Or.inr ⟨by omega, q1, by omega, q3.keep m64 rfl, q4.keep m64 rfl, h64_0⟩) | omega)))⟩⟩
theorem dX5_first_0 : decode cX5_first 0 = .ok (.aload_n 0, 1) := by decide +kernel
theorem dX5_first_1 : decode cX5_first 1 = .ok (.getfield 12, 3) := by decide +kernel
theorem dX5_first_4 : decode cX5_first 4 = .ok (.invokevirtual 70, 3) := by decide +kernel
theorem dX5_first_7 : decode cX5_first 7 = .ok (.istore_n 2, 1) := by decide +kernel
theorem dX5_first_8 : decode cX5_first 8 = .ok (.aload_n 0, 1) := by decide +kernel
theorem dX5_first_9 : decode cX5_first 9 = .ok (.getfield 12, 3) := by decide +kernel
theorem dX5_first_12 : decode cX5_first 12 = .ok (.iload_n 1, 1) := by decide +kernel
theorem dX5_first_13 : decode cX5_first 13 = .ok (.invokevirtual 74, 3) := by decide +kernel
theorem dX5_first_16 : decode cX5_first 16 = .ok (.aload_n 0, 1) := by decide +kernel
theorem dX5_first_17 : decode cX5_first 17 = .ok (.iconst 0, 1) := by decide +kernel
theorem dX5_first_18 : decode cX5_first 18 = .ok (.putfield 78, 3) := by decide +kernel
theorem dX5_first_21 : decode cX5_first 21 = .ok (.aload_n 0, 1) := by decide +kernel
theorem dX5_first_22 : decode cX5_first 22 = .ok (.iconst 0, 1) := by decide +kernel
theorem dX5_first_23 : decode cX5_first 23 = .ok (.putfield 82, 3) := by decide +kernel
theorem dX5_first_26 : decode cX5_first 26 = .ok (.iload_n 2, 1) := by decide +kernel
theorem dX5_first_27 : decode cX5_first 27 = .ok (.ireturn, 1) := by decide +kernel
set_option maxRecDepth 20000 in
set_option maxHeartbeats 4000000 in
theorem k_B_first (l : Launch) (w : WT) (σ : MM) (v : Int) (i_v : inr v) : CT SX l w yX5_first cX5_first 3 (some .int) 1 21 [.ref (w.2.2 0), .int (iI v)] σ (PI fun z σ1 => Mod [50, 51, 55] σ σ1 ∧ (z = σ 55 0 ∧ σ1 55 0 = v ∧ σ1 50 0 = 0 ∧ σ1 51 0 = 0)) := by
  refine CT.of 1 [some (.ref (w.2.2 0)), some (.int (iI v)), none] (by decide +kernel) (by simp [lg_sl, Value.category]) rfl sh_X (fun G hX => ?_)
  refine r_aload_n hX dX5_first_0 rfl ?_
  refine fg_X0_12 hX dX5_first_1 ?_
  refine r_callV hX dX5_first_4 (k_Lp_first l w σ) mf_X2_firstNumber mv_X2_firstNumber lk_RX5_70 rfl rfl rfl rfl rfl ⟨Nat.le_of_ble_eq_true rfl, Nat.le_of_ble_eq_true rfl⟩ (Nat.le_of_ble_eq_true rfl) (kI fun z4 σ4 hh => ?_)
  obtain ⟨rfl, h4_0⟩ := hh
  refine r_istore_n hX (fun x7 => [some (.ref (w.2.2 0)), some (.int (iI v)), some (.int (iI x7))]) dX5_first_7 (Nat.le_of_ble_eq_true rfl) rfl rfl (fun _ => rfl) (fun x7 e7 => ?_)
  refine r_aload_n hX dX5_first_8 rfl ?_
  refine fg_X0_12 hX dX5_first_9 ?_
  refine r_iload_n hX dX5_first_12 rfl ?_
  refine r_callV hX dX5_first_13 (k_Lp_setFirst l w σ _ (by omega)) mf_X2_setFirstNumber mv_X2_setFirstNumber lk_RX5_74 rfl rfl rfl rfl rfl ⟨Nat.le_of_ble_eq_true rfl, Nat.le_of_ble_eq_true rfl⟩ (Nat.le_of_ble_eq_true rfl) (kV fun σ13 hh => ?_)
  obtain ⟨m13, h13_0⟩ := hh
  refine r_aload_n hX dX5_first_16 rfl ?_
  refine r_iconst hX dX5_first_17 ?_
  refine fp_X0_78 hX dX5_first_18 (by omega) (fun σ18 m18 s18 => ?_)
  refine r_aload_n hX dX5_first_21 rfl ?_
  refine r_iconst hX dX5_first_22 ?_
  refine fp_X0_82 hX dX5_first_23 (by omega) (fun σ23 m23 s23 => ?_)
  refine r_iload_n hX dX5_first_26 rfl ?_
  exact r_iret hX dX5_first_27 rfl ⟨_, rfl, ⟨(Mod.tr (L := [50, 51, 55]) (Mod.tr (L := [50, 51, 55]) m13 m18 rfl rfl) m23 rfl rfl), (by refine ⟨by omega, ?_, ?_, s23⟩; (rw [m23.at 55 rfl, m18.at 55 rfl]; exact h13_0); (rw [m23.at 50 rfl]; exact s18))⟩⟩
theorem dX5_clear_0 : decode cX5_clear 0 = .ok (.aload_n 0, 1) := by decide +kernel
theorem dX5_clear_1 : decode cX5_clear 1 = .ok (.getfield 12, 3) := by decide +kernel
theorem dX5_clear_4 : decode cX5_clear 4 = .ok (.invokevirtual 85, 3) := by decide +kernel
theorem dX5_clear_7 : decode cX5_clear 7 = .ok (.istore_n 1, 1) := by decide +kernel
theorem dX5_clear_8 : decode cX5_clear 8 = .ok (.aload_n 0, 1) := by decide +kernel
theorem dX5_clear_9 : decode cX5_clear 9 = .ok (.getfield 12, 3) := by decide +kernel
theorem dX5_clear_12 : decode cX5_clear 12 = .ok (.invokevirtual 88, 3) := by decide +kernel
theorem dX5_clear_15 : decode cX5_clear 15 = .ok (.aload_n 0, 1) := by decide +kernel
theorem dX5_clear_16 : decode cX5_clear 16 = .ok (.invokevirtual 59, 3) := by decide +kernel
theorem dX5_clear_19 : decode cX5_clear 19 = .ok (.iload_n 1, 1) := by decide +kernel
theorem dX5_clear_20 : decode cX5_clear 20 = .ok (.ireturn, 1) := by decide +kernel
set_option maxRecDepth 20000 in
set_option maxHeartbeats 4000000 in
theorem k_B_clear (l : Launch) (w : WT) (σ : MM) : CT SX l w yX5_clear cX5_clear 2 (some .int) 5 107 [.ref (w.2.2 0)] σ (PI fun z σ1 => Mod [7, 8, 50, 51, 53, 54, 58] σ σ1 ∧ (z = σ 53 0 ∧ σ1 53 0 = 0 ∧ LoopOK σ1 ∧ σ1 50 0 = 0 ∧ σ1 51 0 = 0 ∧ σ1 58 0 = 0)) := by
  refine CT.of 1 [some (.ref (w.2.2 0)), none] (by decide +kernel) (by simp [lg_sl, Value.category]) rfl sh_X (fun G hX => ?_)
  refine r_aload_n hX dX5_clear_0 rfl ?_
  refine fg_X0_12 hX dX5_clear_1 ?_
  refine r_callV hX dX5_clear_4 (k_Lp_count l w σ) mf_X2_count mv_X2_count lk_RX5_85 rfl rfl rfl rfl rfl ⟨Nat.le_of_ble_eq_true rfl, Nat.le_of_ble_eq_true rfl⟩ (Nat.le_of_ble_eq_true rfl) (kI fun z4 σ4 hh => ?_)
  obtain ⟨rfl, h4_0, h4_1⟩ := hh
  refine r_istore_n hX (fun x7 => [some (.ref (w.2.2 0)), some (.int (iI x7))]) dX5_clear_7 (Nat.le_of_ble_eq_true rfl) rfl rfl (fun _ => rfl) (fun x7 e7 => ?_)
  refine r_aload_n hX dX5_clear_8 rfl ?_
  refine fg_X0_12 hX dX5_clear_9 ?_
  refine r_callV hX dX5_clear_12 (k_Lp_empty l w σ) mf_X2_empty mv_X2_empty lk_RX5_88 rfl rfl rfl rfl rfl ⟨Nat.le_of_ble_eq_true rfl, Nat.le_of_ble_eq_true rfl⟩ (Nat.le_of_ble_eq_true rfl) (kV fun σ12 hh => ?_)
  obtain ⟨m12, h12_0, h12_1⟩ := hh
  refine r_aload_n hX dX5_clear_15 rfl ?_
  refine r_callV hX dX5_clear_16 (k_B_actsChanged l w σ12) mf_X5_actsChanged mv_X5_actsChanged lk_RX5_59 rfl rfl rfl rfl rfl ⟨Nat.le_of_ble_eq_true rfl, Nat.le_of_ble_eq_true rfl⟩ (Nat.le_of_ble_eq_true rfl) (kV fun σ16 hh => ?_)
  obtain ⟨m16, h16_0⟩ := hh
  refine r_iload_n hX dX5_clear_19 rfl ?_
  exact r_iret hX dX5_clear_20 rfl ⟨_, rfl, ⟨(Mod.tr (L := [7, 8, 50, 51, 53, 54, 58]) m12 m16 rfl rfl), (by exact ⟨by omega, by rw [m16.at 53 rfl]; exact h12_0, h12_1.keep m16 rfl, h16_0⟩)⟩⟩
theorem dX5_sound_0 : decode cX5_sound 0 = .ok (.aload_n 0, 1) := by decide +kernel
theorem dX5_sound_1 : decode cX5_sound 1 = .ok (.getfield 12, 3) := by decide +kernel
theorem dX5_sound_4 : decode cX5_sound 4 = .ok (.invokevirtual 91, 3) := by decide +kernel
theorem dX5_sound_7 : decode cX5_sound 7 = .ok (.ifCond .eq 7, 3) := by decide +kernel
theorem dX5_sound_10 : decode cX5_sound 10 = .ok (.iconst 1, 1) := by decide +kernel
theorem dX5_sound_11 : decode cX5_sound 11 = .ok (.goto 4, 3) := by decide +kernel
theorem dX5_sound_14 : decode cX5_sound 14 = .ok (.iconst 0, 1) := by decide +kernel
theorem dX5_sound_15 : decode cX5_sound 15 = .ok (.ireturn, 1) := by decide +kernel
set_option maxRecDepth 20000 in
set_option maxHeartbeats 4000000 in
theorem k_B_sound (l : Launch) (w : WT) (σ : MM) : CT SX l w yX5_sound cX5_sound 1 (some .int) 1 20 [.ref (w.2.2 0)] σ (PI fun z σ1 => σ = σ1 ∧ ((z = 1 ∧ σ 54 0 = σ 53 0) ∨ (z = 0 ∧ σ 54 0 ≠ σ 53 0))) := by
  refine CT.of 0 [some (.ref (w.2.2 0))] (by decide +kernel) (by simp [lg_sl, Value.category]) rfl sh_X (fun G hX => ?_)
  refine r_aload_n hX dX5_sound_0 rfl ?_
  refine fg_X0_12 hX dX5_sound_1 ?_
  refine r_callV hX dX5_sound_4 (k_Lp_isSound l w σ) mf_X2_isSound mv_X2_isSound lk_RX5_91 rfl rfl rfl rfl rfl ⟨Nat.le_of_ble_eq_true rfl, Nat.le_of_ble_eq_true rfl⟩ (Nat.le_of_ble_eq_true rfl) (kI fun z4 σ4 hh => ?_)
  obtain ⟨rfl, h4_0⟩ := hh
  refine r_if_eq hX (tgt := 14) dX5_sound_7 (by decide) (by omega) (fun c7 => ?_) (fun c7 => ?_)
  · skip
    refine r_iconst hX dX5_sound_14 ?_
    exact r_iret hX dX5_sound_15 rfl ⟨_, rfl, ⟨rfl, (by omega)⟩⟩
  · skip
    refine r_iconst hX dX5_sound_10 ?_
    refine r_goto hX dX5_sound_11 (tgt := 15) (by decide) ?_
    exact r_iret hX dX5_sound_15 rfl ⟨_, rfl, ⟨rfl, (by omega)⟩⟩
theorem dX5_board_0 : decode cX5_board 0 = .ok (.iload_n 1, 1) := by decide +kernel
theorem dX5_board_1 : decode cX5_board 1 = .ok (.iconst 1, 1) := by decide +kernel
theorem dX5_board_2 : decode cX5_board 2 = .ok (.iconst 3, 1) := by decide +kernel
theorem dX5_board_3 : decode cX5_board 3 = .ok (.invokestatic 51, 3) := by decide +kernel
theorem dX5_board_6 : decode cX5_board 6 = .ok (.ifCond .eq 12, 3) := by decide +kernel
theorem dX5_board_9 : decode cX5_board 9 = .ok (.iload_n 2, 1) := by decide +kernel
theorem dX5_board_10 : decode cX5_board 10 = .ok (.iconst 1, 1) := by decide +kernel
theorem dX5_board_11 : decode cX5_board 11 = .ok (.iconst 3, 1) := by decide +kernel
theorem dX5_board_12 : decode cX5_board 12 = .ok (.invokestatic 51, 3) := by decide +kernel
theorem dX5_board_15 : decode cX5_board 15 = .ok (.ifCond .ne 6, 3) := by decide +kernel
theorem dX5_board_18 : decode cX5_board 18 = .ok (.bipush (-2), 2) := by decide +kernel
theorem dX5_board_20 : decode cX5_board 20 = .ok (.ireturn, 1) := by decide +kernel
theorem dX5_board_21 : decode cX5_board 21 = .ok (.aload_n 0, 1) := by decide +kernel
theorem dX5_board_22 : decode cX5_board 22 = .ok (.getfield 19, 3) := by decide +kernel
theorem dX5_board_25 : decode cX5_board 25 = .ok (.iload_n 1, 1) := by decide +kernel
theorem dX5_board_26 : decode cX5_board 26 = .ok (.iload_n 2, 1) := by decide +kernel
theorem dX5_board_27 : decode cX5_board 27 = .ok (.invokevirtual 128, 3) := by decide +kernel
theorem dX5_board_30 : decode cX5_board 30 = .ok (.aload_n 0, 1) := by decide +kernel
theorem dX5_board_31 : decode cX5_board 31 = .ok (.getfield 28, 3) := by decide +kernel
theorem dX5_board_34 : decode cX5_board 34 = .ok (.invokevirtual 132, 3) := by decide +kernel
theorem dX5_board_37 : decode cX5_board 37 = .ok (.aload_n 0, 1) := by decide +kernel
theorem dX5_board_38 : decode cX5_board 38 = .ok (.iconst 0, 1) := by decide +kernel
theorem dX5_board_39 : decode cX5_board 39 = .ok (.putfield 82, 3) := by decide +kernel
theorem dX5_board_42 : decode cX5_board 42 = .ok (.aload_n 0, 1) := by decide +kernel
theorem dX5_board_43 : decode cX5_board 43 = .ok (.getfield 19, 3) := by decide +kernel
theorem dX5_board_46 : decode cX5_board 46 = .ok (.invokevirtual 135, 3) := by decide +kernel
theorem dX5_board_49 : decode cX5_board 49 = .ok (.ireturn, 1) := by decide +kernel
set_option maxRecDepth 20000 in
set_option maxHeartbeats 4000000 in
theorem k_B_board (l : Launch) (w : WT) (σ : MM) (r : Int) (c : Int) (i_r : inr r) (i_c : inr c) : CT SX l w yX5_board cX5_board 3 (some .int) 5 112 [.ref (w.2.2 0), .int (iI r), .int (iI c)] σ (PI fun z σ1 => Mod [11, 12, 13, 51, 56, 57, 58] σ σ1 ∧ (((r < 1 ∨ 3 < r ∨ c < 1 ∨ 3 < c) ∧ z = -2 ∧ σ1 = σ) ∨ ((1 ≤ r ∧ r ≤ 3 ∧ 1 ≤ c ∧ c ≤ 3) ∧ z = r * c ∧ σ1 56 0 = r ∧ σ1 57 0 = c ∧ (∀ b : Int, 0 ≤ b → b < 9 → σ1 11 b = 0 ∧ σ1 12 b = 1) ∧ WayOK (σ1 11) (r * c) c (σ1 13) ∧ σ1 58 0 = 0 ∧ σ1 51 0 = 0))) := by
  refine CT.of 0 [some (.ref (w.2.2 0)), some (.int (iI r)), some (.int (iI c))] (by decide +kernel) (by simp [lg_sl, Value.category]) rfl sh_X (fun G hX => ?_)
  refine r_iload_n hX dX5_board_0 rfl ?_
  refine r_iconst hX dX5_board_1 ?_
  refine r_iconst hX dX5_board_2 ?_
  refine r_callS hX dX5_board_3 (k_B_isWithin l w σ _ _ _ (by omega) (by omega) (by omega)) mf_X5_isWithin ms_X5_isWithin lk_RX5_51 rfl rfl ⟨Nat.le_of_ble_eq_true rfl, Nat.le_of_ble_eq_true rfl⟩ (Nat.le_of_ble_eq_true rfl) (kI fun z3 σ3 hh => ?_)
  obtain ⟨rfl, h3_0⟩ := hh
  refine r_if_eq hX (tgt := 18) dX5_board_6 (by decide) (by omega) (fun c6 => ?_) (fun c6 => ?_)
  · skip
    refine r_bipush hX dX5_board_18 (by decide) ?_
    exact r_iret hX dX5_board_20 rfl ⟨_, rfl, ⟨Mod.rf, (by exact Or.inl ⟨by omega, rfl, rfl⟩)⟩⟩
  · skip
    refine r_iload_n hX dX5_board_9 rfl ?_
    refine r_iconst hX dX5_board_10 ?_
    refine r_iconst hX dX5_board_11 ?_
    refine r_callS hX dX5_board_12 (k_B_isWithin l w σ _ _ _ (by omega) (by omega) (by omega)) mf_X5_isWithin ms_X5_isWithin lk_RX5_51 rfl rfl ⟨Nat.le_of_ble_eq_true rfl, Nat.le_of_ble_eq_true rfl⟩ (Nat.le_of_ble_eq_true rfl) (kI fun z12 σ12 hh => ?_)
    obtain ⟨rfl, h12_0⟩ := hh
    refine r_if_ne hX (tgt := 21) dX5_board_15 (by decide) (by omega) (fun c15 => ?_) (fun c15 => ?_)
    · skip
      refine r_aload_n hX dX5_board_21 rfl ?_
      refine fg_X0_19 hX dX5_board_22 ?_
      refine r_iload_n hX dX5_board_25 rfl ?_
      refine r_iload_n hX dX5_board_26 rfl ?_
      refine r_callV hX dX5_board_27 (k_Gd_renew l w σ _ _ (by omega) (by omega) (by omega) (by omega)) mf_X0_renew mv_X0_renew lk_RX5_128 rfl rfl rfl rfl rfl ⟨Nat.le_of_ble_eq_true rfl, Nat.le_of_ble_eq_true rfl⟩ (Nat.le_of_ble_eq_true rfl) (kV fun σ27 hh => ?_)
      obtain ⟨m27, h27_0, h27_1, h27_2, h27_3⟩ := hh
      refine r_aload_n hX dX5_board_30 rfl ?_
      refine fg_X0_28 hX dX5_board_31 ?_
      refine r_callV hX dX5_board_34 (k_Ly_drop l w σ27) mf_X1_drop mv_X1_drop lk_RX5_132 rfl rfl rfl rfl rfl ⟨Nat.le_of_ble_eq_true rfl, Nat.le_of_ble_eq_true rfl⟩ (Nat.le_of_ble_eq_true rfl) (kV fun σ34 hh => ?_)
      obtain ⟨m34, h34_0⟩ := hh
      refine r_aload_n hX dX5_board_37 rfl ?_
      refine r_iconst hX dX5_board_38 ?_
      refine fp_X0_82 hX dX5_board_39 (by omega) (fun σ39 m39 s39 => ?_)
      refine r_aload_n hX dX5_board_42 rfl ?_
      refine fg_X0_19 hX dX5_board_43 ?_
      refine r_callV hX dX5_board_46 (k_Gd_cells l w σ39) mf_X0_cells mv_X0_cells lk_RX5_135 rfl rfl rfl rfl rfl ⟨Nat.le_of_ble_eq_true rfl, Nat.le_of_ble_eq_true rfl⟩ (Nat.le_of_ble_eq_true rfl) (kI fun z46 σ46 hh => ?_)
      obtain ⟨rfl, h46_0, h46_1⟩ := hh
      have q46_1 : σ39 56 = σ27 56 := ((m39.at 56 rfl).trans (m34.at 56 rfl))
      have q46_2 : σ39 57 = σ27 57 := ((m39.at 57 rfl).trans (m34.at 57 rfl))
      try simp only [q46_1, q46_2] at h46_0
      exact r_iret hX dX5_board_49 rfl ⟨_, rfl, ⟨(Mod.tr (L := [11, 12, 13, 51, 56, 57, 58]) (Mod.tr (L := [11, 12, 13, 51, 56, 57, 58]) m27 m34 rfl rfl) m39 rfl rfl), (by refine Or.inr ⟨by omega, ?_, ?_, ?_, ?_, ?_, ?_, s39⟩; (rw [h46_0, h27_0, h27_1]); (rw [m39.at 56 rfl, m34.at 56 rfl]; exact h27_0); (rw [m39.at 57 rfl, m34.at 57 rfl]; exact h27_1); (rw [m39.at 11 rfl, m34.at 11 rfl, m39.at 12 rfl, m34.at 12 rfl]; exact h27_2); (rw [m39.at 11 rfl, m34.at 11 rfl, m39.at 13 rfl, m34.at 13 rfl]; rw [h27_0, h27_1] at h27_3; exact h27_3); (rw [m39.at 58 rfl]; exact h34_0))⟩⟩
    · skip
      refine r_bipush hX dX5_board_18 (by decide) ?_
      exact r_iret hX dX5_board_20 rfl ⟨_, rfl, ⟨Mod.rf, (by exact Or.inl ⟨by omega, rfl, rfl⟩)⟩⟩
theorem dX5_way_0 : decode cX5_way 0 = .ok (.aload_n 0, 1) := by decide +kernel
theorem dX5_way_1 : decode cX5_way 1 = .ok (.getfield 19, 3) := by decide +kernel
theorem dX5_way_4 : decode cX5_way 4 = .ok (.iload_n 1, 1) := by decide +kernel
theorem dX5_way_5 : decode cX5_way 5 = .ok (.invokevirtual 138, 3) := by decide +kernel
theorem dX5_way_8 : decode cX5_way 8 = .ok (.ifCond .eq 26, 3) := by decide +kernel
theorem dX5_way_11 : decode cX5_way 11 = .ok (.aload_n 0, 1) := by decide +kernel
theorem dX5_way_12 : decode cX5_way 12 = .ok (.getfield 19, 3) := by decide +kernel
theorem dX5_way_15 : decode cX5_way 15 = .ok (.iload_n 2, 1) := by decide +kernel
theorem dX5_way_16 : decode cX5_way 16 = .ok (.invokevirtual 138, 3) := by decide +kernel
theorem dX5_way_19 : decode cX5_way 19 = .ok (.ifCond .eq 15, 3) := by decide +kernel
theorem dX5_way_22 : decode cX5_way 22 = .ok (.aload_n 0, 1) := by decide +kernel
theorem dX5_way_23 : decode cX5_way 23 = .ok (.getfield 19, 3) := by decide +kernel
theorem dX5_way_26 : decode cX5_way 26 = .ok (.iload_n 1, 1) := by decide +kernel
theorem dX5_way_27 : decode cX5_way 27 = .ok (.iload_n 2, 1) := by decide +kernel
theorem dX5_way_28 : decode cX5_way 28 = .ok (.invokevirtual 152, 3) := by decide +kernel
theorem dX5_way_31 : decode cX5_way 31 = .ok (.goto 4, 3) := by decide +kernel
theorem dX5_way_34 : decode cX5_way 34 = .ok (.iconst (-1), 1) := by decide +kernel
theorem dX5_way_35 : decode cX5_way 35 = .ok (.ireturn, 1) := by decide +kernel
set_option maxRecDepth 20000 in
set_option maxHeartbeats 4000000 in
theorem k_B_way (l : Launch) (w : WT) (σ : MM) (a : Int) (b : Int) (i_a : inr a) (i_b : inr b) : CT SX l w yX5_way cX5_way 3 (some .int) 2 44 [.ref (w.2.2 0), .int (iI a), .int (iI b)] σ (PI fun z σ1 => σ = σ1 ∧ (((a < 0 ∨ σ 56 0 * σ 57 0 ≤ a ∨ b < 0 ∨ σ 56 0 * σ 57 0 ≤ b) ∧ z = -1) ∨ ((0 ≤ a ∧ a < σ 56 0 * σ 57 0 ∧ 0 ≤ b ∧ b < σ 56 0 * σ 57 0) ∧ ((σ 13 (a * 9 + b) < 1000 ∧ z = σ 13 (a * 9 + b)) ∨ (1000 ≤ σ 13 (a * 9 + b) ∧ z = -6))))) := by
  refine CT.of 0 [some (.ref (w.2.2 0)), some (.int (iI a)), some (.int (iI b))] (by decide +kernel) (by simp [lg_sl, Value.category]) rfl sh_X (fun G hX => ?_)
  refine r_bd hX (fun hBd => ?_)
  have b_56 := hBd 56 1 3 rfl 0
  have b_57 := hBd 57 1 3 rfl 0
  refine r_aload_n hX dX5_way_0 rfl ?_
  refine fg_X0_19 hX dX5_way_1 ?_
  refine r_iload_n hX dX5_way_4 rfl ?_
  refine r_callV hX dX5_way_5 (k_Gd_isThere l w σ _ (by omega)) mf_X0_isThere mv_X0_isThere lk_RX5_138 rfl rfl rfl rfl rfl ⟨Nat.le_of_ble_eq_true rfl, Nat.le_of_ble_eq_true rfl⟩ (Nat.le_of_ble_eq_true rfl) (kI fun z5 σ5 hh => ?_)
  obtain ⟨rfl, h5_0⟩ := hh
  refine r_if_eq hX (tgt := 34) dX5_way_8 (by decide) (by omega) (fun c8 => ?_) (fun c8 => ?_)
  · skip
    refine r_iconst hX dX5_way_34 ?_
    exact r_iret hX dX5_way_35 rfl ⟨_, rfl, ⟨rfl, (by omega)⟩⟩
  · skip
    refine r_aload_n hX dX5_way_11 rfl ?_
    refine fg_X0_19 hX dX5_way_12 ?_
    refine r_iload_n hX dX5_way_15 rfl ?_
    refine r_callV hX dX5_way_16 (k_Gd_isThere l w σ _ (by omega)) mf_X0_isThere mv_X0_isThere lk_RX5_138 rfl rfl rfl rfl rfl ⟨Nat.le_of_ble_eq_true rfl, Nat.le_of_ble_eq_true rfl⟩ (Nat.le_of_ble_eq_true rfl) (kI fun z16 σ16 hh => ?_)
    obtain ⟨rfl, h16_0⟩ := hh
    refine r_if_eq hX (tgt := 34) dX5_way_19 (by decide) (by omega) (fun c19 => ?_) (fun c19 => ?_)
    · skip
      refine r_iconst hX dX5_way_34 ?_
      exact r_iret hX dX5_way_35 rfl ⟨_, rfl, ⟨rfl, (by omega)⟩⟩
    · skip
      refine r_aload_n hX dX5_way_22 rfl ?_
      refine fg_X0_19 hX dX5_way_23 ?_
      refine r_iload_n hX dX5_way_26 rfl ?_
      refine r_iload_n hX dX5_way_27 rfl ?_
      refine r_callV hX dX5_way_28 (k_Gd_wayBetween l w σ _ _ (by omega) (by omega)) mf_X0_wayBetween mv_X0_wayBetween lk_RX5_152 rfl rfl rfl rfl rfl ⟨Nat.le_of_ble_eq_true rfl, Nat.le_of_ble_eq_true rfl⟩ (Nat.le_of_ble_eq_true rfl) (kI fun z28 σ28 hh => ?_)
      obtain ⟨rfl, h28_0⟩ := hh
      refine r_goto hX dX5_way_31 (tgt := 35) (by decide) ?_
      exact r_iret hX dX5_way_35 rfl ⟨_, rfl, ⟨rfl, (by omega)⟩⟩
theorem dX5_breaks_0 : decode cX5_breaks 0 = .ok (.aload_n 0, 1) := by decide +kernel
theorem dX5_breaks_1 : decode cX5_breaks 1 = .ok (.getfield 19, 3) := by decide +kernel
theorem dX5_breaks_4 : decode cX5_breaks 4 = .ok (.iload_n 1, 1) := by decide +kernel
theorem dX5_breaks_5 : decode cX5_breaks 5 = .ok (.invokevirtual 138, 3) := by decide +kernel
theorem dX5_breaks_8 : decode cX5_breaks 8 = .ok (.ifCond .ne 5, 3) := by decide +kernel
theorem dX5_breaks_11 : decode cX5_breaks 11 = .ok (.iconst (-1), 1) := by decide +kernel
theorem dX5_breaks_12 : decode cX5_breaks 12 = .ok (.ireturn, 1) := by decide +kernel
theorem dX5_breaks_13 : decode cX5_breaks 13 = .ok (.aload_n 0, 1) := by decide +kernel
theorem dX5_breaks_14 : decode cX5_breaks 14 = .ok (.getfield 19, 3) := by decide +kernel
theorem dX5_breaks_17 : decode cX5_breaks 17 = .ok (.iload_n 1, 1) := by decide +kernel
theorem dX5_breaks_18 : decode cX5_breaks 18 = .ok (.invokevirtual 139, 3) := by decide +kernel
theorem dX5_breaks_21 : decode cX5_breaks 21 = .ok (.istore_n 3, 1) := by decide +kernel
theorem dX5_breaks_22 : decode cX5_breaks 22 = .ok (.aload_n 0, 1) := by decide +kernel
theorem dX5_breaks_23 : decode cX5_breaks 23 = .ok (.getfield 19, 3) := by decide +kernel
theorem dX5_breaks_26 : decode cX5_breaks 26 = .ok (.iload_n 1, 1) := by decide +kernel
theorem dX5_breaks_27 : decode cX5_breaks 27 = .ok (.iload_n 2, 1) := by decide +kernel
theorem dX5_breaks_28 : decode cX5_breaks 28 = .ok (.invokevirtual 142, 3) := by decide +kernel
theorem dX5_breaks_31 : decode cX5_breaks 31 = .ok (.aload_n 0, 1) := by decide +kernel
theorem dX5_breaks_32 : decode cX5_breaks 32 = .ok (.iconst 0, 1) := by decide +kernel
theorem dX5_breaks_33 : decode cX5_breaks 33 = .ok (.putfield 82, 3) := by decide +kernel
theorem dX5_breaks_36 : decode cX5_breaks 36 = .ok (.iload_n 3, 1) := by decide +kernel
theorem dX5_breaks_37 : decode cX5_breaks 37 = .ok (.ifCond .eq 7, 3) := by decide +kernel
theorem dX5_breaks_40 : decode cX5_breaks 40 = .ok (.iconst 1, 1) := by decide +kernel
theorem dX5_breaks_41 : decode cX5_breaks 41 = .ok (.goto 4, 3) := by decide +kernel
theorem dX5_breaks_44 : decode cX5_breaks 44 = .ok (.iconst 0, 1) := by decide +kernel
theorem dX5_breaks_45 : decode cX5_breaks 45 = .ok (.ireturn, 1) := by decide +kernel
set_option maxRecDepth 20000 in
set_option maxHeartbeats 4000000 in
theorem k_B_breaks (l : Launch) (w : WT) (σ : MM) (a : Int) (v : Int) (i_a : inr a) (i_v : inr v) (hv : v = 0 ∨ v = 1) : CT SX l w yX5_breaks cX5_breaks 4 (some .int) 5 111 [.ref (w.2.2 0), .int (iI a), .int (iI v)] σ (PI fun z σ1 => Mod [11, 13, 51] σ σ1 ∧ (((a < 0 ∨ σ 56 0 * σ 57 0 ≤ a) ∧ z = -1 ∧ σ1 = σ) ∨ ((0 ≤ a ∧ a < σ 56 0 * σ 57 0) ∧ z = σ 11 a ∧ (∀ b : Int, σ1 11 b = if b = a then v else σ 11 b) ∧ WayOK (σ1 11) (σ 56 0 * σ 57 0) (σ 57 0) (σ1 13) ∧ σ1 51 0 = 0))) := by
  refine CT.of 1 [some (.ref (w.2.2 0)), some (.int (iI a)), some (.int (iI v)), none] (by decide +kernel) (by simp [lg_sl, Value.category]) rfl sh_X (fun G hX => ?_)
  refine r_bd hX (fun hBd => ?_)
  have b_56 := hBd 56 1 3 rfl 0
  have b_57 := hBd 57 1 3 rfl 0
  have hb11 := hBd 11 0 1 rfl a
  refine r_aload_n hX dX5_breaks_0 rfl ?_
  refine fg_X0_19 hX dX5_breaks_1 ?_
  refine r_iload_n hX dX5_breaks_4 rfl ?_
  refine r_callV hX dX5_breaks_5 (k_Gd_isThere l w σ _ (by omega)) mf_X0_isThere mv_X0_isThere lk_RX5_138 rfl rfl rfl rfl rfl ⟨Nat.le_of_ble_eq_true rfl, Nat.le_of_ble_eq_true rfl⟩ (Nat.le_of_ble_eq_true rfl) (kI fun z5 σ5 hh => ?_)
  obtain ⟨rfl, h5_0⟩ := hh
  refine r_if_ne hX (tgt := 13) dX5_breaks_8 (by decide) (by omega) (fun c8 => ?_) (fun c8 => ?_)
  · skip
    refine r_aload_n hX dX5_breaks_13 rfl ?_
    refine fg_X0_19 hX dX5_breaks_14 ?_
    refine r_iload_n hX dX5_breaks_17 rfl ?_
    refine r_callV hX dX5_breaks_18 (k_Gd_isBroken l w σ _ (by omega)) mf_X0_isBroken mv_X0_isBroken lk_RX5_139 rfl rfl rfl rfl rfl ⟨Nat.le_of_ble_eq_true rfl, Nat.le_of_ble_eq_true rfl⟩ (Nat.le_of_ble_eq_true rfl) (kI fun z18 σ18 hh => ?_)
    obtain ⟨rfl, h18_0⟩ := hh
    refine r_istore_n hX (fun x21 => [some (.ref (w.2.2 0)), some (.int (iI a)), some (.int (iI v)), some (.int (iI x21))]) dX5_breaks_21 (Nat.le_of_ble_eq_true rfl) rfl rfl (fun _ => rfl) (fun x21 e21 => ?_)
    refine r_aload_n hX dX5_breaks_22 rfl ?_
    refine fg_X0_19 hX dX5_breaks_23 ?_
    refine r_iload_n hX dX5_breaks_26 rfl ?_
    refine r_iload_n hX dX5_breaks_27 rfl ?_
    refine r_callV hX dX5_breaks_28 (k_Gd_setBroken l w σ _ _ (by omega) (by omega) (by omega) (by omega)) mf_X0_setBroken mv_X0_setBroken lk_RX5_142 rfl rfl rfl rfl rfl ⟨Nat.le_of_ble_eq_true rfl, Nat.le_of_ble_eq_true rfl⟩ (Nat.le_of_ble_eq_true rfl) (kV fun σ28 hh => ?_)
    obtain ⟨m28, h28_0, h28_1⟩ := hh
    have q28_1 : σ28 56 = σ 56 := (m28.at 56 rfl)
    have q28_2 : σ28 57 = σ 57 := (m28.at 57 rfl)
    try simp only [q28_1, q28_2] at h28_1
    refine r_aload_n hX dX5_breaks_31 rfl ?_
    refine r_iconst hX dX5_breaks_32 ?_
    refine fp_X0_82 hX dX5_breaks_33 (by omega) (fun σ33 m33 s33 => ?_)
    refine r_iload_n hX dX5_breaks_36 rfl ?_
    refine r_if_eq hX (tgt := 44) dX5_breaks_37 (by decide) (by omega) (fun c37 => ?_) (fun c37 => ?_)
    · skip
      refine r_iconst hX dX5_breaks_44 ?_
      exact r_iret hX dX5_breaks_45 rfl ⟨_, rfl, ⟨(Mod.tr (L := [11, 13, 51]) m28 m33 rfl rfl), (by refine Or.inr ⟨by omega, by omega, ?_, ?_, s33⟩; (rw [m33.at 11 rfl]; exact h28_0); (rw [m33.at 11 rfl, m33.at 13 rfl]; exact h28_1))⟩⟩
    · skip
      refine r_iconst hX dX5_breaks_40 ?_
      refine r_goto hX dX5_breaks_41 (tgt := 45) (by decide) ?_
      exact r_iret hX dX5_breaks_45 rfl ⟨_, rfl, ⟨(Mod.tr (L := [11, 13, 51]) m28 m33 rfl rfl), (by refine Or.inr ⟨by omega, by omega, ?_, ?_, s33⟩; (rw [m33.at 11 rfl]; exact h28_0); (rw [m33.at 11 rfl, m33.at 13 rfl]; exact h28_1))⟩⟩
  · skip
    refine r_iconst hX dX5_breaks_11 ?_
    exact r_iret hX dX5_breaks_12 rfl ⟨_, rfl, ⟨Mod.rf, (by exact Or.inl ⟨by omega, rfl, rfl⟩)⟩⟩
theorem dX5_multiplies_0 : decode cX5_multiplies 0 = .ok (.aload_n 0, 1) := by decide +kernel
theorem dX5_multiplies_1 : decode cX5_multiplies 1 = .ok (.getfield 19, 3) := by decide +kernel
theorem dX5_multiplies_4 : decode cX5_multiplies 4 = .ok (.iload_n 1, 1) := by decide +kernel
theorem dX5_multiplies_5 : decode cX5_multiplies 5 = .ok (.invokevirtual 138, 3) := by decide +kernel
theorem dX5_multiplies_8 : decode cX5_multiplies 8 = .ok (.ifCond .ne 5, 3) := by decide +kernel
theorem dX5_multiplies_11 : decode cX5_multiplies 11 = .ok (.iconst (-1), 1) := by decide +kernel
theorem dX5_multiplies_12 : decode cX5_multiplies 12 = .ok (.ireturn, 1) := by decide +kernel
theorem dX5_multiplies_13 : decode cX5_multiplies 13 = .ok (.aload_n 0, 1) := by decide +kernel
theorem dX5_multiplies_14 : decode cX5_multiplies 14 = .ok (.getfield 19, 3) := by decide +kernel
theorem dX5_multiplies_17 : decode cX5_multiplies 17 = .ok (.iload_n 1, 1) := by decide +kernel
theorem dX5_multiplies_18 : decode cX5_multiplies 18 = .ok (.invokevirtual 146, 3) := by decide +kernel
theorem dX5_multiplies_21 : decode cX5_multiplies 21 = .ok (.istore_n 3, 1) := by decide +kernel
theorem dX5_multiplies_22 : decode cX5_multiplies 22 = .ok (.aload_n 0, 1) := by decide +kernel
theorem dX5_multiplies_23 : decode cX5_multiplies 23 = .ok (.getfield 19, 3) := by decide +kernel
theorem dX5_multiplies_26 : decode cX5_multiplies 26 = .ok (.iload_n 1, 1) := by decide +kernel
theorem dX5_multiplies_27 : decode cX5_multiplies 27 = .ok (.iload_n 2, 1) := by decide +kernel
theorem dX5_multiplies_28 : decode cX5_multiplies 28 = .ok (.invokevirtual 149, 3) := by decide +kernel
theorem dX5_multiplies_31 : decode cX5_multiplies 31 = .ok (.aload_n 0, 1) := by decide +kernel
theorem dX5_multiplies_32 : decode cX5_multiplies 32 = .ok (.iconst 0, 1) := by decide +kernel
theorem dX5_multiplies_33 : decode cX5_multiplies 33 = .ok (.putfield 82, 3) := by decide +kernel
theorem dX5_multiplies_36 : decode cX5_multiplies 36 = .ok (.iload_n 3, 1) := by decide +kernel
theorem dX5_multiplies_37 : decode cX5_multiplies 37 = .ok (.ifCond .eq 7, 3) := by decide +kernel
theorem dX5_multiplies_40 : decode cX5_multiplies 40 = .ok (.iconst 1, 1) := by decide +kernel
theorem dX5_multiplies_41 : decode cX5_multiplies 41 = .ok (.goto 4, 3) := by decide +kernel
theorem dX5_multiplies_44 : decode cX5_multiplies 44 = .ok (.iconst 0, 1) := by decide +kernel
theorem dX5_multiplies_45 : decode cX5_multiplies 45 = .ok (.ireturn, 1) := by decide +kernel
set_option maxRecDepth 20000 in
set_option maxHeartbeats 4000000 in
theorem k_B_multiplies (l : Launch) (w : WT) (σ : MM) (a : Int) (v : Int) (i_a : inr a) (i_v : inr v) (hv : v = 0 ∨ v = 1) : CT SX l w yX5_multiplies cX5_multiplies 4 (some .int) 2 43 [.ref (w.2.2 0), .int (iI a), .int (iI v)] σ (PI fun z σ1 => Mod [12, 51] σ σ1 ∧ (((a < 0 ∨ σ 56 0 * σ 57 0 ≤ a) ∧ z = -1 ∧ σ1 = σ) ∨ ((0 ≤ a ∧ a < σ 56 0 * σ 57 0) ∧ z = σ 12 a ∧ (∀ b : Int, σ1 12 b = if b = a then v else σ 12 b) ∧ σ1 51 0 = 0))) := by
  refine CT.of 1 [some (.ref (w.2.2 0)), some (.int (iI a)), some (.int (iI v)), none] (by decide +kernel) (by simp [lg_sl, Value.category]) rfl sh_X (fun G hX => ?_)
  refine r_bd hX (fun hBd => ?_)
  have b_56 := hBd 56 1 3 rfl 0
  have b_57 := hBd 57 1 3 rfl 0
  have hb12 := hBd 12 0 1 rfl a
  refine r_aload_n hX dX5_multiplies_0 rfl ?_
  refine fg_X0_19 hX dX5_multiplies_1 ?_
  refine r_iload_n hX dX5_multiplies_4 rfl ?_
  refine r_callV hX dX5_multiplies_5 (k_Gd_isThere l w σ _ (by omega)) mf_X0_isThere mv_X0_isThere lk_RX5_138 rfl rfl rfl rfl rfl ⟨Nat.le_of_ble_eq_true rfl, Nat.le_of_ble_eq_true rfl⟩ (Nat.le_of_ble_eq_true rfl) (kI fun z5 σ5 hh => ?_)
  obtain ⟨rfl, h5_0⟩ := hh
  refine r_if_ne hX (tgt := 13) dX5_multiplies_8 (by decide) (by omega) (fun c8 => ?_) (fun c8 => ?_)
  · skip
    refine r_aload_n hX dX5_multiplies_13 rfl ?_
    refine fg_X0_19 hX dX5_multiplies_14 ?_
    refine r_iload_n hX dX5_multiplies_17 rfl ?_
    refine r_callV hX dX5_multiplies_18 (k_Gd_isMultiplying l w σ _ (by omega)) mf_X0_isMultiplying mv_X0_isMultiplying lk_RX5_146 rfl rfl rfl rfl rfl ⟨Nat.le_of_ble_eq_true rfl, Nat.le_of_ble_eq_true rfl⟩ (Nat.le_of_ble_eq_true rfl) (kI fun z18 σ18 hh => ?_)
    obtain ⟨rfl, h18_0⟩ := hh
    refine r_istore_n hX (fun x21 => [some (.ref (w.2.2 0)), some (.int (iI a)), some (.int (iI v)), some (.int (iI x21))]) dX5_multiplies_21 (Nat.le_of_ble_eq_true rfl) rfl rfl (fun _ => rfl) (fun x21 e21 => ?_)
    refine r_aload_n hX dX5_multiplies_22 rfl ?_
    refine fg_X0_19 hX dX5_multiplies_23 ?_
    refine r_iload_n hX dX5_multiplies_26 rfl ?_
    refine r_iload_n hX dX5_multiplies_27 rfl ?_
    refine r_callV hX dX5_multiplies_28 (k_Gd_setMultiplying l w σ _ _ (by omega) (by omega) (by omega) (by omega)) mf_X0_setMultiplying mv_X0_setMultiplying lk_RX5_149 rfl rfl rfl rfl rfl ⟨Nat.le_of_ble_eq_true rfl, Nat.le_of_ble_eq_true rfl⟩ (Nat.le_of_ble_eq_true rfl) (kV fun σ28 hh => ?_)
    obtain ⟨m28, h28_0⟩ := hh
    refine r_aload_n hX dX5_multiplies_31 rfl ?_
    refine r_iconst hX dX5_multiplies_32 ?_
    refine fp_X0_82 hX dX5_multiplies_33 (by omega) (fun σ33 m33 s33 => ?_)
    refine r_iload_n hX dX5_multiplies_36 rfl ?_
    refine r_if_eq hX (tgt := 44) dX5_multiplies_37 (by decide) (by omega) (fun c37 => ?_) (fun c37 => ?_)
    · skip
      refine r_iconst hX dX5_multiplies_44 ?_
      exact r_iret hX dX5_multiplies_45 rfl ⟨_, rfl, ⟨(Mod.tr (L := [12, 51]) m28 m33 rfl rfl), (by refine Or.inr ⟨by omega, by omega, ?_, s33⟩; (rw [m33.at 12 rfl]; exact h28_0))⟩⟩
    · skip
      refine r_iconst hX dX5_multiplies_40 ?_
      refine r_goto hX dX5_multiplies_41 (tgt := 45) (by decide) ?_
      exact r_iret hX dX5_multiplies_45 rfl ⟨_, rfl, ⟨(Mod.tr (L := [12, 51]) m28 m33 rfl rfl), (by refine Or.inr ⟨by omega, by omega, ?_, s33⟩; (rw [m33.at 12 rfl]; exact h28_0))⟩⟩
  · skip
    refine r_iconst hX dX5_multiplies_11 ?_
    exact r_iret hX dX5_multiplies_12 rfl ⟨_, rfl, ⟨Mod.rf, (by exact Or.inl ⟨by omega, rfl, rfl⟩)⟩⟩
theorem dX5_plan_0 : decode cX5_plan 0 = .ok (.iload_n 1, 1) := by decide +kernel
theorem dX5_plan_1 : decode cX5_plan 1 = .ok (.iconst 1, 1) := by decide +kernel
theorem dX5_plan_2 : decode cX5_plan 2 = .ok (.bipush 12, 2) := by decide +kernel
theorem dX5_plan_4 : decode cX5_plan 4 = .ok (.invokestatic 51, 3) := by decide +kernel
theorem dX5_plan_7 : decode cX5_plan 7 = .ok (.ifCond .ne 6, 3) := by decide +kernel
theorem dX5_plan_10 : decode cX5_plan 10 = .ok (.bipush (-2), 2) := by decide +kernel
theorem dX5_plan_12 : decode cX5_plan 12 = .ok (.ireturn, 1) := by decide +kernel
theorem dX5_plan_13 : decode cX5_plan 13 = .ok (.aload_n 0, 1) := by decide +kernel
theorem dX5_plan_14 : decode cX5_plan 14 = .ok (.getfield 12, 3) := by decide +kernel
theorem dX5_plan_17 : decode cX5_plan 17 = .ok (.invokevirtual 85, 3) := by decide +kernel
theorem dX5_plan_20 : decode cX5_plan 20 = .ok (.ifCond .ne 6, 3) := by decide +kernel
theorem dX5_plan_23 : decode cX5_plan 23 = .ok (.bipush (-3), 2) := by decide +kernel
theorem dX5_plan_25 : decode cX5_plan 25 = .ok (.ireturn, 1) := by decide +kernel
theorem dX5_plan_26 : decode cX5_plan 26 = .ok (.aload_n 0, 1) := by decide +kernel
theorem dX5_plan_27 : decode cX5_plan 27 = .ok (.getfield 28, 3) := by decide +kernel
theorem dX5_plan_30 : decode cX5_plan 30 = .ok (.iload_n 1, 1) := by decide +kernel
theorem dX5_plan_31 : decode cX5_plan 31 = .ok (.invokevirtual 155, 3) := by decide +kernel
theorem dX5_plan_34 : decode cX5_plan 34 = .ok (.aload_n 0, 1) := by decide +kernel
theorem dX5_plan_35 : decode cX5_plan 35 = .ok (.iconst 0, 1) := by decide +kernel
theorem dX5_plan_36 : decode cX5_plan 36 = .ok (.putfield 82, 3) := by decide +kernel
theorem dX5_plan_39 : decode cX5_plan 39 = .ok (.iconst 1, 1) := by decide +kernel
theorem dX5_plan_40 : decode cX5_plan 40 = .ok (.ireturn, 1) := by decide +kernel
set_option maxRecDepth 20000 in
set_option maxHeartbeats 4000000 in
theorem k_B_plan (l : Launch) (w : WT) (σ : MM) (b : Int) (i_b : inr b) : CT SX l w yX5_plan cX5_plan 2 (some .int) 2 44 [.ref (w.2.2 0), .int (iI b)] σ (PI fun z σ1 => Mod [15, 16, 51, 58] σ σ1 ∧ (((b < 1 ∨ 12 < b) ∧ z = -2 ∧ σ1 = σ) ∨ ((1 ≤ b ∧ b ≤ 12) ∧ σ 53 0 = 0 ∧ z = -3 ∧ σ1 = σ) ∨ ((1 ≤ b ∧ b ≤ 12) ∧ σ 53 0 ≠ 0 ∧ z = 1 ∧ σ1 58 0 = b ∧ σ1 51 0 = 0 ∧ ∀ a : Int, 0 ≤ a → a < 8 → σ1 15 a = 0 ∧ σ1 16 a = 0))) := by
  refine CT.of 0 [some (.ref (w.2.2 0)), some (.int (iI b))] (by decide +kernel) (by simp [lg_sl, Value.category]) rfl sh_X (fun G hX => ?_)
  refine r_iload_n hX dX5_plan_0 rfl ?_
  refine r_iconst hX dX5_plan_1 ?_
  refine r_bipush hX dX5_plan_2 (by decide) ?_
  refine r_callS hX dX5_plan_4 (k_B_isWithin l w σ _ _ _ (by omega) (by omega) (by omega)) mf_X5_isWithin ms_X5_isWithin lk_RX5_51 rfl rfl ⟨Nat.le_of_ble_eq_true rfl, Nat.le_of_ble_eq_true rfl⟩ (Nat.le_of_ble_eq_true rfl) (kI fun z4 σ4 hh => ?_)
  obtain ⟨rfl, h4_0⟩ := hh
  refine r_if_ne hX (tgt := 13) dX5_plan_7 (by decide) (by omega) (fun c7 => ?_) (fun c7 => ?_)
  · skip
    refine r_aload_n hX dX5_plan_13 rfl ?_
    refine fg_X0_12 hX dX5_plan_14 ?_
    refine r_callV hX dX5_plan_17 (k_Lp_count l w σ) mf_X2_count mv_X2_count lk_RX5_85 rfl rfl rfl rfl rfl ⟨Nat.le_of_ble_eq_true rfl, Nat.le_of_ble_eq_true rfl⟩ (Nat.le_of_ble_eq_true rfl) (kI fun z17 σ17 hh => ?_)
    obtain ⟨rfl, h17_0, h17_1⟩ := hh
    refine r_if_ne hX (tgt := 26) dX5_plan_20 (by decide) (by omega) (fun c20 => ?_) (fun c20 => ?_)
    · skip
      refine r_aload_n hX dX5_plan_26 rfl ?_
      refine fg_X0_28 hX dX5_plan_27 ?_
      refine r_iload_n hX dX5_plan_30 rfl ?_
      refine r_callV hX dX5_plan_31 (k_Ly_begin l w σ _ (by omega) (by omega)) mf_X1_begin mv_X1_begin lk_RX5_155 rfl rfl rfl rfl rfl ⟨Nat.le_of_ble_eq_true rfl, Nat.le_of_ble_eq_true rfl⟩ (Nat.le_of_ble_eq_true rfl) (kV fun σ31 hh => ?_)
      obtain ⟨m31, h31_0, h31_1⟩ := hh
      refine r_aload_n hX dX5_plan_34 rfl ?_
      refine r_iconst hX dX5_plan_35 ?_
      refine fp_X0_82 hX dX5_plan_36 (by omega) (fun σ36 m36 s36 => ?_)
      refine r_iconst hX dX5_plan_39 ?_
      exact r_iret hX dX5_plan_40 rfl ⟨_, rfl, ⟨(Mod.tr (L := [15, 16, 51, 58]) m31 m36 rfl rfl), (by refine Or.inr (Or.inr ⟨by omega, by omega, rfl, ?_, s36, ?_⟩); (rw [m36.at 58 rfl]; exact h31_0); (rw [m36.at 15 rfl, m36.at 16 rfl]; exact h31_1))⟩⟩
    · skip
      refine r_bipush hX dX5_plan_23 (by decide) ?_
      exact r_iret hX dX5_plan_25 rfl ⟨_, rfl, ⟨Mod.rf, (by exact Or.inr (Or.inl ⟨by omega, by omega, rfl, rfl⟩))⟩⟩
  · skip
    refine r_bipush hX dX5_plan_10 (by decide) ?_
    exact r_iret hX dX5_plan_12 rfl ⟨_, rfl, ⟨Mod.rf, (by exact Or.inl ⟨by omega, rfl, rfl⟩)⟩⟩
theorem dX5_lay_0 : decode cX5_lay 0 = .ok (.aload_n 0, 1) := by decide +kernel
theorem dX5_lay_1 : decode cX5_lay 1 = .ok (.getfield 12, 3) := by decide +kernel
theorem dX5_lay_4 : decode cX5_lay 4 = .ok (.iload_n 1, 1) := by decide +kernel
theorem dX5_lay_5 : decode cX5_lay 5 = .ok (.invokevirtual 95, 3) := by decide +kernel
theorem dX5_lay_8 : decode cX5_lay 8 = .ok (.ifCond .eq 14, 3) := by decide +kernel
theorem dX5_lay_11 : decode cX5_lay 11 = .ok (.aload_n 0, 1) := by decide +kernel
theorem dX5_lay_12 : decode cX5_lay 12 = .ok (.getfield 19, 3) := by decide +kernel
theorem dX5_lay_15 : decode cX5_lay 15 = .ok (.iload_n 2, 1) := by decide +kernel
theorem dX5_lay_16 : decode cX5_lay 16 = .ok (.invokevirtual 138, 3) := by decide +kernel
theorem dX5_lay_19 : decode cX5_lay 19 = .ok (.ifCond .ne 5, 3) := by decide +kernel
theorem dX5_lay_22 : decode cX5_lay 22 = .ok (.iconst (-1), 1) := by decide +kernel
theorem dX5_lay_23 : decode cX5_lay 23 = .ok (.ireturn, 1) := by decide +kernel
theorem dX5_lay_24 : decode cX5_lay 24 = .ok (.iload_n 3, 1) := by decide +kernel
theorem dX5_lay_25 : decode cX5_lay 25 = .ok (.iconst 0, 1) := by decide +kernel
theorem dX5_lay_26 : decode cX5_lay 26 = .ok (.sipush 299, 3) := by decide +kernel
theorem dX5_lay_29 : decode cX5_lay 29 = .ok (.invokestatic 51, 3) := by decide +kernel
theorem dX5_lay_32 : decode cX5_lay 32 = .ok (.ifCond .ne 6, 3) := by decide +kernel
theorem dX5_lay_35 : decode cX5_lay 35 = .ok (.bipush (-2), 2) := by decide +kernel
theorem dX5_lay_37 : decode cX5_lay 37 = .ok (.ireturn, 1) := by decide +kernel
theorem dX5_lay_38 : decode cX5_lay 38 = .ok (.aload_n 0, 1) := by decide +kernel
theorem dX5_lay_39 : decode cX5_lay 39 = .ok (.getfield 28, 3) := by decide +kernel
theorem dX5_lay_42 : decode cX5_lay 42 = .ok (.invokevirtual 158, 3) := by decide +kernel
theorem dX5_lay_45 : decode cX5_lay 45 = .ok (.ifCond .ne 6, 3) := by decide +kernel
theorem dX5_lay_48 : decode cX5_lay 48 = .ok (.bipush (-3), 2) := by decide +kernel
theorem dX5_lay_50 : decode cX5_lay 50 = .ok (.ireturn, 1) := by decide +kernel
theorem dX5_lay_51 : decode cX5_lay 51 = .ok (.aload_n 0, 1) := by decide +kernel
theorem dX5_lay_52 : decode cX5_lay 52 = .ok (.getfield 28, 3) := by decide +kernel
theorem dX5_lay_55 : decode cX5_lay 55 = .ok (.iload_n 1, 1) := by decide +kernel
theorem dX5_lay_56 : decode cX5_lay 56 = .ok (.iload_n 2, 1) := by decide +kernel
theorem dX5_lay_57 : decode cX5_lay 57 = .ok (.iload_n 3, 1) := by decide +kernel
theorem dX5_lay_58 : decode cX5_lay 58 = .ok (.invokevirtual 161, 3) := by decide +kernel
theorem dX5_lay_61 : decode cX5_lay 61 = .ok (.aload_n 0, 1) := by decide +kernel
theorem dX5_lay_62 : decode cX5_lay 62 = .ok (.iconst 0, 1) := by decide +kernel
theorem dX5_lay_63 : decode cX5_lay 63 = .ok (.putfield 82, 3) := by decide +kernel
theorem dX5_lay_66 : decode cX5_lay 66 = .ok (.iconst 1, 1) := by decide +kernel
theorem dX5_lay_67 : decode cX5_lay 67 = .ok (.ireturn, 1) := by decide +kernel
set_option maxRecDepth 20000 in
set_option maxHeartbeats 4000000 in
theorem k_B_lay (l : Launch) (w : WT) (σ : MM) (a : Int) (k : Int) (t : Int) (i_a : inr a) (i_k : inr k) (i_t : inr t) : CT SX l w yX5_lay cX5_lay 4 (some .int) 2 44 [.ref (w.2.2 0), .int (iI a), .int (iI k), .int (iI t)] σ (PI fun z σ1 => Mod [15, 16, 51] σ σ1 ∧ (((a < 0 ∨ σ 53 0 ≤ a ∨ k < 0 ∨ σ 56 0 * σ 57 0 ≤ k) ∧ z = -1 ∧ σ1 = σ) ∨ ((0 ≤ a ∧ a < σ 53 0 ∧ 0 ≤ k ∧ k < σ 56 0 * σ 57 0) ∧ (((t < 0 ∨ 299 < t) ∧ z = -2 ∧ σ1 = σ) ∨ ((0 ≤ t ∧ t ≤ 299) ∧ σ 58 0 = 0 ∧ z = -3 ∧ σ1 = σ) ∨ ((0 ≤ t ∧ t ≤ 299) ∧ 0 < σ 58 0 ∧ z = 1 ∧ σ1 51 0 = 0 ∧ (∀ b : Int, σ1 15 b = if b = a then k else σ 15 b) ∧ ∀ b : Int, σ1 16 b = if b = a then t else σ 16 b))))) := by
  refine CT.of 0 [some (.ref (w.2.2 0)), some (.int (iI a)), some (.int (iI k)), some (.int (iI t))] (by decide +kernel) (by simp [lg_sl, Value.category]) rfl sh_X (fun G hX => ?_)
  refine r_bd hX (fun hBd => ?_)
  have b_53 := hBd 53 0 8 rfl 0
  have b_56 := hBd 56 1 3 rfl 0
  have b_57 := hBd 57 1 3 rfl 0
  have hn := mul_bd b_56 b_57
  refine r_aload_n hX dX5_lay_0 rfl ?_
  refine fg_X0_12 hX dX5_lay_1 ?_
  refine r_iload_n hX dX5_lay_4 rfl ?_
  refine r_callV hX dX5_lay_5 (k_Lp_isThere l w σ _ (by omega)) mf_X2_isThere mv_X2_isThere lk_RX5_95 rfl rfl rfl rfl rfl ⟨Nat.le_of_ble_eq_true rfl, Nat.le_of_ble_eq_true rfl⟩ (Nat.le_of_ble_eq_true rfl) (kI fun z5 σ5 hh => ?_)
  obtain ⟨rfl, h5_0⟩ := hh
  refine r_if_eq hX (tgt := 22) dX5_lay_8 (by decide) (by omega) (fun c8 => ?_) (fun c8 => ?_)
  · skip
    refine r_iconst hX dX5_lay_22 ?_
    exact r_iret hX dX5_lay_23 rfl ⟨_, rfl, ⟨Mod.rf, (by exact Or.inl ⟨by omega, rfl, rfl⟩)⟩⟩
  · skip
    refine r_aload_n hX dX5_lay_11 rfl ?_
    refine fg_X0_19 hX dX5_lay_12 ?_
    refine r_iload_n hX dX5_lay_15 rfl ?_
    refine r_callV hX dX5_lay_16 (k_Gd_isThere l w σ _ (by omega)) mf_X0_isThere mv_X0_isThere lk_RX5_138 rfl rfl rfl rfl rfl ⟨Nat.le_of_ble_eq_true rfl, Nat.le_of_ble_eq_true rfl⟩ (Nat.le_of_ble_eq_true rfl) (kI fun z16 σ16 hh => ?_)
    obtain ⟨rfl, h16_0⟩ := hh
    refine r_if_ne hX (tgt := 24) dX5_lay_19 (by decide) (by omega) (fun c19 => ?_) (fun c19 => ?_)
    · skip
      refine r_iload_n hX dX5_lay_24 rfl ?_
      refine r_iconst hX dX5_lay_25 ?_
      refine r_sipush hX dX5_lay_26 (by decide) ?_
      refine r_callS hX dX5_lay_29 (k_B_isWithin l w σ _ _ _ (by omega) (by omega) (by omega)) mf_X5_isWithin ms_X5_isWithin lk_RX5_51 rfl rfl ⟨Nat.le_of_ble_eq_true rfl, Nat.le_of_ble_eq_true rfl⟩ (Nat.le_of_ble_eq_true rfl) (kI fun z29 σ29 hh => ?_)
      obtain ⟨rfl, h29_0⟩ := hh
      refine r_if_ne hX (tgt := 38) dX5_lay_32 (by decide) (by omega) (fun c32 => ?_) (fun c32 => ?_)
      · skip
        refine r_aload_n hX dX5_lay_38 rfl ?_
        refine fg_X0_28 hX dX5_lay_39 ?_
        refine r_callV hX dX5_lay_42 (k_Ly_stands l w σ) mf_X1_stands mv_X1_stands lk_RX5_158 rfl rfl rfl rfl rfl ⟨Nat.le_of_ble_eq_true rfl, Nat.le_of_ble_eq_true rfl⟩ (Nat.le_of_ble_eq_true rfl) (kI fun z42 σ42 hh => ?_)
        obtain ⟨rfl, h42_0⟩ := hh
        refine r_if_ne hX (tgt := 51) dX5_lay_45 (by decide) (by omega) (fun c45 => ?_) (fun c45 => ?_)
        · skip
          refine r_aload_n hX dX5_lay_51 rfl ?_
          refine fg_X0_28 hX dX5_lay_52 ?_
          refine r_iload_n hX dX5_lay_55 rfl ?_
          refine r_iload_n hX dX5_lay_56 rfl ?_
          refine r_iload_n hX dX5_lay_57 rfl ?_
          refine r_callV hX dX5_lay_58 (k_Ly_put l w σ _ _ _ (by omega) (by omega) (by omega) (by omega) (by omega) (by omega)) mf_X1_put mv_X1_put lk_RX5_161 rfl rfl rfl rfl rfl ⟨Nat.le_of_ble_eq_true rfl, Nat.le_of_ble_eq_true rfl⟩ (Nat.le_of_ble_eq_true rfl) (kV fun σ58 hh => ?_)
          obtain ⟨m58, h58_0, h58_1⟩ := hh
          refine r_aload_n hX dX5_lay_61 rfl ?_
          refine r_iconst hX dX5_lay_62 ?_
          refine fp_X0_82 hX dX5_lay_63 (by omega) (fun σ63 m63 s63 => ?_)
          refine r_iconst hX dX5_lay_66 ?_
          exact r_iret hX dX5_lay_67 rfl ⟨_, rfl, ⟨(Mod.tr (L := [15, 16, 51]) m58 m63 rfl rfl), (by refine Or.inr ⟨by omega, Or.inr (Or.inr ⟨by omega, by omega, rfl, s63, ?_, ?_⟩)⟩; (rw [m63.at 15 rfl]; exact h58_0); (rw [m63.at 16 rfl]; exact h58_1))⟩⟩
        · skip
          refine r_bipush hX dX5_lay_48 (by decide) ?_
          exact r_iret hX dX5_lay_50 rfl ⟨_, rfl, ⟨Mod.rf, (by exact Or.inr ⟨by omega, Or.inr (Or.inl ⟨by omega, by omega, rfl, rfl⟩)⟩)⟩⟩
      · skip
        refine r_bipush hX dX5_lay_35 (by decide) ?_
        exact r_iret hX dX5_lay_37 rfl ⟨_, rfl, ⟨Mod.rf, (by exact Or.inr ⟨by omega, Or.inl ⟨by omega, rfl, rfl⟩⟩)⟩⟩
    · skip
      refine r_iconst hX dX5_lay_22 ?_
      exact r_iret hX dX5_lay_23 rfl ⟨_, rfl, ⟨Mod.rf, (by exact Or.inl ⟨by omega, rfl, rfl⟩)⟩⟩
theorem dX5_laid_0 : decode cX5_laid 0 = .ok (.aload_n 0, 1) := by decide +kernel
theorem dX5_laid_1 : decode cX5_laid 1 = .ok (.getfield 12, 3) := by decide +kernel
theorem dX5_laid_4 : decode cX5_laid 4 = .ok (.iload_n 1, 1) := by decide +kernel
theorem dX5_laid_5 : decode cX5_laid 5 = .ok (.invokevirtual 95, 3) := by decide +kernel
theorem dX5_laid_8 : decode cX5_laid 8 = .ok (.ifCond .ne 5, 3) := by decide +kernel
theorem dX5_laid_11 : decode cX5_laid 11 = .ok (.iconst (-1), 1) := by decide +kernel
theorem dX5_laid_12 : decode cX5_laid 12 = .ok (.ireturn, 1) := by decide +kernel
theorem dX5_laid_13 : decode cX5_laid 13 = .ok (.iload_n 2, 1) := by decide +kernel
theorem dX5_laid_14 : decode cX5_laid 14 = .ok (.iconst 0, 1) := by decide +kernel
theorem dX5_laid_15 : decode cX5_laid 15 = .ok (.iconst 1, 1) := by decide +kernel
theorem dX5_laid_16 : decode cX5_laid 16 = .ok (.invokestatic 51, 3) := by decide +kernel
theorem dX5_laid_19 : decode cX5_laid 19 = .ok (.ifCond .ne 6, 3) := by decide +kernel
theorem dX5_laid_22 : decode cX5_laid 22 = .ok (.bipush (-2), 2) := by decide +kernel
theorem dX5_laid_24 : decode cX5_laid 24 = .ok (.ireturn, 1) := by decide +kernel
theorem dX5_laid_25 : decode cX5_laid 25 = .ok (.aload_n 0, 1) := by decide +kernel
theorem dX5_laid_26 : decode cX5_laid 26 = .ok (.getfield 28, 3) := by decide +kernel
theorem dX5_laid_29 : decode cX5_laid 29 = .ok (.invokevirtual 158, 3) := by decide +kernel
theorem dX5_laid_32 : decode cX5_laid 32 = .ok (.ifCond .ne 6, 3) := by decide +kernel
theorem dX5_laid_35 : decode cX5_laid 35 = .ok (.bipush (-3), 2) := by decide +kernel
theorem dX5_laid_37 : decode cX5_laid 37 = .ok (.ireturn, 1) := by decide +kernel
theorem dX5_laid_38 : decode cX5_laid 38 = .ok (.iload_n 2, 1) := by decide +kernel
theorem dX5_laid_39 : decode cX5_laid 39 = .ok (.ifCond .ne 14, 3) := by decide +kernel
theorem dX5_laid_42 : decode cX5_laid 42 = .ok (.aload_n 0, 1) := by decide +kernel
theorem dX5_laid_43 : decode cX5_laid 43 = .ok (.getfield 28, 3) := by decide +kernel
theorem dX5_laid_46 : decode cX5_laid 46 = .ok (.iload_n 1, 1) := by decide +kernel
theorem dX5_laid_47 : decode cX5_laid 47 = .ok (.invokevirtual 168, 3) := by decide +kernel
theorem dX5_laid_50 : decode cX5_laid 50 = .ok (.goto 11, 3) := by decide +kernel
theorem dX5_laid_53 : decode cX5_laid 53 = .ok (.aload_n 0, 1) := by decide +kernel
theorem dX5_laid_54 : decode cX5_laid 54 = .ok (.getfield 28, 3) := by decide +kernel
theorem dX5_laid_57 : decode cX5_laid 57 = .ok (.iload_n 1, 1) := by decide +kernel
theorem dX5_laid_58 : decode cX5_laid 58 = .ok (.invokevirtual 171, 3) := by decide +kernel
theorem dX5_laid_61 : decode cX5_laid 61 = .ok (.ireturn, 1) := by decide +kernel
set_option maxRecDepth 20000 in
set_option maxHeartbeats 4000000 in
theorem k_B_laid (l : Launch) (w : WT) (σ : MM) (a : Int) (h : Int) (i_a : inr a) (i_h : inr h) : CT SX l w yX5_laid cX5_laid 3 (some .int) 2 42 [.ref (w.2.2 0), .int (iI a), .int (iI h)] σ (PI fun z σ1 => σ = σ1 ∧ (((a < 0 ∨ σ 53 0 ≤ a) ∧ z = -1) ∨ ((0 ≤ a ∧ a < σ 53 0) ∧ (((h < 0 ∨ 1 < h) ∧ z = -2) ∨ ((h = 0 ∨ h = 1) ∧ σ 58 0 = 0 ∧ z = -3) ∨ (0 < σ 58 0 ∧ ((h = 0 ∧ z = σ 15 a) ∨ (h = 1 ∧ z = σ 16 a))))))) := by
  refine CT.of 0 [some (.ref (w.2.2 0)), some (.int (iI a)), some (.int (iI h))] (by decide +kernel) (by simp [lg_sl, Value.category]) rfl sh_X (fun G hX => ?_)
  refine r_aload_n hX dX5_laid_0 rfl ?_
  refine fg_X0_12 hX dX5_laid_1 ?_
  refine r_iload_n hX dX5_laid_4 rfl ?_
  refine r_callV hX dX5_laid_5 (k_Lp_isThere l w σ _ (by omega)) mf_X2_isThere mv_X2_isThere lk_RX5_95 rfl rfl rfl rfl rfl ⟨Nat.le_of_ble_eq_true rfl, Nat.le_of_ble_eq_true rfl⟩ (Nat.le_of_ble_eq_true rfl) (kI fun z5 σ5 hh => ?_)
  obtain ⟨rfl, h5_0⟩ := hh
  refine r_if_ne hX (tgt := 13) dX5_laid_8 (by decide) (by omega) (fun c8 => ?_) (fun c8 => ?_)
  · skip
    refine r_iload_n hX dX5_laid_13 rfl ?_
    refine r_iconst hX dX5_laid_14 ?_
    refine r_iconst hX dX5_laid_15 ?_
    refine r_callS hX dX5_laid_16 (k_B_isWithin l w σ _ _ _ (by omega) (by omega) (by omega)) mf_X5_isWithin ms_X5_isWithin lk_RX5_51 rfl rfl ⟨Nat.le_of_ble_eq_true rfl, Nat.le_of_ble_eq_true rfl⟩ (Nat.le_of_ble_eq_true rfl) (kI fun z16 σ16 hh => ?_)
    obtain ⟨rfl, h16_0⟩ := hh
    refine r_if_ne hX (tgt := 25) dX5_laid_19 (by decide) (by omega) (fun c19 => ?_) (fun c19 => ?_)
    · skip
      refine r_aload_n hX dX5_laid_25 rfl ?_
      refine fg_X0_28 hX dX5_laid_26 ?_
      refine r_callV hX dX5_laid_29 (k_Ly_stands l w σ) mf_X1_stands mv_X1_stands lk_RX5_158 rfl rfl rfl rfl rfl ⟨Nat.le_of_ble_eq_true rfl, Nat.le_of_ble_eq_true rfl⟩ (Nat.le_of_ble_eq_true rfl) (kI fun z29 σ29 hh => ?_)
      obtain ⟨rfl, h29_0⟩ := hh
      refine r_if_ne hX (tgt := 38) dX5_laid_32 (by decide) (by omega) (fun c32 => ?_) (fun c32 => ?_)
      · skip
        refine r_iload_n hX dX5_laid_38 rfl ?_
        refine r_if_ne hX (tgt := 53) dX5_laid_39 (by decide) (by omega) (fun c39 => ?_) (fun c39 => ?_)
        · skip
          refine r_aload_n hX dX5_laid_53 rfl ?_
          refine fg_X0_28 hX dX5_laid_54 ?_
          refine r_iload_n hX dX5_laid_57 rfl ?_
          refine r_callV hX dX5_laid_58 (k_Ly_startOf l w σ _ (by omega)) mf_X1_startOf mv_X1_startOf lk_RX5_171 rfl rfl rfl rfl rfl ⟨Nat.le_of_ble_eq_true rfl, Nat.le_of_ble_eq_true rfl⟩ (Nat.le_of_ble_eq_true rfl) (kI fun z58 σ58 hh => ?_)
          obtain ⟨rfl, h58_0, h58_1⟩ := hh
          exact r_iret hX dX5_laid_61 rfl ⟨_, rfl, ⟨rfl, (by omega)⟩⟩
        · skip
          refine r_aload_n hX dX5_laid_42 rfl ?_
          refine fg_X0_28 hX dX5_laid_43 ?_
          refine r_iload_n hX dX5_laid_46 rfl ?_
          refine r_callV hX dX5_laid_47 (k_Ly_cellOf l w σ _ (by omega)) mf_X1_cellOf mv_X1_cellOf lk_RX5_168 rfl rfl rfl rfl rfl ⟨Nat.le_of_ble_eq_true rfl, Nat.le_of_ble_eq_true rfl⟩ (Nat.le_of_ble_eq_true rfl) (kI fun z47 σ47 hh => ?_)
          obtain ⟨rfl, h47_0, h47_1⟩ := hh
          refine r_goto hX dX5_laid_50 (tgt := 61) (by decide) ?_
          exact r_iret hX dX5_laid_61 rfl ⟨_, rfl, ⟨rfl, (by omega)⟩⟩
      · skip
        refine r_bipush hX dX5_laid_35 (by decide) ?_
        exact r_iret hX dX5_laid_37 rfl ⟨_, rfl, ⟨rfl, (by omega)⟩⟩
    · skip
      refine r_bipush hX dX5_laid_22 (by decide) ?_
      exact r_iret hX dX5_laid_24 rfl ⟨_, rfl, ⟨rfl, (by omega)⟩⟩
  · skip
    refine r_iconst hX dX5_laid_11 ?_
    exact r_iret hX dX5_laid_12 rfl ⟨_, rfl, ⟨rfl, (by omega)⟩⟩
theorem dX5_tries_0 : decode cX5_tries 0 = .ok (.aload_n 0, 1) := by decide +kernel
theorem dX5_tries_1 : decode cX5_tries 1 = .ok (.getfield 211, 3) := by decide +kernel
theorem dX5_tries_4 : decode cX5_tries 4 = .ok (.ireturn, 1) := by decide +kernel
set_option maxRecDepth 20000 in
set_option maxHeartbeats 4000000 in
theorem k_B_tries (l : Launch) (w : WT) (σ : MM) : CT SX l w yX5_tries cX5_tries 1 (some .int) 0 0 [.ref (w.2.2 0)] σ (PI fun z σ1 => σ = σ1 ∧ (z = σ 52 0)) := by
  refine CT.of 0 [some (.ref (w.2.2 0))] (by decide +kernel) (by simp [lg_sl, Value.category]) rfl sh_X (fun G hX => ?_)
  refine r_aload_n hX dX5_tries_0 rfl ?_
  refine fg_X0_211 hX dX5_tries_1 ?_
  exact r_iret hX dX5_tries_4 rfl ⟨_, rfl, ⟨rfl, (by omega)⟩⟩
theorem dX5_about_0 : decode cX5_about 0 = .ok (.aload_n 0, 1) := by decide +kernel
theorem dX5_about_1 : decode cX5_about 1 = .ok (.getfield 12, 3) := by decide +kernel
theorem dX5_about_4 : decode cX5_about 4 = .ok (.iload_n 1, 1) := by decide +kernel
theorem dX5_about_5 : decode cX5_about 5 = .ok (.invokevirtual 95, 3) := by decide +kernel
theorem dX5_about_8 : decode cX5_about 8 = .ok (.ifCond .ne 7, 3) := by decide +kernel
theorem dX5_about_11 : decode cX5_about 11 = .ok (.sipush (-2001), 3) := by decide +kernel
theorem dX5_about_14 : decode cX5_about 14 = .ok (.ireturn, 1) := by decide +kernel
theorem dX5_about_15 : decode cX5_about 15 = .ok (.iload_n 2, 1) := by decide +kernel
theorem dX5_about_16 : decode cX5_about 16 = .ok (.tableswitch 132 0 7 #[48, 57, 66, 77, 88, 101, 114, 123], 48) := by decide +kernel
theorem dX5_about_64 : decode cX5_about 64 = .ok (.aload_n 0, 1) := by decide +kernel
theorem dX5_about_65 : decode cX5_about 65 = .ok (.getfield 12, 3) := by decide +kernel
theorem dX5_about_68 : decode cX5_about 68 = .ok (.iload_n 1, 1) := by decide +kernel
theorem dX5_about_69 : decode cX5_about 69 = .ok (.invokevirtual 109, 3) := by decide +kernel
theorem dX5_about_72 : decode cX5_about 72 = .ok (.ireturn, 1) := by decide +kernel
theorem dX5_about_73 : decode cX5_about 73 = .ok (.aload_n 0, 1) := by decide +kernel
theorem dX5_about_74 : decode cX5_about 74 = .ok (.getfield 12, 3) := by decide +kernel
theorem dX5_about_77 : decode cX5_about 77 = .ok (.iload_n 1, 1) := by decide +kernel
theorem dX5_about_78 : decode cX5_about 78 = .ok (.invokevirtual 113, 3) := by decide +kernel
theorem dX5_about_81 : decode cX5_about 81 = .ok (.ireturn, 1) := by decide +kernel
theorem dX5_about_82 : decode cX5_about 82 = .ok (.aload_n 0, 1) := by decide +kernel
theorem dX5_about_83 : decode cX5_about 83 = .ok (.getfield 12, 3) := by decide +kernel
theorem dX5_about_86 : decode cX5_about 86 = .ok (.iconst 2, 1) := by decide +kernel
theorem dX5_about_87 : decode cX5_about 87 = .ok (.iload_n 1, 1) := by decide +kernel
theorem dX5_about_88 : decode cX5_about 88 = .ok (.imul, 1) := by decide +kernel
theorem dX5_about_89 : decode cX5_about 89 = .ok (.invokevirtual 116, 3) := by decide +kernel
theorem dX5_about_92 : decode cX5_about 92 = .ok (.ireturn, 1) := by decide +kernel
theorem dX5_about_93 : decode cX5_about 93 = .ok (.aload_n 0, 1) := by decide +kernel
theorem dX5_about_94 : decode cX5_about 94 = .ok (.getfield 12, 3) := by decide +kernel
theorem dX5_about_97 : decode cX5_about 97 = .ok (.iconst 2, 1) := by decide +kernel
theorem dX5_about_98 : decode cX5_about 98 = .ok (.iload_n 1, 1) := by decide +kernel
theorem dX5_about_99 : decode cX5_about 99 = .ok (.imul, 1) := by decide +kernel
theorem dX5_about_100 : decode cX5_about 100 = .ok (.invokevirtual 119, 3) := by decide +kernel
theorem dX5_about_103 : decode cX5_about 103 = .ok (.ireturn, 1) := by decide +kernel
theorem dX5_about_104 : decode cX5_about 104 = .ok (.aload_n 0, 1) := by decide +kernel
theorem dX5_about_105 : decode cX5_about 105 = .ok (.getfield 12, 3) := by decide +kernel
theorem dX5_about_108 : decode cX5_about 108 = .ok (.iconst 2, 1) := by decide +kernel
theorem dX5_about_109 : decode cX5_about 109 = .ok (.iload_n 1, 1) := by decide +kernel
theorem dX5_about_110 : decode cX5_about 110 = .ok (.imul, 1) := by decide +kernel
theorem dX5_about_111 : decode cX5_about 111 = .ok (.iconst 1, 1) := by decide +kernel
theorem dX5_about_112 : decode cX5_about 112 = .ok (.iadd, 1) := by decide +kernel
theorem dX5_about_113 : decode cX5_about 113 = .ok (.invokevirtual 116, 3) := by decide +kernel
theorem dX5_about_116 : decode cX5_about 116 = .ok (.ireturn, 1) := by decide +kernel
theorem dX5_about_117 : decode cX5_about 117 = .ok (.aload_n 0, 1) := by decide +kernel
theorem dX5_about_118 : decode cX5_about 118 = .ok (.getfield 12, 3) := by decide +kernel
theorem dX5_about_121 : decode cX5_about 121 = .ok (.iconst 2, 1) := by decide +kernel
theorem dX5_about_122 : decode cX5_about 122 = .ok (.iload_n 1, 1) := by decide +kernel
theorem dX5_about_123 : decode cX5_about 123 = .ok (.imul, 1) := by decide +kernel
theorem dX5_about_124 : decode cX5_about 124 = .ok (.iconst 1, 1) := by decide +kernel
theorem dX5_about_125 : decode cX5_about 125 = .ok (.iadd, 1) := by decide +kernel
theorem dX5_about_126 : decode cX5_about 126 = .ok (.invokevirtual 119, 3) := by decide +kernel
theorem dX5_about_129 : decode cX5_about 129 = .ok (.ireturn, 1) := by decide +kernel
theorem dX5_about_130 : decode cX5_about 130 = .ok (.aload_n 0, 1) := by decide +kernel
theorem dX5_about_131 : decode cX5_about 131 = .ok (.getfield 12, 3) := by decide +kernel
theorem dX5_about_134 : decode cX5_about 134 = .ok (.iload_n 1, 1) := by decide +kernel
theorem dX5_about_135 : decode cX5_about 135 = .ok (.invokevirtual 122, 3) := by decide +kernel
theorem dX5_about_138 : decode cX5_about 138 = .ok (.ireturn, 1) := by decide +kernel
theorem dX5_about_139 : decode cX5_about 139 = .ok (.aload_n 0, 1) := by decide +kernel
theorem dX5_about_140 : decode cX5_about 140 = .ok (.getfield 12, 3) := by decide +kernel
theorem dX5_about_143 : decode cX5_about 143 = .ok (.iload_n 1, 1) := by decide +kernel
theorem dX5_about_144 : decode cX5_about 144 = .ok (.invokevirtual 125, 3) := by decide +kernel
theorem dX5_about_147 : decode cX5_about 147 = .ok (.ireturn, 1) := by decide +kernel
theorem dX5_about_148 : decode cX5_about 148 = .ok (.sipush (-2002), 3) := by decide +kernel
theorem dX5_about_151 : decode cX5_about 151 = .ok (.ireturn, 1) := by decide +kernel
set_option maxRecDepth 20000 in
set_option maxHeartbeats 4000000 in
theorem k_B_about (l : Launch) (w : WT) (σ : MM) (a : Int) (h : Int) (i_a : inr a) (i_h : inr h) : CT SX l w yX5_about cX5_about 3 (some .int) 2 42 [.ref (w.2.2 0), .int (iI a), .int (iI h)] σ (PI fun z σ1 => σ = σ1 ∧ (((a < 0 ∨ σ 53 0 ≤ a) ∧ z = -2001) ∨ ((0 ≤ a ∧ a < σ 53 0) ∧ ((h = 0 ∧ z = σ 2 a) ∨ (h = 1 ∧ z = lenF (σ 2) a) ∨ (h = 2 ∧ z = σ 5 (2 * a)) ∨ (h = 3 ∧ z = σ 6 (2 * a)) ∨ (h = 4 ∧ z = σ 5 (2 * a + 1)) ∨ (h = 5 ∧ z = σ 6 (2 * a + 1)) ∨ (h = 6 ∧ z = σ 3 a) ∨ (h = 7 ∧ z = σ 4 a) ∨ ((h < 0 ∨ 7 < h) ∧ z = -2002))))) := by
  refine CT.of 0 [some (.ref (w.2.2 0)), some (.int (iI a)), some (.int (iI h))] (by decide +kernel) (by simp [lg_sl, Value.category]) rfl sh_X (fun G hX => ?_)
  refine r_bd hX (fun hBd => ?_)
  have b_53 := hBd 53 0 8 rfl 0
  refine r_aload_n hX dX5_about_0 rfl ?_
  refine fg_X0_12 hX dX5_about_1 ?_
  refine r_iload_n hX dX5_about_4 rfl ?_
  refine r_callV hX dX5_about_5 (k_Lp_isThere l w σ _ (by omega)) mf_X2_isThere mv_X2_isThere lk_RX5_95 rfl rfl rfl rfl rfl ⟨Nat.le_of_ble_eq_true rfl, Nat.le_of_ble_eq_true rfl⟩ (Nat.le_of_ble_eq_true rfl) (kI fun z5 σ5 hh => ?_)
  obtain ⟨rfl, h5_0⟩ := hh
  refine r_if_ne hX (tgt := 15) dX5_about_8 (by decide) (by omega) (fun c8 => ?_) (fun c8 => ?_)
  · skip
    refine r_iload_n hX dX5_about_15 rfl ?_
    refine r_nm hX (fun x16 e16 => ?_)
    rcases (by omega : x16 < 0 ∨ 7 < x16 ∨ x16 = 0 ∨ x16 = 1 ∨ x16 = 2 ∨ x16 = 3 ∨ x16 = 4 ∨ x16 = 5 ∨ x16 = 6 ∨ x16 = 7) with c16 | c16 | c16 | c16 | c16 | c16 | c16 | c16 | c16 | c16
    · skip
      refine r_tblOut hX dX5_about_16 (by omega) (Or.inl c16) (tgt := 148) (by decide) ?_
      refine r_sipush hX dX5_about_148 (by decide) ?_
      exact r_iret hX dX5_about_151 rfl ⟨_, rfl, ⟨rfl, (by refine Or.inr ⟨by omega, Or.inr (Or.inr (Or.inr (Or.inr (Or.inr (Or.inr (Or.inr (Or.inr (⟨by omega, by omega⟩))))))))⟩)⟩⟩
    · skip
      refine r_tblOut hX dX5_about_16 (by omega) (Or.inr c16) (tgt := 148) (by decide) ?_
      refine r_sipush hX dX5_about_148 (by decide) ?_
      exact r_iret hX dX5_about_151 rfl ⟨_, rfl, ⟨rfl, (by refine Or.inr ⟨by omega, Or.inr (Or.inr (Or.inr (Or.inr (Or.inr (Or.inr (Or.inr (Or.inr (⟨by omega, by omega⟩))))))))⟩)⟩⟩
    · skip
      refine r_tblIn hX 0 dX5_about_16 c16 (by decide) rfl (tgt := 64) (by decide) ?_
      refine r_aload_n hX dX5_about_64 rfl ?_
      refine fg_X0_12 hX dX5_about_65 ?_
      refine r_iload_n hX dX5_about_68 rfl ?_
      refine r_callV hX dX5_about_69 (k_Lp_kindOf l w σ _ (by omega)) mf_X2_kindOf mv_X2_kindOf lk_RX5_109 rfl rfl rfl rfl rfl ⟨Nat.le_of_ble_eq_true rfl, Nat.le_of_ble_eq_true rfl⟩ (Nat.le_of_ble_eq_true rfl) (kI fun z69 σ69 hh => ?_)
      obtain ⟨rfl, h69_0, h69_1⟩ := hh
      exact r_iret hX dX5_about_72 rfl ⟨_, rfl, ⟨rfl, (by refine Or.inr ⟨by omega, Or.inl ⟨by omega, by omega⟩⟩)⟩⟩
    · skip
      refine r_tblIn hX 1 dX5_about_16 c16 (by decide) rfl (tgt := 73) (by decide) ?_
      refine r_aload_n hX dX5_about_73 rfl ?_
      refine fg_X0_12 hX dX5_about_74 ?_
      refine r_iload_n hX dX5_about_77 rfl ?_
      refine r_callV hX dX5_about_78 (k_Lp_lengthOf l w σ _ (by omega)) mf_X2_lengthOf mv_X2_lengthOf lk_RX5_113 rfl rfl rfl rfl rfl ⟨Nat.le_of_ble_eq_true rfl, Nat.le_of_ble_eq_true rfl⟩ (Nat.le_of_ble_eq_true rfl) (kI fun z78 σ78 hh => ?_)
      obtain ⟨rfl, h78_0⟩ := hh
      have hle := lenF_of h78_0 (by omega) (by omega)
      exact r_iret hX dX5_about_81 rfl ⟨_, rfl, ⟨rfl, (by refine Or.inr ⟨by omega, Or.inr (Or.inl ⟨by omega, by omega⟩)⟩)⟩⟩
    · skip
      refine r_tblIn hX 2 dX5_about_16 c16 (by decide) rfl (tgt := 82) (by decide) ?_
      refine r_aload_n hX dX5_about_82 rfl ?_
      refine fg_X0_12 hX dX5_about_83 ?_
      refine r_iconst hX dX5_about_86 ?_
      refine r_iload_n hX dX5_about_87 rfl ?_
      refine r_imul hX dX5_about_88 ?_
      refine r_callV hX dX5_about_89 (k_Lp_sourceOf l w σ _ (by omega)) mf_X2_sourceOf mv_X2_sourceOf lk_RX5_116 rfl rfl rfl rfl rfl ⟨Nat.le_of_ble_eq_true rfl, Nat.le_of_ble_eq_true rfl⟩ (Nat.le_of_ble_eq_true rfl) (kI fun z89 σ89 hh => ?_)
      obtain ⟨rfl, h89_0, h89_1⟩ := hh
      exact r_iret hX dX5_about_92 rfl ⟨_, rfl, ⟨rfl, (by refine Or.inr ⟨by omega, Or.inr (Or.inr (Or.inl ⟨by omega, by omega⟩))⟩)⟩⟩
    · skip
      refine r_tblIn hX 3 dX5_about_16 c16 (by decide) rfl (tgt := 93) (by decide) ?_
      refine r_aload_n hX dX5_about_93 rfl ?_
      refine fg_X0_12 hX dX5_about_94 ?_
      refine r_iconst hX dX5_about_97 ?_
      refine r_iload_n hX dX5_about_98 rfl ?_
      refine r_imul hX dX5_about_99 ?_
      refine r_callV hX dX5_about_100 (k_Lp_distanceOf l w σ _ (by omega)) mf_X2_distanceOf mv_X2_distanceOf lk_RX5_119 rfl rfl rfl rfl rfl ⟨Nat.le_of_ble_eq_true rfl, Nat.le_of_ble_eq_true rfl⟩ (Nat.le_of_ble_eq_true rfl) (kI fun z100 σ100 hh => ?_)
      obtain ⟨rfl, h100_0, h100_1⟩ := hh
      exact r_iret hX dX5_about_103 rfl ⟨_, rfl, ⟨rfl, (by refine Or.inr ⟨by omega, Or.inr (Or.inr (Or.inr (Or.inl ⟨by omega, by omega⟩)))⟩)⟩⟩
    · skip
      refine r_tblIn hX 4 dX5_about_16 c16 (by decide) rfl (tgt := 104) (by decide) ?_
      refine r_aload_n hX dX5_about_104 rfl ?_
      refine fg_X0_12 hX dX5_about_105 ?_
      refine r_iconst hX dX5_about_108 ?_
      refine r_iload_n hX dX5_about_109 rfl ?_
      refine r_imul hX dX5_about_110 ?_
      refine r_iconst hX dX5_about_111 ?_
      refine r_iadd hX dX5_about_112 ?_
      refine r_callV hX dX5_about_113 (k_Lp_sourceOf l w σ _ (by omega)) mf_X2_sourceOf mv_X2_sourceOf lk_RX5_116 rfl rfl rfl rfl rfl ⟨Nat.le_of_ble_eq_true rfl, Nat.le_of_ble_eq_true rfl⟩ (Nat.le_of_ble_eq_true rfl) (kI fun z113 σ113 hh => ?_)
      obtain ⟨rfl, h113_0, h113_1⟩ := hh
      exact r_iret hX dX5_about_116 rfl ⟨_, rfl, ⟨rfl, (by refine Or.inr ⟨by omega, Or.inr (Or.inr (Or.inr (Or.inr (Or.inl ⟨by omega, by omega⟩))))⟩)⟩⟩
    · skip
      refine r_tblIn hX 5 dX5_about_16 c16 (by decide) rfl (tgt := 117) (by decide) ?_
      refine r_aload_n hX dX5_about_117 rfl ?_
      refine fg_X0_12 hX dX5_about_118 ?_
      refine r_iconst hX dX5_about_121 ?_
      refine r_iload_n hX dX5_about_122 rfl ?_
      refine r_imul hX dX5_about_123 ?_
      refine r_iconst hX dX5_about_124 ?_
      refine r_iadd hX dX5_about_125 ?_
      refine r_callV hX dX5_about_126 (k_Lp_distanceOf l w σ _ (by omega)) mf_X2_distanceOf mv_X2_distanceOf lk_RX5_119 rfl rfl rfl rfl rfl ⟨Nat.le_of_ble_eq_true rfl, Nat.le_of_ble_eq_true rfl⟩ (Nat.le_of_ble_eq_true rfl) (kI fun z126 σ126 hh => ?_)
      obtain ⟨rfl, h126_0, h126_1⟩ := hh
      exact r_iret hX dX5_about_129 rfl ⟨_, rfl, ⟨rfl, (by refine Or.inr ⟨by omega, Or.inr (Or.inr (Or.inr (Or.inr (Or.inr (Or.inl ⟨by omega, by omega⟩)))))⟩)⟩⟩
    · skip
      refine r_tblIn hX 6 dX5_about_16 c16 (by decide) rfl (tgt := 130) (by decide) ?_
      refine r_aload_n hX dX5_about_130 rfl ?_
      refine fg_X0_12 hX dX5_about_131 ?_
      refine r_iload_n hX dX5_about_134 rfl ?_
      refine r_callV hX dX5_about_135 (k_Lp_factorOf l w σ _ (by omega)) mf_X2_factorOf mv_X2_factorOf lk_RX5_122 rfl rfl rfl rfl rfl ⟨Nat.le_of_ble_eq_true rfl, Nat.le_of_ble_eq_true rfl⟩ (Nat.le_of_ble_eq_true rfl) (kI fun z135 σ135 hh => ?_)
      obtain ⟨rfl, h135_0⟩ := hh
      exact r_iret hX dX5_about_138 rfl ⟨_, rfl, ⟨rfl, (by refine Or.inr ⟨by omega, Or.inr (Or.inr (Or.inr (Or.inr (Or.inr (Or.inr (Or.inl ⟨by omega, by omega⟩))))))⟩)⟩⟩
    · skip
      refine r_tblIn hX 7 dX5_about_16 c16 (by decide) rfl (tgt := 139) (by decide) ?_
      refine r_aload_n hX dX5_about_139 rfl ?_
      refine fg_X0_12 hX dX5_about_140 ?_
      refine r_iload_n hX dX5_about_143 rfl ?_
      refine r_callV hX dX5_about_144 (k_Lp_addendOf l w σ _ (by omega)) mf_X2_addendOf mv_X2_addendOf lk_RX5_125 rfl rfl rfl rfl rfl ⟨Nat.le_of_ble_eq_true rfl, Nat.le_of_ble_eq_true rfl⟩ (Nat.le_of_ble_eq_true rfl) (kI fun z144 σ144 hh => ?_)
      obtain ⟨rfl, h144_0⟩ := hh
      exact r_iret hX dX5_about_147 rfl ⟨_, rfl, ⟨rfl, (by refine Or.inr ⟨by omega, Or.inr (Or.inr (Or.inr (Or.inr (Or.inr (Or.inr (Or.inr (Or.inl ⟨by omega, by omega⟩)))))))⟩)⟩⟩
  · skip
    refine r_sipush hX dX5_about_11 (by decide) ?_
    exact r_iret hX dX5_about_14 rfl ⟨_, rfl, ⟨rfl, (by exact Or.inl ⟨by omega, rfl⟩)⟩⟩
theorem dX5_told_0 : decode cX5_told 0 = .ok (.iload_n 1, 1) := by decide +kernel
theorem dX5_told_1 : decode cX5_told 1 = .ok (.tableswitch 84 0 5 #[39, 47, 55, 63, 71, 79], 39) := by decide +kernel
theorem dX5_told_40 : decode cX5_told 40 = .ok (.aload_n 0, 1) := by decide +kernel
theorem dX5_told_41 : decode cX5_told 41 = .ok (.getfield 12, 3) := by decide +kernel
theorem dX5_told_44 : decode cX5_told 44 = .ok (.invokevirtual 85, 3) := by decide +kernel
theorem dX5_told_47 : decode cX5_told 47 = .ok (.ireturn, 1) := by decide +kernel
theorem dX5_told_48 : decode cX5_told 48 = .ok (.aload_n 0, 1) := by decide +kernel
theorem dX5_told_49 : decode cX5_told 49 = .ok (.getfield 19, 3) := by decide +kernel
theorem dX5_told_52 : decode cX5_told 52 = .ok (.invokevirtual 214, 3) := by decide +kernel
theorem dX5_told_55 : decode cX5_told 55 = .ok (.ireturn, 1) := by decide +kernel
theorem dX5_told_56 : decode cX5_told 56 = .ok (.aload_n 0, 1) := by decide +kernel
theorem dX5_told_57 : decode cX5_told 57 = .ok (.getfield 19, 3) := by decide +kernel
theorem dX5_told_60 : decode cX5_told 60 = .ok (.invokevirtual 217, 3) := by decide +kernel
theorem dX5_told_63 : decode cX5_told 63 = .ok (.ireturn, 1) := by decide +kernel
theorem dX5_told_64 : decode cX5_told 64 = .ok (.aload_n 0, 1) := by decide +kernel
theorem dX5_told_65 : decode cX5_told 65 = .ok (.getfield 19, 3) := by decide +kernel
theorem dX5_told_68 : decode cX5_told 68 = .ok (.invokevirtual 220, 3) := by decide +kernel
theorem dX5_told_71 : decode cX5_told 71 = .ok (.ireturn, 1) := by decide +kernel
theorem dX5_told_72 : decode cX5_told 72 = .ok (.aload_n 0, 1) := by decide +kernel
theorem dX5_told_73 : decode cX5_told 73 = .ok (.getfield 28, 3) := by decide +kernel
theorem dX5_told_76 : decode cX5_told 76 = .ok (.invokevirtual 223, 3) := by decide +kernel
theorem dX5_told_79 : decode cX5_told 79 = .ok (.ireturn, 1) := by decide +kernel
theorem dX5_told_80 : decode cX5_told 80 = .ok (.aload_n 0, 1) := by decide +kernel
theorem dX5_told_81 : decode cX5_told 81 = .ok (.getfield 82, 3) := by decide +kernel
theorem dX5_told_84 : decode cX5_told 84 = .ok (.ireturn, 1) := by decide +kernel
theorem dX5_told_85 : decode cX5_told 85 = .ok (.bipush (-2), 2) := by decide +kernel
theorem dX5_told_87 : decode cX5_told 87 = .ok (.ireturn, 1) := by decide +kernel
set_option maxRecDepth 20000 in
set_option maxHeartbeats 4000000 in
theorem k_B_told (l : Launch) (w : WT) (σ : MM) (h : Int) (i_h : inr h) : CT SX l w yX5_told cX5_told 2 (some .int) 3 64 [.ref (w.2.2 0), .int (iI h)] σ (PI fun z σ1 => σ = σ1 ∧ ((h = 0 ∧ z = σ 53 0) ∨ (h = 1 ∧ z = σ 56 0) ∨ (h = 2 ∧ z = σ 57 0) ∨ (h = 3 ∧ z = cn0 (σ 11) (σ 56 0 * σ 57 0)) ∨ (h = 4 ∧ z = σ 58 0) ∨ (h = 5 ∧ z = σ 51 0) ∨ ((h < 0 ∨ 5 < h) ∧ z = -2))) := by
  refine CT.of 0 [some (.ref (w.2.2 0)), some (.int (iI h))] (by decide +kernel) (by simp [lg_sl, Value.category]) rfl sh_X (fun G hX => ?_)
  refine r_iload_n hX dX5_told_0 rfl ?_
  refine r_nm hX (fun x1 e1 => ?_)
  rcases (by omega : x1 < 0 ∨ 5 < x1 ∨ x1 = 0 ∨ x1 = 1 ∨ x1 = 2 ∨ x1 = 3 ∨ x1 = 4 ∨ x1 = 5) with c1 | c1 | c1 | c1 | c1 | c1 | c1 | c1
  · skip
    refine r_tblOut hX dX5_told_1 (by omega) (Or.inl c1) (tgt := 85) (by decide) ?_
    refine r_bipush hX dX5_told_85 (by decide) ?_
    exact r_iret hX dX5_told_87 rfl ⟨_, rfl, ⟨rfl, (by exact Or.inr (Or.inr (Or.inr (Or.inr (Or.inr (Or.inr (⟨by omega, by omega⟩)))))))⟩⟩
  · skip
    refine r_tblOut hX dX5_told_1 (by omega) (Or.inr c1) (tgt := 85) (by decide) ?_
    refine r_bipush hX dX5_told_85 (by decide) ?_
    exact r_iret hX dX5_told_87 rfl ⟨_, rfl, ⟨rfl, (by exact Or.inr (Or.inr (Or.inr (Or.inr (Or.inr (Or.inr (⟨by omega, by omega⟩)))))))⟩⟩
  · skip
    refine r_tblIn hX 0 dX5_told_1 c1 (by decide) rfl (tgt := 40) (by decide) ?_
    refine r_aload_n hX dX5_told_40 rfl ?_
    refine fg_X0_12 hX dX5_told_41 ?_
    refine r_callV hX dX5_told_44 (k_Lp_count l w σ) mf_X2_count mv_X2_count lk_RX5_85 rfl rfl rfl rfl rfl ⟨Nat.le_of_ble_eq_true rfl, Nat.le_of_ble_eq_true rfl⟩ (Nat.le_of_ble_eq_true rfl) (kI fun z44 σ44 hh => ?_)
    obtain ⟨rfl, h44_0, h44_1⟩ := hh
    exact r_iret hX dX5_told_47 rfl ⟨_, rfl, ⟨rfl, (by exact Or.inl ⟨by omega, by omega⟩)⟩⟩
  · skip
    refine r_tblIn hX 1 dX5_told_1 c1 (by decide) rfl (tgt := 48) (by decide) ?_
    refine r_aload_n hX dX5_told_48 rfl ?_
    refine fg_X0_19 hX dX5_told_49 ?_
    refine r_callV hX dX5_told_52 (k_Gd_rows l w σ) mf_X0_rows mv_X0_rows lk_RX5_214 rfl rfl rfl rfl rfl ⟨Nat.le_of_ble_eq_true rfl, Nat.le_of_ble_eq_true rfl⟩ (Nat.le_of_ble_eq_true rfl) (kI fun z52 σ52 hh => ?_)
    obtain ⟨rfl, h52_0, h52_1⟩ := hh
    exact r_iret hX dX5_told_55 rfl ⟨_, rfl, ⟨rfl, (by exact Or.inr (Or.inl ⟨by omega, by omega⟩))⟩⟩
  · skip
    refine r_tblIn hX 2 dX5_told_1 c1 (by decide) rfl (tgt := 56) (by decide) ?_
    refine r_aload_n hX dX5_told_56 rfl ?_
    refine fg_X0_19 hX dX5_told_57 ?_
    refine r_callV hX dX5_told_60 (k_Gd_columns l w σ) mf_X0_columns mv_X0_columns lk_RX5_217 rfl rfl rfl rfl rfl ⟨Nat.le_of_ble_eq_true rfl, Nat.le_of_ble_eq_true rfl⟩ (Nat.le_of_ble_eq_true rfl) (kI fun z60 σ60 hh => ?_)
    obtain ⟨rfl, h60_0, h60_1⟩ := hh
    exact r_iret hX dX5_told_63 rfl ⟨_, rfl, ⟨rfl, (by exact Or.inr (Or.inr (Or.inl ⟨by omega, by omega⟩)))⟩⟩
  · skip
    refine r_tblIn hX 3 dX5_told_1 c1 (by decide) rfl (tgt := 64) (by decide) ?_
    refine r_aload_n hX dX5_told_64 rfl ?_
    refine fg_X0_19 hX dX5_told_65 ?_
    refine r_callV hX dX5_told_68 (k_Gd_unbroken l w σ) mf_X0_unbroken mv_X0_unbroken lk_RX5_220 rfl rfl rfl rfl rfl ⟨Nat.le_of_ble_eq_true rfl, Nat.le_of_ble_eq_true rfl⟩ (Nat.le_of_ble_eq_true rfl) (kI fun z68 σ68 hh => ?_)
    obtain ⟨rfl, h68_0, h68_1⟩ := hh
    exact r_iret hX dX5_told_71 rfl ⟨_, rfl, ⟨rfl, (by exact Or.inr (Or.inr (Or.inr (Or.inl ⟨by omega, by omega⟩))))⟩⟩
  · skip
    refine r_tblIn hX 4 dX5_told_1 c1 (by decide) rfl (tgt := 72) (by decide) ?_
    refine r_aload_n hX dX5_told_72 rfl ?_
    refine fg_X0_28 hX dX5_told_73 ?_
    refine r_callV hX dX5_told_76 (k_Ly_beat l w σ) mf_X1_beat mv_X1_beat lk_RX5_223 rfl rfl rfl rfl rfl ⟨Nat.le_of_ble_eq_true rfl, Nat.le_of_ble_eq_true rfl⟩ (Nat.le_of_ble_eq_true rfl) (kI fun z76 σ76 hh => ?_)
    obtain ⟨rfl, h76_0, h76_1⟩ := hh
    exact r_iret hX dX5_told_79 rfl ⟨_, rfl, ⟨rfl, (by exact Or.inr (Or.inr (Or.inr (Or.inr (Or.inl ⟨by omega, by omega⟩)))))⟩⟩
  · skip
    refine r_tblIn hX 5 dX5_told_1 c1 (by decide) rfl (tgt := 80) (by decide) ?_
    refine r_aload_n hX dX5_told_80 rfl ?_
    refine fg_X0_82 hX dX5_told_81 (fun b81l b81u => ?_)
    exact r_iret hX dX5_told_84 rfl ⟨_, rfl, ⟨rfl, (by exact Or.inr (Or.inr (Or.inr (Or.inr (Or.inr (Or.inl ⟨by omega, by omega⟩))))))⟩⟩
theorem dX5_lacks_0 : decode cX5_lacks 0 = .ok (.aload_n 0, 1) := by decide +kernel
theorem dX5_lacks_1 : decode cX5_lacks 1 = .ok (.getfield 28, 3) := by decide +kernel
theorem dX5_lacks_4 : decode cX5_lacks 4 = .ok (.invokevirtual 158, 3) := by decide +kernel
theorem dX5_lacks_7 : decode cX5_lacks 7 = .ok (.ifCond .ne 6, 3) := by decide +kernel
theorem dX5_lacks_10 : decode cX5_lacks 10 = .ok (.bipush (-3), 2) := by decide +kernel
theorem dX5_lacks_12 : decode cX5_lacks 12 = .ok (.ireturn, 1) := by decide +kernel
theorem dX5_lacks_13 : decode cX5_lacks 13 = .ok (.aload_n 0, 1) := by decide +kernel
theorem dX5_lacks_14 : decode cX5_lacks 14 = .ok (.getfield 12, 3) := by decide +kernel
theorem dX5_lacks_17 : decode cX5_lacks 17 = .ok (.invokevirtual 91, 3) := by decide +kernel
theorem dX5_lacks_20 : decode cX5_lacks 20 = .ok (.ifCond .eq 13, 3) := by decide +kernel
theorem dX5_lacks_23 : decode cX5_lacks 23 = .ok (.aload_n 0, 1) := by decide +kernel
theorem dX5_lacks_24 : decode cX5_lacks 24 = .ok (.getfield 28, 3) := by decide +kernel
theorem dX5_lacks_27 : decode cX5_lacks 27 = .ok (.invokevirtual 165, 3) := by decide +kernel
theorem dX5_lacks_30 : decode cX5_lacks 30 = .ok (.goto 5, 3) := by decide +kernel
theorem dX5_lacks_33 : decode cX5_lacks 33 = .ok (.bipush (-5), 2) := by decide +kernel
theorem dX5_lacks_35 : decode cX5_lacks 35 = .ok (.ireturn, 1) := by decide +kernel
set_option maxRecDepth 20000 in
set_option maxHeartbeats 4000000 in
theorem k_B_lacks (l : Launch) (w : WT) (σ : MM) (hLO : LoopOK σ) (hLa : LayOK σ) : CT SX l w yX5_lacks cX5_lacks 1 (some .int) 5 108 [.ref (w.2.2 0)] σ (PI fun z σ1 => σ = σ1 ∧ ((σ 58 0 = 0 ∧ z = -3) ∨ (0 < σ 58 0 ∧ σ 54 0 ≠ σ 53 0 ∧ z = -5) ∨ (0 < σ 58 0 ∧ σ 54 0 = σ 53 0 ∧ FLx σ z))) := by
  refine CT.of 0 [some (.ref (w.2.2 0))] (by decide +kernel) (by simp [lg_sl, Value.category]) rfl sh_X (fun G hX => ?_)
  refine r_aload_n hX dX5_lacks_0 rfl ?_
  refine fg_X0_28 hX dX5_lacks_1 ?_
  refine r_callV hX dX5_lacks_4 (k_Ly_stands l w σ) mf_X1_stands mv_X1_stands lk_RX5_158 rfl rfl rfl rfl rfl ⟨Nat.le_of_ble_eq_true rfl, Nat.le_of_ble_eq_true rfl⟩ (Nat.le_of_ble_eq_true rfl) (kI fun z4 σ4 hh => ?_)
  obtain ⟨rfl, h4_0⟩ := hh
  refine r_if_ne hX (tgt := 13) dX5_lacks_7 (by decide) (by omega) (fun c7 => ?_) (fun c7 => ?_)
  · skip
    refine r_aload_n hX dX5_lacks_13 rfl ?_
    refine fg_X0_12 hX dX5_lacks_14 ?_
    refine r_callV hX dX5_lacks_17 (k_Lp_isSound l w σ) mf_X2_isSound mv_X2_isSound lk_RX5_91 rfl rfl rfl rfl rfl ⟨Nat.le_of_ble_eq_true rfl, Nat.le_of_ble_eq_true rfl⟩ (Nat.le_of_ble_eq_true rfl) (kI fun z17 σ17 hh => ?_)
    obtain ⟨rfl, h17_0⟩ := hh
    refine r_if_eq hX (tgt := 33) dX5_lacks_20 (by decide) (by omega) (fun c20 => ?_) (fun c20 => ?_)
    · skip
      refine r_bipush hX dX5_lacks_33 (by decide) ?_
      exact r_iret hX dX5_lacks_35 rfl ⟨_, rfl, ⟨rfl, (by first | exact Or.inl ⟨by omega, rfl⟩ | exact Or.inr (Or.inl ⟨by omega, by omega, rfl⟩) | exact Or.inr (Or.inr ⟨by omega, by omega, h27_0⟩))⟩⟩
    · skip
      refine r_aload_n hX dX5_lacks_23 rfl ?_
      refine fg_X0_28 hX dX5_lacks_24 ?_
      refine r_callV hX dX5_lacks_27 (k_Ly_firstLack l w σ (srcOK_of hLO (by omega)) (hLa (by omega)) (by omega)) mf_X1_firstLack mv_X1_firstLack lk_RX5_165 rfl rfl rfl rfl rfl ⟨Nat.le_of_ble_eq_true rfl, Nat.le_of_ble_eq_true rfl⟩ (Nat.le_of_ble_eq_true rfl) (kI fun z27 σ27 hh => ?_)
      obtain ⟨rfl, h27_0, h27_1⟩ := hh
      refine r_goto hX dX5_lacks_30 (tgt := 35) (by decide) ?_
      exact r_iret hX dX5_lacks_35 rfl ⟨_, rfl, ⟨rfl, (by first | exact Or.inl ⟨by omega, rfl⟩ | exact Or.inr (Or.inl ⟨by omega, by omega, rfl⟩) | exact Or.inr (Or.inr ⟨by omega, by omega, h27_0⟩))⟩⟩
  · skip
    refine r_bipush hX dX5_lacks_10 (by decide) ?_
    exact r_iret hX dX5_lacks_12 rfl ⟨_, rfl, ⟨rfl, (by first | exact Or.inl ⟨by omega, rfl⟩ | exact Or.inr (Or.inl ⟨by omega, by omega, rfl⟩) | exact Or.inr (Or.inr ⟨by omega, by omega, h27_0⟩))⟩⟩
theorem dX5_kept_0 : decode cX5_kept 0 = .ok (.aload_n 0, 1) := by decide +kernel
theorem dX5_kept_1 : decode cX5_kept 1 = .ok (.getfield 12, 3) := by decide +kernel
theorem dX5_kept_4 : decode cX5_kept 4 = .ok (.iload_n 1, 1) := by decide +kernel
theorem dX5_kept_5 : decode cX5_kept 5 = .ok (.invokevirtual 95, 3) := by decide +kernel
theorem dX5_kept_8 : decode cX5_kept 8 = .ok (.ifCond .ne 5, 3) := by decide +kernel
theorem dX5_kept_11 : decode cX5_kept 11 = .ok (.iconst (-1), 1) := by decide +kernel
theorem dX5_kept_12 : decode cX5_kept 12 = .ok (.ireturn, 1) := by decide +kernel
theorem dX5_kept_13 : decode cX5_kept 13 = .ok (.aload_n 0, 1) := by decide +kernel
theorem dX5_kept_14 : decode cX5_kept 14 = .ok (.getfield 28, 3) := by decide +kernel
theorem dX5_kept_17 : decode cX5_kept 17 = .ok (.invokevirtual 158, 3) := by decide +kernel
theorem dX5_kept_20 : decode cX5_kept 20 = .ok (.ifCond .ne 6, 3) := by decide +kernel
theorem dX5_kept_23 : decode cX5_kept 23 = .ok (.bipush (-3), 2) := by decide +kernel
theorem dX5_kept_25 : decode cX5_kept 25 = .ok (.ireturn, 1) := by decide +kernel
theorem dX5_kept_26 : decode cX5_kept 26 = .ok (.aload_n 0, 1) := by decide +kernel
theorem dX5_kept_27 : decode cX5_kept 27 = .ok (.getfield 28, 3) := by decide +kernel
theorem dX5_kept_30 : decode cX5_kept 30 = .ok (.invokevirtual 174, 3) := by decide +kernel
theorem dX5_kept_33 : decode cX5_kept 33 = .ok (.ifCond .eq 14, 3) := by decide +kernel
theorem dX5_kept_36 : decode cX5_kept 36 = .ok (.aload_n 0, 1) := by decide +kernel
theorem dX5_kept_37 : decode cX5_kept 37 = .ok (.getfield 28, 3) := by decide +kernel
theorem dX5_kept_40 : decode cX5_kept 40 = .ok (.iload_n 1, 1) := by decide +kernel
theorem dX5_kept_41 : decode cX5_kept 41 = .ok (.invokevirtual 177, 3) := by decide +kernel
theorem dX5_kept_44 : decode cX5_kept 44 = .ok (.goto 5, 3) := by decide +kernel
theorem dX5_kept_47 : decode cX5_kept 47 = .ok (.bipush (-5), 2) := by decide +kernel
theorem dX5_kept_49 : decode cX5_kept 49 = .ok (.ireturn, 1) := by decide +kernel
set_option maxRecDepth 20000 in
set_option maxHeartbeats 4000000 in
theorem k_B_kept (l : Launch) (w : WT) (σ : MM) (a : Int) (i_a : inr a) (hLO : LoopOK σ) (hLa : LayOK σ) : CT SX l w yX5_kept cX5_kept 2 (some .int) 6 128 [.ref (w.2.2 0), .int (iI a)] σ (PI fun z σ1 => σ = σ1 ∧ (((a < 0 ∨ σ 53 0 ≤ a) ∧ z = -1) ∨ ((0 ≤ a ∧ a < σ 53 0) ∧ ((σ 58 0 = 0 ∧ z = -3) ∨ (0 < σ 58 0 ∧ BadX σ ∧ z = -5) ∨ (GoodX σ ∧ ∃ y : Int, IsMax (fun s => σ 5 s = a) (useX σ) (2 * σ 53 0) (madeX σ a) y ∧ z = (y - madeX σ a) / σ 58 0 + 1))))) := by
  refine CT.of 0 [some (.ref (w.2.2 0)), some (.int (iI a))] (by decide +kernel) (by simp [lg_sl, Value.category]) rfl sh_X (fun G hX => ?_)
  refine r_aload_n hX dX5_kept_0 rfl ?_
  refine fg_X0_12 hX dX5_kept_1 ?_
  refine r_iload_n hX dX5_kept_4 rfl ?_
  refine r_callV hX dX5_kept_5 (k_Lp_isThere l w σ _ (by omega)) mf_X2_isThere mv_X2_isThere lk_RX5_95 rfl rfl rfl rfl rfl ⟨Nat.le_of_ble_eq_true rfl, Nat.le_of_ble_eq_true rfl⟩ (Nat.le_of_ble_eq_true rfl) (kI fun z5 σ5 hh => ?_)
  obtain ⟨rfl, h5_0⟩ := hh
  refine r_if_ne hX (tgt := 13) dX5_kept_8 (by decide) (by omega) (fun c8 => ?_) (fun c8 => ?_)
  · skip
    refine r_aload_n hX dX5_kept_13 rfl ?_
    refine fg_X0_28 hX dX5_kept_14 ?_
    refine r_callV hX dX5_kept_17 (k_Ly_stands l w σ) mf_X1_stands mv_X1_stands lk_RX5_158 rfl rfl rfl rfl rfl ⟨Nat.le_of_ble_eq_true rfl, Nat.le_of_ble_eq_true rfl⟩ (Nat.le_of_ble_eq_true rfl) (kI fun z17 σ17 hh => ?_)
    obtain ⟨rfl, h17_0⟩ := hh
    refine r_if_ne hX (tgt := 26) dX5_kept_20 (by decide) (by omega) (fun c20 => ?_) (fun c20 => ?_)
    · skip
      refine r_aload_n hX dX5_kept_26 rfl ?_
      refine fg_X0_28 hX dX5_kept_27 ?_
      refine r_callV hX dX5_kept_30 (k_Ly_isGood l w σ (hLO) (hLa)) mf_X1_isGood mv_X1_isGood lk_RX5_174 rfl rfl rfl rfl rfl ⟨Nat.le_of_ble_eq_true rfl, Nat.le_of_ble_eq_true rfl⟩ (Nat.le_of_ble_eq_true rfl) (kI fun z30 σ30 hh => ?_)
      obtain ⟨rfl, h30_0⟩ := hh
      have hb58 : 0 < σ 58 0 := by clear h30_0; omega
      have hg := good_of h30_0 hb58
      clear h30_0
      refine r_if_eq hX (tgt := 47) dX5_kept_33 (by decide) (by omega) (fun c33 => ?_) (fun c33 => ?_)
      · skip
        refine r_bipush hX dX5_kept_47 (by decide) ?_
        exact r_iret hX dX5_kept_49 rfl ⟨_, rfl, ⟨rfl, (by refine Or.inr ⟨by omega, ?_⟩; rcases hg with ⟨q, g⟩ | ⟨q, g⟩ <;> first | omega | exact Or.inr (Or.inr ⟨g, h41_0⟩) | exact Or.inr (Or.inl ⟨by omega, g, rfl⟩))⟩⟩
      · skip
        refine r_aload_n hX dX5_kept_36 rfl ?_
        refine fg_X0_28 hX dX5_kept_37 ?_
        refine r_iload_n hX dX5_kept_40 rfl ?_
        refine r_callV hX dX5_kept_41 (k_Ly_mostKept l w σ _ (by omega) (by omega) (by omega)) mf_X1_mostKept mv_X1_mostKept lk_RX5_177 rfl rfl rfl rfl rfl ⟨Nat.le_of_ble_eq_true rfl, Nat.le_of_ble_eq_true rfl⟩ (Nat.le_of_ble_eq_true rfl) (kI fun z41 σ41 hh => ?_)
        obtain ⟨rfl, h41_0⟩ := hh
        refine r_goto hX dX5_kept_44 (tgt := 49) (by decide) ?_
        exact r_iret hX dX5_kept_49 rfl ⟨_, rfl, ⟨rfl, (by refine Or.inr ⟨by omega, ?_⟩; rcases hg with ⟨q, g⟩ | ⟨q, g⟩ <;> first | omega | exact Or.inr (Or.inr ⟨g, h41_0⟩) | exact Or.inr (Or.inl ⟨by omega, g, rfl⟩))⟩⟩
    · skip
      refine r_bipush hX dX5_kept_23 (by decide) ?_
      exact r_iret hX dX5_kept_25 rfl ⟨_, rfl, ⟨rfl, (by exact Or.inr ⟨by omega, Or.inl ⟨by omega, rfl⟩⟩)⟩⟩
  · skip
    refine r_iconst hX dX5_kept_11 ?_
    exact r_iret hX dX5_kept_12 rfl ⟨_, rfl, ⟨rfl, (by exact Or.inl ⟨by omega, rfl⟩)⟩⟩
theorem dX5_bound_0 : decode cX5_bound 0 = .ok (.iload_n 1, 1) := by decide +kernel
theorem dX5_bound_1 : decode cX5_bound 1 = .ok (.iconst 0, 1) := by decide +kernel
theorem dX5_bound_2 : decode cX5_bound 2 = .ok (.iconst 1, 1) := by decide +kernel
theorem dX5_bound_3 : decode cX5_bound 3 = .ok (.invokestatic 51, 3) := by decide +kernel
theorem dX5_bound_6 : decode cX5_bound 6 = .ok (.ifCond .ne 6, 3) := by decide +kernel
theorem dX5_bound_9 : decode cX5_bound 9 = .ok (.bipush (-2), 2) := by decide +kernel
theorem dX5_bound_11 : decode cX5_bound 11 = .ok (.ireturn, 1) := by decide +kernel
theorem dX5_bound_12 : decode cX5_bound 12 = .ok (.aload_n 0, 1) := by decide +kernel
theorem dX5_bound_13 : decode cX5_bound 13 = .ok (.getfield 12, 3) := by decide +kernel
theorem dX5_bound_16 : decode cX5_bound 16 = .ok (.invokevirtual 85, 3) := by decide +kernel
theorem dX5_bound_19 : decode cX5_bound 19 = .ok (.ifCond .ne 6, 3) := by decide +kernel
theorem dX5_bound_22 : decode cX5_bound 22 = .ok (.bipush (-3), 2) := by decide +kernel
theorem dX5_bound_24 : decode cX5_bound 24 = .ok (.ireturn, 1) := by decide +kernel
theorem dX5_bound_25 : decode cX5_bound 25 = .ok (.aload_n 0, 1) := by decide +kernel
theorem dX5_bound_26 : decode cX5_bound 26 = .ok (.getfield 12, 3) := by decide +kernel
theorem dX5_bound_29 : decode cX5_bound 29 = .ok (.invokevirtual 91, 3) := by decide +kernel
theorem dX5_bound_32 : decode cX5_bound 32 = .ok (.ifCond .ne 6, 3) := by decide +kernel
theorem dX5_bound_35 : decode cX5_bound 35 = .ok (.bipush (-5), 2) := by decide +kernel
theorem dX5_bound_37 : decode cX5_bound 37 = .ok (.ireturn, 1) := by decide +kernel
theorem dX5_bound_38 : decode cX5_bound 38 = .ok (.iload_n 1, 1) := by decide +kernel
theorem dX5_bound_39 : decode cX5_bound 39 = .ok (.ifCond .ne 10, 3) := by decide +kernel
theorem dX5_bound_42 : decode cX5_bound 42 = .ok (.aload_n 0, 1) := by decide +kernel
theorem dX5_bound_43 : decode cX5_bound 43 = .ok (.invokevirtual 191, 3) := by decide +kernel
theorem dX5_bound_46 : decode cX5_bound 46 = .ok (.goto 10, 3) := by decide +kernel
theorem dX5_bound_49 : decode cX5_bound 49 = .ok (.aload_n 0, 1) := by decide +kernel
theorem dX5_bound_50 : decode cX5_bound 50 = .ok (.getfield 12, 3) := by decide +kernel
theorem dX5_bound_53 : decode cX5_bound 53 = .ok (.invokevirtual 194, 3) := by decide +kernel
theorem dX5_bound_56 : decode cX5_bound 56 = .ok (.ireturn, 1) := by decide +kernel
set_option maxRecDepth 20000 in
set_option maxHeartbeats 4000000 in
theorem k_B_bound (l : Launch) (w : WT) (σ : MM) (h : Int) (i_h : inr h) : CT SX l w yX5_bound cX5_bound 2 (some .int) 5 111 [.ref (w.2.2 0), .int (iI h)] σ (PI fun z σ1 => Mod [9] σ σ1 ∧ (((h < 0 ∨ 1 < h) ∧ z = -2) ∨ ((h = 0 ∨ h = 1) ∧ σ 53 0 = 0 ∧ z = -3) ∨ ((h = 0 ∨ h = 1) ∧ σ 53 0 ≠ 0 ∧ σ 54 0 ≠ σ 53 0 ∧ z = -5) ∨ (σ 53 0 ≠ 0 ∧ σ 54 0 = σ 53 0 ∧ ((h = 0 ∧ PBX σ z) ∨ (h = 1 ∧ RBx σ z))))) := by
  refine CT.of 0 [some (.ref (w.2.2 0)), some (.int (iI h))] (by decide +kernel) (by simp [lg_sl, Value.category]) rfl sh_X (fun G hX => ?_)
  refine r_bd hX (fun hBd => ?_)
  have b_53 := hBd 53 0 8 rfl 0
  refine r_iload_n hX dX5_bound_0 rfl ?_
  refine r_iconst hX dX5_bound_1 ?_
  refine r_iconst hX dX5_bound_2 ?_
  refine r_callS hX dX5_bound_3 (k_B_isWithin l w σ _ _ _ (by omega) (by omega) (by omega)) mf_X5_isWithin ms_X5_isWithin lk_RX5_51 rfl rfl ⟨Nat.le_of_ble_eq_true rfl, Nat.le_of_ble_eq_true rfl⟩ (Nat.le_of_ble_eq_true rfl) (kI fun z3 σ3 hh => ?_)
  obtain ⟨rfl, h3_0⟩ := hh
  refine r_if_ne hX (tgt := 12) dX5_bound_6 (by decide) (by omega) (fun c6 => ?_) (fun c6 => ?_)
  · skip
    refine r_aload_n hX dX5_bound_12 rfl ?_
    refine fg_X0_12 hX dX5_bound_13 ?_
    refine r_callV hX dX5_bound_16 (k_Lp_count l w σ) mf_X2_count mv_X2_count lk_RX5_85 rfl rfl rfl rfl rfl ⟨Nat.le_of_ble_eq_true rfl, Nat.le_of_ble_eq_true rfl⟩ (Nat.le_of_ble_eq_true rfl) (kI fun z16 σ16 hh => ?_)
    obtain ⟨rfl, h16_0, h16_1⟩ := hh
    refine r_if_ne hX (tgt := 25) dX5_bound_19 (by decide) (by omega) (fun c19 => ?_) (fun c19 => ?_)
    · skip
      refine r_aload_n hX dX5_bound_25 rfl ?_
      refine fg_X0_12 hX dX5_bound_26 ?_
      refine r_callV hX dX5_bound_29 (k_Lp_isSound l w σ) mf_X2_isSound mv_X2_isSound lk_RX5_91 rfl rfl rfl rfl rfl ⟨Nat.le_of_ble_eq_true rfl, Nat.le_of_ble_eq_true rfl⟩ (Nat.le_of_ble_eq_true rfl) (kI fun z29 σ29 hh => ?_)
      obtain ⟨rfl, h29_0⟩ := hh
      refine r_if_ne hX (tgt := 38) dX5_bound_32 (by decide) (by omega) (fun c32 => ?_) (fun c32 => ?_)
      · skip
        refine r_iload_n hX dX5_bound_38 rfl ?_
        refine r_if_ne hX (tgt := 49) dX5_bound_39 (by decide) (by omega) (fun c39 => ?_) (fun c39 => ?_)
        · skip
          refine r_aload_n hX dX5_bound_49 rfl ?_
          refine fg_X0_12 hX dX5_bound_50 ?_
          refine r_callV hX dX5_bound_53 (k_Lp_ringsBound l w σ) mf_X2_ringsBound mv_X2_ringsBound lk_RX5_194 rfl rfl rfl rfl rfl ⟨Nat.le_of_ble_eq_true rfl, Nat.le_of_ble_eq_true rfl⟩ (Nat.le_of_ble_eq_true rfl) (kI fun z53 σ53 hh => ?_)
          obtain ⟨m53, h53_0, h53_1, h53_2⟩ := hh
          exact r_iret hX dX5_bound_56 rfl ⟨_, rfl, ⟨(m53.w rfl), (by refine Or.inr (Or.inr (Or.inr ⟨by omega, by omega, ?_⟩)); first | exact Or.inl ⟨by omega, h43_0⟩ | exact Or.inr ⟨by omega, h53_0, h53_1, h53_2⟩)⟩⟩
        · skip
          refine r_aload_n hX dX5_bound_42 rfl ?_
          refine r_callV hX dX5_bound_43 (k_B_placesBound l w σ) mf_X5_placesBound mv_X5_placesBound lk_RX5_191 rfl rfl rfl rfl rfl ⟨Nat.le_of_ble_eq_true rfl, Nat.le_of_ble_eq_true rfl⟩ (Nat.le_of_ble_eq_true rfl) (kI fun z43 σ43 hh => ?_)
          obtain ⟨rfl, h43_0, h43_1⟩ := hh
          refine r_goto hX dX5_bound_46 (tgt := 56) (by decide) ?_
          exact r_iret hX dX5_bound_56 rfl ⟨_, rfl, ⟨Mod.rf, (by refine Or.inr (Or.inr (Or.inr ⟨by omega, by omega, ?_⟩)); first | exact Or.inl ⟨by omega, h43_0⟩ | exact Or.inr ⟨by omega, h53_0, h53_1, h53_2⟩)⟩⟩
      · skip
        refine r_bipush hX dX5_bound_35 (by decide) ?_
        exact r_iret hX dX5_bound_37 rfl ⟨_, rfl, ⟨Mod.rf, (by exact Or.inr (Or.inr (Or.inl ⟨by omega, by omega, by omega, rfl⟩)))⟩⟩
    · skip
      refine r_bipush hX dX5_bound_22 (by decide) ?_
      exact r_iret hX dX5_bound_24 rfl ⟨_, rfl, ⟨Mod.rf, (by exact Or.inr (Or.inl ⟨by omega, by omega, rfl⟩))⟩⟩
  · skip
    refine r_bipush hX dX5_bound_9 (by decide) ?_
    exact r_iret hX dX5_bound_11 rfl ⟨_, rfl, ⟨Mod.rf, (by exact Or.inl ⟨by omega, rfl⟩)⟩⟩
theorem dX5_works_0 : decode cX5_works 0 = .ok (.aload_n 0, 1) := by decide +kernel
theorem dX5_works_1 : decode cX5_works 1 = .ok (.getfield 19, 3) := by decide +kernel
theorem dX5_works_4 : decode cX5_works 4 = .ok (.iload_n 1, 1) := by decide +kernel
theorem dX5_works_5 : decode cX5_works 5 = .ok (.invokevirtual 138, 3) := by decide +kernel
theorem dX5_works_8 : decode cX5_works 8 = .ok (.ifCond .ne 5, 3) := by decide +kernel
theorem dX5_works_11 : decode cX5_works 11 = .ok (.iconst (-1), 1) := by decide +kernel
theorem dX5_works_12 : decode cX5_works 12 = .ok (.ireturn, 1) := by decide +kernel
theorem dX5_works_13 : decode cX5_works 13 = .ok (.iload_n 2, 1) := by decide +kernel
theorem dX5_works_14 : decode cX5_works 14 = .ok (.iconst 0, 1) := by decide +kernel
theorem dX5_works_15 : decode cX5_works 15 = .ok (.sipush 10000, 3) := by decide +kernel
theorem dX5_works_18 : decode cX5_works 18 = .ok (.invokestatic 51, 3) := by decide +kernel
theorem dX5_works_21 : decode cX5_works 21 = .ok (.ifCond .ne 6, 3) := by decide +kernel
theorem dX5_works_24 : decode cX5_works 24 = .ok (.bipush (-2), 2) := by decide +kernel
theorem dX5_works_26 : decode cX5_works 26 = .ok (.ireturn, 1) := by decide +kernel
theorem dX5_works_27 : decode cX5_works 27 = .ok (.aload_n 0, 1) := by decide +kernel
theorem dX5_works_28 : decode cX5_works 28 = .ok (.getfield 28, 3) := by decide +kernel
theorem dX5_works_31 : decode cX5_works 31 = .ok (.invokevirtual 158, 3) := by decide +kernel
theorem dX5_works_34 : decode cX5_works 34 = .ok (.ifCond .ne 6, 3) := by decide +kernel
theorem dX5_works_37 : decode cX5_works 37 = .ok (.bipush (-3), 2) := by decide +kernel
theorem dX5_works_39 : decode cX5_works 39 = .ok (.ireturn, 1) := by decide +kernel
theorem dX5_works_40 : decode cX5_works 40 = .ok (.aload_n 0, 1) := by decide +kernel
theorem dX5_works_41 : decode cX5_works 41 = .ok (.getfield 28, 3) := by decide +kernel
theorem dX5_works_44 : decode cX5_works 44 = .ok (.invokevirtual 174, 3) := by decide +kernel
theorem dX5_works_47 : decode cX5_works 47 = .ok (.ifCond .eq 15, 3) := by decide +kernel
theorem dX5_works_50 : decode cX5_works 50 = .ok (.aload_n 0, 1) := by decide +kernel
theorem dX5_works_51 : decode cX5_works 51 = .ok (.getfield 28, 3) := by decide +kernel
theorem dX5_works_54 : decode cX5_works 54 = .ok (.iload_n 1, 1) := by decide +kernel
theorem dX5_works_55 : decode cX5_works 55 = .ok (.iload_n 2, 1) := by decide +kernel
theorem dX5_works_56 : decode cX5_works 56 = .ok (.invokevirtual 188, 3) := by decide +kernel
theorem dX5_works_59 : decode cX5_works 59 = .ok (.goto 5, 3) := by decide +kernel
theorem dX5_works_62 : decode cX5_works 62 = .ok (.bipush (-5), 2) := by decide +kernel
theorem dX5_works_64 : decode cX5_works 64 = .ok (.ireturn, 1) := by decide +kernel
set_option maxRecDepth 20000 in
set_option maxHeartbeats 4000000 in
theorem k_B_works (l : Launch) (w : WT) (σ : MM) (k : Int) (t : Int) (i_k : inr k) (i_t : inr t) (hLO : LoopOK σ) (hLa : LayOK σ) : CT SX l w yX5_works cX5_works 3 (some .int) 6 128 [.ref (w.2.2 0), .int (iI k), .int (iI t)] σ (PI fun z σ1 => σ = σ1 ∧ (((k < 0 ∨ σ 56 0 * σ 57 0 ≤ k) ∧ z = -1) ∨ ((0 ≤ k ∧ k < σ 56 0 * σ 57 0) ∧ (((t < 0 ∨ 10000 < t) ∧ z = -2) ∨ ((0 ≤ t ∧ t ≤ 10000) ∧ ((σ 58 0 = 0 ∧ z = -3) ∨ (0 < σ 58 0 ∧ BadX σ ∧ z = -5) ∨ (GoodX σ ∧ ((Fst (fun a => σ 15 a = k ∧ σ 16 a ≤ t ∧ (t - σ 16 a) % σ 58 0 = 0) (σ 53 0) z) ∨ (Non (fun a => σ 15 a = k ∧ σ 16 a ≤ t ∧ (t - σ 16 a) % σ 58 0 = 0) (σ 53 0) ∧ z = -6))))))))) := by
  refine CT.of 0 [some (.ref (w.2.2 0)), some (.int (iI k)), some (.int (iI t))] (by decide +kernel) (by simp [lg_sl, Value.category]) rfl sh_X (fun G hX => ?_)
  refine r_aload_n hX dX5_works_0 rfl ?_
  refine fg_X0_19 hX dX5_works_1 ?_
  refine r_iload_n hX dX5_works_4 rfl ?_
  refine r_callV hX dX5_works_5 (k_Gd_isThere l w σ _ (by omega)) mf_X0_isThere mv_X0_isThere lk_RX5_138 rfl rfl rfl rfl rfl ⟨Nat.le_of_ble_eq_true rfl, Nat.le_of_ble_eq_true rfl⟩ (Nat.le_of_ble_eq_true rfl) (kI fun z5 σ5 hh => ?_)
  obtain ⟨rfl, h5_0⟩ := hh
  refine r_if_ne hX (tgt := 13) dX5_works_8 (by decide) (by omega) (fun c8 => ?_) (fun c8 => ?_)
  · skip
    refine r_iload_n hX dX5_works_13 rfl ?_
    refine r_iconst hX dX5_works_14 ?_
    refine r_sipush hX dX5_works_15 (by decide) ?_
    refine r_callS hX dX5_works_18 (k_B_isWithin l w σ _ _ _ (by omega) (by omega) (by omega)) mf_X5_isWithin ms_X5_isWithin lk_RX5_51 rfl rfl ⟨Nat.le_of_ble_eq_true rfl, Nat.le_of_ble_eq_true rfl⟩ (Nat.le_of_ble_eq_true rfl) (kI fun z18 σ18 hh => ?_)
    obtain ⟨rfl, h18_0⟩ := hh
    refine r_if_ne hX (tgt := 27) dX5_works_21 (by decide) (by omega) (fun c21 => ?_) (fun c21 => ?_)
    · skip
      refine r_aload_n hX dX5_works_27 rfl ?_
      refine fg_X0_28 hX dX5_works_28 ?_
      refine r_callV hX dX5_works_31 (k_Ly_stands l w σ) mf_X1_stands mv_X1_stands lk_RX5_158 rfl rfl rfl rfl rfl ⟨Nat.le_of_ble_eq_true rfl, Nat.le_of_ble_eq_true rfl⟩ (Nat.le_of_ble_eq_true rfl) (kI fun z31 σ31 hh => ?_)
      obtain ⟨rfl, h31_0⟩ := hh
      refine r_if_ne hX (tgt := 40) dX5_works_34 (by decide) (by omega) (fun c34 => ?_) (fun c34 => ?_)
      · skip
        refine r_aload_n hX dX5_works_40 rfl ?_
        refine fg_X0_28 hX dX5_works_41 ?_
        refine r_callV hX dX5_works_44 (k_Ly_isGood l w σ (hLO) (hLa)) mf_X1_isGood mv_X1_isGood lk_RX5_174 rfl rfl rfl rfl rfl ⟨Nat.le_of_ble_eq_true rfl, Nat.le_of_ble_eq_true rfl⟩ (Nat.le_of_ble_eq_true rfl) (kI fun z44 σ44 hh => ?_)
        obtain ⟨rfl, h44_0⟩ := hh
        have hb58 : 0 < σ 58 0 := by clear h44_0; omega
        have hg := good_of h44_0 hb58
        clear h44_0
        refine r_if_eq hX (tgt := 62) dX5_works_47 (by decide) (by omega) (fun c47 => ?_) (fun c47 => ?_)
        · skip
          refine r_bipush hX dX5_works_62 (by decide) ?_
          exact r_iret hX dX5_works_64 rfl ⟨_, rfl, ⟨rfl, (by refine Or.inr ⟨by omega, Or.inr ⟨by omega, ?_⟩⟩; rcases hg with ⟨q, g⟩ | ⟨q, g⟩ <;> first | omega | exact Or.inr (Or.inr ⟨g, h56_0⟩) | exact Or.inr (Or.inl ⟨by omega, g, rfl⟩))⟩⟩
        · skip
          refine r_aload_n hX dX5_works_50 rfl ?_
          refine fg_X0_28 hX dX5_works_51 ?_
          refine r_iload_n hX dX5_works_54 rfl ?_
          refine r_iload_n hX dX5_works_55 rfl ?_
          refine r_callV hX dX5_works_56 (k_Ly_actStarting l w σ _ _ (by omega) (by omega) (by omega) (by omega)) mf_X1_actStarting mv_X1_actStarting lk_RX5_188 rfl rfl rfl rfl rfl ⟨Nat.le_of_ble_eq_true rfl, Nat.le_of_ble_eq_true rfl⟩ (Nat.le_of_ble_eq_true rfl) (kI fun z56 σ56 hh => ?_)
          obtain ⟨rfl, h56_0, h56_1⟩ := hh
          refine r_goto hX dX5_works_59 (tgt := 64) (by decide) ?_
          exact r_iret hX dX5_works_64 rfl ⟨_, rfl, ⟨rfl, (by refine Or.inr ⟨by omega, Or.inr ⟨by omega, ?_⟩⟩; rcases hg with ⟨q, g⟩ | ⟨q, g⟩ <;> first | omega | exact Or.inr (Or.inr ⟨g, h56_0⟩) | exact Or.inr (Or.inl ⟨by omega, g, rfl⟩))⟩⟩
      · skip
        refine r_bipush hX dX5_works_37 (by decide) ?_
        exact r_iret hX dX5_works_39 rfl ⟨_, rfl, ⟨rfl, (by exact Or.inr ⟨by omega, Or.inr ⟨by omega, Or.inl ⟨by omega, rfl⟩⟩⟩)⟩⟩
    · skip
      refine r_bipush hX dX5_works_24 (by decide) ?_
      exact r_iret hX dX5_works_26 rfl ⟨_, rfl, ⟨rfl, (by exact Or.inr ⟨by omega, Or.inl ⟨by omega, rfl⟩⟩)⟩⟩
  · skip
    refine r_iconst hX dX5_works_11 ?_
    exact r_iret hX dX5_works_12 rfl ⟨_, rfl, ⟨rfl, (by exact Or.inl ⟨by omega, rfl⟩)⟩⟩
theorem dX5_stepped_0 : decode cX5_stepped 0 = .ok (.aload_n 0, 1) := by decide +kernel
theorem dX5_stepped_1 : decode cX5_stepped 1 = .ok (.getfield 82, 3) := by decide +kernel
theorem dX5_stepped_4 : decode cX5_stepped 4 = .ok (.ifCond .ne 7, 3) := by decide +kernel
theorem dX5_stepped_7 : decode cX5_stepped 7 = .ok (.ldc2_w 186, 3) := by decide +kernel
theorem dX5_stepped_10 : decode cX5_stepped 10 = .ok (.lreturn, 1) := by decide +kernel
theorem dX5_stepped_11 : decode cX5_stepped 11 = .ok (.aload_n 0, 1) := by decide +kernel
theorem dX5_stepped_12 : decode cX5_stepped 12 = .ok (.getfield 12, 3) := by decide +kernel
theorem dX5_stepped_15 : decode cX5_stepped 15 = .ok (.iload_n 1, 1) := by decide +kernel
theorem dX5_stepped_16 : decode cX5_stepped 16 = .ok (.invokevirtual 95, 3) := by decide +kernel
theorem dX5_stepped_19 : decode cX5_stepped 19 = .ok (.ifCond .eq 17, 3) := by decide +kernel
theorem dX5_stepped_22 : decode cX5_stepped 22 = .ok (.iload_n 2, 1) := by decide +kernel
theorem dX5_stepped_23 : decode cX5_stepped 23 = .ok (.iconst 0, 1) := by decide +kernel
theorem dX5_stepped_24 : decode cX5_stepped 24 = .ok (.aload_n 0, 1) := by decide +kernel
theorem dX5_stepped_25 : decode cX5_stepped 25 = .ok (.getfield 82, 3) := by decide +kernel
theorem dX5_stepped_28 : decode cX5_stepped 28 = .ok (.iconst 1, 1) := by decide +kernel
theorem dX5_stepped_29 : decode cX5_stepped 29 = .ok (.isub, 1) := by decide +kernel
theorem dX5_stepped_30 : decode cX5_stepped 30 = .ok (.invokestatic 51, 3) := by decide +kernel
theorem dX5_stepped_33 : decode cX5_stepped 33 = .ok (.ifCond .ne 7, 3) := by decide +kernel
theorem dX5_stepped_36 : decode cX5_stepped 36 = .ok (.ldc2_w 99, 3) := by decide +kernel
theorem dX5_stepped_39 : decode cX5_stepped 39 = .ok (.lreturn, 1) := by decide +kernel
theorem dX5_stepped_40 : decode cX5_stepped 40 = .ok (.aload_n 0, 1) := by decide +kernel
theorem dX5_stepped_41 : decode cX5_stepped 41 = .ok (.getfield 48, 3) := by decide +kernel
theorem dX5_stepped_44 : decode cX5_stepped 44 = .ok (.iload_n 1, 1) := by decide +kernel
theorem dX5_stepped_45 : decode cX5_stepped 45 = .ok (.iload_n 2, 1) := by decide +kernel
theorem dX5_stepped_46 : decode cX5_stepped 46 = .ok (.invokevirtual 106, 3) := by decide +kernel
theorem dX5_stepped_49 : decode cX5_stepped 49 = .ok (.i2l, 1) := by decide +kernel
theorem dX5_stepped_50 : decode cX5_stepped 50 = .ok (.lreturn, 1) := by decide +kernel
set_option maxRecDepth 20000 in
set_option maxHeartbeats 4000000 in
theorem k_B_stepped (l : Launch) (w : WT) (σ : MM) (a : Int) (r : Int) (i_a : inr a) (i_r : inr r) : CT SX l w yX5_stepped cX5_stepped 3 (some .long) 2 43 [.ref (w.2.2 0), .int (iI a), .int (iI r)] σ (PL fun z σ1 => σ = σ1 ∧ ((σ 51 0 = 0 ∧ z = -10000000003) ∨ (σ 51 0 ≠ 0 ∧ (a < 0 ∨ σ 53 0 ≤ a ∨ r < 0 ∨ σ 51 0 ≤ r) ∧ z = -10000000001) ∨ (σ 51 0 ≠ 0 ∧ (0 ≤ a ∧ a < σ 53 0 ∧ 0 ≤ r ∧ r < σ 51 0) ∧ z = (iI (σ 26 (a * 61 + r))).toInt))) := by
  refine CT.of 0 [some (.ref (w.2.2 0)), some (.int (iI a)), some (.int (iI r))] (by decide +kernel) (by simp [lg_sl, Value.category]) rfl sh_X (fun G hX => ?_)
  refine r_bd hX (fun hBd => ?_)
  have b_51 := hBd 51 0 60 rfl 0
  have b_53 := hBd 53 0 8 rfl 0
  refine r_aload_n hX dX5_stepped_0 rfl ?_
  refine fg_X0_82 hX dX5_stepped_1 (fun b1l b1u => ?_)
  refine r_if_ne hX (tgt := 11) dX5_stepped_4 (by decide) (by omega) (fun c4 => ?_) (fun c4 => ?_)
  · skip
    refine r_aload_n hX dX5_stepped_11 rfl ?_
    refine fg_X0_12 hX dX5_stepped_12 ?_
    refine r_iload_n hX dX5_stepped_15 rfl ?_
    refine r_callV hX dX5_stepped_16 (k_Lp_isThere l w σ _ (by omega)) mf_X2_isThere mv_X2_isThere lk_RX5_95 rfl rfl rfl rfl rfl ⟨Nat.le_of_ble_eq_true rfl, Nat.le_of_ble_eq_true rfl⟩ (Nat.le_of_ble_eq_true rfl) (kI fun z16 σ16 hh => ?_)
    obtain ⟨rfl, h16_0⟩ := hh
    refine r_if_eq hX (tgt := 36) dX5_stepped_19 (by decide) (by omega) (fun c19 => ?_) (fun c19 => ?_)
    · skip
      refine r_ldc2 hX dX5_stepped_36 lc_RX5_99 ?_
      exact r_lret hX dX5_stepped_39 rfl ⟨_, rfl, ⟨rfl, (by omega)⟩⟩
    · skip
      refine r_iload_n hX dX5_stepped_22 rfl ?_
      refine r_iconst hX dX5_stepped_23 ?_
      refine r_aload_n hX dX5_stepped_24 rfl ?_
      refine fg_X0_82 hX dX5_stepped_25 (fun b25l b25u => ?_)
      refine r_iconst hX dX5_stepped_28 ?_
      refine r_isub hX dX5_stepped_29 ?_
      refine r_callS hX dX5_stepped_30 (k_B_isWithin l w σ _ _ _ (by omega) (by omega) (by omega)) mf_X5_isWithin ms_X5_isWithin lk_RX5_51 rfl rfl ⟨Nat.le_of_ble_eq_true rfl, Nat.le_of_ble_eq_true rfl⟩ (Nat.le_of_ble_eq_true rfl) (kI fun z30 σ30 hh => ?_)
      obtain ⟨rfl, h30_0⟩ := hh
      refine r_if_ne hX (tgt := 40) dX5_stepped_33 (by decide) (by omega) (fun c33 => ?_) (fun c33 => ?_)
      · skip
        refine r_aload_n hX dX5_stepped_40 rfl ?_
        refine fg_X0_48 hX dX5_stepped_41 ?_
        refine r_iload_n hX dX5_stepped_44 rfl ?_
        refine r_iload_n hX dX5_stepped_45 rfl ?_
        refine r_callV hX dX5_stepped_46 (k_V2_at l w σ _ _ (by omega) (by omega)) mf_X4_at mv_X4_at lk_RX5_106 rfl rfl rfl rfl rfl ⟨Nat.le_of_ble_eq_true rfl, Nat.le_of_ble_eq_true rfl⟩ (Nat.le_of_ble_eq_true rfl) (kI fun z46 σ46 hh => ?_)
        obtain ⟨rfl, h46_0⟩ := hh
        obtain rfl : z46 = σ 26 (a * 61 + r) := by omega
        refine r_i2lR hX dX5_stepped_49 ?_
        exact r_lret hX dX5_stepped_50 rfl ⟨_, rfl, ⟨rfl, (by omega)⟩⟩
      · skip
        refine r_ldc2 hX dX5_stepped_36 lc_RX5_99 ?_
        exact r_lret hX dX5_stepped_39 rfl ⟨_, rfl, ⟨rfl, (by omega)⟩⟩
  · skip
    refine r_ldc2 hX dX5_stepped_7 lc_RX5_186 ?_
    exact r_lret hX dX5_stepped_10 rfl ⟨_, rfl, ⟨rfl, (by omega)⟩⟩
theorem dX5_plain_0 : decode cX5_plain 0 = .ok (.aload_n 0, 1) := by decide +kernel
theorem dX5_plain_1 : decode cX5_plain 1 = .ok (.getfield 12, 3) := by decide +kernel
theorem dX5_plain_4 : decode cX5_plain 4 = .ok (.iload_n 1, 1) := by decide +kernel
theorem dX5_plain_5 : decode cX5_plain 5 = .ok (.invokevirtual 95, 3) := by decide +kernel
theorem dX5_plain_8 : decode cX5_plain 8 = .ok (.ifCond .eq 13, 3) := by decide +kernel
theorem dX5_plain_11 : decode cX5_plain 11 = .ok (.iload_n 2, 1) := by decide +kernel
theorem dX5_plain_12 : decode cX5_plain 12 = .ok (.iconst 0, 1) := by decide +kernel
theorem dX5_plain_13 : decode cX5_plain 13 = .ok (.bipush 60, 2) := by decide +kernel
theorem dX5_plain_15 : decode cX5_plain 15 = .ok (.invokestatic 51, 3) := by decide +kernel
theorem dX5_plain_18 : decode cX5_plain 18 = .ok (.ifCond .ne 7, 3) := by decide +kernel
theorem dX5_plain_21 : decode cX5_plain 21 = .ok (.ldc2_w 99, 3) := by decide +kernel
theorem dX5_plain_24 : decode cX5_plain 24 = .ok (.lreturn, 1) := by decide +kernel
theorem dX5_plain_25 : decode cX5_plain 25 = .ok (.aload_n 0, 1) := by decide +kernel
theorem dX5_plain_26 : decode cX5_plain 26 = .ok (.getfield 12, 3) := by decide +kernel
theorem dX5_plain_29 : decode cX5_plain 29 = .ok (.invokevirtual 91, 3) := by decide +kernel
theorem dX5_plain_32 : decode cX5_plain 32 = .ok (.ifCond .ne 7, 3) := by decide +kernel
theorem dX5_plain_35 : decode cX5_plain 35 = .ok (.ldc2_w 101, 3) := by decide +kernel
theorem dX5_plain_38 : decode cX5_plain 38 = .ok (.lreturn, 1) := by decide +kernel
theorem dX5_plain_39 : decode cX5_plain 39 = .ok (.aload_n 0, 1) := by decide +kernel
theorem dX5_plain_40 : decode cX5_plain 40 = .ok (.getfield 78, 3) := by decide +kernel
theorem dX5_plain_43 : decode cX5_plain 43 = .ok (.iload_n 2, 1) := by decide +kernel
theorem dX5_plain_44 : decode cX5_plain 44 = .ok (.if_icmp .gt 27, 3) := by decide +kernel
theorem dX5_plain_47 : decode cX5_plain 47 = .ok (.aload_n 0, 1) := by decide +kernel
theorem dX5_plain_48 : decode cX5_plain 48 = .ok (.getfield 44, 3) := by decide +kernel
theorem dX5_plain_51 : decode cX5_plain 51 = .ok (.aload_n 0, 1) := by decide +kernel
theorem dX5_plain_52 : decode cX5_plain 52 = .ok (.getfield 78, 3) := by decide +kernel
theorem dX5_plain_55 : decode cX5_plain 55 = .ok (.invokevirtual 103, 3) := by decide +kernel
theorem dX5_plain_58 : decode cX5_plain 58 = .ok (.aload_n 0, 1) := by decide +kernel
theorem dX5_plain_59 : decode cX5_plain 59 = .ok (.dup, 1) := by decide +kernel
theorem dX5_plain_60 : decode cX5_plain 60 = .ok (.getfield 78, 3) := by decide +kernel
theorem dX5_plain_63 : decode cX5_plain 63 = .ok (.iconst 1, 1) := by decide +kernel
theorem dX5_plain_64 : decode cX5_plain 64 = .ok (.iadd, 1) := by decide +kernel
theorem dX5_plain_65 : decode cX5_plain 65 = .ok (.putfield 78, 3) := by decide +kernel
theorem dX5_plain_68 : decode cX5_plain 68 = .ok (.goto (-29), 3) := by decide +kernel
theorem dX5_plain_71 : decode cX5_plain 71 = .ok (.aload_n 0, 1) := by decide +kernel
theorem dX5_plain_72 : decode cX5_plain 72 = .ok (.getfield 44, 3) := by decide +kernel
theorem dX5_plain_75 : decode cX5_plain 75 = .ok (.iload_n 1, 1) := by decide +kernel
theorem dX5_plain_76 : decode cX5_plain 76 = .ok (.iload_n 2, 1) := by decide +kernel
theorem dX5_plain_77 : decode cX5_plain 77 = .ok (.invokevirtual 106, 3) := by decide +kernel
theorem dX5_plain_80 : decode cX5_plain 80 = .ok (.i2l, 1) := by decide +kernel
theorem dX5_plain_81 : decode cX5_plain 81 = .ok (.lreturn, 1) := by decide +kernel
set_option maxRecDepth 20000 in
set_option maxHeartbeats 4000000 in
theorem k_B_plain (l : Launch) (w : WT) (σ : MM) (a : Int) (r : Int) (i_a : inr a) (i_r : inr r) (hLO : LoopOK σ) (hD : DatOK σ) (hP : EQs σ (σ 24) (σ 50 0)) : CT SX l w yX5_plain cX5_plain 3 (some .long) 6 134 [.ref (w.2.2 0), .int (iI a), .int (iI r)] σ (PL fun z σ1 => Mod [24, 50] σ σ1 ∧ (((a < 0 ∨ σ 53 0 ≤ a ∨ r < 0 ∨ 60 < r) ∧ z = -10000000001 ∧ σ1 = σ) ∨ ((0 ≤ a ∧ a < σ 53 0 ∧ 0 ≤ r ∧ r ≤ 60) ∧ ((σ 54 0 ≠ σ 53 0 ∧ z = -10000000005 ∧ σ1 = σ) ∨ (σ 54 0 = σ 53 0 ∧ EQs σ (σ1 24) (σ1 50 0) ∧ r < σ1 50 0 ∧ z = (iI (σ1 24 (a * 61 + r))).toInt))))) := by
  refine CT.of 0 [some (.ref (w.2.2 0)), some (.int (iI a)), some (.int (iI r))] (by decide +kernel) (by simp [lg_sl, Value.category]) rfl sh_X (fun G hX => ?_)
  refine r_bd hX (fun hBd => ?_)
  have b_50 := hBd 50 0 61 rfl 0
  have b_53 := hBd 53 0 8 rfl 0
  refine r_aload_n hX dX5_plain_0 rfl ?_
  refine fg_X0_12 hX dX5_plain_1 ?_
  refine r_iload_n hX dX5_plain_4 rfl ?_
  refine r_callV hX dX5_plain_5 (k_Lp_isThere l w σ _ (by omega)) mf_X2_isThere mv_X2_isThere lk_RX5_95 rfl rfl rfl rfl rfl ⟨Nat.le_of_ble_eq_true rfl, Nat.le_of_ble_eq_true rfl⟩ (Nat.le_of_ble_eq_true rfl) (kI fun z5 σ5 hh => ?_)
  obtain ⟨rfl, h5_0⟩ := hh
  refine r_if_eq hX (tgt := 21) dX5_plain_8 (by decide) (by omega) (fun c8 => ?_) (fun c8 => ?_)
  · skip
    refine r_ldc2 hX dX5_plain_21 lc_RX5_99 ?_
    exact r_lret hX dX5_plain_24 rfl ⟨_, rfl, ⟨Mod.rf, (by exact Or.inl ⟨by omega, rfl, rfl⟩)⟩⟩
  · skip
    refine r_iload_n hX dX5_plain_11 rfl ?_
    refine r_iconst hX dX5_plain_12 ?_
    refine r_bipush hX dX5_plain_13 (by decide) ?_
    refine r_callS hX dX5_plain_15 (k_B_isWithin l w σ _ _ _ (by omega) (by omega) (by omega)) mf_X5_isWithin ms_X5_isWithin lk_RX5_51 rfl rfl ⟨Nat.le_of_ble_eq_true rfl, Nat.le_of_ble_eq_true rfl⟩ (Nat.le_of_ble_eq_true rfl) (kI fun z15 σ15 hh => ?_)
    obtain ⟨rfl, h15_0⟩ := hh
    refine r_if_ne hX (tgt := 25) dX5_plain_18 (by decide) (by omega) (fun c18 => ?_) (fun c18 => ?_)
    · skip
      refine r_aload_n hX dX5_plain_25 rfl ?_
      refine fg_X0_12 hX dX5_plain_26 ?_
      refine r_callV hX dX5_plain_29 (k_Lp_isSound l w σ) mf_X2_isSound mv_X2_isSound lk_RX5_91 rfl rfl rfl rfl rfl ⟨Nat.le_of_ble_eq_true rfl, Nat.le_of_ble_eq_true rfl⟩ (Nat.le_of_ble_eq_true rfl) (kI fun z29 σ29 hh => ?_)
      obtain ⟨rfl, h29_0⟩ := hh
      refine r_if_ne hX (tgt := 39) dX5_plain_32 (by decide) (by omega) (fun c32 => ?_) (fun c32 => ?_)
      · skip
        have lp39 : ∀ (n : Nat)  (σ39 : MM) (m39 : Mod [24, 50] σ σ39) (h50 : 0 ≤ σ39 50 0 ∧ σ39 50 0 ≤ 61) (hE : EQs σ (σ39 24) (σ39 50 0)) (hmu : 61 - σ39 50 0 < (n : Int)), G 39 [some (.ref (w.2.2 0)), some (.int (iI a)), some (.int (iI r))] [] σ39 := by
          intro n
          induction n with
          | zero => intro σ39 m39 h50 hE hmu; omega
          | succ n ih =>
            intro σ39 m39 h50 hE hmu
            have ih39 := ih
            clear ih
            refine r_aload_n hX dX5_plain_39 rfl ?_
            refine fg_X0_78 hX dX5_plain_40 (fun b40l b40u => ?_)
            refine r_iload_n hX dX5_plain_43 rfl ?_
            refine r_icmp_gt hX (tgt := 71) dX5_plain_44 (by decide) (by omega) (by omega) (fun c44 => ?_) (fun c44 => ?_)
            · skip
              refine r_aload_n hX dX5_plain_71 rfl ?_
              refine fg_X0_44 hX dX5_plain_72 ?_
              refine r_iload_n hX dX5_plain_75 rfl ?_
              refine r_iload_n hX dX5_plain_76 rfl ?_
              refine r_callV hX dX5_plain_77 (k_V1_at l w σ39 _ _ (by omega) (by omega)) mf_X4_at mv_X4_at lk_RX5_106 rfl rfl rfl rfl rfl ⟨Nat.le_of_ble_eq_true rfl, Nat.le_of_ble_eq_true rfl⟩ (Nat.le_of_ble_eq_true rfl) (kI fun z77 σ77 hh => ?_)
              obtain ⟨rfl, h77_0⟩ := hh
              obtain rfl : z77 = σ39 24 (a * 61 + r) := by omega
              refine r_i2lR hX dX5_plain_80 ?_
              exact r_lret hX dX5_plain_81 rfl ⟨_, rfl, ⟨(m39.w rfl), (by exact Or.inr ⟨by omega, Or.inr ⟨by omega, hE, by omega, rfl⟩⟩)⟩⟩
            · skip
              refine r_aload_n hX dX5_plain_47 rfl ?_
              refine fg_X0_44 hX dX5_plain_48 ?_
              refine r_aload_n hX dX5_plain_51 rfl ?_
              refine fg_X0_78 hX dX5_plain_52 (fun b52l b52u => ?_)
              have qp55_53 : σ39 53 = σ 53 := (m39.at 53 rfl)
              have qp55_54 : σ39 54 = σ 54 := (m39.at 54 rfl)
              refine r_callV hX dX5_plain_55 (k_V1_makeRound l w σ39 _ (by omega) (hLO.keep m39 rfl) (by simp only [qp55_53, qp55_54]; omega) (hD.keep m39 rfl) (by omega)) mf_X4_makeRound mv_X4_makeRound lk_RX5_103 rfl rfl rfl rfl rfl ⟨Nat.le_of_ble_eq_true rfl, Nat.le_of_ble_eq_true rfl⟩ (Nat.le_of_ble_eq_true rfl) (kV fun σ55 hh => ?_)
              obtain ⟨m55, h55_0⟩ := hh
              refine r_aload_n hX dX5_plain_58 rfl ?_
              refine r_dup hX dX5_plain_59 rfl ?_
              refine fg_X0_78 hX dX5_plain_60 (fun b60l b60u => ?_)
              have q60 : σ55 50 = σ39 50 := (m55.at 50 rfl)
              rw [q60]
              rw [q60] at b60l b60u
              refine r_iconst hX dX5_plain_63 ?_
              refine r_iadd hX dX5_plain_64 ?_
              refine fp_X0_78 hX dX5_plain_65 (by omega) (fun σ65 m65 s65 => ?_)
              refine r_goto hX dX5_plain_68 (tgt := 39) (by decide) ?_
              exact ih39 σ65 (Mod.tr (L := [24, 50]) (Mod.tr (L := [24, 50]) m39 m55 rfl rfl) m65 rfl rfl) (by rw [s65]; omega) (by rw [s65, m65.at 24 rfl]; exact (EQs_keep m39 rfl _ _).mp (h55_0 ((EQs_keep m39 rfl _ _).mpr hE))) (by omega)
        exact lp39 ((61 - σ 50 0) + 1).toNat σ Mod.rf (b_50) (hP) (by omega)
      · skip
        refine r_ldc2 hX dX5_plain_35 lc_RX5_101 ?_
        exact r_lret hX dX5_plain_38 rfl ⟨_, rfl, ⟨Mod.rf, (by exact Or.inr ⟨by omega, Or.inl ⟨by omega, rfl, rfl⟩⟩)⟩⟩
    · skip
      refine r_ldc2 hX dX5_plain_21 lc_RX5_99 ?_
      exact r_lret hX dX5_plain_24 rfl ⟨_, rfl, ⟨Mod.rf, (by exact Or.inl ⟨by omega, rfl, rfl⟩)⟩⟩
theorem dX5_step_0 : decode cX5_step 0 = .ok (.iload_n 1, 1) := by decide +kernel
theorem dX5_step_1 : decode cX5_step 1 = .ok (.iconst 1, 1) := by decide +kernel
theorem dX5_step_2 : decode cX5_step 2 = .ok (.bipush 60, 2) := by decide +kernel
theorem dX5_step_4 : decode cX5_step 4 = .ok (.invokestatic 51, 3) := by decide +kernel
theorem dX5_step_7 : decode cX5_step 7 = .ok (.ifCond .ne 6, 3) := by decide +kernel
theorem dX5_step_10 : decode cX5_step 10 = .ok (.bipush (-2), 2) := by decide +kernel
theorem dX5_step_12 : decode cX5_step 12 = .ok (.ireturn, 1) := by decide +kernel
theorem dX5_step_13 : decode cX5_step 13 = .ok (.aload_n 0, 1) := by decide +kernel
theorem dX5_step_14 : decode cX5_step 14 = .ok (.getfield 28, 3) := by decide +kernel
theorem dX5_step_17 : decode cX5_step 17 = .ok (.invokevirtual 158, 3) := by decide +kernel
theorem dX5_step_20 : decode cX5_step 20 = .ok (.ifCond .ne 6, 3) := by decide +kernel
theorem dX5_step_23 : decode cX5_step 23 = .ok (.bipush (-3), 2) := by decide +kernel
theorem dX5_step_25 : decode cX5_step 25 = .ok (.ireturn, 1) := by decide +kernel
theorem dX5_step_26 : decode cX5_step 26 = .ok (.aload_n 0, 1) := by decide +kernel
theorem dX5_step_27 : decode cX5_step 27 = .ok (.getfield 28, 3) := by decide +kernel
theorem dX5_step_30 : decode cX5_step 30 = .ok (.invokevirtual 174, 3) := by decide +kernel
theorem dX5_step_33 : decode cX5_step 33 = .ok (.ifCond .ne 6, 3) := by decide +kernel
theorem dX5_step_36 : decode cX5_step 36 = .ok (.bipush (-5), 2) := by decide +kernel
theorem dX5_step_38 : decode cX5_step 38 = .ok (.ireturn, 1) := by decide +kernel
theorem dX5_step_39 : decode cX5_step 39 = .ok (.aload_n 0, 1) := by decide +kernel
theorem dX5_step_40 : decode cX5_step 40 = .ok (.getfield 28, 3) := by decide +kernel
theorem dX5_step_43 : decode cX5_step 43 = .ok (.iload_n 1, 1) := by decide +kernel
theorem dX5_step_44 : decode cX5_step 44 = .ok (.invokevirtual 180, 3) := by decide +kernel
theorem dX5_step_47 : decode cX5_step 47 = .ok (.istore_n 2, 1) := by decide +kernel
theorem dX5_step_48 : decode cX5_step 48 = .ok (.iconst 0, 1) := by decide +kernel
theorem dX5_step_49 : decode cX5_step 49 = .ok (.istore_n 3, 1) := by decide +kernel
theorem dX5_step_50 : decode cX5_step 50 = .ok (.iload_n 3, 1) := by decide +kernel
theorem dX5_step_51 : decode cX5_step 51 = .ok (.iload_n 2, 1) := by decide +kernel
theorem dX5_step_52 : decode cX5_step 52 = .ok (.if_icmp .ge 15, 3) := by decide +kernel
theorem dX5_step_55 : decode cX5_step 55 = .ok (.aload_n 0, 1) := by decide +kernel
theorem dX5_step_56 : decode cX5_step 56 = .ok (.iload_n 3, 1) := by decide +kernel
theorem dX5_step_57 : decode cX5_step 57 = .ok (.iload_n 1, 1) := by decide +kernel
theorem dX5_step_58 : decode cX5_step 58 = .ok (.invokevirtual 183, 3) := by decide +kernel
theorem dX5_step_61 : decode cX5_step 61 = .ok (.iinc 3 1, 3) := by decide +kernel
theorem dX5_step_64 : decode cX5_step 64 = .ok (.goto (-14), 3) := by decide +kernel
theorem dX5_step_67 : decode cX5_step 67 = .ok (.aload_n 0, 1) := by decide +kernel
theorem dX5_step_68 : decode cX5_step 68 = .ok (.iload_n 1, 1) := by decide +kernel
theorem dX5_step_69 : decode cX5_step 69 = .ok (.putfield 82, 3) := by decide +kernel
theorem dX5_step_72 : decode cX5_step 72 = .ok (.iload_n 2, 1) := by decide +kernel
theorem dX5_step_73 : decode cX5_step 73 = .ok (.ireturn, 1) := by decide +kernel
set_option maxRecDepth 20000 in
set_option maxHeartbeats 4000000 in
theorem k_B_step (l : Launch) (w : WT) (σ : MM) (R : Int) (i_R : inr R) (hLO : LoopOK σ) (hD : DatOK σ) (hLa : LayOK σ) : CT SX l w yX5_step cX5_step 4 (some .int) 6 136 [.ref (w.2.2 0), .int (iI R)] σ (PI fun z σ1 => Mod [26, 51] σ σ1 ∧ (((R < 1 ∨ 60 < R) ∧ z = -2 ∧ σ1 = σ) ∨ ((1 ≤ R ∧ R ≤ 60) ∧ ((σ 58 0 = 0 ∧ z = -3 ∧ σ1 = σ) ∨ (0 < σ 58 0 ∧ BadX σ ∧ z = -5 ∧ σ1 = σ) ∨ (GoodX σ ∧ IsMax (fun _ => True) (fun a => madeX σ a + (R - 1) * σ 58 0) (σ 53 0) 0 z ∧ σ1 51 0 = R ∧ EQs σ (σ1 26) R))))) := by
  refine CT.of 2 [some (.ref (w.2.2 0)), some (.int (iI R)), none, none] (by decide +kernel) (by simp [lg_sl, Value.category]) rfl sh_X (fun G hX => ?_)
  refine r_bd hX (fun hBd => ?_)
  have b_53 := hBd 53 0 8 rfl 0
  have b_58 := hBd 58 0 12 rfl 0
  have hst : ∀ a : Int, 0 ≤ σ 16 a := fun a => (hBd 16 0 20000000 rfl a).1
  refine r_iload_n hX dX5_step_0 rfl ?_
  refine r_iconst hX dX5_step_1 ?_
  refine r_bipush hX dX5_step_2 (by decide) ?_
  refine r_callS hX dX5_step_4 (k_B_isWithin l w σ _ _ _ (by omega) (by omega) (by omega)) mf_X5_isWithin ms_X5_isWithin lk_RX5_51 rfl rfl ⟨Nat.le_of_ble_eq_true rfl, Nat.le_of_ble_eq_true rfl⟩ (Nat.le_of_ble_eq_true rfl) (kI fun z4 σ4 hh => ?_)
  obtain ⟨rfl, h4_0⟩ := hh
  refine r_if_ne hX (tgt := 13) dX5_step_7 (by decide) (by omega) (fun c7 => ?_) (fun c7 => ?_)
  · skip
    refine r_aload_n hX dX5_step_13 rfl ?_
    refine fg_X0_28 hX dX5_step_14 ?_
    refine r_callV hX dX5_step_17 (k_Ly_stands l w σ) mf_X1_stands mv_X1_stands lk_RX5_158 rfl rfl rfl rfl rfl ⟨Nat.le_of_ble_eq_true rfl, Nat.le_of_ble_eq_true rfl⟩ (Nat.le_of_ble_eq_true rfl) (kI fun z17 σ17 hh => ?_)
    obtain ⟨rfl, h17_0⟩ := hh
    refine r_if_ne hX (tgt := 26) dX5_step_20 (by decide) (by omega) (fun c20 => ?_) (fun c20 => ?_)
    · skip
      refine r_aload_n hX dX5_step_26 rfl ?_
      refine fg_X0_28 hX dX5_step_27 ?_
      refine r_callV hX dX5_step_30 (k_Ly_isGood l w σ (hLO) (hLa)) mf_X1_isGood mv_X1_isGood lk_RX5_174 rfl rfl rfl rfl rfl ⟨Nat.le_of_ble_eq_true rfl, Nat.le_of_ble_eq_true rfl⟩ (Nat.le_of_ble_eq_true rfl) (kI fun z30 σ30 hh => ?_)
      obtain ⟨rfl, h30_0⟩ := hh
      have hb58 : 0 < σ 58 0 := by clear h30_0; omega
      have hg := good_of h30_0 hb58
      clear h30_0
      refine r_if_ne hX (tgt := 39) dX5_step_33 (by decide) (by omega) (fun c33 => ?_) (fun c33 => ?_)
      · skip
        have hg1 : GoodX σ := cf_yes2 hg (by omega)
        have hlt := hg1.late b_53.2
        refine r_aload_n hX dX5_step_39 rfl ?_
        refine fg_X0_28 hX dX5_step_40 ?_
        refine r_iload_n hX dX5_step_43 rfl ?_
        refine r_callV hX dX5_step_44 (k_Ly_endOf l w σ _ (by omega) (by omega)) mf_X1_endOf mv_X1_endOf lk_RX5_180 rfl rfl rfl rfl rfl ⟨Nat.le_of_ble_eq_true rfl, Nat.le_of_ble_eq_true rfl⟩ (Nat.le_of_ble_eq_true rfl) (kI fun z44 σ44 hh => ?_)
        obtain ⟨rfl, h44_0, h44_1⟩ := hh
        refine r_istore_n hX (fun x47 => [some (.ref (w.2.2 0)), some (.int (iI R)), some (.int (iI x47)), none]) dX5_step_47 (Nat.le_of_ble_eq_true rfl) rfl rfl (fun _ => rfl) (fun x47 e47 => ?_)
        refine r_iconst hX dX5_step_48 ?_
        refine r_istore_n hX (fun x49 => [some (.ref (w.2.2 0)), some (.int (iI R)), some (.int (iI x47)), some (.int (iI x49))]) dX5_step_49 (Nat.le_of_ble_eq_true rfl) rfl rfl (fun _ => rfl) (fun x49 e49 => ?_)
        have lp50 : ∀ (n : Nat) (beat : Int) (σ50 : MM) (m50 : Mod [26] σ σ50) (hb : 0 ≤ beat ∧ beat ≤ x47) (hS : SBx σ (σ50 26) R beat 0) (hmu : 20000801 - beat < (n : Int)), G 50 [some (.ref (w.2.2 0)), some (.int (iI R)), some (.int (iI x47)), some (.int (iI beat))] [] σ50 := by
          intro n
          induction n with
          | zero => intro beat σ50 m50 hb hS hmu; omega
          | succ n ih =>
            intro beat σ50 m50 hb hS hmu
            have ih50 := ih
            clear ih
            refine r_iload_n hX dX5_step_50 rfl ?_
            refine r_iload_n hX dX5_step_51 rfl ?_
            refine r_icmp_ge hX (tgt := 67) dX5_step_52 (by decide) (by omega) (by omega) (fun c52 => ?_) (fun c52 => ?_)
            · skip
              refine r_aload_n hX dX5_step_67 rfl ?_
              refine r_iload_n hX dX5_step_68 rfl ?_
              refine fp_X0_82 hX dX5_step_69 (by omega) (fun σ69 m69 s69 => ?_)
              refine r_iload_n hX dX5_step_72 rfl ?_
              exact r_iret hX dX5_step_73 rfl ⟨_, rfl, ⟨(Mod.tr (L := [26, 51]) m50 m69 rfl rfl), (by refine Or.inr ⟨by omega, Or.inr (Or.inr ⟨hg1, by rw [e47]; exact h44_0, s69, ?_⟩)⟩; (rw [m69.at 26 rfl]; exact hS.fin (by omega) (fun a a0 a1 => by have h9 := h44_0.2.1 a a0 a1 trivial; simp only at h9; omega)))⟩⟩
            · skip
              refine r_aload_n hX dX5_step_55 rfl ?_
              refine r_iload_n hX dX5_step_56 rfl ?_
              refine r_iload_n hX dX5_step_57 rfl ?_
              have qp58_53 : σ50 53 = σ 53 := (m50.at 53 rfl)
              have qp58_54 : σ50 54 = σ 54 := (m50.at 54 rfl)
              have qp58_58 : σ50 58 = σ 58 := (m50.at 58 rfl)
              have qp58_53 : σ50 53 = σ 53 := (m50.at 53 rfl)
              refine r_callV hX dX5_step_58 (k_B_stepBeat l w σ50 _ _ (by omega) (by omega) (hLO.keep m50 rfl) (by simp only [qp58_53, qp58_54]; exact hg1.2.1) (hD.keep m50 rfl) (by simp only [qp58_58]; exact hg1.1) (by rw [P4x_keep m50 rfl]; simp only [qp58_53]; exact hlt) (by omega) (by omega)) mf_X5_stepBeat mv_X5_stepBeat lk_RX5_183 rfl rfl rfl rfl rfl ⟨Nat.le_of_ble_eq_true rfl, Nat.le_of_ble_eq_true rfl⟩ (Nat.le_of_ble_eq_true rfl) (kV fun σ58 hh => ?_)
              obtain ⟨m58, h58_0⟩ := hh
              refine r_iinc hX (fun x61 => [some (.ref (w.2.2 0)), some (.int (iI R)), some (.int (iI x47)), some (.int (iI x61))]) dX5_step_61 rfl rfl rfl (fun _ => rfl) (fun x61 e61 => ?_)
              refine r_goto hX dX5_step_64 (tgt := 50) (by decide) ?_
              exact ih50 x61 σ58 (Mod.tr (L := [26]) m50 m58 rfl rfl) (by omega) (by rw [e61]; exact (SBx_keep m50 rfl _ _ _ _).mp (h58_0 ((SBx_keep m50 rfl _ _ _ _).mpr hS))) (by omega)
        exact lp50 ((20000801 - (x49)) + 1).toNat x49 σ Mod.rf (by omega) (by rw [e49]; exact SBx.init hst (by omega)) (by omega)
      · skip
        refine r_bipush hX dX5_step_36 (by decide) ?_
        exact r_iret hX dX5_step_38 rfl ⟨_, rfl, ⟨Mod.rf, (by exact Or.inr ⟨by omega, Or.inr (Or.inl ⟨by omega, cf_no2 hg (by omega), rfl, rfl⟩)⟩)⟩⟩
    · skip
      refine r_bipush hX dX5_step_23 (by decide) ?_
      exact r_iret hX dX5_step_25 rfl ⟨_, rfl, ⟨Mod.rf, (by exact Or.inr ⟨by omega, Or.inl ⟨by omega, rfl, rfl⟩⟩)⟩⟩
  · skip
    refine r_bipush hX dX5_step_10 (by decide) ?_
    exact r_iret hX dX5_step_12 rfl ⟨_, rfl, ⟨Mod.rf, (by exact Or.inl ⟨by omega, rfl, rfl⟩)⟩⟩
theorem dX5_find_0 : decode cX5_find 0 = .ok (.aload_n 0, 1) := by decide +kernel
theorem dX5_find_1 : decode cX5_find 1 = .ok (.getfield 12, 3) := by decide +kernel
theorem dX5_find_4 : decode cX5_find 4 = .ok (.invokevirtual 85, 3) := by decide +kernel
theorem dX5_find_7 : decode cX5_find 7 = .ok (.ifCond .ne 6, 3) := by decide +kernel
theorem dX5_find_10 : decode cX5_find 10 = .ok (.bipush (-3), 2) := by decide +kernel
theorem dX5_find_12 : decode cX5_find 12 = .ok (.ireturn, 1) := by decide +kernel
theorem dX5_find_13 : decode cX5_find 13 = .ok (.aload_n 0, 1) := by decide +kernel
theorem dX5_find_14 : decode cX5_find 14 = .ok (.getfield 12, 3) := by decide +kernel
theorem dX5_find_17 : decode cX5_find 17 = .ok (.invokevirtual 91, 3) := by decide +kernel
theorem dX5_find_20 : decode cX5_find 20 = .ok (.ifCond .ne 6, 3) := by decide +kernel
theorem dX5_find_23 : decode cX5_find 23 = .ok (.bipush (-5), 2) := by decide +kernel
theorem dX5_find_25 : decode cX5_find 25 = .ok (.ireturn, 1) := by decide +kernel
theorem dX5_find_26 : decode cX5_find 26 = .ok (.aload_n 0, 1) := by decide +kernel
theorem dX5_find_27 : decode cX5_find 27 = .ok (.invokevirtual 191, 3) := by decide +kernel
theorem dX5_find_30 : decode cX5_find 30 = .ok (.istore_n 1, 1) := by decide +kernel
theorem dX5_find_31 : decode cX5_find 31 = .ok (.iconst 0, 1) := by decide +kernel
theorem dX5_find_32 : decode cX5_find 32 = .ok (.istore_n 2, 1) := by decide +kernel
theorem dX5_find_33 : decode cX5_find 33 = .ok (.iload_n 1, 1) := by decide +kernel
theorem dX5_find_34 : decode cX5_find 34 = .ok (.bipush (-6), 2) := by decide +kernel
theorem dX5_find_36 : decode cX5_find 36 = .ok (.if_icmp .ne 8, 3) := by decide +kernel
theorem dX5_find_39 : decode cX5_find 39 = .ok (.bipush 13, 2) := by decide +kernel
theorem dX5_find_41 : decode cX5_find 41 = .ok (.goto 14, 3) := by decide +kernel
theorem dX5_find_44 : decode cX5_find 44 = .ok (.iload_n 1, 1) := by decide +kernel
theorem dX5_find_45 : decode cX5_find 45 = .ok (.aload_n 0, 1) := by decide +kernel
theorem dX5_find_46 : decode cX5_find 46 = .ok (.getfield 12, 3) := by decide +kernel
theorem dX5_find_49 : decode cX5_find 49 = .ok (.invokevirtual 194, 3) := by decide +kernel
theorem dX5_find_52 : decode cX5_find 52 = .ok (.invokestatic 197, 3) := by decide +kernel
theorem dX5_find_55 : decode cX5_find 55 = .ok (.istore_n 3, 1) := by decide +kernel
theorem dX5_find_56 : decode cX5_find 56 = .ok (.iload_n 3, 1) := by decide +kernel
theorem dX5_find_57 : decode cX5_find 57 = .ok (.istore 4, 2) := by decide +kernel
theorem dX5_find_59 : decode cX5_find 59 = .ok (.iload 4, 2) := by decide +kernel
theorem dX5_find_61 : decode cX5_find 61 = .ok (.bipush 12, 2) := by decide +kernel
theorem dX5_find_63 : decode cX5_find 63 = .ok (.if_icmp .gt 61, 3) := by decide +kernel
theorem dX5_find_66 : decode cX5_find 66 = .ok (.aload_n 0, 1) := by decide +kernel
theorem dX5_find_67 : decode cX5_find 67 = .ok (.getfield 35, 3) := by decide +kernel
theorem dX5_find_70 : decode cX5_find 70 = .ok (.iload 4, 2) := by decide +kernel
theorem dX5_find_72 : decode cX5_find 72 = .ok (.invokevirtual 202, 3) := by decide +kernel
theorem dX5_find_75 : decode cX5_find 75 = .ok (.istore 5, 2) := by decide +kernel
theorem dX5_find_77 : decode cX5_find 77 = .ok (.iload 5, 2) := by decide +kernel
theorem dX5_find_79 : decode cX5_find 79 = .ok (.bipush (-7), 2) := by decide +kernel
theorem dX5_find_81 : decode cX5_find 81 = .ok (.if_icmp .ne 6, 3) := by decide +kernel
theorem dX5_find_84 : decode cX5_find 84 = .ok (.bipush (-7), 2) := by decide +kernel
theorem dX5_find_86 : decode cX5_find 86 = .ok (.ireturn, 1) := by decide +kernel
theorem dX5_find_87 : decode cX5_find 87 = .ok (.iload_n 2, 1) := by decide +kernel
theorem dX5_find_88 : decode cX5_find 88 = .ok (.aload_n 0, 1) := by decide +kernel
theorem dX5_find_89 : decode cX5_find 89 = .ok (.getfield 35, 3) := by decide +kernel
theorem dX5_find_92 : decode cX5_find 92 = .ok (.invokevirtual 205, 3) := by decide +kernel
theorem dX5_find_95 : decode cX5_find 95 = .ok (.iadd, 1) := by decide +kernel
theorem dX5_find_96 : decode cX5_find 96 = .ok (.istore_n 2, 1) := by decide +kernel
theorem dX5_find_97 : decode cX5_find 97 = .ok (.iload 5, 2) := by decide +kernel
theorem dX5_find_99 : decode cX5_find 99 = .ok (.iload 4, 2) := by decide +kernel
theorem dX5_find_101 : decode cX5_find 101 = .ok (.if_icmp .ne 17, 3) := by decide +kernel
theorem dX5_find_104 : decode cX5_find 104 = .ok (.aload_n 0, 1) := by decide +kernel
theorem dX5_find_105 : decode cX5_find 105 = .ok (.iload 4, 2) := by decide +kernel
theorem dX5_find_107 : decode cX5_find 107 = .ok (.invokevirtual 208, 3) := by decide +kernel
theorem dX5_find_110 : decode cX5_find 110 = .ok (.aload_n 0, 1) := by decide +kernel
theorem dX5_find_111 : decode cX5_find 111 = .ok (.iload_n 2, 1) := by decide +kernel
theorem dX5_find_112 : decode cX5_find 112 = .ok (.putfield 211, 3) := by decide +kernel
theorem dX5_find_115 : decode cX5_find 115 = .ok (.iload 4, 2) := by decide +kernel
theorem dX5_find_117 : decode cX5_find 117 = .ok (.ireturn, 1) := by decide +kernel
theorem dX5_find_118 : decode cX5_find 118 = .ok (.iinc 4 1, 3) := by decide +kernel
theorem dX5_find_121 : decode cX5_find 121 = .ok (.goto (-62), 3) := by decide +kernel
theorem dX5_find_124 : decode cX5_find 124 = .ok (.aload_n 0, 1) := by decide +kernel
theorem dX5_find_125 : decode cX5_find 125 = .ok (.iload_n 2, 1) := by decide +kernel
theorem dX5_find_126 : decode cX5_find 126 = .ok (.putfield 211, 3) := by decide +kernel
theorem dX5_find_129 : decode cX5_find 129 = .ok (.bipush (-6), 2) := by decide +kernel
theorem dX5_find_131 : decode cX5_find 131 = .ok (.ireturn, 1) := by decide +kernel
set_option maxRecDepth 20000 in
set_option maxHeartbeats 4000000 in
theorem k_B_find (l : Launch) (w : WT) (σ : MM) : CT SX l w yX5_find cX5_find 6 (some .int) 6 138 [.ref (w.2.2 0)] σ (PI fun z σ1 => Mod [9, 15, 16, 18, 19, 20, 21, 22, 51, 52, 58, 59, 60] σ σ1 ∧ (FndX σ σ1 z)) := by
  refine CT.of 5 [some (.ref (w.2.2 0)), none, none, none, none, none] (by decide +kernel) (by simp [lg_sl, Value.category]) rfl sh_X (fun G hX => ?_)
  refine r_bd hX (fun hBd => ?_)
  have b_53 := hBd 53 0 8 rfl 0
  have b_56 := hBd 56 1 3 rfl 0
  have b_57 := hBd 57 1 3 rfl 0
  refine r_aload_n hX dX5_find_0 rfl ?_
  refine fg_X0_12 hX dX5_find_1 ?_
  refine r_callV hX dX5_find_4 (k_Lp_count l w σ) mf_X2_count mv_X2_count lk_RX5_85 rfl rfl rfl rfl rfl ⟨Nat.le_of_ble_eq_true rfl, Nat.le_of_ble_eq_true rfl⟩ (Nat.le_of_ble_eq_true rfl) (kI fun z4 σ4 hh => ?_)
  obtain ⟨rfl, h4_0, h4_1⟩ := hh
  refine r_if_ne hX (tgt := 13) dX5_find_7 (by decide) (by omega) (fun c7 => ?_) (fun c7 => ?_)
  · skip
    refine r_aload_n hX dX5_find_13 rfl ?_
    refine fg_X0_12 hX dX5_find_14 ?_
    refine r_callV hX dX5_find_17 (k_Lp_isSound l w σ) mf_X2_isSound mv_X2_isSound lk_RX5_91 rfl rfl rfl rfl rfl ⟨Nat.le_of_ble_eq_true rfl, Nat.le_of_ble_eq_true rfl⟩ (Nat.le_of_ble_eq_true rfl) (kI fun z17 σ17 hh => ?_)
    obtain ⟨rfl, h17_0⟩ := hh
    refine r_if_ne hX (tgt := 26) dX5_find_20 (by decide) (by omega) (fun c20 => ?_) (fun c20 => ?_)
    · skip
      refine r_aload_n hX dX5_find_26 rfl ?_
      refine r_callV hX dX5_find_27 (k_B_placesBound l w σ) mf_X5_placesBound mv_X5_placesBound lk_RX5_191 rfl rfl rfl rfl rfl ⟨Nat.le_of_ble_eq_true rfl, Nat.le_of_ble_eq_true rfl⟩ (Nat.le_of_ble_eq_true rfl) (kI fun z27 σ27 hh => ?_)
      obtain ⟨rfl, h27_0, h27_1⟩ := hh
      refine r_istore_n hX (fun x30 => [some (.ref (w.2.2 0)), some (.int (iI x30)), none, none, none, none]) dX5_find_30 (Nat.le_of_ble_eq_true rfl) rfl rfl (fun _ => rfl) (fun x30 e30 => ?_)
      refine r_iconst hX dX5_find_31 ?_
      refine r_istore_n hX (fun x32 => [some (.ref (w.2.2 0)), some (.int (iI x30)), some (.int (iI x32)), none, none, none]) dX5_find_32 (Nat.le_of_ble_eq_true rfl) rfl rfl (fun _ => rfl) (fun x32 e32 => ?_)
      have hpb : PBX σ x30 := e30 ▸ h27_0
      refine r_iload_n hX dX5_find_33 rfl ?_
      refine r_bipush hX dX5_find_34 (by decide) ?_
      refine r_icmp_ne hX (tgt := 44) dX5_find_36 (by decide) (by omega) (by omega) (fun c36 => ?_) (fun c36 => ?_)
      · skip
        refine r_iload_n hX dX5_find_44 rfl ?_
        refine r_aload_n hX dX5_find_45 rfl ?_
        refine fg_X0_12 hX dX5_find_46 ?_
        refine r_callV hX dX5_find_49 (k_Lp_ringsBound l w σ) mf_X2_ringsBound mv_X2_ringsBound lk_RX5_194 rfl rfl rfl rfl rfl ⟨Nat.le_of_ble_eq_true rfl, Nat.le_of_ble_eq_true rfl⟩ (Nat.le_of_ble_eq_true rfl) (kI fun z49 σ49 hh => ?_)
        obtain ⟨m49, h49_0, h49_1, h49_2⟩ := hh
        have hrb : RBx σ z49 := ⟨h49_0, h49_1, h49_2⟩
        refine r_max hX dX5_find_52 lq_RX5_197 ma_max_s ma_i ma_max_c (Nat.le_of_ble_eq_true rfl) (Nat.le_of_ble_eq_true rfl) (fun z52 h52 => ?_)
        rw [iI_lt (by omega) (by omega)] at h52
        refine r_istore_n hX (fun x55 => [some (.ref (w.2.2 0)), some (.int (iI x30)), some (.int (iI x32)), some (.int (iI x55)), none, none]) dX5_find_55 (Nat.le_of_ble_eq_true rfl) rfl rfl (fun _ => rfl) (fun x55 e55 => ?_)
        try have hls : (x30 < z49 ∧ x55 = z49) ∨ (z49 ≤ x30 ∧ x55 = x30) := by omega
        refine r_iload_n hX dX5_find_56 rfl ?_
        refine r_istore hX (fun x57 => [some (.ref (w.2.2 0)), some (.int (iI x30)), some (.int (iI x32)), some (.int (iI x55)), some (.int (iI x57)), none]) dX5_find_57 (Nat.le_of_ble_eq_true rfl) rfl rfl (fun _ => rfl) (fun x57 e57 => ?_)
        have lp59 : ∀ (n : Nat) (tried : Int) (beat : Int) (σ59 : MM) (m59 : Mod [18, 19, 20, 21, 22, 59, 60] σ49 σ59) (hb : x55 ≤ beat ∧ 1 ≤ beat ∧ beat ≤ 16) (hO : ∀ b : Int, x55 ≤ b → b < beat → OutX σ b 0) (hmu : 20 - beat < (n : Int)), G 59 [some (.ref (w.2.2 0)), some (.int (iI x30)), some (.int (iI tried)), some (.int (iI x55)), some (.int (iI beat)), none] [] σ59 := by
          intro n
          induction n with
          | zero => intro tried beat σ59 m59 hb hO hmu; omega
          | succ n ih =>
            intro tried beat σ59 m59 hb hO hmu
            have ih59 := ih
            clear ih
            refine r_iload hX dX5_find_59 rfl ?_
            refine r_bipush hX dX5_find_61 (by decide) ?_
            refine r_icmp_gt hX (tgt := 124) dX5_find_63 (by decide) (by omega) (by omega) (fun c63 => ?_) (fun c63 => ?_)
            · skip
              refine r_aload_n hX dX5_find_124 rfl ?_
              refine r_iload_n hX dX5_find_125 rfl ?_
              refine fp_X0_211 hX dX5_find_126 (fun σ126 m126 s126 => ?_)
              have hMM2 : Mod [9, 18, 19, 20, 21, 22, 59, 60, 52] σ σ126 := (Mod.tr (L := [9, 18, 19, 20, 21, 22, 59, 60, 52]) (Mod.tr (L := [9, 18, 19, 20, 21, 22, 59, 60, 52]) m49 m59 rfl rfl) m126 rfl rfl)
              refine r_bipush hX dX5_find_129 (by decide) ?_
              exact r_iret hX dX5_find_131 rfl ⟨_, rfl, ⟨(Mod.tr (L := [9, 15, 16, 18, 19, 20, 21, 22, 51, 52, 58, 59, 60]) (Mod.tr (L := [9, 15, 16, 18, 19, 20, 21, 22, 51, 52, 58, 59, 60]) m49 m59 rfl rfl) m126 rfl rfl), (by first | exact Or.inr (Or.inr ⟨by omega, by omega, Or.inl ⟨hpb6, rfl, SameP.of hMM2 rfl⟩⟩) | exact FndX.go (by omega) (by omega) hpb (by omega) hrb hls hb.1 hO (Or.inl ⟨by omega, rfl, SameP.of hMM2 rfl⟩))⟩⟩
            · skip
              refine r_aload_n hX dX5_find_66 rfl ?_
              refine fg_X0_35 hX dX5_find_67 ?_
              refine r_iload hX dX5_find_70 rfl ?_
              have qp72_53 : σ59 53 = σ 53 := ((m59.at 53 rfl).trans (m49.at 53 rfl))
              refine r_callV hX dX5_find_72 (k_Sr_run l w σ59 _ (by omega) (by omega) (by simp only [qp72_53]; omega)) mf_X3_run mv_X3_run lk_RX5_202 rfl rfl rfl rfl rfl ⟨Nat.le_of_ble_eq_true rfl, Nat.le_of_ble_eq_true rfl⟩ (Nat.le_of_ble_eq_true rfl) (kI fun z72 σ72 hh => ?_)
              obtain ⟨m72, h72_0, h72_1⟩ := hh
              refine r_istore hX (fun x75 => [some (.ref (w.2.2 0)), some (.int (iI x30)), some (.int (iI tried)), some (.int (iI x55)), some (.int (iI beat)), some (.int (iI x75))]) dX5_find_75 (Nat.le_of_ble_eq_true rfl) rfl rfl (fun _ => rfl) (fun x75 e75 => ?_)
              have hMM : Mod [9, 18, 19, 20, 21, 22, 59, 60] σ σ72 := (Mod.tr (L := [9, 18, 19, 20, 21, 22, 59, 60]) (Mod.tr (L := [9, 18, 19, 20, 21, 22, 59, 60]) m49 m59 rfl rfl) m72 rfl rfl)
              have hDF := DFin.base (L := [9, 18, 19, 20, 21, 22, 59, 60]) (Mod.tr (L := [9, 18, 19, 20, 21, 22, 59, 60]) m49 m59 rfl rfl) rfl h72_1
              rw [← e75] at hDF
              have hzr := hDF.rng
              refine r_iload hX dX5_find_77 rfl ?_
              refine r_bipush hX dX5_find_79 (by decide) ?_
              refine r_icmp_ne hX (tgt := 87) dX5_find_81 (by decide) (by omega) (by omega) (fun c81 => ?_) (fun c81 => ?_)
              · skip
                refine r_iload_n hX dX5_find_87 rfl ?_
                refine r_aload_n hX dX5_find_88 rfl ?_
                refine fg_X0_35 hX dX5_find_89 ?_
                refine r_callV hX dX5_find_92 (k_Sr_triesMade l w σ72) mf_X3_triesMade mv_X3_triesMade lk_RX5_205 rfl rfl rfl rfl rfl ⟨Nat.le_of_ble_eq_true rfl, Nat.le_of_ble_eq_true rfl⟩ (Nat.le_of_ble_eq_true rfl) (kI fun z92 σ92 hh => ?_)
                obtain ⟨rfl, h92_0, h92_1⟩ := hh
                refine r_iadd hX dX5_find_95 ?_
                refine r_istore_n hX (fun x96 => [some (.ref (w.2.2 0)), some (.int (iI x30)), some (.int (iI x96)), some (.int (iI x55)), some (.int (iI beat)), some (.int (iI x75))]) dX5_find_96 (Nat.le_of_ble_eq_true rfl) rfl rfl (fun _ => rfl) (fun x96 e96 => ?_)
                refine r_iload hX dX5_find_97 rfl ?_
                refine r_iload hX dX5_find_99 rfl ?_
                refine r_icmp_ne hX (tgt := 118) dX5_find_101 (by decide) (by omega) (by omega) (fun c101 => ?_) (fun c101 => ?_)
                · skip
                  refine r_iinc hX (fun x118 => [some (.ref (w.2.2 0)), some (.int (iI x30)), some (.int (iI x96)), some (.int (iI x55)), some (.int (iI x118)), some (.int (iI x75))]) dX5_find_118 rfl rfl rfl (fun _ => rfl) (fun x118 e118 => ?_)
                  refine r_goto hX dX5_find_121 (tgt := 59) (by decide) ?_
                  refine r_wk hX (lv1 := [some (.ref (w.2.2 0)), some (.int (iI x30)), some (.int (iI x96)), some (.int (iI x55)), some (.int (iI x118)), none]) ⟨rfl, ⟨rfl, ⟨rfl, ⟨rfl, ⟨rfl, trivial⟩⟩⟩⟩⟩ ?_
                  exact ih59 x96 x118 σ72 (Mod.tr (L := [18, 19, 20, 21, 22, 59, 60]) m59 m72 rfl rfl) (by omega) (fun b b0 b1 => by
  by_cases q : b = beat
  · rw [q]; exact hDF.o0 (by omega) (by omega) (by omega)
  · exact hO b b0 (by omega)) (by omega)
                · skip
                  refine r_aload_n hX dX5_find_104 rfl ?_
                  refine r_iload hX dX5_find_105 rfl ?_
                  refine r_callV hX dX5_find_107 (k_B_takeFound l w σ72 _ (by omega) (by omega)) mf_X5_takeFound mv_X5_takeFound lk_RX5_208 rfl rfl rfl rfl rfl ⟨Nat.le_of_ble_eq_true rfl, Nat.le_of_ble_eq_true rfl⟩ (Nat.le_of_ble_eq_true rfl) (kV fun σ107 hh => ?_)
                  obtain ⟨m107, h107_0, h107_1⟩ := hh
                  have q107_1 : σ72 53 = σ 53 := ((m72.at 53 rfl).trans ((m59.at 53 rfl).trans (m49.at 53 rfl)))
                  try simp only [q107_1] at h107_1
                  refine r_aload_n hX dX5_find_110 rfl ?_
                  refine r_iload_n hX dX5_find_111 rfl ?_
                  refine fp_X0_211 hX dX5_find_112 (fun σ112 m112 s112 => ?_)
                  have hf : OutX σ beat 1 ∧ FoundX σ σ112 beat := hDF.o1 (by omega) (by omega) (fun a a0 a1 => by rw [m112.at 15 rfl, m112.at 16 rfl]; have q := h107_1 a a0 a1; rw [h72_0] at q; exact q)
                  refine r_iload hX dX5_find_115 rfl ?_
                  exact r_iret hX dX5_find_117 rfl ⟨_, rfl, ⟨(Mod.tr (L := [9, 15, 16, 18, 19, 20, 21, 22, 51, 52, 58, 59, 60]) (Mod.tr (L := [9, 15, 16, 18, 19, 20, 21, 22, 51, 52, 58, 59, 60]) (Mod.tr (L := [9, 15, 16, 18, 19, 20, 21, 22, 51, 52, 58, 59, 60]) (Mod.tr (L := [9, 15, 16, 18, 19, 20, 21, 22, 51, 52, 58, 59, 60]) m49 m59 rfl rfl) m72 rfl rfl) m107 rfl rfl) m112 rfl rfl), (by first | (exfalso; omega) | exact FndX.go (by omega) (by omega) hpb (by omega) hrb hls hb.1 hO (Or.inr (Or.inr ⟨by omega, hf.1, ⟨hf.2, by rw [m112.at 58 rfl]; exact h107_0.1, by rw [m112.at 51 rfl]; exact h107_0.2⟩, rfl⟩)))⟩⟩
              · skip
                refine r_bipush hX dX5_find_84 (by decide) ?_
                exact r_iret hX dX5_find_86 rfl ⟨_, rfl, ⟨(Mod.tr (L := [9, 15, 16, 18, 19, 20, 21, 22, 51, 52, 58, 59, 60]) (Mod.tr (L := [9, 15, 16, 18, 19, 20, 21, 22, 51, 52, 58, 59, 60]) m49 m59 rfl rfl) m72 rfl rfl), (by first | (exfalso; omega) | exact FndX.go (by omega) (by omega) hpb (by omega) hrb hls hb.1 hO (Or.inr (Or.inl ⟨by omega, hDF.o2 (by omega) (by omega), rfl, SameP.of hMM rfl⟩)))⟩⟩
        exact lp59 ((20 - (x57)) + 1).toNat x32 x57 σ49 Mod.rf (by omega) (fun b b0 b1 => by omega) (by omega)
      · skip
        have hpb6 : PBX σ (-6) := (show x30 = -6 by omega) ▸ hpb
        refine r_bipush hX dX5_find_39 (by decide) ?_
        refine r_goto hX dX5_find_41 (tgt := 55) (by decide) ?_
        refine r_istore_n hX (fun x55 => [some (.ref (w.2.2 0)), some (.int (iI x30)), some (.int (iI x32)), some (.int (iI x55)), none, none]) dX5_find_55 (Nat.le_of_ble_eq_true rfl) rfl rfl (fun _ => rfl) (fun x55 e55 => ?_)
        try have hls : (x30 < z49 ∧ x55 = z49) ∨ (z49 ≤ x30 ∧ x55 = x30) := by omega
        refine r_iload_n hX dX5_find_56 rfl ?_
        refine r_istore hX (fun x57 => [some (.ref (w.2.2 0)), some (.int (iI x30)), some (.int (iI x32)), some (.int (iI x55)), some (.int (iI x57)), none]) dX5_find_57 (Nat.le_of_ble_eq_true rfl) rfl rfl (fun _ => rfl) (fun x57 e57 => ?_)
        have lp59 : ∀ (n : Nat) (tried : Int) (beat : Int) (σ59 : MM) (m59 : Mod [18, 19, 20, 21, 22, 59, 60] σ σ59) (hb : x55 ≤ beat ∧ 1 ≤ beat ∧ beat ≤ 16) (hO : ∀ b : Int, x55 ≤ b → b < beat → OutX σ b 0) (hmu : 20 - beat < (n : Int)), G 59 [some (.ref (w.2.2 0)), some (.int (iI x30)), some (.int (iI tried)), some (.int (iI x55)), some (.int (iI beat)), none] [] σ59 := by
          intro n
          induction n with
          | zero => intro tried beat σ59 m59 hb hO hmu; omega
          | succ n ih =>
            intro tried beat σ59 m59 hb hO hmu
            have ih59 := ih
            clear ih
            refine r_iload hX dX5_find_59 rfl ?_
            refine r_bipush hX dX5_find_61 (by decide) ?_
            refine r_icmp_gt hX (tgt := 124) dX5_find_63 (by decide) (by omega) (by omega) (fun c63 => ?_) (fun c63 => ?_)
            · skip
              refine r_aload_n hX dX5_find_124 rfl ?_
              refine r_iload_n hX dX5_find_125 rfl ?_
              refine fp_X0_211 hX dX5_find_126 (fun σ126 m126 s126 => ?_)
              have hMM2 : Mod [9, 18, 19, 20, 21, 22, 59, 60, 52] σ σ126 := (Mod.tr (L := [9, 18, 19, 20, 21, 22, 59, 60, 52]) m59 m126 rfl rfl)
              refine r_bipush hX dX5_find_129 (by decide) ?_
              exact r_iret hX dX5_find_131 rfl ⟨_, rfl, ⟨(Mod.tr (L := [9, 15, 16, 18, 19, 20, 21, 22, 51, 52, 58, 59, 60]) m59 m126 rfl rfl), (by first | exact Or.inr (Or.inr ⟨by omega, by omega, Or.inl ⟨hpb6, rfl, SameP.of hMM2 rfl⟩⟩) | exact FndX.go (by omega) (by omega) hpb (by omega) hrb hls hb.1 hO (Or.inl ⟨by omega, rfl, SameP.of hMM2 rfl⟩))⟩⟩
            · skip
              refine r_aload_n hX dX5_find_66 rfl ?_
              refine fg_X0_35 hX dX5_find_67 ?_
              refine r_iload hX dX5_find_70 rfl ?_
              have qp72_53 : σ59 53 = σ 53 := (m59.at 53 rfl)
              refine r_callV hX dX5_find_72 (k_Sr_run l w σ59 _ (by omega) (by omega) (by simp only [qp72_53]; omega)) mf_X3_run mv_X3_run lk_RX5_202 rfl rfl rfl rfl rfl ⟨Nat.le_of_ble_eq_true rfl, Nat.le_of_ble_eq_true rfl⟩ (Nat.le_of_ble_eq_true rfl) (kI fun z72 σ72 hh => ?_)
              obtain ⟨m72, h72_0, h72_1⟩ := hh
              refine r_istore hX (fun x75 => [some (.ref (w.2.2 0)), some (.int (iI x30)), some (.int (iI tried)), some (.int (iI x55)), some (.int (iI beat)), some (.int (iI x75))]) dX5_find_75 (Nat.le_of_ble_eq_true rfl) rfl rfl (fun _ => rfl) (fun x75 e75 => ?_)
              have hMM : Mod [9, 18, 19, 20, 21, 22, 59, 60] σ σ72 := (Mod.tr (L := [9, 18, 19, 20, 21, 22, 59, 60]) m59 m72 rfl rfl)
              have hDF := DFin.base (L := [9, 18, 19, 20, 21, 22, 59, 60]) (m59.w rfl) rfl h72_1
              rw [← e75] at hDF
              have hzr := hDF.rng
              refine r_iload hX dX5_find_77 rfl ?_
              refine r_bipush hX dX5_find_79 (by decide) ?_
              refine r_icmp_ne hX (tgt := 87) dX5_find_81 (by decide) (by omega) (by omega) (fun c81 => ?_) (fun c81 => ?_)
              · skip
                refine r_iload_n hX dX5_find_87 rfl ?_
                refine r_aload_n hX dX5_find_88 rfl ?_
                refine fg_X0_35 hX dX5_find_89 ?_
                refine r_callV hX dX5_find_92 (k_Sr_triesMade l w σ72) mf_X3_triesMade mv_X3_triesMade lk_RX5_205 rfl rfl rfl rfl rfl ⟨Nat.le_of_ble_eq_true rfl, Nat.le_of_ble_eq_true rfl⟩ (Nat.le_of_ble_eq_true rfl) (kI fun z92 σ92 hh => ?_)
                obtain ⟨rfl, h92_0, h92_1⟩ := hh
                refine r_iadd hX dX5_find_95 ?_
                refine r_istore_n hX (fun x96 => [some (.ref (w.2.2 0)), some (.int (iI x30)), some (.int (iI x96)), some (.int (iI x55)), some (.int (iI beat)), some (.int (iI x75))]) dX5_find_96 (Nat.le_of_ble_eq_true rfl) rfl rfl (fun _ => rfl) (fun x96 e96 => ?_)
                refine r_iload hX dX5_find_97 rfl ?_
                refine r_iload hX dX5_find_99 rfl ?_
                refine r_icmp_ne hX (tgt := 118) dX5_find_101 (by decide) (by omega) (by omega) (fun c101 => ?_) (fun c101 => ?_)
                · skip
                  refine r_iinc hX (fun x118 => [some (.ref (w.2.2 0)), some (.int (iI x30)), some (.int (iI x96)), some (.int (iI x55)), some (.int (iI x118)), some (.int (iI x75))]) dX5_find_118 rfl rfl rfl (fun _ => rfl) (fun x118 e118 => ?_)
                  refine r_goto hX dX5_find_121 (tgt := 59) (by decide) ?_
                  refine r_wk hX (lv1 := [some (.ref (w.2.2 0)), some (.int (iI x30)), some (.int (iI x96)), some (.int (iI x55)), some (.int (iI x118)), none]) ⟨rfl, ⟨rfl, ⟨rfl, ⟨rfl, ⟨rfl, trivial⟩⟩⟩⟩⟩ ?_
                  exact ih59 x96 x118 σ72 (Mod.tr (L := [18, 19, 20, 21, 22, 59, 60]) m59 m72 rfl rfl) (by omega) (fun b b0 b1 => by
  by_cases q : b = beat
  · rw [q]; exact hDF.o0 (by omega) (by omega) (by omega)
  · exact hO b b0 (by omega)) (by omega)
                · skip
                  refine r_aload_n hX dX5_find_104 rfl ?_
                  refine r_iload hX dX5_find_105 rfl ?_
                  refine r_callV hX dX5_find_107 (k_B_takeFound l w σ72 _ (by omega) (by omega)) mf_X5_takeFound mv_X5_takeFound lk_RX5_208 rfl rfl rfl rfl rfl ⟨Nat.le_of_ble_eq_true rfl, Nat.le_of_ble_eq_true rfl⟩ (Nat.le_of_ble_eq_true rfl) (kV fun σ107 hh => ?_)
                  obtain ⟨m107, h107_0, h107_1⟩ := hh
                  have q107_2 : σ72 53 = σ 53 := ((m72.at 53 rfl).trans (m59.at 53 rfl))
                  try simp only [q107_2] at h107_1
                  refine r_aload_n hX dX5_find_110 rfl ?_
                  refine r_iload_n hX dX5_find_111 rfl ?_
                  refine fp_X0_211 hX dX5_find_112 (fun σ112 m112 s112 => ?_)
                  have hf : OutX σ beat 1 ∧ FoundX σ σ112 beat := hDF.o1 (by omega) (by omega) (fun a a0 a1 => by rw [m112.at 15 rfl, m112.at 16 rfl]; have q := h107_1 a a0 a1; rw [h72_0] at q; exact q)
                  refine r_iload hX dX5_find_115 rfl ?_
                  exact r_iret hX dX5_find_117 rfl ⟨_, rfl, ⟨(Mod.tr (L := [9, 15, 16, 18, 19, 20, 21, 22, 51, 52, 58, 59, 60]) (Mod.tr (L := [9, 15, 16, 18, 19, 20, 21, 22, 51, 52, 58, 59, 60]) (Mod.tr (L := [9, 15, 16, 18, 19, 20, 21, 22, 51, 52, 58, 59, 60]) m59 m72 rfl rfl) m107 rfl rfl) m112 rfl rfl), (by first | (exfalso; omega) | exact FndX.go (by omega) (by omega) hpb (by omega) hrb hls hb.1 hO (Or.inr (Or.inr ⟨by omega, hf.1, ⟨hf.2, by rw [m112.at 58 rfl]; exact h107_0.1, by rw [m112.at 51 rfl]; exact h107_0.2⟩, rfl⟩)))⟩⟩
              · skip
                refine r_bipush hX dX5_find_84 (by decide) ?_
                exact r_iret hX dX5_find_86 rfl ⟨_, rfl, ⟨(Mod.tr (L := [9, 15, 16, 18, 19, 20, 21, 22, 51, 52, 58, 59, 60]) m59 m72 rfl rfl), (by first | (exfalso; omega) | exact FndX.go (by omega) (by omega) hpb (by omega) hrb hls hb.1 hO (Or.inr (Or.inl ⟨by omega, hDF.o2 (by omega) (by omega), rfl, SameP.of hMM rfl⟩)))⟩⟩
        exact lp59 ((20 - (x57)) + 1).toNat x32 x57 σ Mod.rf (by omega) (fun b b0 b1 => by omega) (by omega)
    · skip
      refine r_bipush hX dX5_find_23 (by decide) ?_
      exact r_iret hX dX5_find_25 rfl ⟨_, rfl, ⟨Mod.rf, (by exact Or.inr (Or.inl ⟨by omega, by omega, rfl, rfl, rfl, rfl, rfl⟩))⟩⟩
  · skip
    refine r_bipush hX dX5_find_10 (by decide) ?_
    exact r_iret hX dX5_find_12 rfl ⟨_, rfl, ⟨Mod.rf, (by exact Or.inl ⟨by omega, rfl, rfl, rfl, rfl, rfl⟩)⟩⟩
