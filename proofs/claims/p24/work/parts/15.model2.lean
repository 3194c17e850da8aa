theorem dX6_valueOf_0 : decode cX6_valueOf 0 = .ok (.iload_n 2, 1) := by decide +kernel
theorem dX6_valueOf_1 : decode cX6_valueOf 1 = .ok (.aload_n 0, 1) := by decide +kernel
theorem dX6_valueOf_2 : decode cX6_valueOf 2 = .ok (.getfield 16, 3) := by decide +kernel
theorem dX6_valueOf_5 : decode cX6_valueOf 5 = .ok (.iload_n 1, 1) := by decide +kernel
theorem dX6_valueOf_6 : decode cX6_valueOf 6 = .ok (.iaload, 1) := by decide +kernel
theorem dX6_valueOf_7 : decode cX6_valueOf 7 = .ok (.isub, 1) := by decide +kernel
theorem dX6_valueOf_8 : decode cX6_valueOf 8 = .ok (.istore_n 3, 1) := by decide +kernel
theorem dX6_valueOf_9 : decode cX6_valueOf 9 = .ok (.iload_n 3, 1) := by decide +kernel
theorem dX6_valueOf_10 : decode cX6_valueOf 10 = .ok (.ifCond .ge 10, 3) := by decide +kernel
theorem dX6_valueOf_13 : decode cX6_valueOf 13 = .ok (.aload_n 0, 1) := by decide +kernel
theorem dX6_valueOf_14 : decode cX6_valueOf 14 = .ok (.getfield 99, 3) := by decide +kernel
theorem dX6_valueOf_17 : decode cX6_valueOf 17 = .ok (.goto 19, 3) := by decide +kernel
theorem dX6_valueOf_20 : decode cX6_valueOf 20 = .ok (.aload_n 0, 1) := by decide +kernel
theorem dX6_valueOf_21 : decode cX6_valueOf 21 = .ok (.getfield 29, 3) := by decide +kernel
theorem dX6_valueOf_24 : decode cX6_valueOf 24 = .ok (.bipush 8, 2) := by decide +kernel
theorem dX6_valueOf_26 : decode cX6_valueOf 26 = .ok (.iload_n 3, 1) := by decide +kernel
theorem dX6_valueOf_27 : decode cX6_valueOf 27 = .ok (.imul, 1) := by decide +kernel
theorem dX6_valueOf_28 : decode cX6_valueOf 28 = .ok (.aload_n 0, 1) := by decide +kernel
theorem dX6_valueOf_29 : decode cX6_valueOf 29 = .ok (.getfield 13, 3) := by decide +kernel
theorem dX6_valueOf_32 : decode cX6_valueOf 32 = .ok (.iload_n 1, 1) := by decide +kernel
theorem dX6_valueOf_33 : decode cX6_valueOf 33 = .ok (.iaload, 1) := by decide +kernel
theorem dX6_valueOf_34 : decode cX6_valueOf 34 = .ok (.iadd, 1) := by decide +kernel
theorem dX6_valueOf_35 : decode cX6_valueOf 35 = .ok (.iaload, 1) := by decide +kernel
theorem dX6_valueOf_36 : decode cX6_valueOf 36 = .ok (.ireturn, 1) := by decide +kernel
set_option maxRecDepth 20000 in
set_option maxHeartbeats 4000000 in
theorem k_M_valueOf (l : Launch) (w : WT) (σ : MM) (s : Int) (t : Int) (i_s : inr s) (i_t : inr t) (hs : 0 ≤ s ∧ s < 16) (ht : 0 ≤ t ∧ t ≤ 60) : CT SX l w yX6_valueOf cX6_valueOf 4 (some .int) 0 0 [.ref (w.2.2 27), .int (iI s), .int (iI t)] σ (PI fun z σ1 => σ = σ1 ∧ (z = opM (σ 29) (σ 30) (σ 34) (σ 62 0) s t)) := by
  refine CT.of 1 [some (.ref (w.2.2 27)), some (.int (iI s)), some (.int (iI t)), none] (by decide +kernel) (by simp [lg_sl, Value.category]) rfl sh_X (fun G hX => ?_)
  refine r_iload_n hX dX6_valueOf_0 rfl ?_
  refine r_aload_n hX dX6_valueOf_1 rfl ?_
  refine fg_X27_16 hX dX6_valueOf_2 ?_
  refine r_iload_n hX dX6_valueOf_5 rfl ?_
  refine ld_X30 hX dX6_valueOf_6 (by omega) (by omega) (fun b6l b6u => ?_)
  refine r_isub hX dX6_valueOf_7 ?_
  refine r_istore_n hX (fun x8 => [some (.ref (w.2.2 27)), some (.int (iI s)), some (.int (iI t)), some (.int (iI x8))]) dX6_valueOf_8 (Nat.le_of_ble_eq_true rfl) rfl rfl (fun _ => rfl) (fun x8 e8 => ?_)
  refine r_iload_n hX dX6_valueOf_9 rfl ?_
  refine r_if_ge hX (tgt := 20) dX6_valueOf_10 (by decide) (by omega) (fun c10 => ?_) (fun c10 => ?_)
  · skip
    refine r_aload_n hX dX6_valueOf_20 rfl ?_
    refine fg_X27_29 hX dX6_valueOf_21 ?_
    refine r_bipush hX dX6_valueOf_24 (by decide) ?_
    refine r_iload_n hX dX6_valueOf_26 rfl ?_
    refine r_imul hX dX6_valueOf_27 ?_
    refine r_aload_n hX dX6_valueOf_28 rfl ?_
    refine fg_X27_13 hX dX6_valueOf_29 ?_
    refine r_iload_n hX dX6_valueOf_32 rfl ?_
    refine ld_X29 hX dX6_valueOf_33 (by omega) (by omega) (fun b33l b33u => ?_)
    refine r_iadd hX dX6_valueOf_34 ?_
    refine ld_X34 hX dX6_valueOf_35 (by omega) (by omega) ?_
    exact r_iret hX dX6_valueOf_36 rfl ⟨_, rfl, ⟨rfl, (by unfold opM; rw [← e8]; first | rw [if_pos (by omega)] | rw [if_neg (by omega)])⟩⟩
  · skip
    refine r_aload_n hX dX6_valueOf_13 rfl ?_
    refine fg_X27_99 hX dX6_valueOf_14 ?_
    refine r_goto hX dX6_valueOf_17 (tgt := 36) (by decide) ?_
    exact r_iret hX dX6_valueOf_36 rfl ⟨_, rfl, ⟨rfl, (by unfold opM; rw [← e8]; first | rw [if_pos (by omega)] | rw [if_neg (by omega)])⟩⟩
theorem dX6_made_0 : decode cX6_made 0 = .ok (.aload_n 0, 1) := by decide +kernel
theorem dX6_made_1 : decode cX6_made 1 = .ok (.getfield 7, 3) := by decide +kernel
theorem dX6_made_4 : decode cX6_made 4 = .ok (.iload_n 1, 1) := by decide +kernel
theorem dX6_made_5 : decode cX6_made 5 = .ok (.iaload, 1) := by decide +kernel
theorem dX6_made_6 : decode cX6_made 6 = .ok (.ifCond .ne 19, 3) := by decide +kernel
theorem dX6_made_9 : decode cX6_made 9 = .ok (.aload_n 0, 1) := by decide +kernel
theorem dX6_made_10 : decode cX6_made 10 = .ok (.getfield 19, 3) := by decide +kernel
theorem dX6_made_13 : decode cX6_made 13 = .ok (.iload_n 1, 1) := by decide +kernel
theorem dX6_made_14 : decode cX6_made 14 = .ok (.iaload, 1) := by decide +kernel
theorem dX6_made_15 : decode cX6_made 15 = .ok (.iload_n 2, 1) := by decide +kernel
theorem dX6_made_16 : decode cX6_made 16 = .ok (.imul, 1) := by decide +kernel
theorem dX6_made_17 : decode cX6_made 17 = .ok (.aload_n 0, 1) := by decide +kernel
theorem dX6_made_18 : decode cX6_made 18 = .ok (.getfield 22, 3) := by decide +kernel
theorem dX6_made_21 : decode cX6_made 21 = .ok (.iload_n 1, 1) := by decide +kernel
theorem dX6_made_22 : decode cX6_made 22 = .ok (.iaload, 1) := by decide +kernel
theorem dX6_made_23 : decode cX6_made 23 = .ok (.iadd, 1) := by decide +kernel
theorem dX6_made_24 : decode cX6_made 24 = .ok (.ireturn, 1) := by decide +kernel
theorem dX6_made_25 : decode cX6_made 25 = .ok (.aload_n 0, 1) := by decide +kernel
theorem dX6_made_26 : decode cX6_made 26 = .ok (.iconst 2, 1) := by decide +kernel
theorem dX6_made_27 : decode cX6_made 27 = .ok (.iload_n 1, 1) := by decide +kernel
theorem dX6_made_28 : decode cX6_made 28 = .ok (.imul, 1) := by decide +kernel
theorem dX6_made_29 : decode cX6_made 29 = .ok (.iload_n 2, 1) := by decide +kernel
theorem dX6_made_30 : decode cX6_made 30 = .ok (.invokevirtual 113, 3) := by decide +kernel
theorem dX6_made_33 : decode cX6_made 33 = .ok (.istore_n 3, 1) := by decide +kernel
theorem dX6_made_34 : decode cX6_made 34 = .ok (.aload_n 0, 1) := by decide +kernel
theorem dX6_made_35 : decode cX6_made 35 = .ok (.iconst 2, 1) := by decide +kernel
theorem dX6_made_36 : decode cX6_made 36 = .ok (.iload_n 1, 1) := by decide +kernel
theorem dX6_made_37 : decode cX6_made 37 = .ok (.imul, 1) := by decide +kernel
theorem dX6_made_38 : decode cX6_made 38 = .ok (.iconst 1, 1) := by decide +kernel
theorem dX6_made_39 : decode cX6_made 39 = .ok (.iadd, 1) := by decide +kernel
theorem dX6_made_40 : decode cX6_made 40 = .ok (.iload_n 2, 1) := by decide +kernel
theorem dX6_made_41 : decode cX6_made 41 = .ok (.invokevirtual 113, 3) := by decide +kernel
theorem dX6_made_44 : decode cX6_made 44 = .ok (.istore 4, 2) := by decide +kernel
theorem dX6_made_46 : decode cX6_made 46 = .ok (.aload_n 0, 1) := by decide +kernel
theorem dX6_made_47 : decode cX6_made 47 = .ok (.getfield 7, 3) := by decide +kernel
theorem dX6_made_50 : decode cX6_made 50 = .ok (.iload_n 1, 1) := by decide +kernel
theorem dX6_made_51 : decode cX6_made 51 = .ok (.iaload, 1) := by decide +kernel
theorem dX6_made_52 : decode cX6_made 52 = .ok (.tableswitch 60 1 4 #[32, 37, 42, 47], 32) := by decide +kernel
theorem dX6_made_84 : decode cX6_made 84 = .ok (.iload_n 3, 1) := by decide +kernel
theorem dX6_made_85 : decode cX6_made 85 = .ok (.iload 4, 2) := by decide +kernel
theorem dX6_made_87 : decode cX6_made 87 = .ok (.iadd, 1) := by decide +kernel
theorem dX6_made_88 : decode cX6_made 88 = .ok (.ireturn, 1) := by decide +kernel
theorem dX6_made_89 : decode cX6_made 89 = .ok (.iload_n 3, 1) := by decide +kernel
theorem dX6_made_90 : decode cX6_made 90 = .ok (.iload 4, 2) := by decide +kernel
theorem dX6_made_92 : decode cX6_made 92 = .ok (.isub, 1) := by decide +kernel
theorem dX6_made_93 : decode cX6_made 93 = .ok (.ireturn, 1) := by decide +kernel
theorem dX6_made_94 : decode cX6_made 94 = .ok (.iload_n 3, 1) := by decide +kernel
theorem dX6_made_95 : decode cX6_made 95 = .ok (.iload 4, 2) := by decide +kernel
theorem dX6_made_97 : decode cX6_made 97 = .ok (.imul, 1) := by decide +kernel
theorem dX6_made_98 : decode cX6_made 98 = .ok (.ireturn, 1) := by decide +kernel
theorem dX6_made_99 : decode cX6_made 99 = .ok (.iload_n 3, 1) := by decide +kernel
theorem dX6_made_100 : decode cX6_made 100 = .ok (.iload 4, 2) := by decide +kernel
theorem dX6_made_102 : decode cX6_made 102 = .ok (.if_icmp .ge 7, 3) := by decide +kernel
theorem dX6_made_105 : decode cX6_made 105 = .ok (.iload_n 3, 1) := by decide +kernel
theorem dX6_made_106 : decode cX6_made 106 = .ok (.goto 5, 3) := by decide +kernel
theorem dX6_made_109 : decode cX6_made 109 = .ok (.iload 4, 2) := by decide +kernel
theorem dX6_made_111 : decode cX6_made 111 = .ok (.ireturn, 1) := by decide +kernel
theorem dX6_made_112 : decode cX6_made 112 = .ok (.iload_n 3, 1) := by decide +kernel
theorem dX6_made_113 : decode cX6_made 113 = .ok (.iload 4, 2) := by decide +kernel
theorem dX6_made_115 : decode cX6_made 115 = .ok (.if_icmp .le 7, 3) := by decide +kernel
theorem dX6_made_118 : decode cX6_made 118 = .ok (.iload_n 3, 1) := by decide +kernel
theorem dX6_made_119 : decode cX6_made 119 = .ok (.goto 5, 3) := by decide +kernel
theorem dX6_made_122 : decode cX6_made 122 = .ok (.iload 4, 2) := by decide +kernel
theorem dX6_made_124 : decode cX6_made 124 = .ok (.ireturn, 1) := by decide +kernel
set_option maxRecDepth 20000 in
set_option maxHeartbeats 4000000 in
theorem k_M_made (l : Launch) (w : WT) (σ : MM) (a : Int) (t : Int) (i_a : inr a) (i_t : inr t) (ha : 0 ≤ a ∧ a < 8) (ht : 0 ≤ t ∧ t ≤ 60) : CT SX l w yX6_made cX6_made 5 (some .int) 1 23 [.ref (w.2.2 27), .int (iI a), .int (iI t)] σ (PI fun z σ1 => σ = σ1 ∧ (iI z = VALm σ (σ 34) a t)) := by
  refine CT.of 2 [some (.ref (w.2.2 27)), some (.int (iI a)), some (.int (iI t)), none, none] (by decide +kernel) (by simp [lg_sl, Value.category]) rfl sh_X (fun G hX => ?_)
  refine r_bd hX (fun hBd => ?_)
  have b_28 := hBd 28 0 5 rfl 0
  have b28 := hBd 28 0 5 rfl a
  have hdi : ∀ s, 0 ≤ σ 30 s ∧ σ 30 s ≤ 3 := fun s => hBd 30 0 3 rfl s
  refine r_aload_n hX dX6_made_0 rfl ?_
  refine fg_X27_7 hX dX6_made_1 ?_
  refine r_iload_n hX dX6_made_4 rfl ?_
  refine ld_X28 hX dX6_made_5 (by omega) (by omega) (fun b5l b5u => ?_)
  refine r_if_ne hX (tgt := 25) dX6_made_6 (by decide) (by omega) (fun c6 => ?_) (fun c6 => ?_)
  · skip
    refine r_aload_n hX dX6_made_25 rfl ?_
    refine r_iconst hX dX6_made_26 ?_
    refine r_iload_n hX dX6_made_27 rfl ?_
    refine r_imul hX dX6_made_28 ?_
    refine r_iload_n hX dX6_made_29 rfl ?_
    refine r_callV hX dX6_made_30 (k_M_valueOf l w σ _ _ (by omega) (by omega) (by omega) (by omega)) mf_X6_valueOf mv_X6_valueOf lk_RX6_113 rfl rfl rfl rfl rfl ⟨Nat.le_of_ble_eq_true rfl, Nat.le_of_ble_eq_true rfl⟩ (Nat.le_of_ble_eq_true rfl) (kI fun z30 σ30 hh => ?_)
    obtain ⟨rfl, h30_0⟩ := hh
    refine r_istore_n hX (fun x33 => [some (.ref (w.2.2 27)), some (.int (iI a)), some (.int (iI t)), some (.int (iI x33)), none]) dX6_made_33 (Nat.le_of_ble_eq_true rfl) rfl rfl (fun _ => rfl) (fun x33 e33 => ?_)
    refine r_aload_n hX dX6_made_34 rfl ?_
    refine r_iconst hX dX6_made_35 ?_
    refine r_iload_n hX dX6_made_36 rfl ?_
    refine r_imul hX dX6_made_37 ?_
    refine r_iconst hX dX6_made_38 ?_
    refine r_iadd hX dX6_made_39 ?_
    refine r_iload_n hX dX6_made_40 rfl ?_
    refine r_callV hX dX6_made_41 (k_M_valueOf l w σ _ _ (by omega) (by omega) (by omega) (by omega)) mf_X6_valueOf mv_X6_valueOf lk_RX6_113 rfl rfl rfl rfl rfl ⟨Nat.le_of_ble_eq_true rfl, Nat.le_of_ble_eq_true rfl⟩ (Nat.le_of_ble_eq_true rfl) (kI fun z41 σ41 hh => ?_)
    obtain ⟨rfl, h41_0⟩ := hh
    refine r_istore hX (fun x44 => [some (.ref (w.2.2 27)), some (.int (iI a)), some (.int (iI t)), some (.int (iI x33)), some (.int (iI x44))]) dX6_made_44 (Nat.le_of_ble_eq_true rfl) rfl rfl (fun _ => rfl) (fun x44 e44 => ?_)
    have o1 : opV (σ 29) (σ 30) (trW (σ 34)) (σ 62 0) (2 * a) t = x33 := by rw [opM_eq (hdi _).1 (by omega), e33]; exact h30_0.symm
    have o2 : opV (σ 29) (σ 30) (trW (σ 34)) (σ 62 0) (2 * a + 1) t = x44 := by rw [opM_eq (hdi _).1 (by omega), e44]; exact h41_0.symm
    refine r_aload_n hX dX6_made_46 rfl ?_
    refine fg_X27_7 hX dX6_made_47 ?_
    refine r_iload_n hX dX6_made_50 rfl ?_
    refine ld_X28 hX dX6_made_51 (by omega) (by omega) (fun b51l b51u => ?_)
    refine r_nm hX (fun x52 e52 => ?_)
    rcases (by omega : x52 < 1 ∨ 4 < x52 ∨ x52 = 1 ∨ x52 = 2 ∨ x52 = 3 ∨ x52 = 4) with c52 | c52 | c52 | c52 | c52 | c52
    · skip
      refine r_tblOut hX dX6_made_52 (by omega) (Or.inl c52) (tgt := 112) (by decide) ?_
      refine r_iload_n hX dX6_made_112 rfl ?_
      refine r_iload hX dX6_made_113 rfl ?_
      refine r_icmpR_le hX (tgt := 122) dX6_made_115 (by decide)  (fun c115 => ?_) (fun c115 => ?_)
      · skip
        refine r_iload hX dX6_made_122 rfl ?_
        exact r_iret hX dX6_made_124 rfl ⟨_, rfl, ⟨rfl, (by first | (exfalso; omega) | (unfold VALm VAL; rw [if_neg (by omega), if_neg (by omega), if_neg (by omega), if_neg (by omega), if_neg (by omega), o1, o2]; first | (rw [if_neg (Int32.not_lt.mpr (Int32.le_of_lt (Int32.not_le.mp c115)))]) | (by_cases q : iI x33 < iI x44; (rw [if_pos q]); (rw [if_neg q]; exact i32_eq (Int32.not_lt.mpr c115) q))))⟩⟩
      · skip
        refine r_iload_n hX dX6_made_118 rfl ?_
        refine r_goto hX dX6_made_119 (tgt := 124) (by decide) ?_
        exact r_iret hX dX6_made_124 rfl ⟨_, rfl, ⟨rfl, (by first | (exfalso; omega) | (unfold VALm VAL; rw [if_neg (by omega), if_neg (by omega), if_neg (by omega), if_neg (by omega), if_neg (by omega), o1, o2]; first | (rw [if_neg (Int32.not_lt.mpr (Int32.le_of_lt (Int32.not_le.mp c115)))]) | (by_cases q : iI x33 < iI x44; (rw [if_pos q]); (rw [if_neg q]; exact i32_eq (Int32.not_lt.mpr c115) q))))⟩⟩
    · skip
      refine r_tblOut hX dX6_made_52 (by omega) (Or.inr c52) (tgt := 112) (by decide) ?_
      refine r_iload_n hX dX6_made_112 rfl ?_
      refine r_iload hX dX6_made_113 rfl ?_
      refine r_icmpR_le hX (tgt := 122) dX6_made_115 (by decide)  (fun c115 => ?_) (fun c115 => ?_)
      · skip
        refine r_iload hX dX6_made_122 rfl ?_
        exact r_iret hX dX6_made_124 rfl ⟨_, rfl, ⟨rfl, (by first | (exfalso; omega) | (unfold VALm VAL; rw [if_neg (by omega), if_neg (by omega), if_neg (by omega), if_neg (by omega), if_neg (by omega), o1, o2]; first | (rw [if_neg (Int32.not_lt.mpr (Int32.le_of_lt (Int32.not_le.mp c115)))]) | (by_cases q : iI x33 < iI x44; (rw [if_pos q]); (rw [if_neg q]; exact i32_eq (Int32.not_lt.mpr c115) q))))⟩⟩
      · skip
        refine r_iload_n hX dX6_made_118 rfl ?_
        refine r_goto hX dX6_made_119 (tgt := 124) (by decide) ?_
        exact r_iret hX dX6_made_124 rfl ⟨_, rfl, ⟨rfl, (by first | (exfalso; omega) | (unfold VALm VAL; rw [if_neg (by omega), if_neg (by omega), if_neg (by omega), if_neg (by omega), if_neg (by omega), o1, o2]; first | (rw [if_neg (Int32.not_lt.mpr (Int32.le_of_lt (Int32.not_le.mp c115)))]) | (by_cases q : iI x33 < iI x44; (rw [if_pos q]); (rw [if_neg q]; exact i32_eq (Int32.not_lt.mpr c115) q))))⟩⟩
    · skip
      refine r_tblIn hX 1 dX6_made_52 c52 (by decide) rfl (tgt := 84) (by decide) ?_
      refine r_iload_n hX dX6_made_84 rfl ?_
      refine r_iload hX dX6_made_85 rfl ?_
      refine r_iadd hX dX6_made_87 ?_
      exact r_iret hX dX6_made_88 rfl ⟨_, rfl, ⟨rfl, (by unfold VALm VAL; rw [if_neg (by omega), if_pos (by omega), o1, o2])⟩⟩
    · skip
      refine r_tblIn hX 2 dX6_made_52 c52 (by decide) rfl (tgt := 89) (by decide) ?_
      refine r_iload_n hX dX6_made_89 rfl ?_
      refine r_iload hX dX6_made_90 rfl ?_
      refine r_isub hX dX6_made_92 ?_
      exact r_iret hX dX6_made_93 rfl ⟨_, rfl, ⟨rfl, (by unfold VALm VAL; rw [if_neg (by omega), if_neg (by omega), if_pos (by omega), o1, o2])⟩⟩
    · skip
      refine r_tblIn hX 3 dX6_made_52 c52 (by decide) rfl (tgt := 94) (by decide) ?_
      refine r_iload_n hX dX6_made_94 rfl ?_
      refine r_iload hX dX6_made_95 rfl ?_
      refine r_imul hX dX6_made_97 ?_
      exact r_iret hX dX6_made_98 rfl ⟨_, rfl, ⟨rfl, (by unfold VALm VAL; rw [if_neg (by omega), if_neg (by omega), if_neg (by omega), if_pos (by omega), o1, o2])⟩⟩
    · skip
      refine r_tblIn hX 4 dX6_made_52 c52 (by decide) rfl (tgt := 99) (by decide) ?_
      refine r_iload_n hX dX6_made_99 rfl ?_
      refine r_iload hX dX6_made_100 rfl ?_
      refine r_icmpR_ge hX (tgt := 109) dX6_made_102 (by decide)  (fun c102 => ?_) (fun c102 => ?_)
      · skip
        refine r_iload hX dX6_made_109 rfl ?_
        exact r_iret hX dX6_made_111 rfl ⟨_, rfl, ⟨rfl, (by unfold VALm VAL; rw [if_neg (by omega), if_neg (by omega), if_neg (by omega), if_neg (by omega), if_pos (by omega), o1, o2]; first | (rw [if_neg (Int32.not_lt.mpr (Int32.le_of_lt (Int32.not_le.mp c102)))]) | (by_cases q : iI x44 < iI x33; (rw [if_pos q]); (rw [if_neg q]; exact i32_eq q (Int32.not_lt.mpr c102))))⟩⟩
      · skip
        refine r_iload_n hX dX6_made_105 rfl ?_
        refine r_goto hX dX6_made_106 (tgt := 111) (by decide) ?_
        exact r_iret hX dX6_made_111 rfl ⟨_, rfl, ⟨rfl, (by unfold VALm VAL; rw [if_neg (by omega), if_neg (by omega), if_neg (by omega), if_neg (by omega), if_pos (by omega), o1, o2]; first | (rw [if_neg (Int32.not_lt.mpr (Int32.le_of_lt (Int32.not_le.mp c102)))]) | (by_cases q : iI x44 < iI x33; (rw [if_pos q]); (rw [if_neg q]; exact i32_eq q (Int32.not_lt.mpr c102))))⟩⟩
  · skip
    refine r_aload_n hX dX6_made_9 rfl ?_
    refine fg_X27_19 hX dX6_made_10 ?_
    refine r_iload_n hX dX6_made_13 rfl ?_
    refine ld_X31 hX dX6_made_14 (by omega) (by omega) ?_
    refine r_iload_n hX dX6_made_15 rfl ?_
    refine r_imul hX dX6_made_16 ?_
    refine r_aload_n hX dX6_made_17 rfl ?_
    refine fg_X27_22 hX dX6_made_18 ?_
    refine r_iload_n hX dX6_made_21 rfl ?_
    refine ld_X32 hX dX6_made_22 (by omega) (by omega) ?_
    refine r_iadd hX dX6_made_23 ?_
    exact r_iret hX dX6_made_24 rfl ⟨_, rfl, ⟨rfl, (by unfold VALm VAL; rw [if_pos (by omega)])⟩⟩
theorem dX6_workTo_0 : decode cX6_workTo 0 = .ok (.iconst 0, 1) := by decide +kernel
theorem dX6_workTo_1 : decode cX6_workTo 1 = .ok (.istore_n 2, 1) := by decide +kernel
theorem dX6_workTo_2 : decode cX6_workTo 2 = .ok (.iload_n 2, 1) := by decide +kernel
theorem dX6_workTo_3 : decode cX6_workTo 3 = .ok (.iload_n 1, 1) := by decide +kernel
theorem dX6_workTo_4 : decode cX6_workTo 4 = .ok (.if_icmp .gt 112, 3) := by decide +kernel
theorem dX6_workTo_7 : decode cX6_workTo 7 = .ok (.iconst 0, 1) := by decide +kernel
theorem dX6_workTo_8 : decode cX6_workTo 8 = .ok (.istore_n 3, 1) := by decide +kernel
theorem dX6_workTo_9 : decode cX6_workTo 9 = .ok (.iload_n 3, 1) := by decide +kernel
theorem dX6_workTo_10 : decode cX6_workTo 10 = .ok (.aload_n 0, 1) := by decide +kernel
theorem dX6_workTo_11 : decode cX6_workTo 11 = .ok (.getfield 72, 3) := by decide +kernel
theorem dX6_workTo_14 : decode cX6_workTo 14 = .ok (.if_icmp .ge 16, 3) := by decide +kernel
theorem dX6_workTo_17 : decode cX6_workTo 17 = .ok (.aload_n 0, 1) := by decide +kernel
theorem dX6_workTo_18 : decode cX6_workTo 18 = .ok (.getfield 25, 3) := by decide +kernel
theorem dX6_workTo_21 : decode cX6_workTo 21 = .ok (.iload_n 3, 1) := by decide +kernel
theorem dX6_workTo_22 : decode cX6_workTo 22 = .ok (.iconst 0, 1) := by decide +kernel
theorem dX6_workTo_23 : decode cX6_workTo 23 = .ok (.bastore, 1) := by decide +kernel
theorem dX6_workTo_24 : decode cX6_workTo 24 = .ok (.iinc 3 1, 3) := by decide +kernel
theorem dX6_workTo_27 : decode cX6_workTo 27 = .ok (.goto (-18), 3) := by decide +kernel
theorem dX6_workTo_30 : decode cX6_workTo 30 = .ok (.iconst 0, 1) := by decide +kernel
theorem dX6_workTo_31 : decode cX6_workTo 31 = .ok (.istore_n 3, 1) := by decide +kernel
theorem dX6_workTo_32 : decode cX6_workTo 32 = .ok (.iload_n 3, 1) := by decide +kernel
theorem dX6_workTo_33 : decode cX6_workTo 33 = .ok (.aload_n 0, 1) := by decide +kernel
theorem dX6_workTo_34 : decode cX6_workTo 34 = .ok (.getfield 72, 3) := by decide +kernel
theorem dX6_workTo_37 : decode cX6_workTo 37 = .ok (.if_icmp .ge 73, 3) := by decide +kernel
theorem dX6_workTo_40 : decode cX6_workTo 40 = .ok (.iconst 0, 1) := by decide +kernel
theorem dX6_workTo_41 : decode cX6_workTo 41 = .ok (.istore 4, 2) := by decide +kernel
theorem dX6_workTo_43 : decode cX6_workTo 43 = .ok (.iload 4, 2) := by decide +kernel
theorem dX6_workTo_45 : decode cX6_workTo 45 = .ok (.aload_n 0, 1) := by decide +kernel
theorem dX6_workTo_46 : decode cX6_workTo 46 = .ok (.getfield 72, 3) := by decide +kernel
theorem dX6_workTo_49 : decode cX6_workTo 49 = .ok (.if_icmp .ge 55, 3) := by decide +kernel
theorem dX6_workTo_52 : decode cX6_workTo 52 = .ok (.aload_n 0, 1) := by decide +kernel
theorem dX6_workTo_53 : decode cX6_workTo 53 = .ok (.getfield 25, 3) := by decide +kernel
theorem dX6_workTo_56 : decode cX6_workTo 56 = .ok (.iload 4, 2) := by decide +kernel
theorem dX6_workTo_58 : decode cX6_workTo 58 = .ok (.baload, 1) := by decide +kernel
theorem dX6_workTo_59 : decode cX6_workTo 59 = .ok (.ifCond .ne 39, 3) := by decide +kernel
theorem dX6_workTo_62 : decode cX6_workTo 62 = .ok (.aload_n 0, 1) := by decide +kernel
theorem dX6_workTo_63 : decode cX6_workTo 63 = .ok (.iload 4, 2) := by decide +kernel
theorem dX6_workTo_65 : decode cX6_workTo 65 = .ok (.invokevirtual 106, 3) := by decide +kernel
theorem dX6_workTo_68 : decode cX6_workTo 68 = .ok (.ifCond .eq 30, 3) := by decide +kernel
theorem dX6_workTo_71 : decode cX6_workTo 71 = .ok (.aload_n 0, 1) := by decide +kernel
theorem dX6_workTo_72 : decode cX6_workTo 72 = .ok (.getfield 29, 3) := by decide +kernel
theorem dX6_workTo_75 : decode cX6_workTo 75 = .ok (.bipush 8, 2) := by decide +kernel
theorem dX6_workTo_77 : decode cX6_workTo 77 = .ok (.iload_n 2, 1) := by decide +kernel
theorem dX6_workTo_78 : decode cX6_workTo 78 = .ok (.imul, 1) := by decide +kernel
theorem dX6_workTo_79 : decode cX6_workTo 79 = .ok (.iload 4, 2) := by decide +kernel
theorem dX6_workTo_81 : decode cX6_workTo 81 = .ok (.iadd, 1) := by decide +kernel
theorem dX6_workTo_82 : decode cX6_workTo 82 = .ok (.aload_n 0, 1) := by decide +kernel
theorem dX6_workTo_83 : decode cX6_workTo 83 = .ok (.iload 4, 2) := by decide +kernel
theorem dX6_workTo_85 : decode cX6_workTo 85 = .ok (.iload_n 2, 1) := by decide +kernel
theorem dX6_workTo_86 : decode cX6_workTo 86 = .ok (.invokevirtual 117, 3) := by decide +kernel
theorem dX6_workTo_89 : decode cX6_workTo 89 = .ok (.iastore, 1) := by decide +kernel
theorem dX6_workTo_90 : decode cX6_workTo 90 = .ok (.aload_n 0, 1) := by decide +kernel
theorem dX6_workTo_91 : decode cX6_workTo 91 = .ok (.getfield 25, 3) := by decide +kernel
theorem dX6_workTo_94 : decode cX6_workTo 94 = .ok (.iload 4, 2) := by decide +kernel
theorem dX6_workTo_96 : decode cX6_workTo 96 = .ok (.iconst 1, 1) := by decide +kernel
theorem dX6_workTo_97 : decode cX6_workTo 97 = .ok (.bastore, 1) := by decide +kernel
theorem dX6_workTo_98 : decode cX6_workTo 98 = .ok (.iinc 4 1, 3) := by decide +kernel
theorem dX6_workTo_101 : decode cX6_workTo 101 = .ok (.goto (-58), 3) := by decide +kernel
theorem dX6_workTo_104 : decode cX6_workTo 104 = .ok (.iinc 3 1, 3) := by decide +kernel
theorem dX6_workTo_107 : decode cX6_workTo 107 = .ok (.goto (-75), 3) := by decide +kernel
theorem dX6_workTo_110 : decode cX6_workTo 110 = .ok (.iinc 2 1, 3) := by decide +kernel
theorem dX6_workTo_113 : decode cX6_workTo 113 = .ok (.goto (-111), 3) := by decide +kernel
theorem dX6_workTo_116 : decode cX6_workTo 116 = .ok (.return_, 1) := by decide +kernel
set_option maxRecDepth 20000 in
set_option maxHeartbeats 4000000 in
theorem k_M_workTo (l : Launch) (w : WT) (σ : MM) (r : Int) (i_r : inr r) (hSn : SndM σ) (hr : 0 ≤ r ∧ r ≤ 60) : CT SX l w yX6_workTo cX6_workTo 5 none 2 47 [.ref (w.2.2 27), .int (iI r)] σ (PV fun σ1 => Mod [33, 34] σ σ1 ∧ (EQm σ (σ1 34) (r + 1))) := by
  refine CT.of 3 [some (.ref (w.2.2 27)), some (.int (iI r)), none, none, none] (by decide +kernel) (by simp [lg_sl, Value.category]) rfl sh_X (fun G hX => ?_)
  refine r_bd hX (fun hBd => ?_)
  have b_61 := hBd 61 0 8 rfl 0
  have hop : ∀ s, 0 ≤ σ 29 s ∧ σ 29 s ≤ 7 := fun s => hBd 29 0 7 rfl s
  have hdi : ∀ s, 0 ≤ σ 30 s ∧ σ 30 s ≤ 3 := fun s => hBd 30 0 3 rfl s
  have hops : ∀ b, 0 ≤ b → b < σ 61 0 → OpA (σ 28) (σ 29) (σ 61 0) b := fun b b0 b1 => hSn.ops (fun s => (hop s).1) b b0 b1
  refine r_iconst hX dX6_workTo_0 ?_
  refine r_istore_n hX (fun x1 => [some (.ref (w.2.2 27)), some (.int (iI r)), some (.int (iI x1)), none, none]) dX6_workTo_1 (Nat.le_of_ble_eq_true rfl) rfl rfl (fun _ => rfl) (fun x1 e1 => ?_)
  have lp2 : ∀ (n : Nat) (t : Int) (σ2 : MM) (m2 : Mod [33, 34] σ σ2) (ht : 0 ≤ t ∧ t ≤ r + 1) (hE : EQm σ (σ2 34) t) (hmu : 62 - t < (n : Int)), G 2 [some (.ref (w.2.2 27)), some (.int (iI r)), some (.int (iI t)), none, none] [] σ2 := by
    intro n
    induction n with
    | zero => intro t σ2 m2 ht hE hmu; omega
    | succ n ih =>
      intro t σ2 m2 ht hE hmu
      have ih2 := ih
      clear ih
      refine r_iload_n hX dX6_workTo_2 rfl ?_
      refine r_iload_n hX dX6_workTo_3 rfl ?_
      refine r_icmp_gt hX (tgt := 116) dX6_workTo_4 (by decide) (by omega) (by omega) (fun c4 => ?_) (fun c4 => ?_)
      · skip
        exact r_ret hX dX6_workTo_116 rfl ⟨rfl, ⟨(m2.w rfl), (by exact (show t = r + 1 by omega) ▸ hE)⟩⟩
      · skip
        refine r_iconst hX dX6_workTo_7 ?_
        refine r_istore_n hX (fun x8 => [some (.ref (w.2.2 27)), some (.int (iI r)), some (.int (iI t)), some (.int (iI x8)), none]) dX6_workTo_8 (Nat.le_of_ble_eq_true rfl) rfl rfl (fun _ => rfl) (fun x8 e8 => ?_)
        have lp9 : ∀ (n : Nat) (a0 : Int) (σ9 : MM) (m9 : Mod [33] σ2 σ9) (ha0 : 0 ≤ a0 ∧ a0 ≤ σ 61 0) (hz : ∀ b, 0 ≤ b → b < a0 → σ9 33 b = 0) (hmu : 9 - a0 < (n : Int)), G 9 [some (.ref (w.2.2 27)), some (.int (iI r)), some (.int (iI t)), some (.int (iI a0)), none] [] σ9 := by
          intro n
          induction n with
          | zero => intro a0 σ9 m9 ha0 hz hmu; omega
          | succ n ih =>
            intro a0 σ9 m9 ha0 hz hmu
            have ih9 := ih
            clear ih
            refine r_iload_n hX dX6_workTo_9 rfl ?_
            refine r_aload_n hX dX6_workTo_10 rfl ?_
            refine fg_X27_72 hX dX6_workTo_11 (fun b11l b11u => ?_)
            have q11 : σ9 61 = σ 61 := ((m9.at 61 rfl).trans (m2.at 61 rfl))
            rw [q11]
            rw [q11] at b11l b11u
            refine r_icmp_ge hX (tgt := 30) dX6_workTo_14 (by decide) (by omega) (by omega) (fun c14 => ?_) (fun c14 => ?_)
            · skip
              refine r_iconst hX dX6_workTo_30 ?_
              refine r_istore_n hX (fun x31 => [some (.ref (w.2.2 27)), some (.int (iI r)), some (.int (iI t)), some (.int (iI x31)), none]) dX6_workTo_31 (Nat.le_of_ble_eq_true rfl) rfl rfl (fun _ => rfl) (fun x31 e31 => ?_)
              have lp32 : ∀ (n : Nat) (pn : Int) (σ32 : MM) (m32 : Mod [33, 34] σ9 σ32) (hpn : 0 ≤ pn ∧ pn ≤ σ 61 0) (hA : WAr σ (σ32 33) pn) (hW : WKm σ (σ2 34) t (σ32 34) (σ32 33)) (hmu : 9 - pn < (n : Int)), G 32 [some (.ref (w.2.2 27)), some (.int (iI r)), some (.int (iI t)), some (.int (iI pn)), none] [] σ32 := by
                intro n
                induction n with
                | zero => intro pn σ32 m32 hpn hA hW hmu; omega
                | succ n ih =>
                  intro pn σ32 m32 hpn hA hW hmu
                  have ih32 := ih
                  clear ih
                  refine r_iload_n hX dX6_workTo_32 rfl ?_
                  refine r_aload_n hX dX6_workTo_33 rfl ?_
                  refine fg_X27_72 hX dX6_workTo_34 (fun b34l b34u => ?_)
                  have q34 : σ32 61 = σ 61 := ((m32.at 61 rfl).trans ((m9.at 61 rfl).trans (m2.at 61 rfl)))
                  rw [q34]
                  rw [q34] at b34l b34u
                  refine r_icmp_ge hX (tgt := 110) dX6_workTo_37 (by decide) (by omega) (by omega) (fun c37 => ?_) (fun c37 => ?_)
                  · skip
                    refine r_iinc hX (fun x110 => [some (.ref (w.2.2 27)), some (.int (iI r)), some (.int (iI x110)), some (.int (iI pn)), none]) dX6_workTo_110 rfl rfl rfl (fun _ => rfl) (fun x110 e110 => ?_)
                    refine r_goto hX dX6_workTo_113 (tgt := 2) (by decide) ?_
                    refine r_wk hX (lv1 := [some (.ref (w.2.2 27)), some (.int (iI r)), some (.int (iI x110)), none, none]) ⟨rfl, ⟨rfl, ⟨rfl, trivial⟩⟩⟩ ?_
                    exact ih2 x110 σ32 (Mod.tr (L := [33, 34]) (Mod.tr (L := [33, 34]) m2 m9 rfl rfl) m32 rfl rfl) (by omega) (by rw [e110]; exact hW.fin hE (fun s => (hdi s).1) hop (by omega) (by omega) (fun b b0 b1 => hA.all (by omega) hSn b b0 b1)) (by omega)
                  · skip
                    refine r_iconst hX dX6_workTo_40 ?_
                    refine r_istore hX (fun x41 => [some (.ref (w.2.2 27)), some (.int (iI r)), some (.int (iI t)), some (.int (iI pn)), some (.int (iI x41))]) dX6_workTo_41 (Nat.le_of_ble_eq_true rfl) rfl rfl (fun _ => rfl) (fun x41 e41 => ?_)
                    have lp43 : ∀ (n : Nat) (a : Int) (σ43 : MM) (m43 : Mod [33, 34] σ32 σ43) (ha : 0 ≤ a ∧ a ≤ σ 61 0) (hP : WPr σ (σ32 33) pn a (σ43 33)) (hW2 : WKm σ (σ2 34) t (σ43 34) (σ43 33)) (hmu : 9 - a < (n : Int)), G 43 [some (.ref (w.2.2 27)), some (.int (iI r)), some (.int (iI t)), some (.int (iI pn)), some (.int (iI a))] [] σ43 := by
                      intro n
                      induction n with
                      | zero => intro a σ43 m43 ha hP hW2 hmu; omega
                      | succ n ih =>
                        intro a σ43 m43 ha hP hW2 hmu
                        have ih43 := ih
                        clear ih
                        refine r_iload hX dX6_workTo_43 rfl ?_
                        refine r_aload_n hX dX6_workTo_45 rfl ?_
                        refine fg_X27_72 hX dX6_workTo_46 (fun b46l b46u => ?_)
                        have q46 : σ43 61 = σ 61 := ((m43.at 61 rfl).trans ((m32.at 61 rfl).trans ((m9.at 61 rfl).trans (m2.at 61 rfl))))
                        rw [q46]
                        rw [q46] at b46l b46u
                        refine r_icmp_ge hX (tgt := 104) dX6_workTo_49 (by decide) (by omega) (by omega) (fun c49 => ?_) (fun c49 => ?_)
                        · skip
                          refine r_iinc hX (fun x104 => [some (.ref (w.2.2 27)), some (.int (iI r)), some (.int (iI t)), some (.int (iI x104)), some (.int (iI a))]) dX6_workTo_104 rfl rfl rfl (fun _ => rfl) (fun x104 e104 => ?_)
                          refine r_goto hX dX6_workTo_107 (tgt := 32) (by decide) ?_
                          refine r_wk hX (lv1 := [some (.ref (w.2.2 27)), some (.int (iI r)), some (.int (iI t)), some (.int (iI x104)), none]) ⟨rfl, ⟨rfl, ⟨rfl, ⟨rfl, trivial⟩⟩⟩⟩ ?_
                          exact ih32 x104 σ43 (Mod.tr (L := [33, 34]) m32 m43 rfl rfl) (by omega) (hP.fin (by omega) e104) (hW2) (by omega)
                        · skip
                          refine r_aload_n hX dX6_workTo_52 rfl ?_
                          refine fg_X27_25 hX dX6_workTo_53 ?_
                          refine r_iload hX dX6_workTo_56 rfl ?_
                          refine ld_X33 hX dX6_workTo_58 (by omega) (by omega) (fun b58l b58u => ?_)
                          refine r_if_ne hX (tgt := 98) dX6_workTo_59 (by decide) (by omega) (fun c59 => ?_) (fun c59 => ?_)
                          · skip
                            refine r_iinc hX (fun x98 => [some (.ref (w.2.2 27)), some (.int (iI r)), some (.int (iI t)), some (.int (iI pn)), some (.int (iI x98))]) dX6_workTo_98 rfl rfl rfl (fun _ => rfl) (fun x98 e98 => ?_)
                            refine r_goto hX dX6_workTo_101 (tgt := 43) (by decide) ?_
                            exact ih43 x98 σ43 (m43.w rfl) (by omega) (by first | exact hP.skip (Or.inl (by omega)) e98 | exact hP.skip (Or.inr fun q => cf_no h65_0 (by omega) (hcr.mpr q)) e98 | exact hP.take (by omega) (by omega) (by omega) (hcr.mp (cf_yes h65_0 (by omega))) s97 e98) (by first | exact hW2 | (rw [m97.at 34 rfl]; exact hW2.take hP hdi hop (by omega) (by omega) (by omega) (by omega) (hcr.mp (cf_yes h65_0 (by omega))) h86_0 s89 s97)) (by omega)
                          · skip
                            refine r_aload_n hX dX6_workTo_62 rfl ?_
                            refine r_iload hX dX6_workTo_63 rfl ?_
                            have hcr := rd_iff (di := σ 30) (o := σ43 33) (hops a (by omega) (by omega))
                            refine r_callV hX dX6_workTo_65 (k_M_isReady l w σ43 _ (by omega) (by omega)) mf_X6_isReady mv_X6_isReady lk_RX6_106 rfl rfl rfl rfl rfl ⟨Nat.le_of_ble_eq_true rfl, Nat.le_of_ble_eq_true rfl⟩ (Nat.le_of_ble_eq_true rfl) (kI fun z65 σ65 hh => ?_)
                            obtain ⟨rfl, h65_0⟩ := hh
                            have q65_1 : σ43 28 = σ 28 := ((m43.at 28 rfl).trans ((m32.at 28 rfl).trans ((m9.at 28 rfl).trans (m2.at 28 rfl))))
                            have q65_2 : σ43 29 = σ 29 := ((m43.at 29 rfl).trans ((m32.at 29 rfl).trans ((m9.at 29 rfl).trans (m2.at 29 rfl))))
                            have q65_3 : σ43 30 = σ 30 := ((m43.at 30 rfl).trans ((m32.at 30 rfl).trans ((m9.at 30 rfl).trans (m2.at 30 rfl))))
                            try simp only [q65_1, q65_2, q65_3] at h65_0
                            refine r_if_eq hX (tgt := 98) dX6_workTo_68 (by decide) (by omega) (fun c68 => ?_) (fun c68 => ?_)
                            · skip
                              refine r_iinc hX (fun x98 => [some (.ref (w.2.2 27)), some (.int (iI r)), some (.int (iI t)), some (.int (iI pn)), some (.int (iI x98))]) dX6_workTo_98 rfl rfl rfl (fun _ => rfl) (fun x98 e98 => ?_)
                              refine r_goto hX dX6_workTo_101 (tgt := 43) (by decide) ?_
                              exact ih43 x98 σ43 (m43.w rfl) (by omega) (by first | exact hP.skip (Or.inl (by omega)) e98 | exact hP.skip (Or.inr fun q => cf_no h65_0 (by omega) (hcr.mpr q)) e98 | exact hP.take (by omega) (by omega) (by omega) (hcr.mp (cf_yes h65_0 (by omega))) s97 e98) (by first | exact hW2 | (rw [m97.at 34 rfl]; exact hW2.take hP hdi hop (by omega) (by omega) (by omega) (by omega) (hcr.mp (cf_yes h65_0 (by omega))) h86_0 s89 s97)) (by omega)
                            · skip
                              refine r_aload_n hX dX6_workTo_71 rfl ?_
                              refine fg_X27_29 hX dX6_workTo_72 ?_
                              refine r_bipush hX dX6_workTo_75 (by decide) ?_
                              refine r_iload_n hX dX6_workTo_77 rfl ?_
                              refine r_imul hX dX6_workTo_78 ?_
                              refine r_iload hX dX6_workTo_79 rfl ?_
                              refine r_iadd hX dX6_workTo_81 ?_
                              refine r_aload_n hX dX6_workTo_82 rfl ?_
                              refine r_iload hX dX6_workTo_83 rfl ?_
                              refine r_iload_n hX dX6_workTo_85 rfl ?_
                              refine r_callV hX dX6_workTo_86 (k_M_made l w σ43 _ _ (by omega) (by omega) (by omega) (by omega)) mf_X6_made mv_X6_made lk_RX6_117 rfl rfl rfl rfl rfl ⟨Nat.le_of_ble_eq_true rfl, Nat.le_of_ble_eq_true rfl⟩ (Nat.le_of_ble_eq_true rfl) (kI fun z86 σ86 hh => ?_)
                              obtain ⟨rfl, h86_0⟩ := hh
                              rw [VALm_of (L := [33, 34]) (Mod.tr (L := [33, 34]) (Mod.tr (L := [33, 34]) (Mod.tr (L := [33, 34]) m2 m9 rfl rfl) m32 rfl rfl) m43 rfl rfl) rfl] at h86_0
                              refine st_X34 hX dX6_workTo_89 (by omega) (by omega) (fun σ89 m89 s89 => ?_)
                              refine r_aload_n hX dX6_workTo_90 rfl ?_
                              refine fg_X27_25 hX dX6_workTo_91 ?_
                              refine r_iload hX dX6_workTo_94 rfl ?_
                              refine r_iconst hX dX6_workTo_96 ?_
                              refine st_X33 hX dX6_workTo_97 (by omega) (by omega) (by omega) (fun σ97 m97 s97 => ?_)
                              simp only [show σ89 33 = σ43 33 from (m89.at 33 rfl)] at s97
                              refine r_iinc hX (fun x98 => [some (.ref (w.2.2 27)), some (.int (iI r)), some (.int (iI t)), some (.int (iI pn)), some (.int (iI x98))]) dX6_workTo_98 rfl rfl rfl (fun _ => rfl) (fun x98 e98 => ?_)
                              refine r_goto hX dX6_workTo_101 (tgt := 43) (by decide) ?_
                              exact ih43 x98 σ97 (Mod.tr (L := [33, 34]) (Mod.tr (L := [33, 34]) m43 m89 rfl rfl) m97 rfl rfl) (by omega) (by first | exact hP.skip (Or.inl (by omega)) e98 | exact hP.skip (Or.inr fun q => cf_no h65_0 (by omega) (hcr.mpr q)) e98 | exact hP.take (by omega) (by omega) (by omega) (hcr.mp (cf_yes h65_0 (by omega))) s97 e98) (by first | exact hW2 | (rw [m97.at 34 rfl]; exact hW2.take hP hdi hop (by omega) (by omega) (by omega) (by omega) (hcr.mp (cf_yes h65_0 (by omega))) h86_0 s89 s97)) (by omega)
                    exact lp43 ((9 - (x41)) + 1).toNat x41 σ32 Mod.rf (by omega) (WPr.init hA e41) (hW) (by omega)
              exact lp32 ((9 - (x31)) + 1).toNat x31 σ9 Mod.rf (by omega) (WAr.init (by omega) e31 (fun b b0 b1 => hz b b0 (by omega))) (by rw [m9.at 34 rfl]; exact WKm.init (fun b b0 b1 => hz b b0 (by omega))) (by omega)
            · skip
              refine r_aload_n hX dX6_workTo_17 rfl ?_
              refine fg_X27_25 hX dX6_workTo_18 ?_
              refine r_iload_n hX dX6_workTo_21 rfl ?_
              refine r_iconst hX dX6_workTo_22 ?_
              refine st_X33 hX dX6_workTo_23 (by omega) (by omega) (by omega) (fun σ23 m23 s23 => ?_)
              refine r_iinc hX (fun x24 => [some (.ref (w.2.2 27)), some (.int (iI r)), some (.int (iI t)), some (.int (iI x24)), none]) dX6_workTo_24 rfl rfl rfl (fun _ => rfl) (fun x24 e24 => ?_)
              refine r_goto hX dX6_workTo_27 (tgt := 9) (by decide) ?_
              exact ih9 x24 σ23 (Mod.tr (L := [33]) m9 m23 rfl rfl) (by omega) (fun b b0 b1 => by rw [s23]; split; rfl; exact hz b b0 (by omega)) (by omega)
        exact lp9 ((9 - (x8)) + 1).toNat x8 σ2 Mod.rf (by omega) (fun b b0 b1 => by omega) (by omega)
  exact lp2 ((62 - (x1)) + 1).toNat x1 σ Mod.rf (by omega) (fun t1 a1 t0 t2 => by omega) (by omega)
theorem dX6_plain_0 : decode cX6_plain 0 = .ok (.aload_n 0, 1) := by decide +kernel
theorem dX6_plain_1 : decode cX6_plain 1 = .ok (.iload_n 1, 1) := by decide +kernel
theorem dX6_plain_2 : decode cX6_plain 2 = .ok (.invokevirtual 102, 3) := by decide +kernel
theorem dX6_plain_5 : decode cX6_plain 5 = .ok (.ifCond .eq 15, 3) := by decide +kernel
theorem dX6_plain_8 : decode cX6_plain 8 = .ok (.iload_n 2, 1) := by decide +kernel
theorem dX6_plain_9 : decode cX6_plain 9 = .ok (.i2l, 1) := by decide +kernel
theorem dX6_plain_10 : decode cX6_plain 10 = .ok (.lconst 0, 1) := by decide +kernel
theorem dX6_plain_11 : decode cX6_plain 11 = .ok (.ldc2_w 120, 3) := by decide +kernel
theorem dX6_plain_14 : decode cX6_plain 14 = .ok (.invokestatic 75, 3) := by decide +kernel
theorem dX6_plain_17 : decode cX6_plain 17 = .ok (.ifCond .ne 7, 3) := by decide +kernel
theorem dX6_plain_20 : decode cX6_plain 20 = .ok (.ldc2_w 122, 3) := by decide +kernel
theorem dX6_plain_23 : decode cX6_plain 23 = .ok (.lreturn, 1) := by decide +kernel
theorem dX6_plain_24 : decode cX6_plain 24 = .ok (.aload_n 0, 1) := by decide +kernel
theorem dX6_plain_25 : decode cX6_plain 25 = .ok (.invokevirtual 109, 3) := by decide +kernel
theorem dX6_plain_28 : decode cX6_plain 28 = .ok (.ifCond .ne 7, 3) := by decide +kernel
theorem dX6_plain_31 : decode cX6_plain 31 = .ok (.ldc2_w 124, 3) := by decide +kernel
theorem dX6_plain_34 : decode cX6_plain 34 = .ok (.lreturn, 1) := by decide +kernel
theorem dX6_plain_35 : decode cX6_plain 35 = .ok (.aload_n 0, 1) := by decide +kernel
theorem dX6_plain_36 : decode cX6_plain 36 = .ok (.iload_n 2, 1) := by decide +kernel
theorem dX6_plain_37 : decode cX6_plain 37 = .ok (.invokevirtual 126, 3) := by decide +kernel
theorem dX6_plain_40 : decode cX6_plain 40 = .ok (.aload_n 0, 1) := by decide +kernel
theorem dX6_plain_41 : decode cX6_plain 41 = .ok (.getfield 29, 3) := by decide +kernel
theorem dX6_plain_44 : decode cX6_plain 44 = .ok (.bipush 8, 2) := by decide +kernel
theorem dX6_plain_46 : decode cX6_plain 46 = .ok (.iload_n 2, 1) := by decide +kernel
theorem dX6_plain_47 : decode cX6_plain 47 = .ok (.imul, 1) := by decide +kernel
theorem dX6_plain_48 : decode cX6_plain 48 = .ok (.iload_n 1, 1) := by decide +kernel
theorem dX6_plain_49 : decode cX6_plain 49 = .ok (.iadd, 1) := by decide +kernel
theorem dX6_plain_50 : decode cX6_plain 50 = .ok (.iaload, 1) := by decide +kernel
theorem dX6_plain_51 : decode cX6_plain 51 = .ok (.i2l, 1) := by decide +kernel
theorem dX6_plain_52 : decode cX6_plain 52 = .ok (.lreturn, 1) := by decide +kernel
set_option maxRecDepth 20000 in
set_option maxHeartbeats 4000000 in
theorem k_M_plain (l : Launch) (w : WT) (σ : MM) (a : Int) (r : Int) (i_a : inr a) (i_r : inr r) : CT SX l w yX6_plain cX6_plain 3 (some .long) 3 71 [.ref (w.2.2 27), .int (iI a), .int (iI r)] σ (PL fun z σ1 => Mod [33, 34] σ σ1 ∧ (PlM σ σ1 a r z)) := by
  refine CT.of 0 [some (.ref (w.2.2 27)), some (.int (iI a)), some (.int (iI r))] (by decide +kernel) (by simp [lg_sl, Value.category]) rfl sh_X (fun G hX => ?_)
  refine r_bd hX (fun hBd => ?_)
  have b_61 := hBd 61 0 8 rfl 0
  refine r_aload_n hX dX6_plain_0 rfl ?_
  refine r_iload_n hX dX6_plain_1 rfl ?_
  refine r_callV hX dX6_plain_2 (k_M_isAct l w σ _ (by omega)) mf_X6_isAct mv_X6_isAct lk_RX6_102 rfl rfl rfl rfl rfl ⟨Nat.le_of_ble_eq_true rfl, Nat.le_of_ble_eq_true rfl⟩ (Nat.le_of_ble_eq_true rfl) (kI fun z2 σ2 hh => ?_)
  obtain ⟨rfl, h2_0⟩ := hh
  refine r_if_eq hX (tgt := 20) dX6_plain_5 (by decide) (by omega) (fun c5 => ?_) (fun c5 => ?_)
  · skip
    refine r_ldc2 hX dX6_plain_20 lc_RX6_122 ?_
    exact r_lret hX dX6_plain_23 rfl ⟨_, rfl, ⟨Mod.rf, (by exact Or.inl ⟨by omega, rfl⟩)⟩⟩
  · skip
    refine r_iload_n hX dX6_plain_8 rfl ?_
    refine r_i2l hX dX6_plain_9 (by omega) ?_
    refine r_lconst hX (z := 0) dX6_plain_10 rfl ?_
    refine r_ldc2 hX dX6_plain_11 lc_RX6_120 ?_
    refine r_callS hX dX6_plain_14 (k_M_in l w σ _ _ _ (by omega) (by omega) (by omega)) mf_X6_in ms_X6_in lk_RX6_75 rfl rfl ⟨Nat.le_of_ble_eq_true rfl, Nat.le_of_ble_eq_true rfl⟩ (Nat.le_of_ble_eq_true rfl) (kI fun z14 σ14 hh => ?_)
    obtain ⟨rfl, h14_0⟩ := hh
    refine r_if_ne hX (tgt := 24) dX6_plain_17 (by decide) (by omega) (fun c17 => ?_) (fun c17 => ?_)
    · skip
      refine r_aload_n hX dX6_plain_24 rfl ?_
      refine r_callV hX dX6_plain_25 (k_M_isSound l w σ) mf_X6_isSound mv_X6_isSound lk_RX6_109 rfl rfl rfl rfl rfl ⟨Nat.le_of_ble_eq_true rfl, Nat.le_of_ble_eq_true rfl⟩ (Nat.le_of_ble_eq_true rfl) (kI fun z25 σ25 hh => ?_)
      obtain ⟨m25, h25_0⟩ := hh
      refine r_if_ne hX (tgt := 35) dX6_plain_28 (by decide) (by omega) (fun c28 => ?_) (fun c28 => ?_)
      · skip
        refine r_aload_n hX dX6_plain_35 rfl ?_
        refine r_iload_n hX dX6_plain_36 rfl ?_
        refine r_callV hX dX6_plain_37 (k_M_workTo l w σ25 _ (by omega) ((cf_yes h25_0 (by omega)).keep m25 rfl) (by omega)) mf_X6_workTo mv_X6_workTo lk_RX6_126 rfl rfl rfl rfl rfl ⟨Nat.le_of_ble_eq_true rfl, Nat.le_of_ble_eq_true rfl⟩ (Nat.le_of_ble_eq_true rfl) (kV fun σ37 hh => ?_)
        obtain ⟨m37, h37_0⟩ := hh
        refine r_aload_n hX dX6_plain_40 rfl ?_
        refine fg_X27_29 hX dX6_plain_41 ?_
        refine r_bipush hX dX6_plain_44 (by decide) ?_
        refine r_iload_n hX dX6_plain_46 rfl ?_
        refine r_imul hX dX6_plain_47 ?_
        refine r_iload_n hX dX6_plain_48 rfl ?_
        refine r_iadd hX dX6_plain_49 ?_
        refine ld_X34 hX dX6_plain_50 (by omega) (by omega) ?_
        refine r_i2lR hX dX6_plain_51 ?_
        exact r_lret hX dX6_plain_52 rfl ⟨_, rfl, ⟨(Mod.tr (L := [33, 34]) m25 m37 rfl rfl), (by exact Or.inr ⟨by omega, Or.inr ⟨cf_yes h25_0 (by omega), (EQm_keep m25 rfl _ _).mp h37_0, rfl⟩⟩)⟩⟩
      · skip
        refine r_ldc2 hX dX6_plain_31 lc_RX6_124 ?_
        exact r_lret hX dX6_plain_34 rfl ⟨_, rfl, ⟨(m25.w rfl), (by exact Or.inr ⟨by omega, Or.inl ⟨cf_no h25_0 (by omega), rfl⟩⟩)⟩⟩
    · skip
      refine r_ldc2 hX dX6_plain_20 lc_RX6_122 ?_
      exact r_lret hX dX6_plain_23 rfl ⟨_, rfl, ⟨Mod.rf, (by exact Or.inl ⟨by omega, rfl⟩)⟩⟩
theorem dX6_about_0 : decode cX6_about 0 = .ok (.aload_n 0, 1) := by decide +kernel
theorem dX6_about_1 : decode cX6_about 1 = .ok (.iload_n 1, 1) := by decide +kernel
theorem dX6_about_2 : decode cX6_about 2 = .ok (.invokevirtual 102, 3) := by decide +kernel
theorem dX6_about_5 : decode cX6_about 5 = .ok (.ifCond .ne 7, 3) := by decide +kernel
theorem dX6_about_8 : decode cX6_about 8 = .ok (.sipush (-2001), 3) := by decide +kernel
theorem dX6_about_11 : decode cX6_about 11 = .ok (.ireturn, 1) := by decide +kernel
theorem dX6_about_12 : decode cX6_about 12 = .ok (.aload_n 0, 1) := by decide +kernel
theorem dX6_about_13 : decode cX6_about 13 = .ok (.getfield 7, 3) := by decide +kernel
theorem dX6_about_16 : decode cX6_about 16 = .ok (.iload_n 1, 1) := by decide +kernel
theorem dX6_about_17 : decode cX6_about 17 = .ok (.iaload, 1) := by decide +kernel
theorem dX6_about_18 : decode cX6_about 18 = .ok (.ifCond .ne 7, 3) := by decide +kernel
theorem dX6_about_21 : decode cX6_about 21 = .ok (.iconst 1, 1) := by decide +kernel
theorem dX6_about_22 : decode cX6_about 22 = .ok (.goto 4, 3) := by decide +kernel
theorem dX6_about_25 : decode cX6_about 25 = .ok (.iconst 0, 1) := by decide +kernel
theorem dX6_about_26 : decode cX6_about 26 = .ok (.istore_n 3, 1) := by decide +kernel
theorem dX6_about_27 : decode cX6_about 27 = .ok (.iload_n 2, 1) := by decide +kernel
theorem dX6_about_28 : decode cX6_about 28 = .ok (.tableswitch 165 0 7 #[48, 55, 61, 79, 96, 116, 135, 150], 48) := by decide +kernel
theorem dX6_about_76 : decode cX6_about 76 = .ok (.aload_n 0, 1) := by decide +kernel
theorem dX6_about_77 : decode cX6_about 77 = .ok (.getfield 7, 3) := by decide +kernel
theorem dX6_about_80 : decode cX6_about 80 = .ok (.iload_n 1, 1) := by decide +kernel
theorem dX6_about_81 : decode cX6_about 81 = .ok (.iaload, 1) := by decide +kernel
theorem dX6_about_82 : decode cX6_about 82 = .ok (.ireturn, 1) := by decide +kernel
theorem dX6_about_83 : decode cX6_about 83 = .ok (.aload_n 0, 1) := by decide +kernel
theorem dX6_about_84 : decode cX6_about 84 = .ok (.iload_n 1, 1) := by decide +kernel
theorem dX6_about_85 : decode cX6_about 85 = .ok (.invokevirtual 130, 3) := by decide +kernel
theorem dX6_about_88 : decode cX6_about 88 = .ok (.ireturn, 1) := by decide +kernel
theorem dX6_about_89 : decode cX6_about 89 = .ok (.iload_n 3, 1) := by decide +kernel
theorem dX6_about_90 : decode cX6_about 90 = .ok (.ifCond .eq 8, 3) := by decide +kernel
theorem dX6_about_93 : decode cX6_about 93 = .ok (.bipush (-6), 2) := by decide +kernel
theorem dX6_about_95 : decode cX6_about 95 = .ok (.goto 11, 3) := by decide +kernel
theorem dX6_about_98 : decode cX6_about 98 = .ok (.aload_n 0, 1) := by decide +kernel
theorem dX6_about_99 : decode cX6_about 99 = .ok (.getfield 13, 3) := by decide +kernel
theorem dX6_about_102 : decode cX6_about 102 = .ok (.iconst 2, 1) := by decide +kernel
theorem dX6_about_103 : decode cX6_about 103 = .ok (.iload_n 1, 1) := by decide +kernel
theorem dX6_about_104 : decode cX6_about 104 = .ok (.imul, 1) := by decide +kernel
theorem dX6_about_105 : decode cX6_about 105 = .ok (.iaload, 1) := by decide +kernel
theorem dX6_about_106 : decode cX6_about 106 = .ok (.ireturn, 1) := by decide +kernel
theorem dX6_about_107 : decode cX6_about 107 = .ok (.iload_n 3, 1) := by decide +kernel
theorem dX6_about_108 : decode cX6_about 108 = .ok (.ifCond .eq 7, 3) := by decide +kernel
theorem dX6_about_111 : decode cX6_about 111 = .ok (.iconst 0, 1) := by decide +kernel
theorem dX6_about_112 : decode cX6_about 112 = .ok (.goto 11, 3) := by decide +kernel
theorem dX6_about_115 : decode cX6_about 115 = .ok (.aload_n 0, 1) := by decide +kernel
theorem dX6_about_116 : decode cX6_about 116 = .ok (.getfield 16, 3) := by decide +kernel
theorem dX6_about_119 : decode cX6_about 119 = .ok (.iconst 2, 1) := by decide +kernel
theorem dX6_about_120 : decode cX6_about 120 = .ok (.iload_n 1, 1) := by decide +kernel
theorem dX6_about_121 : decode cX6_about 121 = .ok (.imul, 1) := by decide +kernel
theorem dX6_about_122 : decode cX6_about 122 = .ok (.iaload, 1) := by decide +kernel
theorem dX6_about_123 : decode cX6_about 123 = .ok (.ireturn, 1) := by decide +kernel
theorem dX6_about_124 : decode cX6_about 124 = .ok (.iload_n 3, 1) := by decide +kernel
theorem dX6_about_125 : decode cX6_about 125 = .ok (.ifCond .eq 8, 3) := by decide +kernel
theorem dX6_about_128 : decode cX6_about 128 = .ok (.bipush (-6), 2) := by decide +kernel
theorem dX6_about_130 : decode cX6_about 130 = .ok (.goto 13, 3) := by decide +kernel
theorem dX6_about_133 : decode cX6_about 133 = .ok (.aload_n 0, 1) := by decide +kernel
theorem dX6_about_134 : decode cX6_about 134 = .ok (.getfield 13, 3) := by decide +kernel
theorem dX6_about_137 : decode cX6_about 137 = .ok (.iconst 2, 1) := by decide +kernel
theorem dX6_about_138 : decode cX6_about 138 = .ok (.iload_n 1, 1) := by decide +kernel
theorem dX6_about_139 : decode cX6_about 139 = .ok (.imul, 1) := by decide +kernel
theorem dX6_about_140 : decode cX6_about 140 = .ok (.iconst 1, 1) := by decide +kernel
theorem dX6_about_141 : decode cX6_about 141 = .ok (.iadd, 1) := by decide +kernel
theorem dX6_about_142 : decode cX6_about 142 = .ok (.iaload, 1) := by decide +kernel
theorem dX6_about_143 : decode cX6_about 143 = .ok (.ireturn, 1) := by decide +kernel
theorem dX6_about_144 : decode cX6_about 144 = .ok (.iload_n 3, 1) := by decide +kernel
theorem dX6_about_145 : decode cX6_about 145 = .ok (.ifCond .eq 7, 3) := by decide +kernel
theorem dX6_about_148 : decode cX6_about 148 = .ok (.iconst 0, 1) := by decide +kernel
theorem dX6_about_149 : decode cX6_about 149 = .ok (.goto 13, 3) := by decide +kernel
theorem dX6_about_152 : decode cX6_about 152 = .ok (.aload_n 0, 1) := by decide +kernel
theorem dX6_about_153 : decode cX6_about 153 = .ok (.getfield 16, 3) := by decide +kernel
theorem dX6_about_156 : decode cX6_about 156 = .ok (.iconst 2, 1) := by decide +kernel
theorem dX6_about_157 : decode cX6_about 157 = .ok (.iload_n 1, 1) := by decide +kernel
theorem dX6_about_158 : decode cX6_about 158 = .ok (.imul, 1) := by decide +kernel
theorem dX6_about_159 : decode cX6_about 159 = .ok (.iconst 1, 1) := by decide +kernel
theorem dX6_about_160 : decode cX6_about 160 = .ok (.iadd, 1) := by decide +kernel
theorem dX6_about_161 : decode cX6_about 161 = .ok (.iaload, 1) := by decide +kernel
theorem dX6_about_162 : decode cX6_about 162 = .ok (.ireturn, 1) := by decide +kernel
theorem dX6_about_163 : decode cX6_about 163 = .ok (.iload_n 3, 1) := by decide +kernel
theorem dX6_about_164 : decode cX6_about 164 = .ok (.ifCond .eq 12, 3) := by decide +kernel
theorem dX6_about_167 : decode cX6_about 167 = .ok (.aload_n 0, 1) := by decide +kernel
theorem dX6_about_168 : decode cX6_about 168 = .ok (.getfield 19, 3) := by decide +kernel
theorem dX6_about_171 : decode cX6_about 171 = .ok (.iload_n 1, 1) := by decide +kernel
theorem dX6_about_172 : decode cX6_about 172 = .ok (.iaload, 1) := by decide +kernel
theorem dX6_about_173 : decode cX6_about 173 = .ok (.goto 4, 3) := by decide +kernel
theorem dX6_about_176 : decode cX6_about 176 = .ok (.iconst 0, 1) := by decide +kernel
theorem dX6_about_177 : decode cX6_about 177 = .ok (.ireturn, 1) := by decide +kernel
theorem dX6_about_178 : decode cX6_about 178 = .ok (.iload_n 3, 1) := by decide +kernel
theorem dX6_about_179 : decode cX6_about 179 = .ok (.ifCond .eq 12, 3) := by decide +kernel
theorem dX6_about_182 : decode cX6_about 182 = .ok (.aload_n 0, 1) := by decide +kernel
theorem dX6_about_183 : decode cX6_about 183 = .ok (.getfield 22, 3) := by decide +kernel
theorem dX6_about_186 : decode cX6_about 186 = .ok (.iload_n 1, 1) := by decide +kernel
theorem dX6_about_187 : decode cX6_about 187 = .ok (.iaload, 1) := by decide +kernel
theorem dX6_about_188 : decode cX6_about 188 = .ok (.goto 4, 3) := by decide +kernel
theorem dX6_about_191 : decode cX6_about 191 = .ok (.iconst 0, 1) := by decide +kernel
theorem dX6_about_192 : decode cX6_about 192 = .ok (.ireturn, 1) := by decide +kernel
theorem dX6_about_193 : decode cX6_about 193 = .ok (.sipush (-2002), 3) := by decide +kernel
theorem dX6_about_196 : decode cX6_about 196 = .ok (.ireturn, 1) := by decide +kernel
set_option maxRecDepth 20000 in
set_option maxHeartbeats 4000000 in
theorem k_M_about (l : Launch) (w : WT) (σ : MM) (a : Int) (h : Int) (i_a : inr a) (i_h : inr h) : CT SX l w yX6_about cX6_about 4 (some .int) 2 46 [.ref (w.2.2 27), .int (iI a), .int (iI h)] σ (PI fun z σ1 => σ = σ1 ∧ (((a < 0 ∨ σ 61 0 ≤ a) ∧ z = -2001) ∨ ((0 ≤ a ∧ a < σ 61 0) ∧ ((h = 0 ∧ z = σ 28 a) ∨ (h = 1 ∧ z = lenF (σ 28) a) ∨ (h = 2 ∧ z = sM (σ 28) (σ 29) (2 * a)) ∨ (h = 3 ∧ z = dM (σ 28) (σ 30) (2 * a)) ∨ (h = 4 ∧ z = sM (σ 28) (σ 29) (2 * a + 1)) ∨ (h = 5 ∧ z = dM (σ 28) (σ 30) (2 * a + 1)) ∨ (h = 6 ∧ z = pM (σ 28) (σ 31) a) ∨ (h = 7 ∧ z = pM (σ 28) (σ 32) a) ∨ ((h < 0 ∨ 7 < h) ∧ z = -2002))))) := by
  refine CT.of 1 [some (.ref (w.2.2 27)), some (.int (iI a)), some (.int (iI h)), none] (by decide +kernel) (by simp [lg_sl, Value.category]) rfl sh_X (fun G hX => ?_)
  refine r_bd hX (fun hBd => ?_)
  have b_61 := hBd 61 0 8 rfl 0
  refine r_aload_n hX dX6_about_0 rfl ?_
  refine r_iload_n hX dX6_about_1 rfl ?_
  refine r_callV hX dX6_about_2 (k_M_isAct l w σ _ (by omega)) mf_X6_isAct mv_X6_isAct lk_RX6_102 rfl rfl rfl rfl rfl ⟨Nat.le_of_ble_eq_true rfl, Nat.le_of_ble_eq_true rfl⟩ (Nat.le_of_ble_eq_true rfl) (kI fun z2 σ2 hh => ?_)
  obtain ⟨rfl, h2_0⟩ := hh
  refine r_if_ne hX (tgt := 12) dX6_about_5 (by decide) (by omega) (fun c5 => ?_) (fun c5 => ?_)
  · skip
    refine r_aload_n hX dX6_about_12 rfl ?_
    refine fg_X27_7 hX dX6_about_13 ?_
    refine r_iload_n hX dX6_about_16 rfl ?_
    refine ld_X28 hX dX6_about_17 (by omega) (by omega) (fun b17l b17u => ?_)
    refine r_if_ne hX (tgt := 25) dX6_about_18 (by decide) (by omega) (fun c18 => ?_) (fun c18 => ?_)
    · skip
      refine r_iconst hX dX6_about_25 ?_
      refine r_istore_n hX (fun x26 => [some (.ref (w.2.2 27)), some (.int (iI a)), some (.int (iI h)), some (.int (iI x26))]) dX6_about_26 (Nat.le_of_ble_eq_true rfl) rfl rfl (fun _ => rfl) (fun x26 e26 => ?_)
      refine r_iload_n hX dX6_about_27 rfl ?_
      refine r_nm hX (fun x28 e28 => ?_)
      rcases (by omega : x28 < 0 ∨ 7 < x28 ∨ x28 = 0 ∨ x28 = 1 ∨ x28 = 2 ∨ x28 = 3 ∨ x28 = 4 ∨ x28 = 5 ∨ x28 = 6 ∨ x28 = 7) with c28 | c28 | c28 | c28 | c28 | c28 | c28 | c28 | c28 | c28
      · skip
        refine r_tblOut hX dX6_about_28 (by omega) (Or.inl c28) (tgt := 193) (by decide) ?_
        refine r_sipush hX dX6_about_193 (by decide) ?_
        exact r_iret hX dX6_about_196 rfl ⟨_, rfl, ⟨rfl, (by exact Or.inr ⟨by omega, Or.inr (Or.inr (Or.inr (Or.inr (Or.inr (Or.inr (Or.inr (Or.inr (⟨by omega, rfl⟩))))))))⟩)⟩⟩
      · skip
        refine r_tblOut hX dX6_about_28 (by omega) (Or.inr c28) (tgt := 193) (by decide) ?_
        refine r_sipush hX dX6_about_193 (by decide) ?_
        exact r_iret hX dX6_about_196 rfl ⟨_, rfl, ⟨rfl, (by exact Or.inr ⟨by omega, Or.inr (Or.inr (Or.inr (Or.inr (Or.inr (Or.inr (Or.inr (Or.inr (⟨by omega, rfl⟩))))))))⟩)⟩⟩
      · skip
        refine r_tblIn hX 0 dX6_about_28 c28 (by decide) rfl (tgt := 76) (by decide) ?_
        refine r_aload_n hX dX6_about_76 rfl ?_
        refine fg_X27_7 hX dX6_about_77 ?_
        refine r_iload_n hX dX6_about_80 rfl ?_
        refine ld_X28 hX dX6_about_81 (by omega) (by omega) (fun b81l b81u => ?_)
        exact r_iret hX dX6_about_82 rfl ⟨_, rfl, ⟨rfl, (by exact Or.inr ⟨by omega, Or.inl ⟨by omega, rfl⟩⟩)⟩⟩
      · skip
        refine r_tblIn hX 1 dX6_about_28 c28 (by decide) rfl (tgt := 83) (by decide) ?_
        refine r_aload_n hX dX6_about_83 rfl ?_
        refine r_iload_n hX dX6_about_84 rfl ?_
        refine r_callV hX dX6_about_85 (k_M_lengthOf l w σ _ (by omega) (by omega)) mf_X6_lengthOf mv_X6_lengthOf lk_RX6_130 rfl rfl rfl rfl rfl ⟨Nat.le_of_ble_eq_true rfl, Nat.le_of_ble_eq_true rfl⟩ (Nat.le_of_ble_eq_true rfl) (kI fun z85 σ85 hh => ?_)
        obtain ⟨rfl, h85_0, h85_1⟩ := hh
        exact r_iret hX dX6_about_88 rfl ⟨_, rfl, ⟨rfl, (by exact Or.inr ⟨by omega, Or.inr (Or.inl ⟨by omega, h85_0⟩)⟩)⟩⟩
      · skip
        refine r_tblIn hX 2 dX6_about_28 c28 (by decide) rfl (tgt := 89) (by decide) ?_
        refine r_iload_n hX dX6_about_89 rfl ?_
        refine r_if_eq hX (tgt := 98) dX6_about_90 (by decide) (by omega) (fun c90 => ?_) (fun c90 => by exfalso; omega)
        refine r_aload_n hX dX6_about_98 rfl ?_
        refine fg_X27_13 hX dX6_about_99 ?_
        refine r_iconst hX dX6_about_102 ?_
        refine r_iload_n hX dX6_about_103 rfl ?_
        refine r_imul hX dX6_about_104 ?_
        refine ld_X29 hX dX6_about_105 (by omega) (by omega) (fun b105l b105u => ?_)
        exact r_iret hX dX6_about_106 rfl ⟨_, rfl, ⟨rfl, (by exact Or.inr ⟨by omega, Or.inr (Or.inr (Or.inl ⟨by omega, (by first | (unfold sM; rw [hf0, if_pos (by omega)]) | (unfold sM; rw [hf0, if_neg (by omega)]))⟩))⟩)⟩⟩
      · skip
        refine r_tblIn hX 3 dX6_about_28 c28 (by decide) rfl (tgt := 107) (by decide) ?_
        refine r_iload_n hX dX6_about_107 rfl ?_
        refine r_if_eq hX (tgt := 115) dX6_about_108 (by decide) (by omega) (fun c108 => ?_) (fun c108 => by exfalso; omega)
        refine r_aload_n hX dX6_about_115 rfl ?_
        refine fg_X27_16 hX dX6_about_116 ?_
        refine r_iconst hX dX6_about_119 ?_
        refine r_iload_n hX dX6_about_120 rfl ?_
        refine r_imul hX dX6_about_121 ?_
        refine ld_X30 hX dX6_about_122 (by omega) (by omega) (fun b122l b122u => ?_)
        exact r_iret hX dX6_about_123 rfl ⟨_, rfl, ⟨rfl, (by exact Or.inr ⟨by omega, Or.inr (Or.inr (Or.inr (Or.inl ⟨by omega, (by first | (unfold dM; rw [hf0, if_pos (by omega)]) | (unfold dM; rw [hf0, if_neg (by omega)]))⟩)))⟩)⟩⟩
      · skip
        refine r_tblIn hX 4 dX6_about_28 c28 (by decide) rfl (tgt := 124) (by decide) ?_
        refine r_iload_n hX dX6_about_124 rfl ?_
        refine r_if_eq hX (tgt := 133) dX6_about_125 (by decide) (by omega) (fun c125 => ?_) (fun c125 => by exfalso; omega)
        refine r_aload_n hX dX6_about_133 rfl ?_
        refine fg_X27_13 hX dX6_about_134 ?_
        refine r_iconst hX dX6_about_137 ?_
        refine r_iload_n hX dX6_about_138 rfl ?_
        refine r_imul hX dX6_about_139 ?_
        refine r_iconst hX dX6_about_140 ?_
        refine r_iadd hX dX6_about_141 ?_
        refine ld_X29 hX dX6_about_142 (by omega) (by omega) (fun b142l b142u => ?_)
        exact r_iret hX dX6_about_143 rfl ⟨_, rfl, ⟨rfl, (by exact Or.inr ⟨by omega, Or.inr (Or.inr (Or.inr (Or.inr (Or.inl ⟨by omega, (by first | (unfold sM; rw [hf1, if_pos (by omega)]) | (unfold sM; rw [hf1, if_neg (by omega)]))⟩))))⟩)⟩⟩
      · skip
        refine r_tblIn hX 5 dX6_about_28 c28 (by decide) rfl (tgt := 144) (by decide) ?_
        refine r_iload_n hX dX6_about_144 rfl ?_
        refine r_if_eq hX (tgt := 152) dX6_about_145 (by decide) (by omega) (fun c145 => ?_) (fun c145 => by exfalso; omega)
        refine r_aload_n hX dX6_about_152 rfl ?_
        refine fg_X27_16 hX dX6_about_153 ?_
        refine r_iconst hX dX6_about_156 ?_
        refine r_iload_n hX dX6_about_157 rfl ?_
        refine r_imul hX dX6_about_158 ?_
        refine r_iconst hX dX6_about_159 ?_
        refine r_iadd hX dX6_about_160 ?_
        refine ld_X30 hX dX6_about_161 (by omega) (by omega) (fun b161l b161u => ?_)
        exact r_iret hX dX6_about_162 rfl ⟨_, rfl, ⟨rfl, (by exact Or.inr ⟨by omega, Or.inr (Or.inr (Or.inr (Or.inr (Or.inr (Or.inl ⟨by omega, (by first | (unfold dM; rw [hf1, if_pos (by omega)]) | (unfold dM; rw [hf1, if_neg (by omega)]))⟩)))))⟩)⟩⟩
      · skip
        refine r_tblIn hX 6 dX6_about_28 c28 (by decide) rfl (tgt := 163) (by decide) ?_
        refine r_iload_n hX dX6_about_163 rfl ?_
        refine r_if_eq hX (tgt := 176) dX6_about_164 (by decide) (by omega) (fun c164 => ?_) (fun c164 => by exfalso; omega)
        refine r_iconst hX dX6_about_176 ?_
        exact r_iret hX dX6_about_177 rfl ⟨_, rfl, ⟨rfl, (by exact Or.inr ⟨by omega, Or.inr (Or.inr (Or.inr (Or.inr (Or.inr (Or.inr (Or.inl ⟨by omega, (by first | (unfold pM; rw [if_pos (by omega)]) | (unfold pM; rw [if_neg (by omega)]))⟩))))))⟩)⟩⟩
      · skip
        refine r_tblIn hX 7 dX6_about_28 c28 (by decide) rfl (tgt := 178) (by decide) ?_
        refine r_iload_n hX dX6_about_178 rfl ?_
        refine r_if_eq hX (tgt := 191) dX6_about_179 (by decide) (by omega) (fun c179 => ?_) (fun c179 => by exfalso; omega)
        refine r_iconst hX dX6_about_191 ?_
        exact r_iret hX dX6_about_192 rfl ⟨_, rfl, ⟨rfl, (by exact Or.inr ⟨by omega, Or.inr (Or.inr (Or.inr (Or.inr (Or.inr (Or.inr (Or.inr (Or.inl ⟨by omega, (by first | (unfold pM; rw [if_pos (by omega)]) | (unfold pM; rw [if_neg (by omega)]))⟩)))))))⟩)⟩⟩
    · skip
      refine r_iconst hX dX6_about_21 ?_
      refine r_goto hX dX6_about_22 (tgt := 26) (by decide) ?_
      refine r_istore_n hX (fun x26 => [some (.ref (w.2.2 27)), some (.int (iI a)), some (.int (iI h)), some (.int (iI x26))]) dX6_about_26 (Nat.le_of_ble_eq_true rfl) rfl rfl (fun _ => rfl) (fun x26 e26 => ?_)
      refine r_iload_n hX dX6_about_27 rfl ?_
      refine r_nm hX (fun x28 e28 => ?_)
      rcases (by omega : x28 < 0 ∨ 7 < x28 ∨ x28 = 0 ∨ x28 = 1 ∨ x28 = 2 ∨ x28 = 3 ∨ x28 = 4 ∨ x28 = 5 ∨ x28 = 6 ∨ x28 = 7) with c28 | c28 | c28 | c28 | c28 | c28 | c28 | c28 | c28 | c28
      · skip
        refine r_tblOut hX dX6_about_28 (by omega) (Or.inl c28) (tgt := 193) (by decide) ?_
        refine r_sipush hX dX6_about_193 (by decide) ?_
        exact r_iret hX dX6_about_196 rfl ⟨_, rfl, ⟨rfl, (by exact Or.inr ⟨by omega, Or.inr (Or.inr (Or.inr (Or.inr (Or.inr (Or.inr (Or.inr (Or.inr (⟨by omega, rfl⟩))))))))⟩)⟩⟩
      · skip
        refine r_tblOut hX dX6_about_28 (by omega) (Or.inr c28) (tgt := 193) (by decide) ?_
        refine r_sipush hX dX6_about_193 (by decide) ?_
        exact r_iret hX dX6_about_196 rfl ⟨_, rfl, ⟨rfl, (by exact Or.inr ⟨by omega, Or.inr (Or.inr (Or.inr (Or.inr (Or.inr (Or.inr (Or.inr (Or.inr (⟨by omega, rfl⟩))))))))⟩)⟩⟩
      · skip
        refine r_tblIn hX 0 dX6_about_28 c28 (by decide) rfl (tgt := 76) (by decide) ?_
        refine r_aload_n hX dX6_about_76 rfl ?_
        refine fg_X27_7 hX dX6_about_77 ?_
        refine r_iload_n hX dX6_about_80 rfl ?_
        refine ld_X28 hX dX6_about_81 (by omega) (by omega) (fun b81l b81u => ?_)
        exact r_iret hX dX6_about_82 rfl ⟨_, rfl, ⟨rfl, (by exact Or.inr ⟨by omega, Or.inl ⟨by omega, rfl⟩⟩)⟩⟩
      · skip
        refine r_tblIn hX 1 dX6_about_28 c28 (by decide) rfl (tgt := 83) (by decide) ?_
        refine r_aload_n hX dX6_about_83 rfl ?_
        refine r_iload_n hX dX6_about_84 rfl ?_
        refine r_callV hX dX6_about_85 (k_M_lengthOf l w σ _ (by omega) (by omega)) mf_X6_lengthOf mv_X6_lengthOf lk_RX6_130 rfl rfl rfl rfl rfl ⟨Nat.le_of_ble_eq_true rfl, Nat.le_of_ble_eq_true rfl⟩ (Nat.le_of_ble_eq_true rfl) (kI fun z85 σ85 hh => ?_)
        obtain ⟨rfl, h85_0, h85_1⟩ := hh
        exact r_iret hX dX6_about_88 rfl ⟨_, rfl, ⟨rfl, (by exact Or.inr ⟨by omega, Or.inr (Or.inl ⟨by omega, h85_0⟩)⟩)⟩⟩
      · skip
        refine r_tblIn hX 2 dX6_about_28 c28 (by decide) rfl (tgt := 89) (by decide) ?_
        refine r_iload_n hX dX6_about_89 rfl ?_
        refine r_if_eq hX (tgt := 98) dX6_about_90 (by decide) (by omega) (fun c90 => by exfalso; omega) (fun c90 => ?_)
        refine r_bipush hX dX6_about_93 (by decide) ?_
        refine r_goto hX dX6_about_95 (tgt := 106) (by decide) ?_
        exact r_iret hX dX6_about_106 rfl ⟨_, rfl, ⟨rfl, (by exact Or.inr ⟨by omega, Or.inr (Or.inr (Or.inl ⟨by omega, (by first | (unfold sM; rw [hf0, if_pos (by omega)]) | (unfold sM; rw [hf0, if_neg (by omega)]))⟩))⟩)⟩⟩
      · skip
        refine r_tblIn hX 3 dX6_about_28 c28 (by decide) rfl (tgt := 107) (by decide) ?_
        refine r_iload_n hX dX6_about_107 rfl ?_
        refine r_if_eq hX (tgt := 115) dX6_about_108 (by decide) (by omega) (fun c108 => by exfalso; omega) (fun c108 => ?_)
        refine r_iconst hX dX6_about_111 ?_
        refine r_goto hX dX6_about_112 (tgt := 123) (by decide) ?_
        exact r_iret hX dX6_about_123 rfl ⟨_, rfl, ⟨rfl, (by exact Or.inr ⟨by omega, Or.inr (Or.inr (Or.inr (Or.inl ⟨by omega, (by first | (unfold dM; rw [hf0, if_pos (by omega)]) | (unfold dM; rw [hf0, if_neg (by omega)]))⟩)))⟩)⟩⟩
      · skip
        refine r_tblIn hX 4 dX6_about_28 c28 (by decide) rfl (tgt := 124) (by decide) ?_
        refine r_iload_n hX dX6_about_124 rfl ?_
        refine r_if_eq hX (tgt := 133) dX6_about_125 (by decide) (by omega) (fun c125 => by exfalso; omega) (fun c125 => ?_)
        refine r_bipush hX dX6_about_128 (by decide) ?_
        refine r_goto hX dX6_about_130 (tgt := 143) (by decide) ?_
        exact r_iret hX dX6_about_143 rfl ⟨_, rfl, ⟨rfl, (by exact Or.inr ⟨by omega, Or.inr (Or.inr (Or.inr (Or.inr (Or.inl ⟨by omega, (by first | (unfold sM; rw [hf1, if_pos (by omega)]) | (unfold sM; rw [hf1, if_neg (by omega)]))⟩))))⟩)⟩⟩
      · skip
        refine r_tblIn hX 5 dX6_about_28 c28 (by decide) rfl (tgt := 144) (by decide) ?_
        refine r_iload_n hX dX6_about_144 rfl ?_
        refine r_if_eq hX (tgt := 152) dX6_about_145 (by decide) (by omega) (fun c145 => by exfalso; omega) (fun c145 => ?_)
        refine r_iconst hX dX6_about_148 ?_
        refine r_goto hX dX6_about_149 (tgt := 162) (by decide) ?_
        exact r_iret hX dX6_about_162 rfl ⟨_, rfl, ⟨rfl, (by exact Or.inr ⟨by omega, Or.inr (Or.inr (Or.inr (Or.inr (Or.inr (Or.inl ⟨by omega, (by first | (unfold dM; rw [hf1, if_pos (by omega)]) | (unfold dM; rw [hf1, if_neg (by omega)]))⟩)))))⟩)⟩⟩
      · skip
        refine r_tblIn hX 6 dX6_about_28 c28 (by decide) rfl (tgt := 163) (by decide) ?_
        refine r_iload_n hX dX6_about_163 rfl ?_
        refine r_if_eq hX (tgt := 176) dX6_about_164 (by decide) (by omega) (fun c164 => by exfalso; omega) (fun c164 => ?_)
        refine r_aload_n hX dX6_about_167 rfl ?_
        refine fg_X27_19 hX dX6_about_168 ?_
        refine r_iload_n hX dX6_about_171 rfl ?_
        refine ld_X31 hX dX6_about_172 (by omega) (by omega) ?_
        refine r_goto hX dX6_about_173 (tgt := 177) (by decide) ?_
        exact r_iret hX dX6_about_177 rfl ⟨_, rfl, ⟨rfl, (by exact Or.inr ⟨by omega, Or.inr (Or.inr (Or.inr (Or.inr (Or.inr (Or.inr (Or.inl ⟨by omega, (by first | (unfold pM; rw [if_pos (by omega)]) | (unfold pM; rw [if_neg (by omega)]))⟩))))))⟩)⟩⟩
      · skip
        refine r_tblIn hX 7 dX6_about_28 c28 (by decide) rfl (tgt := 178) (by decide) ?_
        refine r_iload_n hX dX6_about_178 rfl ?_
        refine r_if_eq hX (tgt := 191) dX6_about_179 (by decide) (by omega) (fun c179 => by exfalso; omega) (fun c179 => ?_)
        refine r_aload_n hX dX6_about_182 rfl ?_
        refine fg_X27_22 hX dX6_about_183 ?_
        refine r_iload_n hX dX6_about_186 rfl ?_
        refine ld_X32 hX dX6_about_187 (by omega) (by omega) ?_
        refine r_goto hX dX6_about_188 (tgt := 192) (by decide) ?_
        exact r_iret hX dX6_about_192 rfl ⟨_, rfl, ⟨rfl, (by exact Or.inr ⟨by omega, Or.inr (Or.inr (Or.inr (Or.inr (Or.inr (Or.inr (Or.inr (Or.inl ⟨by omega, (by first | (unfold pM; rw [if_pos (by omega)]) | (unfold pM; rw [if_neg (by omega)]))⟩)))))))⟩)⟩⟩
  · skip
    refine r_sipush hX dX6_about_8 (by decide) ?_
    exact r_iret hX dX6_about_11 rfl ⟨_, rfl, ⟨rfl, (by exact Or.inl ⟨by omega, rfl⟩)⟩⟩
theorem dX6_whole_0 : decode cX6_whole 0 = .ok (.iconst 0, 1) := by decide +kernel
theorem dX6_whole_1 : decode cX6_whole 1 = .ok (.istore_n 1, 1) := by decide +kernel
theorem dX6_whole_2 : decode cX6_whole 2 = .ok (.iload_n 1, 1) := by decide +kernel
theorem dX6_whole_3 : decode cX6_whole 3 = .ok (.bipush 9, 2) := by decide +kernel
theorem dX6_whole_5 : decode cX6_whole 5 = .ok (.if_icmp .ge 23, 3) := by decide +kernel
theorem dX6_whole_8 : decode cX6_whole 8 = .ok (.aload_n 0, 1) := by decide +kernel
theorem dX6_whole_9 : decode cX6_whole 9 = .ok (.getfield 39, 3) := by decide +kernel
theorem dX6_whole_12 : decode cX6_whole 12 = .ok (.iload_n 1, 1) := by decide +kernel
theorem dX6_whole_13 : decode cX6_whole 13 = .ok (.iconst 0, 1) := by decide +kernel
theorem dX6_whole_14 : decode cX6_whole 14 = .ok (.bastore, 1) := by decide +kernel
theorem dX6_whole_15 : decode cX6_whole 15 = .ok (.aload_n 0, 1) := by decide +kernel
theorem dX6_whole_16 : decode cX6_whole 16 = .ok (.getfield 42, 3) := by decide +kernel
theorem dX6_whole_19 : decode cX6_whole 19 = .ok (.iload_n 1, 1) := by decide +kernel
theorem dX6_whole_20 : decode cX6_whole 20 = .ok (.iconst 1, 1) := by decide +kernel
theorem dX6_whole_21 : decode cX6_whole 21 = .ok (.bastore, 1) := by decide +kernel
theorem dX6_whole_22 : decode cX6_whole 22 = .ok (.iinc 1 1, 3) := by decide +kernel
theorem dX6_whole_25 : decode cX6_whole 25 = .ok (.goto (-23), 3) := by decide +kernel
theorem dX6_whole_28 : decode cX6_whole 28 = .ok (.return_, 1) := by decide +kernel
set_option maxRecDepth 20000 in
set_option maxHeartbeats 4000000 in
theorem k_M_whole (l : Launch) (w : WT) (σ : MM) : CT SX l w yX6_whole cX6_whole 2 none 0 0 [.ref (w.2.2 27)] σ (PV fun σ1 => Mod [35, 36] σ σ1 ∧ (∀ b : Int, 0 ≤ b → b < 9 → σ1 35 b = 0 ∧ σ1 36 b = 1)) := by
  refine CT.of 1 [some (.ref (w.2.2 27)), none] (by decide +kernel) (by simp [lg_sl, Value.category]) rfl sh_X (fun G hX => ?_)
  refine r_iconst hX dX6_whole_0 ?_
  refine r_istore_n hX (fun x1 => [some (.ref (w.2.2 27)), some (.int (iI x1))]) dX6_whole_1 (Nat.le_of_ble_eq_true rfl) rfl rfl (fun _ => rfl) (fun x1 e1 => ?_)
  have lp2 : ∀ (n : Nat) (i : Int) (σ2 : MM) (m2 : Mod [35, 36] σ σ2) (hi : 0 ≤ i ∧ i ≤ 9) (hz : ∀ b : Int, 0 ≤ b → b < i → σ2 35 b = 0 ∧ σ2 36 b = 1) (hmu : 10 - i < (n : Int)), G 2 [some (.ref (w.2.2 27)), some (.int (iI i))] [] σ2 := by
    intro n
    induction n with
    | zero => intro i σ2 m2 hi hz hmu; omega
    | succ n ih =>
      intro i σ2 m2 hi hz hmu
      have ih2 := ih
      clear ih
      refine r_iload_n hX dX6_whole_2 rfl ?_
      refine r_bipush hX dX6_whole_3 (by decide) ?_
      refine r_icmp_ge hX (tgt := 28) dX6_whole_5 (by decide) (by omega) (by omega) (fun c5 => ?_) (fun c5 => ?_)
      · skip
        exact r_ret hX dX6_whole_28 rfl ⟨rfl, ⟨(m2.w rfl), (fun b b0 b1 => hz b b0 (by omega))⟩⟩
      · skip
        refine r_aload_n hX dX6_whole_8 rfl ?_
        refine fg_X27_39 hX dX6_whole_9 ?_
        refine r_iload_n hX dX6_whole_12 rfl ?_
        refine r_iconst hX dX6_whole_13 ?_
        refine st_X35 hX dX6_whole_14 (by omega) (by omega) (by omega) (fun σ14 m14 s14 => ?_)
        refine r_aload_n hX dX6_whole_15 rfl ?_
        refine fg_X27_42 hX dX6_whole_16 ?_
        refine r_iload_n hX dX6_whole_19 rfl ?_
        refine r_iconst hX dX6_whole_20 ?_
        refine st_X36 hX dX6_whole_21 (by omega) (by omega) (by omega) (fun σ21 m21 s21 => ?_)
        simp only [show σ14 36 = σ2 36 from (m14.at 36 rfl)] at s21
        refine r_iinc hX (fun x22 => [some (.ref (w.2.2 27)), some (.int (iI x22))]) dX6_whole_22 rfl rfl rfl (fun _ => rfl) (fun x22 e22 => ?_)
        refine r_goto hX dX6_whole_25 (tgt := 2) (by decide) ?_
        exact ih2 x22 σ21 (Mod.tr (L := [35, 36]) (Mod.tr (L := [35, 36]) m2 m14 rfl rfl) m21 rfl rfl) (by omega) (by rw [e22, m21.at 35 rfl]; exact two_step hz s14 s21) (by omega)
  exact lp2 ((10 - (x1)) + 1).toNat x1 σ Mod.rf (by omega) (fun b b0 b1 => by omega) (by omega)
theorem dX6_cells_0 : decode cX6_cells 0 = .ok (.aload_n 0, 1) := by decide +kernel
theorem dX6_cells_1 : decode cX6_cells 1 = .ok (.getfield 32, 3) := by decide +kernel
theorem dX6_cells_4 : decode cX6_cells 4 = .ok (.aload_n 0, 1) := by decide +kernel
theorem dX6_cells_5 : decode cX6_cells 5 = .ok (.getfield 36, 3) := by decide +kernel
theorem dX6_cells_8 : decode cX6_cells 8 = .ok (.imul, 1) := by decide +kernel
theorem dX6_cells_9 : decode cX6_cells 9 = .ok (.ireturn, 1) := by decide +kernel
set_option maxRecDepth 20000 in
set_option maxHeartbeats 4000000 in
theorem k_M_cells (l : Launch) (w : WT) (σ : MM) : CT SX l w yX6_cells cX6_cells 1 (some .int) 0 0 [.ref (w.2.2 27)] σ (PI fun z σ1 => σ = σ1 ∧ (z = σ 65 0 * σ 66 0) ∧ (1 ≤ z ∧ z ≤ 9)) := by
  refine CT.of 0 [some (.ref (w.2.2 27))] (by decide +kernel) (by simp [lg_sl, Value.category]) rfl sh_X (fun G hX => ?_)
  refine r_bd hX (fun hBd => ?_)
  have b_65 := hBd 65 1 3 rfl 0
  have b_66 := hBd 66 1 3 rfl 0
  have hn := mul_bd b_65 b_66
  refine r_aload_n hX dX6_cells_0 rfl ?_
  refine fg_X27_32 hX dX6_cells_1 (fun b1l b1u => ?_)
  refine r_aload_n hX dX6_cells_4 rfl ?_
  refine fg_X27_36 hX dX6_cells_5 (fun b5l b5u => ?_)
  refine r_imul hX dX6_cells_8 ?_
  exact r_iret hX dX6_cells_9 rfl ⟨_, rfl, ⟨rfl, (by omega), (by omega)⟩⟩
theorem dX6_isCell_0 : decode cX6_isCell 0 = .ok (.iload_n 1, 1) := by decide +kernel
theorem dX6_isCell_1 : decode cX6_isCell 1 = .ok (.i2l, 1) := by decide +kernel
theorem dX6_isCell_2 : decode cX6_isCell 2 = .ok (.lconst 0, 1) := by decide +kernel
theorem dX6_isCell_3 : decode cX6_isCell 3 = .ok (.aload_n 0, 1) := by decide +kernel
theorem dX6_isCell_4 : decode cX6_isCell 4 = .ok (.invokevirtual 133, 3) := by decide +kernel
theorem dX6_isCell_7 : decode cX6_isCell 7 = .ok (.iconst 1, 1) := by decide +kernel
theorem dX6_isCell_8 : decode cX6_isCell 8 = .ok (.isub, 1) := by decide +kernel
theorem dX6_isCell_9 : decode cX6_isCell 9 = .ok (.i2l, 1) := by decide +kernel
theorem dX6_isCell_10 : decode cX6_isCell 10 = .ok (.invokestatic 75, 3) := by decide +kernel
theorem dX6_isCell_13 : decode cX6_isCell 13 = .ok (.ireturn, 1) := by decide +kernel
set_option maxRecDepth 20000 in
set_option maxHeartbeats 4000000 in
theorem k_M_isCell (l : Launch) (w : WT) (σ : MM) (a : Int) (i_a : inr a) : CT SX l w yX6_isCell cX6_isCell 2 (some .boolean) 1 25 [.ref (w.2.2 27), .int (iI a)] σ (PI fun z σ1 => σ = σ1 ∧ ((z = 1 ∧ 0 ≤ a ∧ a < σ 65 0 * σ 66 0) ∨ (z = 0 ∧ (a < 0 ∨ σ 65 0 * σ 66 0 ≤ a)))) := by
  refine CT.of 0 [some (.ref (w.2.2 27)), some (.int (iI a))] (by decide +kernel) (by simp [lg_sl, Value.category]) rfl sh_X (fun G hX => ?_)
  refine r_bd hX (fun hBd => ?_)
  have b_65 := hBd 65 1 3 rfl 0
  have b_66 := hBd 66 1 3 rfl 0
  have hn := mul_bd b_65 b_66
  refine r_iload_n hX dX6_isCell_0 rfl ?_
  refine r_i2l hX dX6_isCell_1 (by omega) ?_
  refine r_lconst hX (z := 0) dX6_isCell_2 rfl ?_
  refine r_aload_n hX dX6_isCell_3 rfl ?_
  refine r_callV hX dX6_isCell_4 (k_M_cells l w σ) mf_X6_cells mv_X6_cells lk_RX6_133 rfl rfl rfl rfl rfl ⟨Nat.le_of_ble_eq_true rfl, Nat.le_of_ble_eq_true rfl⟩ (Nat.le_of_ble_eq_true rfl) (kI fun z4 σ4 hh => ?_)
  obtain ⟨rfl, h4_0, h4_1⟩ := hh
  refine r_iconst hX dX6_isCell_7 ?_
  refine r_isub hX dX6_isCell_8 ?_
  refine r_i2l hX dX6_isCell_9 (by omega) ?_
  refine r_callS hX dX6_isCell_10 (k_M_in l w σ _ _ _ (by omega) (by omega) (by omega)) mf_X6_in ms_X6_in lk_RX6_75 rfl rfl ⟨Nat.le_of_ble_eq_true rfl, Nat.le_of_ble_eq_true rfl⟩ (Nat.le_of_ble_eq_true rfl) (kI fun z10 σ10 hh => ?_)
  obtain ⟨rfl, h10_0⟩ := hh
  exact r_zret hX dX6_isCell_13 rfl (by omega) ⟨_, rfl, ⟨rfl, (by omega)⟩⟩
theorem dX6_board_0 : decode cX6_board 0 = .ok (.iload_n 1, 1) := by decide +kernel
theorem dX6_board_1 : decode cX6_board 1 = .ok (.i2l, 1) := by decide +kernel
theorem dX6_board_2 : decode cX6_board 2 = .ok (.lconst 1, 1) := by decide +kernel
theorem dX6_board_3 : decode cX6_board 3 = .ok (.ldc2_w 97, 3) := by decide +kernel
theorem dX6_board_6 : decode cX6_board 6 = .ok (.invokestatic 75, 3) := by decide +kernel
theorem dX6_board_9 : decode cX6_board 9 = .ok (.ifCond .eq 15, 3) := by decide +kernel
theorem dX6_board_12 : decode cX6_board 12 = .ok (.iload_n 2, 1) := by decide +kernel
theorem dX6_board_13 : decode cX6_board 13 = .ok (.i2l, 1) := by decide +kernel
theorem dX6_board_14 : decode cX6_board 14 = .ok (.lconst 1, 1) := by decide +kernel
theorem dX6_board_15 : decode cX6_board 15 = .ok (.ldc2_w 97, 3) := by decide +kernel
theorem dX6_board_18 : decode cX6_board 18 = .ok (.invokestatic 75, 3) := by decide +kernel
theorem dX6_board_21 : decode cX6_board 21 = .ok (.ifCond .ne 6, 3) := by decide +kernel
theorem dX6_board_24 : decode cX6_board 24 = .ok (.bipush (-2), 2) := by decide +kernel
theorem dX6_board_26 : decode cX6_board 26 = .ok (.ireturn, 1) := by decide +kernel
theorem dX6_board_27 : decode cX6_board 27 = .ok (.aload_n 0, 1) := by decide +kernel
theorem dX6_board_28 : decode cX6_board 28 = .ok (.iload_n 1, 1) := by decide +kernel
theorem dX6_board_29 : decode cX6_board 29 = .ok (.putfield 32, 3) := by decide +kernel
theorem dX6_board_32 : decode cX6_board 32 = .ok (.aload_n 0, 1) := by decide +kernel
theorem dX6_board_33 : decode cX6_board 33 = .ok (.iload_n 2, 1) := by decide +kernel
theorem dX6_board_34 : decode cX6_board 34 = .ok (.putfield 36, 3) := by decide +kernel
theorem dX6_board_37 : decode cX6_board 37 = .ok (.aload_n 0, 1) := by decide +kernel
theorem dX6_board_38 : decode cX6_board 38 = .ok (.invokevirtual 69, 3) := by decide +kernel
theorem dX6_board_41 : decode cX6_board 41 = .ok (.aload_n 0, 1) := by decide +kernel
theorem dX6_board_42 : decode cX6_board 42 = .ok (.iconst 0, 1) := by decide +kernel
theorem dX6_board_43 : decode cX6_board 43 = .ok (.putfield 79, 3) := by decide +kernel
theorem dX6_board_46 : decode cX6_board 46 = .ok (.aload_n 0, 1) := by decide +kernel
theorem dX6_board_47 : decode cX6_board 47 = .ok (.iconst 0, 1) := by decide +kernel
theorem dX6_board_48 : decode cX6_board 48 = .ok (.putfield 82, 3) := by decide +kernel
theorem dX6_board_51 : decode cX6_board 51 = .ok (.aload_n 0, 1) := by decide +kernel
theorem dX6_board_52 : decode cX6_board 52 = .ok (.invokevirtual 133, 3) := by decide +kernel
theorem dX6_board_55 : decode cX6_board 55 = .ok (.ireturn, 1) := by decide +kernel
set_option maxRecDepth 20000 in
set_option maxHeartbeats 4000000 in
theorem k_M_board (l : Launch) (w : WT) (σ : MM) (r : Int) (k : Int) (i_r : inr r) (i_k : inr k) : CT SX l w yX6_board cX6_board 3 (some .int) 1 25 [.ref (w.2.2 27), .int (iI r), .int (iI k)] σ (PI fun z σ1 => Mod [35, 36, 63, 64, 65, 66] σ σ1 ∧ (((r < 1 ∨ 3 < r ∨ k < 1 ∨ 3 < k) ∧ z = -2 ∧ σ1 = σ) ∨ ((1 ≤ r ∧ r ≤ 3 ∧ 1 ≤ k ∧ k ≤ 3) ∧ z = r * k ∧ σ1 65 0 = r ∧ σ1 66 0 = k ∧ (∀ b : Int, 0 ≤ b → b < 9 → σ1 35 b = 0 ∧ σ1 36 b = 1) ∧ σ1 63 0 = 0 ∧ σ1 64 0 = 0))) := by
  refine CT.of 0 [some (.ref (w.2.2 27)), some (.int (iI r)), some (.int (iI k))] (by decide +kernel) (by simp [lg_sl, Value.category]) rfl sh_X (fun G hX => ?_)
  refine r_iload_n hX dX6_board_0 rfl ?_
  refine r_i2l hX dX6_board_1 (by omega) ?_
  refine r_lconst hX (z := 1) dX6_board_2 rfl ?_
  refine r_ldc2 hX dX6_board_3 lc_RX6_97 ?_
  refine r_callS hX dX6_board_6 (k_M_in l w σ _ _ _ (by omega) (by omega) (by omega)) mf_X6_in ms_X6_in lk_RX6_75 rfl rfl ⟨Nat.le_of_ble_eq_true rfl, Nat.le_of_ble_eq_true rfl⟩ (Nat.le_of_ble_eq_true rfl) (kI fun z6 σ6 hh => ?_)
  obtain ⟨rfl, h6_0⟩ := hh
  refine r_if_eq hX (tgt := 24) dX6_board_9 (by decide) (by omega) (fun c9 => ?_) (fun c9 => ?_)
  · skip
    refine r_bipush hX dX6_board_24 (by decide) ?_
    exact r_iret hX dX6_board_26 rfl ⟨_, rfl, ⟨Mod.rf, (by exact Or.inl ⟨by omega, rfl, rfl⟩)⟩⟩
  · skip
    refine r_iload_n hX dX6_board_12 rfl ?_
    refine r_i2l hX dX6_board_13 (by omega) ?_
    refine r_lconst hX (z := 1) dX6_board_14 rfl ?_
    refine r_ldc2 hX dX6_board_15 lc_RX6_97 ?_
    refine r_callS hX dX6_board_18 (k_M_in l w σ _ _ _ (by omega) (by omega) (by omega)) mf_X6_in ms_X6_in lk_RX6_75 rfl rfl ⟨Nat.le_of_ble_eq_true rfl, Nat.le_of_ble_eq_true rfl⟩ (Nat.le_of_ble_eq_true rfl) (kI fun z18 σ18 hh => ?_)
    obtain ⟨rfl, h18_0⟩ := hh
    refine r_if_ne hX (tgt := 27) dX6_board_21 (by decide) (by omega) (fun c21 => ?_) (fun c21 => ?_)
    · skip
      refine r_aload_n hX dX6_board_27 rfl ?_
      refine r_iload_n hX dX6_board_28 rfl ?_
      refine fp_X27_32 hX dX6_board_29 (by omega) (fun σ29 m29 s29 => ?_)
      refine r_aload_n hX dX6_board_32 rfl ?_
      refine r_iload_n hX dX6_board_33 rfl ?_
      refine fp_X27_36 hX dX6_board_34 (by omega) (fun σ34 m34 s34 => ?_)
      refine r_aload_n hX dX6_board_37 rfl ?_
      refine r_callV hX dX6_board_38 (k_M_whole l w σ34) mf_X6_whole mv_X6_whole lk_RX6_69 rfl rfl rfl rfl rfl ⟨Nat.le_of_ble_eq_true rfl, Nat.le_of_ble_eq_true rfl⟩ (Nat.le_of_ble_eq_true rfl) (kV fun σ38 hh => ?_)
      obtain ⟨m38, h38_0⟩ := hh
      refine r_aload_n hX dX6_board_41 rfl ?_
      refine r_iconst hX dX6_board_42 ?_
      refine fp_X27_79 hX dX6_board_43 (by omega) (fun σ43 m43 s43 => ?_)
      refine r_aload_n hX dX6_board_46 rfl ?_
      refine r_iconst hX dX6_board_47 ?_
      refine fp_X27_82 hX dX6_board_48 (by omega) (fun σ48 m48 s48 => ?_)
      have q65 : σ48 65 0 = r := by rw [m48.at 65 rfl, m43.at 65 rfl, m38.at 65 rfl, m34.at 65 rfl]; exact s29
      have q66 : σ48 66 0 = k := by rw [m48.at 66 rfl, m43.at 66 rfl, m38.at 66 rfl]; exact s34
      refine r_aload_n hX dX6_board_51 rfl ?_
      refine r_callV hX dX6_board_52 (k_M_cells l w σ48) mf_X6_cells mv_X6_cells lk_RX6_133 rfl rfl rfl rfl rfl ⟨Nat.le_of_ble_eq_true rfl, Nat.le_of_ble_eq_true rfl⟩ (Nat.le_of_ble_eq_true rfl) (kI fun z52 σ52 hh => ?_)
      obtain ⟨rfl, h52_0, h52_1⟩ := hh
      have q52_1 : σ48 65 = σ29 65 := ((m48.at 65 rfl).trans ((m43.at 65 rfl).trans ((m38.at 65 rfl).trans (m34.at 65 rfl))))
      have q52_2 : σ48 66 = σ34 66 := ((m48.at 66 rfl).trans ((m43.at 66 rfl).trans (m38.at 66 rfl)))
      try simp only [q52_1, q52_2] at h52_0
      exact r_iret hX dX6_board_55 rfl ⟨_, rfl, ⟨(Mod.tr (L := [35, 36, 63, 64, 65, 66]) (Mod.tr (L := [35, 36, 63, 64, 65, 66]) (Mod.tr (L := [35, 36, 63, 64, 65, 66]) (Mod.tr (L := [35, 36, 63, 64, 65, 66]) m29 m34 rfl rfl) m38 rfl rfl) m43 rfl rfl) m48 rfl rfl), (by exact Or.inr ⟨by omega, by rw [h52_0, s29, s34], q65, q66, fun b b0 b1 => by rw [m48.at 35 rfl, m48.at 36 rfl, m43.at 35 rfl, m43.at 36 rfl]; exact h38_0 b b0 b1, by rw [m48.at 63 rfl]; exact s43, s48⟩)⟩⟩
    · skip
      refine r_bipush hX dX6_board_24 (by decide) ?_
      exact r_iret hX dX6_board_26 rfl ⟨_, rfl, ⟨Mod.rf, (by exact Or.inl ⟨by omega, rfl, rfl⟩)⟩⟩
theorem dX6_breaks_0 : decode cX6_breaks 0 = .ok (.aload_n 0, 1) := by decide +kernel
theorem dX6_breaks_1 : decode cX6_breaks 1 = .ok (.iload_n 1, 1) := by decide +kernel
theorem dX6_breaks_2 : decode cX6_breaks 2 = .ok (.invokevirtual 137, 3) := by decide +kernel
theorem dX6_breaks_5 : decode cX6_breaks 5 = .ok (.ifCond .ne 5, 3) := by decide +kernel
theorem dX6_breaks_8 : decode cX6_breaks 8 = .ok (.iconst (-1), 1) := by decide +kernel
theorem dX6_breaks_9 : decode cX6_breaks 9 = .ok (.ireturn, 1) := by decide +kernel
theorem dX6_breaks_10 : decode cX6_breaks 10 = .ok (.aload_n 0, 1) := by decide +kernel
theorem dX6_breaks_11 : decode cX6_breaks 11 = .ok (.getfield 39, 3) := by decide +kernel
theorem dX6_breaks_14 : decode cX6_breaks 14 = .ok (.iload_n 1, 1) := by decide +kernel
theorem dX6_breaks_15 : decode cX6_breaks 15 = .ok (.baload, 1) := by decide +kernel
theorem dX6_breaks_16 : decode cX6_breaks 16 = .ok (.ifCond .eq 7, 3) := by decide +kernel
theorem dX6_breaks_19 : decode cX6_breaks 19 = .ok (.iconst 1, 1) := by decide +kernel
theorem dX6_breaks_20 : decode cX6_breaks 20 = .ok (.goto 4, 3) := by decide +kernel
theorem dX6_breaks_23 : decode cX6_breaks 23 = .ok (.iconst 0, 1) := by decide +kernel
theorem dX6_breaks_24 : decode cX6_breaks 24 = .ok (.istore_n 3, 1) := by decide +kernel
theorem dX6_breaks_25 : decode cX6_breaks 25 = .ok (.aload_n 0, 1) := by decide +kernel
theorem dX6_breaks_26 : decode cX6_breaks 26 = .ok (.getfield 39, 3) := by decide +kernel
theorem dX6_breaks_29 : decode cX6_breaks 29 = .ok (.iload_n 1, 1) := by decide +kernel
theorem dX6_breaks_30 : decode cX6_breaks 30 = .ok (.iload_n 2, 1) := by decide +kernel
theorem dX6_breaks_31 : decode cX6_breaks 31 = .ok (.bastore, 1) := by decide +kernel
theorem dX6_breaks_32 : decode cX6_breaks 32 = .ok (.aload_n 0, 1) := by decide +kernel
theorem dX6_breaks_33 : decode cX6_breaks 33 = .ok (.iconst 0, 1) := by decide +kernel
theorem dX6_breaks_34 : decode cX6_breaks 34 = .ok (.putfield 82, 3) := by decide +kernel
theorem dX6_breaks_37 : decode cX6_breaks 37 = .ok (.iload_n 3, 1) := by decide +kernel
theorem dX6_breaks_38 : decode cX6_breaks 38 = .ok (.ireturn, 1) := by decide +kernel
set_option maxRecDepth 20000 in
set_option maxHeartbeats 4000000 in
theorem k_M_breaks (l : Launch) (w : WT) (σ : MM) (a : Int) (v : Int) (i_a : inr a) (i_v : inr v) (hv : v = 0 ∨ v = 1) : CT SX l w yX6_breaks cX6_breaks 4 (some .int) 2 46 [.ref (w.2.2 27), .int (iI a), .int (iI v)] σ (PI fun z σ1 => Mod [35, 64] σ σ1 ∧ (((a < 0 ∨ σ 65 0 * σ 66 0 ≤ a) ∧ z = -1 ∧ σ1 = σ) ∨ ((0 ≤ a ∧ a < σ 65 0 * σ 66 0) ∧ z = σ 35 a ∧ (∀ b : Int, σ1 35 b = if b = a then v else σ 35 b) ∧ σ1 64 0 = 0))) := by
  refine CT.of 1 [some (.ref (w.2.2 27)), some (.int (iI a)), some (.int (iI v)), none] (by decide +kernel) (by simp [lg_sl, Value.category]) rfl sh_X (fun G hX => ?_)
  refine r_bd hX (fun hBd => ?_)
  have b_65 := hBd 65 1 3 rfl 0
  have b_66 := hBd 66 1 3 rfl 0
  have hn := mul_bd b_65 b_66
  have hb35 := hBd 35 0 1 rfl a
  refine r_aload_n hX dX6_breaks_0 rfl ?_
  refine r_iload_n hX dX6_breaks_1 rfl ?_
  refine r_callV hX dX6_breaks_2 (k_M_isCell l w σ _ (by omega)) mf_X6_isCell mv_X6_isCell lk_RX6_137 rfl rfl rfl rfl rfl ⟨Nat.le_of_ble_eq_true rfl, Nat.le_of_ble_eq_true rfl⟩ (Nat.le_of_ble_eq_true rfl) (kI fun z2 σ2 hh => ?_)
  obtain ⟨rfl, h2_0⟩ := hh
  refine r_if_ne hX (tgt := 10) dX6_breaks_5 (by decide) (by omega) (fun c5 => ?_) (fun c5 => ?_)
  · skip
    refine r_aload_n hX dX6_breaks_10 rfl ?_
    refine fg_X27_39 hX dX6_breaks_11 ?_
    refine r_iload_n hX dX6_breaks_14 rfl ?_
    refine ld_X35 hX dX6_breaks_15 (by omega) (by omega) (fun b15l b15u => ?_)
    refine r_if_eq hX (tgt := 23) dX6_breaks_16 (by decide) (by omega) (fun c16 => ?_) (fun c16 => ?_)
    · skip
      refine r_iconst hX dX6_breaks_23 ?_
      refine r_istore_n hX (fun x24 => [some (.ref (w.2.2 27)), some (.int (iI a)), some (.int (iI v)), some (.int (iI x24))]) dX6_breaks_24 (Nat.le_of_ble_eq_true rfl) rfl rfl (fun _ => rfl) (fun x24 e24 => ?_)
      refine r_aload_n hX dX6_breaks_25 rfl ?_
      refine fg_X27_39 hX dX6_breaks_26 ?_
      refine r_iload_n hX dX6_breaks_29 rfl ?_
      refine r_iload_n hX dX6_breaks_30 rfl ?_
      refine st_X35 hX dX6_breaks_31 (by omega) (by omega) (by omega) (fun σ31 m31 s31 => ?_)
      refine r_aload_n hX dX6_breaks_32 rfl ?_
      refine r_iconst hX dX6_breaks_33 ?_
      refine fp_X27_82 hX dX6_breaks_34 (by omega) (fun σ34 m34 s34 => ?_)
      refine r_iload_n hX dX6_breaks_37 rfl ?_
      exact r_iret hX dX6_breaks_38 rfl ⟨_, rfl, ⟨(Mod.tr (L := [35, 64]) m31 m34 rfl rfl), (by exact Or.inr ⟨by omega, by omega, fun b => by rw [m34.at 35 rfl]; exact s31 b, s34⟩)⟩⟩
    · skip
      refine r_iconst hX dX6_breaks_19 ?_
      refine r_goto hX dX6_breaks_20 (tgt := 24) (by decide) ?_
      refine r_istore_n hX (fun x24 => [some (.ref (w.2.2 27)), some (.int (iI a)), some (.int (iI v)), some (.int (iI x24))]) dX6_breaks_24 (Nat.le_of_ble_eq_true rfl) rfl rfl (fun _ => rfl) (fun x24 e24 => ?_)
      refine r_aload_n hX dX6_breaks_25 rfl ?_
      refine fg_X27_39 hX dX6_breaks_26 ?_
      refine r_iload_n hX dX6_breaks_29 rfl ?_
      refine r_iload_n hX dX6_breaks_30 rfl ?_
      refine st_X35 hX dX6_breaks_31 (by omega) (by omega) (by omega) (fun σ31 m31 s31 => ?_)
      refine r_aload_n hX dX6_breaks_32 rfl ?_
      refine r_iconst hX dX6_breaks_33 ?_
      refine fp_X27_82 hX dX6_breaks_34 (by omega) (fun σ34 m34 s34 => ?_)
      refine r_iload_n hX dX6_breaks_37 rfl ?_
      exact r_iret hX dX6_breaks_38 rfl ⟨_, rfl, ⟨(Mod.tr (L := [35, 64]) m31 m34 rfl rfl), (by exact Or.inr ⟨by omega, by omega, fun b => by rw [m34.at 35 rfl]; exact s31 b, s34⟩)⟩⟩
  · skip
    refine r_iconst hX dX6_breaks_8 ?_
    exact r_iret hX dX6_breaks_9 rfl ⟨_, rfl, ⟨Mod.rf, (by exact Or.inl ⟨by omega, rfl, rfl⟩)⟩⟩
theorem dX6_multiplies_0 : decode cX6_multiplies 0 = .ok (.aload_n 0, 1) := by decide +kernel
theorem dX6_multiplies_1 : decode cX6_multiplies 1 = .ok (.iload_n 1, 1) := by decide +kernel
theorem dX6_multiplies_2 : decode cX6_multiplies 2 = .ok (.invokevirtual 137, 3) := by decide +kernel
theorem dX6_multiplies_5 : decode cX6_multiplies 5 = .ok (.ifCond .ne 5, 3) := by decide +kernel
theorem dX6_multiplies_8 : decode cX6_multiplies 8 = .ok (.iconst (-1), 1) := by decide +kernel
theorem dX6_multiplies_9 : decode cX6_multiplies 9 = .ok (.ireturn, 1) := by decide +kernel
theorem dX6_multiplies_10 : decode cX6_multiplies 10 = .ok (.aload_n 0, 1) := by decide +kernel
theorem dX6_multiplies_11 : decode cX6_multiplies 11 = .ok (.getfield 42, 3) := by decide +kernel
theorem dX6_multiplies_14 : decode cX6_multiplies 14 = .ok (.iload_n 1, 1) := by decide +kernel
theorem dX6_multiplies_15 : decode cX6_multiplies 15 = .ok (.baload, 1) := by decide +kernel
theorem dX6_multiplies_16 : decode cX6_multiplies 16 = .ok (.ifCond .eq 7, 3) := by decide +kernel
theorem dX6_multiplies_19 : decode cX6_multiplies 19 = .ok (.iconst 1, 1) := by decide +kernel
theorem dX6_multiplies_20 : decode cX6_multiplies 20 = .ok (.goto 4, 3) := by decide +kernel
theorem dX6_multiplies_23 : decode cX6_multiplies 23 = .ok (.iconst 0, 1) := by decide +kernel
theorem dX6_multiplies_24 : decode cX6_multiplies 24 = .ok (.istore_n 3, 1) := by decide +kernel
theorem dX6_multiplies_25 : decode cX6_multiplies 25 = .ok (.aload_n 0, 1) := by decide +kernel
theorem dX6_multiplies_26 : decode cX6_multiplies 26 = .ok (.getfield 42, 3) := by decide +kernel
theorem dX6_multiplies_29 : decode cX6_multiplies 29 = .ok (.iload_n 1, 1) := by decide +kernel
theorem dX6_multiplies_30 : decode cX6_multiplies 30 = .ok (.iload_n 2, 1) := by decide +kernel
theorem dX6_multiplies_31 : decode cX6_multiplies 31 = .ok (.bastore, 1) := by decide +kernel
theorem dX6_multiplies_32 : decode cX6_multiplies 32 = .ok (.aload_n 0, 1) := by decide +kernel
theorem dX6_multiplies_33 : decode cX6_multiplies 33 = .ok (.iconst 0, 1) := by decide +kernel
theorem dX6_multiplies_34 : decode cX6_multiplies 34 = .ok (.putfield 82, 3) := by decide +kernel
theorem dX6_multiplies_37 : decode cX6_multiplies 37 = .ok (.iload_n 3, 1) := by decide +kernel
theorem dX6_multiplies_38 : decode cX6_multiplies 38 = .ok (.ireturn, 1) := by decide +kernel
set_option maxRecDepth 20000 in
set_option maxHeartbeats 4000000 in
theorem k_M_multiplies (l : Launch) (w : WT) (σ : MM) (a : Int) (v : Int) (i_a : inr a) (i_v : inr v) (hv : v = 0 ∨ v = 1) : CT SX l w yX6_multiplies cX6_multiplies 4 (some .int) 2 46 [.ref (w.2.2 27), .int (iI a), .int (iI v)] σ (PI fun z σ1 => Mod [36, 64] σ σ1 ∧ (((a < 0 ∨ σ 65 0 * σ 66 0 ≤ a) ∧ z = -1 ∧ σ1 = σ) ∨ ((0 ≤ a ∧ a < σ 65 0 * σ 66 0) ∧ z = σ 36 a ∧ (∀ b : Int, σ1 36 b = if b = a then v else σ 36 b) ∧ σ1 64 0 = 0))) := by
  refine CT.of 1 [some (.ref (w.2.2 27)), some (.int (iI a)), some (.int (iI v)), none] (by decide +kernel) (by simp [lg_sl, Value.category]) rfl sh_X (fun G hX => ?_)
  refine r_bd hX (fun hBd => ?_)
  have b_65 := hBd 65 1 3 rfl 0
  have b_66 := hBd 66 1 3 rfl 0
  have hn := mul_bd b_65 b_66
  have hb36 := hBd 36 0 1 rfl a
  refine r_aload_n hX dX6_multiplies_0 rfl ?_
  refine r_iload_n hX dX6_multiplies_1 rfl ?_
  refine r_callV hX dX6_multiplies_2 (k_M_isCell l w σ _ (by omega)) mf_X6_isCell mv_X6_isCell lk_RX6_137 rfl rfl rfl rfl rfl ⟨Nat.le_of_ble_eq_true rfl, Nat.le_of_ble_eq_true rfl⟩ (Nat.le_of_ble_eq_true rfl) (kI fun z2 σ2 hh => ?_)
  obtain ⟨rfl, h2_0⟩ := hh
  refine r_if_ne hX (tgt := 10) dX6_multiplies_5 (by decide) (by omega) (fun c5 => ?_) (fun c5 => ?_)
  · skip
    refine r_aload_n hX dX6_multiplies_10 rfl ?_
    refine fg_X27_42 hX dX6_multiplies_11 ?_
    refine r_iload_n hX dX6_multiplies_14 rfl ?_
    refine ld_X36 hX dX6_multiplies_15 (by omega) (by omega) (fun b15l b15u => ?_)
    refine r_if_eq hX (tgt := 23) dX6_multiplies_16 (by decide) (by omega) (fun c16 => ?_) (fun c16 => ?_)
    · skip
      refine r_iconst hX dX6_multiplies_23 ?_
      refine r_istore_n hX (fun x24 => [some (.ref (w.2.2 27)), some (.int (iI a)), some (.int (iI v)), some (.int (iI x24))]) dX6_multiplies_24 (Nat.le_of_ble_eq_true rfl) rfl rfl (fun _ => rfl) (fun x24 e24 => ?_)
      refine r_aload_n hX dX6_multiplies_25 rfl ?_
      refine fg_X27_42 hX dX6_multiplies_26 ?_
      refine r_iload_n hX dX6_multiplies_29 rfl ?_
      refine r_iload_n hX dX6_multiplies_30 rfl ?_
      refine st_X36 hX dX6_multiplies_31 (by omega) (by omega) (by omega) (fun σ31 m31 s31 => ?_)
      refine r_aload_n hX dX6_multiplies_32 rfl ?_
      refine r_iconst hX dX6_multiplies_33 ?_
      refine fp_X27_82 hX dX6_multiplies_34 (by omega) (fun σ34 m34 s34 => ?_)
      refine r_iload_n hX dX6_multiplies_37 rfl ?_
      exact r_iret hX dX6_multiplies_38 rfl ⟨_, rfl, ⟨(Mod.tr (L := [36, 64]) m31 m34 rfl rfl), (by exact Or.inr ⟨by omega, by omega, fun b => by rw [m34.at 36 rfl]; exact s31 b, s34⟩)⟩⟩
    · skip
      refine r_iconst hX dX6_multiplies_19 ?_
      refine r_goto hX dX6_multiplies_20 (tgt := 24) (by decide) ?_
      refine r_istore_n hX (fun x24 => [some (.ref (w.2.2 27)), some (.int (iI a)), some (.int (iI v)), some (.int (iI x24))]) dX6_multiplies_24 (Nat.le_of_ble_eq_true rfl) rfl rfl (fun _ => rfl) (fun x24 e24 => ?_)
      refine r_aload_n hX dX6_multiplies_25 rfl ?_
      refine fg_X27_42 hX dX6_multiplies_26 ?_
      refine r_iload_n hX dX6_multiplies_29 rfl ?_
      refine r_iload_n hX dX6_multiplies_30 rfl ?_
      refine st_X36 hX dX6_multiplies_31 (by omega) (by omega) (by omega) (fun σ31 m31 s31 => ?_)
      refine r_aload_n hX dX6_multiplies_32 rfl ?_
      refine r_iconst hX dX6_multiplies_33 ?_
      refine fp_X27_82 hX dX6_multiplies_34 (by omega) (fun σ34 m34 s34 => ?_)
      refine r_iload_n hX dX6_multiplies_37 rfl ?_
      exact r_iret hX dX6_multiplies_38 rfl ⟨_, rfl, ⟨(Mod.tr (L := [36, 64]) m31 m34 rfl rfl), (by exact Or.inr ⟨by omega, by omega, fun b => by rw [m34.at 36 rfl]; exact s31 b, s34⟩)⟩⟩
  · skip
    refine r_iconst hX dX6_multiplies_8 ?_
    exact r_iret hX dX6_multiplies_9 rfl ⟨_, rfl, ⟨Mod.rf, (by exact Or.inl ⟨by omega, rfl, rfl⟩)⟩⟩
theorem dX6_areBeside_0 : decode cX6_areBeside 0 = .ok (.iload_n 1, 1) := by decide +kernel
theorem dX6_areBeside_1 : decode cX6_areBeside 1 = .ok (.aload_n 0, 1) := by decide +kernel
theorem dX6_areBeside_2 : decode cX6_areBeside 2 = .ok (.getfield 36, 3) := by decide +kernel
theorem dX6_areBeside_5 : decode cX6_areBeside 5 = .ok (.idiv, 1) := by decide +kernel
theorem dX6_areBeside_6 : decode cX6_areBeside 6 = .ok (.iload_n 2, 1) := by decide +kernel
theorem dX6_areBeside_7 : decode cX6_areBeside 7 = .ok (.aload_n 0, 1) := by decide +kernel
theorem dX6_areBeside_8 : decode cX6_areBeside 8 = .ok (.getfield 36, 3) := by decide +kernel
theorem dX6_areBeside_11 : decode cX6_areBeside 11 = .ok (.idiv, 1) := by decide +kernel
theorem dX6_areBeside_12 : decode cX6_areBeside 12 = .ok (.isub, 1) := by decide +kernel
theorem dX6_areBeside_13 : decode cX6_areBeside 13 = .ok (.istore_n 3, 1) := by decide +kernel
theorem dX6_areBeside_14 : decode cX6_areBeside 14 = .ok (.iload_n 1, 1) := by decide +kernel
theorem dX6_areBeside_15 : decode cX6_areBeside 15 = .ok (.aload_n 0, 1) := by decide +kernel
theorem dX6_areBeside_16 : decode cX6_areBeside 16 = .ok (.getfield 36, 3) := by decide +kernel
theorem dX6_areBeside_19 : decode cX6_areBeside 19 = .ok (.irem, 1) := by decide +kernel
theorem dX6_areBeside_20 : decode cX6_areBeside 20 = .ok (.iload_n 2, 1) := by decide +kernel
theorem dX6_areBeside_21 : decode cX6_areBeside 21 = .ok (.aload_n 0, 1) := by decide +kernel
theorem dX6_areBeside_22 : decode cX6_areBeside 22 = .ok (.getfield 36, 3) := by decide +kernel
theorem dX6_areBeside_25 : decode cX6_areBeside 25 = .ok (.irem, 1) := by decide +kernel
theorem dX6_areBeside_26 : decode cX6_areBeside 26 = .ok (.isub, 1) := by decide +kernel
theorem dX6_areBeside_27 : decode cX6_areBeside 27 = .ok (.istore 4, 2) := by decide +kernel
theorem dX6_areBeside_29 : decode cX6_areBeside 29 = .ok (.iload_n 3, 1) := by decide +kernel
theorem dX6_areBeside_30 : decode cX6_areBeside 30 = .ok (.iload_n 3, 1) := by decide +kernel
theorem dX6_areBeside_31 : decode cX6_areBeside 31 = .ok (.imul, 1) := by decide +kernel
theorem dX6_areBeside_32 : decode cX6_areBeside 32 = .ok (.iload 4, 2) := by decide +kernel
theorem dX6_areBeside_34 : decode cX6_areBeside 34 = .ok (.iload 4, 2) := by decide +kernel
theorem dX6_areBeside_36 : decode cX6_areBeside 36 = .ok (.imul, 1) := by decide +kernel
theorem dX6_areBeside_37 : decode cX6_areBeside 37 = .ok (.iadd, 1) := by decide +kernel
theorem dX6_areBeside_38 : decode cX6_areBeside 38 = .ok (.iconst 1, 1) := by decide +kernel
theorem dX6_areBeside_39 : decode cX6_areBeside 39 = .ok (.if_icmp .ne 7, 3) := by decide +kernel
theorem dX6_areBeside_42 : decode cX6_areBeside 42 = .ok (.iconst 1, 1) := by decide +kernel
theorem dX6_areBeside_43 : decode cX6_areBeside 43 = .ok (.goto 4, 3) := by decide +kernel
theorem dX6_areBeside_46 : decode cX6_areBeside 46 = .ok (.iconst 0, 1) := by decide +kernel
theorem dX6_areBeside_47 : decode cX6_areBeside 47 = .ok (.ireturn, 1) := by decide +kernel
set_option maxRecDepth 20000 in
set_option maxHeartbeats 4000000 in
theorem k_M_areBeside (l : Launch) (w : WT) (σ : MM) (a : Int) (b : Int) (i_a : inr a) (i_b : inr b) (hab : 0 ≤ a ∧ a < 9 ∧ 0 ≤ b ∧ b < 9) : CT SX l w yX6_areBeside cX6_areBeside 5 (some .boolean) 0 0 [.ref (w.2.2 27), .int (iI a), .int (iI b)] σ (PI fun z σ1 => σ = σ1 ∧ ((z = 1 ∧ Nbr (σ 66 0) a b) ∨ (z = 0 ∧ ¬ Nbr (σ 66 0) a b))) := by
  refine CT.of 2 [some (.ref (w.2.2 27)), some (.int (iI a)), some (.int (iI b)), none, none] (by decide +kernel) (by simp [lg_sl, Value.category]) rfl sh_X (fun G hX => ?_)
  refine r_bd hX (fun hBd => ?_)
  have b_66 := hBd 66 1 3 rfl 0
  have d1 := Int.ediv_nonneg hab.1 (show (0 : Int) ≤ σ 66 0 by omega)
  have d2 := Int.ediv_nonneg hab.2.2.1 (show (0 : Int) ≤ σ 66 0 by omega)
  have d3 := Int.ediv_le_self (b := σ 66 0) hab.1
  have d4 := Int.ediv_le_self (b := σ 66 0) hab.2.2.1
  have d5 := Int.emod_nonneg a (show σ 66 0 ≠ 0 by omega)
  have d6 := Int.emod_nonneg b (show σ 66 0 ≠ 0 by omega)
  have d7 := Int.emod_lt_of_pos a (show (0 : Int) < σ 66 0 by omega)
  have d8 := Int.emod_lt_of_pos b (show (0 : Int) < σ 66 0 by omega)
  refine r_iload_n hX dX6_areBeside_0 rfl ?_
  refine r_aload_n hX dX6_areBeside_1 rfl ?_
  refine fg_X27_36 hX dX6_areBeside_2 (fun b2l b2u => ?_)
  refine r_idiv hX dX6_areBeside_5 (by omega) (by omega) (by omega) (by omega) ?_
  refine r_iload_n hX dX6_areBeside_6 rfl ?_
  refine r_aload_n hX dX6_areBeside_7 rfl ?_
  refine fg_X27_36 hX dX6_areBeside_8 (fun b8l b8u => ?_)
  refine r_idiv hX dX6_areBeside_11 (by omega) (by omega) (by omega) (by omega) ?_
  refine r_isub hX dX6_areBeside_12 ?_
  refine r_istore_n hX (fun x13 => [some (.ref (w.2.2 27)), some (.int (iI a)), some (.int (iI b)), some (.int (iI x13)), none]) dX6_areBeside_13 (Nat.le_of_ble_eq_true rfl) rfl rfl (fun _ => rfl) (fun x13 e13 => ?_)
  refine r_iload_n hX dX6_areBeside_14 rfl ?_
  refine r_aload_n hX dX6_areBeside_15 rfl ?_
  refine fg_X27_36 hX dX6_areBeside_16 (fun b16l b16u => ?_)
  refine r_irem hX dX6_areBeside_19 (by omega) (by omega) (by omega) (by omega) ?_
  refine r_iload_n hX dX6_areBeside_20 rfl ?_
  refine r_aload_n hX dX6_areBeside_21 rfl ?_
  refine fg_X27_36 hX dX6_areBeside_22 (fun b22l b22u => ?_)
  refine r_irem hX dX6_areBeside_25 (by omega) (by omega) (by omega) (by omega) ?_
  refine r_isub hX dX6_areBeside_26 ?_
  refine r_istore hX (fun x27 => [some (.ref (w.2.2 27)), some (.int (iI a)), some (.int (iI b)), some (.int (iI x13)), some (.int (iI x27))]) dX6_areBeside_27 (Nat.le_of_ble_eq_true rfl) rfl rfl (fun _ => rfl) (fun x27 e27 => ?_)
  have q1 := sq_bd (x := x13) (by omega)
  have q2 := sq_bd (x := x27) (by omega)
  have q3 := @sq_one x13 x27
  refine r_iload_n hX dX6_areBeside_29 rfl ?_
  refine r_iload_n hX dX6_areBeside_30 rfl ?_
  refine r_imul hX dX6_areBeside_31 ?_
  refine r_iload hX dX6_areBeside_32 rfl ?_
  refine r_iload hX dX6_areBeside_34 rfl ?_
  refine r_imul hX dX6_areBeside_36 ?_
  refine r_iadd hX dX6_areBeside_37 ?_
  refine r_iconst hX dX6_areBeside_38 ?_
  refine r_icmp_ne hX (tgt := 46) dX6_areBeside_39 (by decide) (by omega) (by omega) (fun c39 => ?_) (fun c39 => ?_)
  · skip
    refine r_iconst hX dX6_areBeside_46 ?_
    exact r_zret hX dX6_areBeside_47 rfl (by omega) ⟨_, rfl, ⟨rfl, (by first | exact Or.inl ⟨rfl, by unfold Nbr; omega⟩ | exact Or.inr ⟨rfl, by unfold Nbr; omega⟩)⟩⟩
  · skip
    refine r_iconst hX dX6_areBeside_42 ?_
    refine r_goto hX dX6_areBeside_43 (tgt := 47) (by decide) ?_
    exact r_zret hX dX6_areBeside_47 rfl (by omega) ⟨_, rfl, ⟨rfl, (by first | exact Or.inl ⟨rfl, by unfold Nbr; omega⟩ | exact Or.inr ⟨rfl, by unfold Nbr; omega⟩)⟩⟩
theorem dX6_wayOf_0 : decode cX6_wayOf 0 = .ok (.iload_n 1, 1) := by decide +kernel
theorem dX6_wayOf_1 : decode cX6_wayOf 1 = .ok (.iload_n 2, 1) := by decide +kernel
theorem dX6_wayOf_2 : decode cX6_wayOf 2 = .ok (.if_icmp .ne 5, 3) := by decide +kernel
theorem dX6_wayOf_5 : decode cX6_wayOf 5 = .ok (.iconst 0, 1) := by decide +kernel
theorem dX6_wayOf_6 : decode cX6_wayOf 6 = .ok (.ireturn, 1) := by decide +kernel
theorem dX6_wayOf_7 : decode cX6_wayOf 7 = .ok (.iconst 0, 1) := by decide +kernel
theorem dX6_wayOf_8 : decode cX6_wayOf 8 = .ok (.istore_n 3, 1) := by decide +kernel
theorem dX6_wayOf_9 : decode cX6_wayOf 9 = .ok (.iload_n 3, 1) := by decide +kernel
theorem dX6_wayOf_10 : decode cX6_wayOf 10 = .ok (.bipush 9, 2) := by decide +kernel
theorem dX6_wayOf_12 : decode cX6_wayOf 12 = .ok (.if_icmp .ge 36, 3) := by decide +kernel
theorem dX6_wayOf_15 : decode cX6_wayOf 15 = .ok (.aload_n 0, 1) := by decide +kernel
theorem dX6_wayOf_16 : decode cX6_wayOf 16 = .ok (.getfield 45, 3) := by decide +kernel
theorem dX6_wayOf_19 : decode cX6_wayOf 19 = .ok (.iload_n 3, 1) := by decide +kernel
theorem dX6_wayOf_20 : decode cX6_wayOf 20 = .ok (.iload_n 3, 1) := by decide +kernel
theorem dX6_wayOf_21 : decode cX6_wayOf 21 = .ok (.iload_n 1, 1) := by decide +kernel
theorem dX6_wayOf_22 : decode cX6_wayOf 22 = .ok (.if_icmp .ne 16, 3) := by decide +kernel
theorem dX6_wayOf_25 : decode cX6_wayOf 25 = .ok (.aload_n 0, 1) := by decide +kernel
theorem dX6_wayOf_26 : decode cX6_wayOf 26 = .ok (.getfield 39, 3) := by decide +kernel
theorem dX6_wayOf_29 : decode cX6_wayOf 29 = .ok (.iload_n 3, 1) := by decide +kernel
theorem dX6_wayOf_30 : decode cX6_wayOf 30 = .ok (.baload, 1) := by decide +kernel
theorem dX6_wayOf_31 : decode cX6_wayOf 31 = .ok (.ifCond .ne 7, 3) := by decide +kernel
theorem dX6_wayOf_34 : decode cX6_wayOf 34 = .ok (.iconst 0, 1) := by decide +kernel
theorem dX6_wayOf_35 : decode cX6_wayOf 35 = .ok (.goto 6, 3) := by decide +kernel
theorem dX6_wayOf_38 : decode cX6_wayOf 38 = .ok (.sipush 1000, 3) := by decide +kernel
theorem dX6_wayOf_41 : decode cX6_wayOf 41 = .ok (.iastore, 1) := by decide +kernel
theorem dX6_wayOf_42 : decode cX6_wayOf 42 = .ok (.iinc 3 1, 3) := by decide +kernel
theorem dX6_wayOf_45 : decode cX6_wayOf 45 = .ok (.goto (-36), 3) := by decide +kernel
theorem dX6_wayOf_48 : decode cX6_wayOf 48 = .ok (.iconst 0, 1) := by decide +kernel
theorem dX6_wayOf_49 : decode cX6_wayOf 49 = .ok (.istore_n 3, 1) := by decide +kernel
theorem dX6_wayOf_50 : decode cX6_wayOf 50 = .ok (.iload_n 3, 1) := by decide +kernel
theorem dX6_wayOf_51 : decode cX6_wayOf 51 = .ok (.aload_n 0, 1) := by decide +kernel
theorem dX6_wayOf_52 : decode cX6_wayOf 52 = .ok (.invokevirtual 133, 3) := by decide +kernel
theorem dX6_wayOf_55 : decode cX6_wayOf 55 = .ok (.if_icmp .ge 101, 3) := by decide +kernel
theorem dX6_wayOf_58 : decode cX6_wayOf 58 = .ok (.iconst 0, 1) := by decide +kernel
theorem dX6_wayOf_59 : decode cX6_wayOf 59 = .ok (.istore 4, 2) := by decide +kernel
theorem dX6_wayOf_61 : decode cX6_wayOf 61 = .ok (.iload 4, 2) := by decide +kernel
theorem dX6_wayOf_63 : decode cX6_wayOf 63 = .ok (.aload_n 0, 1) := by decide +kernel
theorem dX6_wayOf_64 : decode cX6_wayOf 64 = .ok (.invokevirtual 133, 3) := by decide +kernel
theorem dX6_wayOf_67 : decode cX6_wayOf 67 = .ok (.if_icmp .ge 83, 3) := by decide +kernel
theorem dX6_wayOf_70 : decode cX6_wayOf 70 = .ok (.iconst 0, 1) := by decide +kernel
theorem dX6_wayOf_71 : decode cX6_wayOf 71 = .ok (.istore 5, 2) := by decide +kernel
theorem dX6_wayOf_73 : decode cX6_wayOf 73 = .ok (.iload 5, 2) := by decide +kernel
theorem dX6_wayOf_75 : decode cX6_wayOf 75 = .ok (.aload_n 0, 1) := by decide +kernel
theorem dX6_wayOf_76 : decode cX6_wayOf 76 = .ok (.invokevirtual 133, 3) := by decide +kernel
theorem dX6_wayOf_79 : decode cX6_wayOf 79 = .ok (.if_icmp .ge 65, 3) := by decide +kernel
theorem dX6_wayOf_82 : decode cX6_wayOf 82 = .ok (.aload_n 0, 1) := by decide +kernel
theorem dX6_wayOf_83 : decode cX6_wayOf 83 = .ok (.getfield 45, 3) := by decide +kernel
theorem dX6_wayOf_86 : decode cX6_wayOf 86 = .ok (.iload 4, 2) := by decide +kernel
theorem dX6_wayOf_88 : decode cX6_wayOf 88 = .ok (.iaload, 1) := by decide +kernel
theorem dX6_wayOf_89 : decode cX6_wayOf 89 = .ok (.iconst 1, 1) := by decide +kernel
theorem dX6_wayOf_90 : decode cX6_wayOf 90 = .ok (.iadd, 1) := by decide +kernel
theorem dX6_wayOf_91 : decode cX6_wayOf 91 = .ok (.aload_n 0, 1) := by decide +kernel
theorem dX6_wayOf_92 : decode cX6_wayOf 92 = .ok (.getfield 45, 3) := by decide +kernel
theorem dX6_wayOf_95 : decode cX6_wayOf 95 = .ok (.iload 5, 2) := by decide +kernel
theorem dX6_wayOf_97 : decode cX6_wayOf 97 = .ok (.iaload, 1) := by decide +kernel
theorem dX6_wayOf_98 : decode cX6_wayOf 98 = .ok (.if_icmp .ge 40, 3) := by decide +kernel
theorem dX6_wayOf_101 : decode cX6_wayOf 101 = .ok (.aload_n 0, 1) := by decide +kernel
theorem dX6_wayOf_102 : decode cX6_wayOf 102 = .ok (.getfield 39, 3) := by decide +kernel
theorem dX6_wayOf_105 : decode cX6_wayOf 105 = .ok (.iload 5, 2) := by decide +kernel
theorem dX6_wayOf_107 : decode cX6_wayOf 107 = .ok (.baload, 1) := by decide +kernel
theorem dX6_wayOf_108 : decode cX6_wayOf 108 = .ok (.ifCond .ne 30, 3) := by decide +kernel
theorem dX6_wayOf_111 : decode cX6_wayOf 111 = .ok (.aload_n 0, 1) := by decide +kernel
theorem dX6_wayOf_112 : decode cX6_wayOf 112 = .ok (.iload 4, 2) := by decide +kernel
theorem dX6_wayOf_114 : decode cX6_wayOf 114 = .ok (.iload 5, 2) := by decide +kernel
theorem dX6_wayOf_116 : decode cX6_wayOf 116 = .ok (.invokevirtual 140, 3) := by decide +kernel
theorem dX6_wayOf_119 : decode cX6_wayOf 119 = .ok (.ifCond .eq 19, 3) := by decide +kernel
theorem dX6_wayOf_122 : decode cX6_wayOf 122 = .ok (.aload_n 0, 1) := by decide +kernel
theorem dX6_wayOf_123 : decode cX6_wayOf 123 = .ok (.getfield 45, 3) := by decide +kernel
theorem dX6_wayOf_126 : decode cX6_wayOf 126 = .ok (.iload 5, 2) := by decide +kernel
theorem dX6_wayOf_128 : decode cX6_wayOf 128 = .ok (.aload_n 0, 1) := by decide +kernel
theorem dX6_wayOf_129 : decode cX6_wayOf 129 = .ok (.getfield 45, 3) := by decide +kernel
theorem dX6_wayOf_132 : decode cX6_wayOf 132 = .ok (.iload 4, 2) := by decide +kernel
theorem dX6_wayOf_134 : decode cX6_wayOf 134 = .ok (.iaload, 1) := by decide +kernel
theorem dX6_wayOf_135 : decode cX6_wayOf 135 = .ok (.iconst 1, 1) := by decide +kernel
theorem dX6_wayOf_136 : decode cX6_wayOf 136 = .ok (.iadd, 1) := by decide +kernel
theorem dX6_wayOf_137 : decode cX6_wayOf 137 = .ok (.iastore, 1) := by decide +kernel
theorem dX6_wayOf_138 : decode cX6_wayOf 138 = .ok (.iinc 5 1, 3) := by decide +kernel
theorem dX6_wayOf_141 : decode cX6_wayOf 141 = .ok (.goto (-68), 3) := by decide +kernel
theorem dX6_wayOf_144 : decode cX6_wayOf 144 = .ok (.iinc 4 1, 3) := by decide +kernel
theorem dX6_wayOf_147 : decode cX6_wayOf 147 = .ok (.goto (-86), 3) := by decide +kernel
theorem dX6_wayOf_150 : decode cX6_wayOf 150 = .ok (.iinc 3 1, 3) := by decide +kernel
theorem dX6_wayOf_153 : decode cX6_wayOf 153 = .ok (.goto (-103), 3) := by decide +kernel
theorem dX6_wayOf_156 : decode cX6_wayOf 156 = .ok (.aload_n 0, 1) := by decide +kernel
theorem dX6_wayOf_157 : decode cX6_wayOf 157 = .ok (.getfield 45, 3) := by decide +kernel
theorem dX6_wayOf_160 : decode cX6_wayOf 160 = .ok (.iload_n 2, 1) := by decide +kernel
theorem dX6_wayOf_161 : decode cX6_wayOf 161 = .ok (.iaload, 1) := by decide +kernel
theorem dX6_wayOf_162 : decode cX6_wayOf 162 = .ok (.ireturn, 1) := by decide +kernel
set_option maxRecDepth 20000 in
set_option maxHeartbeats 4000000 in
theorem k_M_wayOf (l : Launch) (w : WT) (σ : MM) (a : Int) (b : Int) (i_a : inr a) (i_b : inr b) (W : Int → Int) (hW : WayM σ W) (ha : 0 ≤ a ∧ a < σ 65 0 * σ 66 0) (hb : 0 ≤ b ∧ b < σ 65 0 * σ 66 0) : CT SX l w yX6_wayOf cX6_wayOf 6 (some .int) 1 24 [.ref (w.2.2 27), .int (iI a), .int (iI b)] σ (PI fun z σ1 => Mod [37] σ σ1 ∧ (z = W (a * 9 + b)) ∧ (0 ≤ z ∧ z ≤ 1000)) := by
  refine CT.of 3 [some (.ref (w.2.2 27)), some (.int (iI a)), some (.int (iI b)), none, none, none] (by decide +kernel) (by simp [lg_sl, Value.category]) rfl sh_X (fun G hX => ?_)
  refine r_bd hX (fun hBd => ?_)
  have b_65 := hBd 65 1 3 rfl 0
  have b_66 := hBd 66 1 3 rfl 0
  have hn := mul_bd b_65 b_66
  have hw0 := hW.1 a b ha.1 (by omega) hb.1 (by omega)
  refine r_iload_n hX dX6_wayOf_0 rfl ?_
  refine r_iload_n hX dX6_wayOf_1 rfl ?_
  refine r_icmp_ne hX (tgt := 7) dX6_wayOf_2 (by decide) (by omega) (by omega) (fun c2 => ?_) (fun c2 => ?_)
  · skip
    refine r_iconst hX dX6_wayOf_7 ?_
    refine r_istore_n hX (fun x8 => [some (.ref (w.2.2 27)), some (.int (iI a)), some (.int (iI b)), some (.int (iI x8)), none, none]) dX6_wayOf_8 (Nat.le_of_ble_eq_true rfl) rfl rfl (fun _ => rfl) (fun x8 e8 => ?_)
    have lp9 : ∀ (n : Nat) (c0 : Int) (σ9 : MM) (m9 : Mod [37] σ σ9) (hc0 : 0 ≤ c0 ∧ c0 ≤ 9) (hF : ∀ e, 0 ≤ e → e < c0 → σ9 37 e = if e = a ∧ σ 35 e = 0 then 0 else 1000) (hmu : 10 - c0 < (n : Int)), G 9 [some (.ref (w.2.2 27)), some (.int (iI a)), some (.int (iI b)), some (.int (iI c0)), none, none] [] σ9 := by
      intro n
      induction n with
      | zero => intro c0 σ9 m9 hc0 hF hmu; omega
      | succ n ih =>
        intro c0 σ9 m9 hc0 hF hmu
        have ih9 := ih
        clear ih
        refine r_iload_n hX dX6_wayOf_9 rfl ?_
        refine r_bipush hX dX6_wayOf_10 (by decide) ?_
        refine r_icmp_ge hX (tgt := 48) dX6_wayOf_12 (by decide) (by omega) (by omega) (fun c12 => ?_) (fun c12 => ?_)
        · skip
          refine r_iconst hX dX6_wayOf_48 ?_
          refine r_istore_n hX (fun x49 => [some (.ref (w.2.2 27)), some (.int (iI a)), some (.int (iI b)), some (.int (iI x49)), none, none]) dX6_wayOf_49 (Nat.le_of_ble_eq_true rfl) rfl rfl (fun _ => rfl) (fun x49 e49 => ?_)
          have lp50 : ∀ (n : Nat) (k : Int) (σ50 : MM) (m50 : Mod [37] σ9 σ50) (hk : 0 ≤ k ∧ k ≤ (σ 65 0 * σ 66 0)) (hBF : BFI (σ 35) (σ 65 0 * σ 66 0) (σ 66 0) a k (σ50 37)) (hmu : 10 - k < (n : Int)), G 50 [some (.ref (w.2.2 27)), some (.int (iI a)), some (.int (iI b)), some (.int (iI k)), none, none] [] σ50 := by
            intro n
            induction n with
            | zero => intro k σ50 m50 hk hBF hmu; omega
            | succ n ih =>
              intro k σ50 m50 hk hBF hmu
              have ih50 := ih
              clear ih
              refine r_iload_n hX dX6_wayOf_50 rfl ?_
              refine r_aload_n hX dX6_wayOf_51 rfl ?_
              refine r_callV hX dX6_wayOf_52 (k_M_cells l w σ50) mf_X6_cells mv_X6_cells lk_RX6_133 rfl rfl rfl rfl rfl ⟨Nat.le_of_ble_eq_true rfl, Nat.le_of_ble_eq_true rfl⟩ (Nat.le_of_ble_eq_true rfl) (kI fun z52 σ52 hh => ?_)
              obtain ⟨rfl, h52_0, h52_1⟩ := hh
              have q52_1 : σ50 65 = σ 65 := ((m50.at 65 rfl).trans (m9.at 65 rfl))
              have q52_2 : σ50 66 = σ 66 := ((m50.at 66 rfl).trans (m9.at 66 rfl))
              try simp only [q52_1, q52_2] at h52_0
              refine r_icmp_ge hX (tgt := 156) dX6_wayOf_55 (by decide) (by omega) (by omega) (fun c55 => ?_) (fun c55 => ?_)
              · skip
                refine r_aload_n hX dX6_wayOf_156 rfl ?_
                refine fg_X27_45 hX dX6_wayOf_157 ?_
                refine r_iload_n hX dX6_wayOf_160 rfl ?_
                refine ld_X37 hX dX6_wayOf_161 (by omega) (by omega) (fun b161l b161u => ?_)
                exact r_iret hX dX6_wayOf_162 rfl ⟨_, rfl, ⟨(Mod.tr (L := [37]) m9 m50 rfl rfl), (by exact hBF.way hW ha hb (by omega) (by omega) c2), (by omega)⟩⟩
              · skip
                refine r_iconst hX dX6_wayOf_58 ?_
                refine r_istore hX (fun x59 => [some (.ref (w.2.2 27)), some (.int (iI a)), some (.int (iI b)), some (.int (iI k)), some (.int (iI x59)), none]) dX6_wayOf_59 (Nat.le_of_ble_eq_true rfl) rfl rfl (fun _ => rfl) (fun x59 e59 => ?_)
                have lp61 : ∀ (n : Nat) (x : Int) (σ61 : MM) (m61 : Mod [37] σ50 σ61) (hx : 0 ≤ x ∧ x ≤ (σ 65 0 * σ 66 0)) (hP : BFP (σ 35) (σ 65 0 * σ 66 0) (σ 66 0) a (σ50 37) (σ61 37) x 0) (hmu : 10 - x < (n : Int)), G 61 [some (.ref (w.2.2 27)), some (.int (iI a)), some (.int (iI b)), some (.int (iI k)), some (.int (iI x)), none] [] σ61 := by
                  intro n
                  induction n with
                  | zero => intro x σ61 m61 hx hP hmu; omega
                  | succ n ih =>
                    intro x σ61 m61 hx hP hmu
                    have ih61 := ih
                    clear ih
                    refine r_iload hX dX6_wayOf_61 rfl ?_
                    refine r_aload_n hX dX6_wayOf_63 rfl ?_
                    refine r_callV hX dX6_wayOf_64 (k_M_cells l w σ61) mf_X6_cells mv_X6_cells lk_RX6_133 rfl rfl rfl rfl rfl ⟨Nat.le_of_ble_eq_true rfl, Nat.le_of_ble_eq_true rfl⟩ (Nat.le_of_ble_eq_true rfl) (kI fun z64 σ64 hh => ?_)
                    obtain ⟨rfl, h64_0, h64_1⟩ := hh
                    have q64_3 : σ61 65 = σ 65 := ((m61.at 65 rfl).trans ((m50.at 65 rfl).trans (m9.at 65 rfl)))
                    have q64_4 : σ61 66 = σ 66 := ((m61.at 66 rfl).trans ((m50.at 66 rfl).trans (m9.at 66 rfl)))
                    try simp only [q64_3, q64_4] at h64_0
                    refine r_icmp_ge hX (tgt := 150) dX6_wayOf_67 (by decide) (by omega) (by omega) (fun c67 => ?_) (fun c67 => ?_)
                    · skip
                      refine r_iinc hX (fun x150 => [some (.ref (w.2.2 27)), some (.int (iI a)), some (.int (iI b)), some (.int (iI x150)), some (.int (iI x)), none]) dX6_wayOf_150 rfl rfl rfl (fun _ => rfl) (fun x150 e150 => ?_)
                      refine r_goto hX dX6_wayOf_153 (tgt := 50) (by decide) ?_
                      refine r_wk hX (lv1 := [some (.ref (w.2.2 27)), some (.int (iI a)), some (.int (iI b)), some (.int (iI x150)), none, none]) ⟨rfl, ⟨rfl, ⟨rfl, ⟨rfl, trivial⟩⟩⟩⟩ ?_
                      exact ih50 x150 σ61 (Mod.tr (L := [37]) m50 m61 rfl rfl) (by omega) (hP.fin hBF (by omega) (by omega) (by omega) e150) (by omega)
                    · skip
                      refine r_iconst hX dX6_wayOf_70 ?_
                      refine r_istore hX (fun x71 => [some (.ref (w.2.2 27)), some (.int (iI a)), some (.int (iI b)), some (.int (iI k)), some (.int (iI x)), some (.int (iI x71))]) dX6_wayOf_71 (Nat.le_of_ble_eq_true rfl) rfl rfl (fun _ => rfl) (fun x71 e71 => ?_)
                      have lp73 : ∀ (n : Nat) (y : Int) (σ73 : MM) (m73 : Mod [37] σ61 σ73) (hy : 0 ≤ y ∧ y ≤ (σ 65 0 * σ 66 0)) (hQ : BFP (σ 35) (σ 65 0 * σ 66 0) (σ 66 0) a (σ50 37) (σ73 37) x y) (hmu : 10 - y < (n : Int)), G 73 [some (.ref (w.2.2 27)), some (.int (iI a)), some (.int (iI b)), some (.int (iI k)), some (.int (iI x)), some (.int (iI y))] [] σ73 := by
                        intro n
                        induction n with
                        | zero => intro y σ73 m73 hy hQ hmu; omega
                        | succ n ih =>
                          intro y σ73 m73 hy hQ hmu
                          have ih73 := ih
                          clear ih
                          refine r_iload hX dX6_wayOf_73 rfl ?_
                          refine r_aload_n hX dX6_wayOf_75 rfl ?_
                          refine r_callV hX dX6_wayOf_76 (k_M_cells l w σ73) mf_X6_cells mv_X6_cells lk_RX6_133 rfl rfl rfl rfl rfl ⟨Nat.le_of_ble_eq_true rfl, Nat.le_of_ble_eq_true rfl⟩ (Nat.le_of_ble_eq_true rfl) (kI fun z76 σ76 hh => ?_)
                          obtain ⟨rfl, h76_0, h76_1⟩ := hh
                          have q76_5 : σ73 65 = σ 65 := ((m73.at 65 rfl).trans ((m61.at 65 rfl).trans ((m50.at 65 rfl).trans (m9.at 65 rfl))))
                          have q76_6 : σ73 66 = σ 66 := ((m73.at 66 rfl).trans ((m61.at 66 rfl).trans ((m50.at 66 rfl).trans (m9.at 66 rfl))))
                          try simp only [q76_5, q76_6] at h76_0
                          refine r_icmp_ge hX (tgt := 144) dX6_wayOf_79 (by decide) (by omega) (by omega) (fun c79 => ?_) (fun c79 => ?_)
                          · skip
                            refine r_iinc hX (fun x144 => [some (.ref (w.2.2 27)), some (.int (iI a)), some (.int (iI b)), some (.int (iI k)), some (.int (iI x144)), some (.int (iI y))]) dX6_wayOf_144 rfl rfl rfl (fun _ => rfl) (fun x144 e144 => ?_)
                            refine r_goto hX dX6_wayOf_147 (tgt := 61) (by decide) ?_
                            refine r_wk hX (lv1 := [some (.ref (w.2.2 27)), some (.int (iI a)), some (.int (iI b)), some (.int (iI k)), some (.int (iI x144)), none]) ⟨rfl, ⟨rfl, ⟨rfl, ⟨rfl, ⟨rfl, trivial⟩⟩⟩⟩⟩ ?_
                            exact ih61 x144 σ73 (Mod.tr (L := [37]) m61 m73 rfl rfl) (by omega) (hQ.row (by omega) e144 rfl) (by omega)
                          · skip
                            refine r_aload_n hX dX6_wayOf_82 rfl ?_
                            refine fg_X27_45 hX dX6_wayOf_83 ?_
                            refine r_iload hX dX6_wayOf_86 rfl ?_
                            refine ld_X37 hX dX6_wayOf_88 (by omega) (by omega) (fun b88l b88u => ?_)
                            refine r_iconst hX dX6_wayOf_89 ?_
                            refine r_iadd hX dX6_wayOf_90 ?_
                            refine r_aload_n hX dX6_wayOf_91 rfl ?_
                            refine fg_X27_45 hX dX6_wayOf_92 ?_
                            refine r_iload hX dX6_wayOf_95 rfl ?_
                            refine ld_X37 hX dX6_wayOf_97 (by omega) (by omega) (fun b97l b97u => ?_)
                            refine r_icmp_ge hX (tgt := 138) dX6_wayOf_98 (by decide) (by omega) (by omega) (fun c98 => ?_) (fun c98 => ?_)
                            · skip
                              refine r_iinc hX (fun x138 => [some (.ref (w.2.2 27)), some (.int (iI a)), some (.int (iI b)), some (.int (iI k)), some (.int (iI x)), some (.int (iI x138))]) dX6_wayOf_138 rfl rfl rfl (fun _ => rfl) (fun x138 e138 => ?_)
                              refine r_goto hX dX6_wayOf_141 (tgt := 73) (by decide) ?_
                              exact ih73 x138 σ73 (m73.w rfl) (by omega) (by first | exact hQ.skip (by omega) (Or.inr (by omega)) e138 | exact hQ.skip (by omega) (Or.inl fun q => by have := q.2.1.2.2; omega) e138 | exact hQ.skip (by omega) (Or.inl fun q => cf_no h116_0 (by omega) q.2.2) e138 | exact hQ.take (by omega) (by omega) (by omega) (by omega) (by omega) (cf_yes h116_0 (by omega)) s137 rfl e138) (by omega)
                            · skip
                              refine r_aload_n hX dX6_wayOf_101 rfl ?_
                              refine fg_X27_39 hX dX6_wayOf_102 ?_
                              refine r_iload hX dX6_wayOf_105 rfl ?_
                              refine ld_X35 hX dX6_wayOf_107 (by omega) (by omega) (fun b107l b107u => ?_)
                              have q107 : σ73 35 = σ 35 := ((m73.at 35 rfl).trans ((m61.at 35 rfl).trans ((m50.at 35 rfl).trans (m9.at 35 rfl))))
                              rw [q107]
                              rw [q107] at b107l b107u
                              refine r_if_ne hX (tgt := 138) dX6_wayOf_108 (by decide) (by omega) (fun c108 => ?_) (fun c108 => ?_)
                              · skip
                                refine r_iinc hX (fun x138 => [some (.ref (w.2.2 27)), some (.int (iI a)), some (.int (iI b)), some (.int (iI k)), some (.int (iI x)), some (.int (iI x138))]) dX6_wayOf_138 rfl rfl rfl (fun _ => rfl) (fun x138 e138 => ?_)
                                refine r_goto hX dX6_wayOf_141 (tgt := 73) (by decide) ?_
                                exact ih73 x138 σ73 (m73.w rfl) (by omega) (by first | exact hQ.skip (by omega) (Or.inr (by omega)) e138 | exact hQ.skip (by omega) (Or.inl fun q => by have := q.2.1.2.2; omega) e138 | exact hQ.skip (by omega) (Or.inl fun q => cf_no h116_0 (by omega) q.2.2) e138 | exact hQ.take (by omega) (by omega) (by omega) (by omega) (by omega) (cf_yes h116_0 (by omega)) s137 rfl e138) (by omega)
                              · skip
                                refine r_aload_n hX dX6_wayOf_111 rfl ?_
                                refine r_iload hX dX6_wayOf_112 rfl ?_
                                refine r_iload hX dX6_wayOf_114 rfl ?_
                                refine r_callV hX dX6_wayOf_116 (k_M_areBeside l w σ73 _ _ (by omega) (by omega) (by omega)) mf_X6_areBeside mv_X6_areBeside lk_RX6_140 rfl rfl rfl rfl rfl ⟨Nat.le_of_ble_eq_true rfl, Nat.le_of_ble_eq_true rfl⟩ (Nat.le_of_ble_eq_true rfl) (kI fun z116 σ116 hh => ?_)
                                obtain ⟨rfl, h116_0⟩ := hh
                                have q116_7 : σ73 66 = σ 66 := ((m73.at 66 rfl).trans ((m61.at 66 rfl).trans ((m50.at 66 rfl).trans (m9.at 66 rfl))))
                                try simp only [q116_7] at h116_0
                                refine r_if_eq hX (tgt := 138) dX6_wayOf_119 (by decide) (by omega) (fun c119 => ?_) (fun c119 => ?_)
                                · skip
                                  refine r_iinc hX (fun x138 => [some (.ref (w.2.2 27)), some (.int (iI a)), some (.int (iI b)), some (.int (iI k)), some (.int (iI x)), some (.int (iI x138))]) dX6_wayOf_138 rfl rfl rfl (fun _ => rfl) (fun x138 e138 => ?_)
                                  refine r_goto hX dX6_wayOf_141 (tgt := 73) (by decide) ?_
                                  exact ih73 x138 σ73 (m73.w rfl) (by omega) (by first | exact hQ.skip (by omega) (Or.inr (by omega)) e138 | exact hQ.skip (by omega) (Or.inl fun q => by have := q.2.1.2.2; omega) e138 | exact hQ.skip (by omega) (Or.inl fun q => cf_no h116_0 (by omega) q.2.2) e138 | exact hQ.take (by omega) (by omega) (by omega) (by omega) (by omega) (cf_yes h116_0 (by omega)) s137 rfl e138) (by omega)
                                · skip
                                  refine r_aload_n hX dX6_wayOf_122 rfl ?_
                                  refine fg_X27_45 hX dX6_wayOf_123 ?_
                                  refine r_iload hX dX6_wayOf_126 rfl ?_
                                  refine r_aload_n hX dX6_wayOf_128 rfl ?_
                                  refine fg_X27_45 hX dX6_wayOf_129 ?_
                                  refine r_iload hX dX6_wayOf_132 rfl ?_
                                  refine ld_X37 hX dX6_wayOf_134 (by omega) (by omega) (fun b134l b134u => ?_)
                                  refine r_iconst hX dX6_wayOf_135 ?_
                                  refine r_iadd hX dX6_wayOf_136 ?_
                                  refine st_X37 hX dX6_wayOf_137 (by omega) (by omega) (by omega) (fun σ137 m137 s137 => ?_)
                                  refine r_iinc hX (fun x138 => [some (.ref (w.2.2 27)), some (.int (iI a)), some (.int (iI b)), some (.int (iI k)), some (.int (iI x)), some (.int (iI x138))]) dX6_wayOf_138 rfl rfl rfl (fun _ => rfl) (fun x138 e138 => ?_)
                                  refine r_goto hX dX6_wayOf_141 (tgt := 73) (by decide) ?_
                                  exact ih73 x138 σ137 (Mod.tr (L := [37]) m73 m137 rfl rfl) (by omega) (by first | exact hQ.skip (by omega) (Or.inr (by omega)) e138 | exact hQ.skip (by omega) (Or.inl fun q => by have := q.2.1.2.2; omega) e138 | exact hQ.skip (by omega) (Or.inl fun q => cf_no h116_0 (by omega) q.2.2) e138 | exact hQ.take (by omega) (by omega) (by omega) (by omega) (by omega) (cf_yes h116_0 (by omega)) s137 rfl e138) (by omega)
                      exact lp73 ((10 - (x71)) + 1).toNat x71 σ61 Mod.rf (by omega) (by rw [e71]; exact hP) (by omega)
                exact lp61 ((10 - (x59)) + 1).toNat x59 σ50 Mod.rf (by omega) (BFP.init hBF e59 rfl) (by omega)
          exact lp50 ((10 - (x49)) + 1).toNat x49 σ9 Mod.rf (by omega) (BFI.init ha (by omega) e49 (fun e e0 e1 => hF e e0 (by omega))) (by omega)
        · skip
          refine r_aload_n hX dX6_wayOf_15 rfl ?_
          refine fg_X27_45 hX dX6_wayOf_16 ?_
          refine r_iload_n hX dX6_wayOf_19 rfl ?_
          refine r_iload_n hX dX6_wayOf_20 rfl ?_
          refine r_iload_n hX dX6_wayOf_21 rfl ?_
          refine r_icmp_ne hX (tgt := 38) dX6_wayOf_22 (by decide) (by omega) (by omega) (fun c22 => ?_) (fun c22 => ?_)
          · skip
            refine r_sipush hX dX6_wayOf_38 (by decide) ?_
            refine st_X37 hX dX6_wayOf_41 (by omega) (by omega) (by omega) (fun σ41 m41 s41 => ?_)
            refine r_iinc hX (fun x42 => [some (.ref (w.2.2 27)), some (.int (iI a)), some (.int (iI b)), some (.int (iI x42)), none, none]) dX6_wayOf_42 rfl rfl rfl (fun _ => rfl) (fun x42 e42 => ?_)
            refine r_goto hX dX6_wayOf_45 (tgt := 9) (by decide) ?_
            exact ih9 x42 σ41 (Mod.tr (L := [37]) m9 m41 rfl rfl) (by omega) (fun e e0 e1 => by
  rw [s41]
  by_cases q : e = c0
  · rw [if_pos q, q]; first | rw [if_pos (by omega)] | rw [if_neg (by omega)]
  · rw [if_neg q]; exact hF e e0 (by omega)) (by omega)
          · skip
            refine r_aload_n hX dX6_wayOf_25 rfl ?_
            refine fg_X27_39 hX dX6_wayOf_26 ?_
            refine r_iload_n hX dX6_wayOf_29 rfl ?_
            refine ld_X35 hX dX6_wayOf_30 (by omega) (by omega) (fun b30l b30u => ?_)
            have q30 : σ9 35 = σ 35 := (m9.at 35 rfl)
            rw [q30]
            rw [q30] at b30l b30u
            refine r_if_ne hX (tgt := 38) dX6_wayOf_31 (by decide) (by omega) (fun c31 => ?_) (fun c31 => ?_)
            · skip
              refine r_sipush hX dX6_wayOf_38 (by decide) ?_
              refine st_X37 hX dX6_wayOf_41 (by omega) (by omega) (by omega) (fun σ41 m41 s41 => ?_)
              refine r_iinc hX (fun x42 => [some (.ref (w.2.2 27)), some (.int (iI a)), some (.int (iI b)), some (.int (iI x42)), none, none]) dX6_wayOf_42 rfl rfl rfl (fun _ => rfl) (fun x42 e42 => ?_)
              refine r_goto hX dX6_wayOf_45 (tgt := 9) (by decide) ?_
              exact ih9 x42 σ41 (Mod.tr (L := [37]) m9 m41 rfl rfl) (by omega) (fun e e0 e1 => by
  rw [s41]
  by_cases q : e = c0
  · rw [if_pos q, q]; first | rw [if_pos (by omega)] | rw [if_neg (by omega)]
  · rw [if_neg q]; exact hF e e0 (by omega)) (by omega)
            · skip
              refine r_iconst hX dX6_wayOf_34 ?_
              refine r_goto hX dX6_wayOf_35 (tgt := 41) (by decide) ?_
              refine st_X37 hX dX6_wayOf_41 (by omega) (by omega) (by omega) (fun σ41 m41 s41 => ?_)
              refine r_iinc hX (fun x42 => [some (.ref (w.2.2 27)), some (.int (iI a)), some (.int (iI b)), some (.int (iI x42)), none, none]) dX6_wayOf_42 rfl rfl rfl (fun _ => rfl) (fun x42 e42 => ?_)
              refine r_goto hX dX6_wayOf_45 (tgt := 9) (by decide) ?_
              exact ih9 x42 σ41 (Mod.tr (L := [37]) m9 m41 rfl rfl) (by omega) (fun e e0 e1 => by
  rw [s41]
  by_cases q : e = c0
  · rw [if_pos q, q]; first | rw [if_pos (by omega)] | rw [if_neg (by omega)]
  · rw [if_neg q]; exact hF e e0 (by omega)) (by omega)
    exact lp9 ((10 - (x8)) + 1).toNat x8 σ Mod.rf (by omega) (fun e e0 e1 => by omega) (by omega)
  · skip
    refine r_iconst hX dX6_wayOf_5 ?_
    exact r_iret hX dX6_wayOf_6 rfl ⟨_, rfl, ⟨Mod.rf, (by rw [← c2, WayOK.self hW (by omega)]), (by omega)⟩⟩
theorem dX6_way_0 : decode cX6_way 0 = .ok (.aload_n 0, 1) := by decide +kernel
theorem dX6_way_1 : decode cX6_way 1 = .ok (.iload_n 1, 1) := by decide +kernel
theorem dX6_way_2 : decode cX6_way 2 = .ok (.invokevirtual 137, 3) := by decide +kernel
theorem dX6_way_5 : decode cX6_way 5 = .ok (.ifCond .eq 11, 3) := by decide +kernel
theorem dX6_way_8 : decode cX6_way 8 = .ok (.aload_n 0, 1) := by decide +kernel
theorem dX6_way_9 : decode cX6_way 9 = .ok (.iload_n 2, 1) := by decide +kernel
theorem dX6_way_10 : decode cX6_way 10 = .ok (.invokevirtual 137, 3) := by decide +kernel
theorem dX6_way_13 : decode cX6_way 13 = .ok (.ifCond .ne 5, 3) := by decide +kernel
theorem dX6_way_16 : decode cX6_way 16 = .ok (.iconst (-1), 1) := by decide +kernel
theorem dX6_way_17 : decode cX6_way 17 = .ok (.ireturn, 1) := by decide +kernel
theorem dX6_way_18 : decode cX6_way 18 = .ok (.aload_n 0, 1) := by decide +kernel
theorem dX6_way_19 : decode cX6_way 19 = .ok (.iload_n 1, 1) := by decide +kernel
theorem dX6_way_20 : decode cX6_way 20 = .ok (.iload_n 2, 1) := by decide +kernel
theorem dX6_way_21 : decode cX6_way 21 = .ok (.invokevirtual 144, 3) := by decide +kernel
theorem dX6_way_24 : decode cX6_way 24 = .ok (.istore_n 3, 1) := by decide +kernel
theorem dX6_way_25 : decode cX6_way 25 = .ok (.iload_n 3, 1) := by decide +kernel
theorem dX6_way_26 : decode cX6_way 26 = .ok (.sipush 1000, 3) := by decide +kernel
theorem dX6_way_29 : decode cX6_way 29 = .ok (.if_icmp .ge 7, 3) := by decide +kernel
theorem dX6_way_32 : decode cX6_way 32 = .ok (.iload_n 3, 1) := by decide +kernel
theorem dX6_way_33 : decode cX6_way 33 = .ok (.goto 5, 3) := by decide +kernel
theorem dX6_way_36 : decode cX6_way 36 = .ok (.bipush (-6), 2) := by decide +kernel
theorem dX6_way_38 : decode cX6_way 38 = .ok (.ireturn, 1) := by decide +kernel
set_option maxRecDepth 20000 in
set_option maxHeartbeats 4000000 in
theorem k_M_way (l : Launch) (w : WT) (σ : MM) (a : Int) (b : Int) (i_a : inr a) (i_b : inr b) (W : Int → Int) (hW : WayM σ W) : CT SX l w yX6_way cX6_way 4 (some .int) 2 49 [.ref (w.2.2 27), .int (iI a), .int (iI b)] σ (PI fun z σ1 => Mod [37] σ σ1 ∧ (((a < 0 ∨ σ 65 0 * σ 66 0 ≤ a ∨ b < 0 ∨ σ 65 0 * σ 66 0 ≤ b) ∧ z = -1) ∨ ((0 ≤ a ∧ a < σ 65 0 * σ 66 0 ∧ 0 ≤ b ∧ b < σ 65 0 * σ 66 0) ∧ ((W (a * 9 + b) < 1000 ∧ z = W (a * 9 + b)) ∨ (1000 ≤ W (a * 9 + b) ∧ z = -6))))) := by
  refine CT.of 1 [some (.ref (w.2.2 27)), some (.int (iI a)), some (.int (iI b)), none] (by decide +kernel) (by simp [lg_sl, Value.category]) rfl sh_X (fun G hX => ?_)
  refine r_bd hX (fun hBd => ?_)
  have b_65 := hBd 65 1 3 rfl 0
  have b_66 := hBd 66 1 3 rfl 0
  refine r_aload_n hX dX6_way_0 rfl ?_
  refine r_iload_n hX dX6_way_1 rfl ?_
  refine r_callV hX dX6_way_2 (k_M_isCell l w σ _ (by omega)) mf_X6_isCell mv_X6_isCell lk_RX6_137 rfl rfl rfl rfl rfl ⟨Nat.le_of_ble_eq_true rfl, Nat.le_of_ble_eq_true rfl⟩ (Nat.le_of_ble_eq_true rfl) (kI fun z2 σ2 hh => ?_)
  obtain ⟨rfl, h2_0⟩ := hh
  refine r_if_eq hX (tgt := 16) dX6_way_5 (by decide) (by omega) (fun c5 => ?_) (fun c5 => ?_)
  · skip
    refine r_iconst hX dX6_way_16 ?_
    exact r_iret hX dX6_way_17 rfl ⟨_, rfl, ⟨Mod.rf, (by omega)⟩⟩
  · skip
    refine r_aload_n hX dX6_way_8 rfl ?_
    refine r_iload_n hX dX6_way_9 rfl ?_
    refine r_callV hX dX6_way_10 (k_M_isCell l w σ _ (by omega)) mf_X6_isCell mv_X6_isCell lk_RX6_137 rfl rfl rfl rfl rfl ⟨Nat.le_of_ble_eq_true rfl, Nat.le_of_ble_eq_true rfl⟩ (Nat.le_of_ble_eq_true rfl) (kI fun z10 σ10 hh => ?_)
    obtain ⟨rfl, h10_0⟩ := hh
    refine r_if_ne hX (tgt := 18) dX6_way_13 (by decide) (by omega) (fun c13 => ?_) (fun c13 => ?_)
    · skip
      refine r_aload_n hX dX6_way_18 rfl ?_
      refine r_iload_n hX dX6_way_19 rfl ?_
      refine r_iload_n hX dX6_way_20 rfl ?_
      refine r_callV hX dX6_way_21 (k_M_wayOf l w σ _ _ (by omega) (by omega) _ (hW) (by omega) (by omega)) mf_X6_wayOf mv_X6_wayOf lk_RX6_144 rfl rfl rfl rfl rfl ⟨Nat.le_of_ble_eq_true rfl, Nat.le_of_ble_eq_true rfl⟩ (Nat.le_of_ble_eq_true rfl) (kI fun z21 σ21 hh => ?_)
      obtain ⟨m21, h21_0, h21_1⟩ := hh
      refine r_istore_n hX (fun x24 => [some (.ref (w.2.2 27)), some (.int (iI a)), some (.int (iI b)), some (.int (iI x24))]) dX6_way_24 (Nat.le_of_ble_eq_true rfl) rfl rfl (fun _ => rfl) (fun x24 e24 => ?_)
      refine r_iload_n hX dX6_way_25 rfl ?_
      refine r_sipush hX dX6_way_26 (by decide) ?_
      refine r_icmp_ge hX (tgt := 36) dX6_way_29 (by decide) (by omega) (by omega) (fun c29 => ?_) (fun c29 => ?_)
      · skip
        refine r_bipush hX dX6_way_36 (by decide) ?_
        exact r_iret hX dX6_way_38 rfl ⟨_, rfl, ⟨(m21.w rfl), (by omega)⟩⟩
      · skip
        refine r_iload_n hX dX6_way_32 rfl ?_
        refine r_goto hX dX6_way_33 (tgt := 38) (by decide) ?_
        exact r_iret hX dX6_way_38 rfl ⟨_, rfl, ⟨(m21.w rfl), (by omega)⟩⟩
    · skip
      refine r_iconst hX dX6_way_16 ?_
      exact r_iret hX dX6_way_17 rfl ⟨_, rfl, ⟨Mod.rf, (by omega)⟩⟩
set_option maxRecDepth 20000 in
set_option maxHeartbeats 4000000 in
theorem k_MM_whole (l : Launch) (w : WT) (σ : MM) : CT SM l w yX6_whole cX6_whole 2 none 0 0 [.ref (w.2.2 0)] σ (PV fun σ1 => Mod [35, 36] σ σ1 ∧ (∀ b : Int, 0 ≤ b → b < 9 → σ1 35 b = 0 ∧ σ1 36 b = 1)) := by
  refine CT.of 1 [some (.ref (w.2.2 0)), none] (by decide +kernel) (by simp [lg_sl, Value.category]) rfl sh_M (fun G hX => ?_)
  refine r_iconst hX dX6_whole_0 ?_
  refine r_istore_n hX (fun x1 => [some (.ref (w.2.2 0)), some (.int (iI x1))]) dX6_whole_1 (Nat.le_of_ble_eq_true rfl) rfl rfl (fun _ => rfl) (fun x1 e1 => ?_)
  have lp2 : ∀ (n : Nat) (i : Int) (σ2 : MM) (m2 : Mod [35, 36] σ σ2) (hi : 0 ≤ i ∧ i ≤ 9) (hz : ∀ b : Int, 0 ≤ b → b < i → σ2 35 b = 0 ∧ σ2 36 b = 1) (hmu : 10 - i < (n : Int)), G 2 [some (.ref (w.2.2 0)), some (.int (iI i))] [] σ2 := by
    intro n
    induction n with
    | zero => intro i σ2 m2 hi hz hmu; omega
    | succ n ih =>
      intro i σ2 m2 hi hz hmu
      have ih2 := ih
      clear ih
      refine r_iload_n hX dX6_whole_2 rfl ?_
      refine r_bipush hX dX6_whole_3 (by decide) ?_
      refine r_icmp_ge hX (tgt := 28) dX6_whole_5 (by decide) (by omega) (by omega) (fun c5 => ?_) (fun c5 => ?_)
      · skip
        exact r_ret hX dX6_whole_28 rfl ⟨rfl, ⟨(m2.w rfl), (fun b b0 b1 => hz b b0 (by omega))⟩⟩
      · skip
        refine r_aload_n hX dX6_whole_8 rfl ?_
        refine fg_M27_39 hX dX6_whole_9 ?_
        refine r_iload_n hX dX6_whole_12 rfl ?_
        refine r_iconst hX dX6_whole_13 ?_
        refine st_M35 hX dX6_whole_14 (by omega) (by omega) (by omega) (fun σ14 m14 s14 => ?_)
        refine r_aload_n hX dX6_whole_15 rfl ?_
        refine fg_M27_42 hX dX6_whole_16 ?_
        refine r_iload_n hX dX6_whole_19 rfl ?_
        refine r_iconst hX dX6_whole_20 ?_
        refine st_M36 hX dX6_whole_21 (by omega) (by omega) (by omega) (fun σ21 m21 s21 => ?_)
        simp only [show σ14 36 = σ2 36 from (m14.at 36 rfl)] at s21
        refine r_iinc hX (fun x22 => [some (.ref (w.2.2 0)), some (.int (iI x22))]) dX6_whole_22 rfl rfl rfl (fun _ => rfl) (fun x22 e22 => ?_)
        refine r_goto hX dX6_whole_25 (tgt := 2) (by decide) ?_
        exact ih2 x22 σ21 (Mod.tr (L := [35, 36]) (Mod.tr (L := [35, 36]) m2 m14 rfl rfl) m21 rfl rfl) (by omega) (by rw [e22, m21.at 35 rfl]; exact two_step hz s14 s21) (by omega)
  exact lp2 ((10 - (x1)) + 1).toNat x1 σ Mod.rf (by omega) (fun b b0 b1 => by omega) (by omega)
