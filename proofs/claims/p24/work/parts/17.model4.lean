theorem dX6_ringsHold_0 : decode cX6_ringsHold 0 = .ok (.iconst 0, 1) := by decide +kernel
theorem dX6_ringsHold_1 : decode cX6_ringsHold 1 = .ok (.istore_n 2, 1) := by decide +kernel
theorem dX6_ringsHold_2 : decode cX6_ringsHold 2 = .ok (.iload_n 2, 1) := by decide +kernel
theorem dX6_ringsHold_3 : decode cX6_ringsHold 3 = .ok (.aload_n 0, 1) := by decide +kernel
theorem dX6_ringsHold_4 : decode cX6_ringsHold 4 = .ok (.getfield 72, 3) := by decide +kernel
theorem dX6_ringsHold_7 : decode cX6_ringsHold 7 = .ok (.if_icmp .ge 16, 3) := by decide +kernel
theorem dX6_ringsHold_10 : decode cX6_ringsHold 10 = .ok (.aload_n 0, 1) := by decide +kernel
theorem dX6_ringsHold_11 : decode cX6_ringsHold 11 = .ok (.getfield 54, 3) := by decide +kernel
theorem dX6_ringsHold_14 : decode cX6_ringsHold 14 = .ok (.iload_n 2, 1) := by decide +kernel
theorem dX6_ringsHold_15 : decode cX6_ringsHold 15 = .ok (.iconst 0, 1) := by decide +kernel
theorem dX6_ringsHold_16 : decode cX6_ringsHold 16 = .ok (.iastore, 1) := by decide +kernel
theorem dX6_ringsHold_17 : decode cX6_ringsHold 17 = .ok (.iinc 2 1, 3) := by decide +kernel
theorem dX6_ringsHold_20 : decode cX6_ringsHold 20 = .ok (.goto (-18), 3) := by decide +kernel
theorem dX6_ringsHold_23 : decode cX6_ringsHold 23 = .ok (.iconst 1, 1) := by decide +kernel
theorem dX6_ringsHold_24 : decode cX6_ringsHold 24 = .ok (.istore_n 2, 1) := by decide +kernel
theorem dX6_ringsHold_25 : decode cX6_ringsHold 25 = .ok (.iconst 0, 1) := by decide +kernel
theorem dX6_ringsHold_26 : decode cX6_ringsHold 26 = .ok (.istore_n 3, 1) := by decide +kernel
theorem dX6_ringsHold_27 : decode cX6_ringsHold 27 = .ok (.iload_n 3, 1) := by decide +kernel
theorem dX6_ringsHold_28 : decode cX6_ringsHold 28 = .ok (.aload_n 0, 1) := by decide +kernel
theorem dX6_ringsHold_29 : decode cX6_ringsHold 29 = .ok (.getfield 72, 3) := by decide +kernel
theorem dX6_ringsHold_32 : decode cX6_ringsHold 32 = .ok (.if_icmp .gt 110, 3) := by decide +kernel
theorem dX6_ringsHold_35 : decode cX6_ringsHold 35 = .ok (.iload_n 2, 1) := by decide +kernel
theorem dX6_ringsHold_36 : decode cX6_ringsHold 36 = .ok (.ifCond .eq 106, 3) := by decide +kernel
theorem dX6_ringsHold_39 : decode cX6_ringsHold 39 = .ok (.iconst 0, 1) := by decide +kernel
theorem dX6_ringsHold_40 : decode cX6_ringsHold 40 = .ok (.istore_n 2, 1) := by decide +kernel
theorem dX6_ringsHold_41 : decode cX6_ringsHold 41 = .ok (.iconst 0, 1) := by decide +kernel
theorem dX6_ringsHold_42 : decode cX6_ringsHold 42 = .ok (.istore 4, 2) := by decide +kernel
theorem dX6_ringsHold_44 : decode cX6_ringsHold 44 = .ok (.iload 4, 2) := by decide +kernel
theorem dX6_ringsHold_46 : decode cX6_ringsHold 46 = .ok (.iconst 2, 1) := by decide +kernel
theorem dX6_ringsHold_47 : decode cX6_ringsHold 47 = .ok (.aload_n 0, 1) := by decide +kernel
theorem dX6_ringsHold_48 : decode cX6_ringsHold 48 = .ok (.getfield 72, 3) := by decide +kernel
theorem dX6_ringsHold_51 : decode cX6_ringsHold 51 = .ok (.imul, 1) := by decide +kernel
theorem dX6_ringsHold_52 : decode cX6_ringsHold 52 = .ok (.if_icmp .ge 84, 3) := by decide +kernel
theorem dX6_ringsHold_55 : decode cX6_ringsHold 55 = .ok (.aload_n 0, 1) := by decide +kernel
theorem dX6_ringsHold_56 : decode cX6_ringsHold 56 = .ok (.getfield 7, 3) := by decide +kernel
theorem dX6_ringsHold_59 : decode cX6_ringsHold 59 = .ok (.iload 4, 2) := by decide +kernel
theorem dX6_ringsHold_61 : decode cX6_ringsHold 61 = .ok (.iconst 2, 1) := by decide +kernel
theorem dX6_ringsHold_62 : decode cX6_ringsHold 62 = .ok (.idiv, 1) := by decide +kernel
theorem dX6_ringsHold_63 : decode cX6_ringsHold 63 = .ok (.iaload, 1) := by decide +kernel
theorem dX6_ringsHold_64 : decode cX6_ringsHold 64 = .ok (.ifCond .le 66, 3) := by decide +kernel
theorem dX6_ringsHold_67 : decode cX6_ringsHold 67 = .ok (.aload_n 0, 1) := by decide +kernel
theorem dX6_ringsHold_68 : decode cX6_ringsHold 68 = .ok (.getfield 54, 3) := by decide +kernel
theorem dX6_ringsHold_71 : decode cX6_ringsHold 71 = .ok (.aload_n 0, 1) := by decide +kernel
theorem dX6_ringsHold_72 : decode cX6_ringsHold 72 = .ok (.getfield 13, 3) := by decide +kernel
theorem dX6_ringsHold_75 : decode cX6_ringsHold 75 = .ok (.iload 4, 2) := by decide +kernel
theorem dX6_ringsHold_77 : decode cX6_ringsHold 77 = .ok (.iaload, 1) := by decide +kernel
theorem dX6_ringsHold_78 : decode cX6_ringsHold 78 = .ok (.iaload, 1) := by decide +kernel
theorem dX6_ringsHold_79 : decode cX6_ringsHold 79 = .ok (.aload_n 0, 1) := by decide +kernel
theorem dX6_ringsHold_80 : decode cX6_ringsHold 80 = .ok (.aload_n 0, 1) := by decide +kernel
theorem dX6_ringsHold_81 : decode cX6_ringsHold 81 = .ok (.getfield 13, 3) := by decide +kernel
theorem dX6_ringsHold_84 : decode cX6_ringsHold 84 = .ok (.iload 4, 2) := by decide +kernel
theorem dX6_ringsHold_86 : decode cX6_ringsHold 86 = .ok (.iaload, 1) := by decide +kernel
theorem dX6_ringsHold_87 : decode cX6_ringsHold 87 = .ok (.invokevirtual 130, 3) := by decide +kernel
theorem dX6_ringsHold_90 : decode cX6_ringsHold 90 = .ok (.iadd, 1) := by decide +kernel
theorem dX6_ringsHold_91 : decode cX6_ringsHold 91 = .ok (.iload_n 1, 1) := by decide +kernel
theorem dX6_ringsHold_92 : decode cX6_ringsHold 92 = .ok (.aload_n 0, 1) := by decide +kernel
theorem dX6_ringsHold_93 : decode cX6_ringsHold 93 = .ok (.getfield 16, 3) := by decide +kernel
theorem dX6_ringsHold_96 : decode cX6_ringsHold 96 = .ok (.iload 4, 2) := by decide +kernel
theorem dX6_ringsHold_98 : decode cX6_ringsHold 98 = .ok (.iaload, 1) := by decide +kernel
theorem dX6_ringsHold_99 : decode cX6_ringsHold 99 = .ok (.imul, 1) := by decide +kernel
theorem dX6_ringsHold_100 : decode cX6_ringsHold 100 = .ok (.isub, 1) := by decide +kernel
theorem dX6_ringsHold_101 : decode cX6_ringsHold 101 = .ok (.istore 5, 2) := by decide +kernel
theorem dX6_ringsHold_103 : decode cX6_ringsHold 103 = .ok (.iload 5, 2) := by decide +kernel
theorem dX6_ringsHold_105 : decode cX6_ringsHold 105 = .ok (.aload_n 0, 1) := by decide +kernel
theorem dX6_ringsHold_106 : decode cX6_ringsHold 106 = .ok (.getfield 54, 3) := by decide +kernel
theorem dX6_ringsHold_109 : decode cX6_ringsHold 109 = .ok (.iload 4, 2) := by decide +kernel
theorem dX6_ringsHold_111 : decode cX6_ringsHold 111 = .ok (.iconst 2, 1) := by decide +kernel
theorem dX6_ringsHold_112 : decode cX6_ringsHold 112 = .ok (.idiv, 1) := by decide +kernel
theorem dX6_ringsHold_113 : decode cX6_ringsHold 113 = .ok (.iaload, 1) := by decide +kernel
theorem dX6_ringsHold_114 : decode cX6_ringsHold 114 = .ok (.if_icmp .le 16, 3) := by decide +kernel
theorem dX6_ringsHold_117 : decode cX6_ringsHold 117 = .ok (.aload_n 0, 1) := by decide +kernel
theorem dX6_ringsHold_118 : decode cX6_ringsHold 118 = .ok (.getfield 54, 3) := by decide +kernel
theorem dX6_ringsHold_121 : decode cX6_ringsHold 121 = .ok (.iload 4, 2) := by decide +kernel
theorem dX6_ringsHold_123 : decode cX6_ringsHold 123 = .ok (.iconst 2, 1) := by decide +kernel
theorem dX6_ringsHold_124 : decode cX6_ringsHold 124 = .ok (.idiv, 1) := by decide +kernel
theorem dX6_ringsHold_125 : decode cX6_ringsHold 125 = .ok (.iload 5, 2) := by decide +kernel
theorem dX6_ringsHold_127 : decode cX6_ringsHold 127 = .ok (.iastore, 1) := by decide +kernel
theorem dX6_ringsHold_128 : decode cX6_ringsHold 128 = .ok (.iconst 1, 1) := by decide +kernel
theorem dX6_ringsHold_129 : decode cX6_ringsHold 129 = .ok (.istore_n 2, 1) := by decide +kernel
theorem dX6_ringsHold_130 : decode cX6_ringsHold 130 = .ok (.iinc 4 1, 3) := by decide +kernel
theorem dX6_ringsHold_133 : decode cX6_ringsHold 133 = .ok (.goto (-89), 3) := by decide +kernel
theorem dX6_ringsHold_136 : decode cX6_ringsHold 136 = .ok (.iinc 3 1, 3) := by decide +kernel
theorem dX6_ringsHold_139 : decode cX6_ringsHold 139 = .ok (.goto (-112), 3) := by decide +kernel
theorem dX6_ringsHold_142 : decode cX6_ringsHold 142 = .ok (.iload_n 2, 1) := by decide +kernel
theorem dX6_ringsHold_143 : decode cX6_ringsHold 143 = .ok (.ifCond .ne 7, 3) := by decide +kernel
theorem dX6_ringsHold_146 : decode cX6_ringsHold 146 = .ok (.iconst 1, 1) := by decide +kernel
theorem dX6_ringsHold_147 : decode cX6_ringsHold 147 = .ok (.goto 4, 3) := by decide +kernel
theorem dX6_ringsHold_150 : decode cX6_ringsHold 150 = .ok (.iconst 0, 1) := by decide +kernel
theorem dX6_ringsHold_151 : decode cX6_ringsHold 151 = .ok (.ireturn, 1) := by decide +kernel
set_option maxRecDepth 20000 in
set_option maxHeartbeats 4000000 in
theorem k_M_ringsHold (l : Launch) (w : WT) (σ : MM) (bt : Int) (i_bt : inr bt) (hb : 1 ≤ bt ∧ bt ≤ 16) (hsr : SrcM σ) : CT SX l w yX6_ringsHold cX6_ringsHold 6 (some .boolean) 1 21 [.ref (w.2.2 27), .int (iI bt)] σ (PI fun z σ1 => Mod [40] σ σ1 ∧ ((z = 1 ∧ RHm σ bt) ∨ (z = 0 ∧ ¬ RHm σ bt))) := by
  refine CT.of 4 [some (.ref (w.2.2 27)), some (.int (iI bt)), none, none, none, none] (by decide +kernel) (by simp [lg_sl, Value.category]) rfl sh_X (fun G hX => ?_)
  refine r_bd hX (fun hBd => ?_)
  have b_61 := hBd 61 0 8 rfl 0
  have hop : ∀ s, 0 ≤ σ 29 s ∧ σ 29 s ≤ 7 := fun s => hBd 29 0 7 rfl s
  have hdi : ∀ s, 0 ≤ σ 30 s ∧ σ 30 s ≤ 3 := fun s => hBd 30 0 3 rfl s
  refine r_iconst hX dX6_ringsHold_0 ?_
  refine r_istore_n hX (fun x1 => [some (.ref (w.2.2 27)), some (.int (iI bt)), some (.int (iI x1)), none, none, none]) dX6_ringsHold_1 (Nat.le_of_ble_eq_true rfl) rfl rfl (fun _ => rfl) (fun x1 e1 => ?_)
  have lp2 : ∀ (n : Nat) (a0 : Int) (σ2 : MM) (m2 : Mod [40] σ σ2) (ha0 : 0 ≤ a0 ∧ a0 ≤ σ 61 0) (hz : ∀ b, 0 ≤ b → b < a0 → σ2 40 b = 0) (hmu : 9 - a0 < (n : Int)), G 2 [some (.ref (w.2.2 27)), some (.int (iI bt)), some (.int (iI a0)), none, none, none] [] σ2 := by
    intro n
    induction n with
    | zero => intro a0 σ2 m2 ha0 hz hmu; omega
    | succ n ih =>
      intro a0 σ2 m2 ha0 hz hmu
      have ih2 := ih
      clear ih
      refine r_iload_n hX dX6_ringsHold_2 rfl ?_
      refine r_aload_n hX dX6_ringsHold_3 rfl ?_
      refine fg_X27_72 hX dX6_ringsHold_4 (fun b4l b4u => ?_)
      have q4 : σ2 61 = σ 61 := (m2.at 61 rfl)
      rw [q4]
      rw [q4] at b4l b4u
      refine r_icmp_ge hX (tgt := 23) dX6_ringsHold_7 (by decide) (by omega) (by omega) (fun c7 => ?_) (fun c7 => ?_)
      · skip
        refine r_iconst hX dX6_ringsHold_23 ?_
        refine r_istore_n hX (fun x24 => [some (.ref (w.2.2 27)), some (.int (iI bt)), some (.int (iI x24)), none, none, none]) dX6_ringsHold_24 (Nat.le_of_ble_eq_true rfl) rfl rfl (fun _ => rfl) (fun x24 e24 => ?_)
        refine r_iconst hX dX6_ringsHold_25 ?_
        refine r_istore_n hX (fun x26 => [some (.ref (w.2.2 27)), some (.int (iI bt)), some (.int (iI x24)), some (.int (iI x26)), none, none]) dX6_ringsHold_26 (Nat.le_of_ble_eq_true rfl) rfl rfl (fun _ => rfl) (fun x26 e26 => ?_)
        have lp27 : ∀ (n : Nat) (more : Int) (rnd : Int) (σ27 : MM) (m27 : Mod [40] σ2 σ27) (hrnd : 0 ≤ rnd ∧ rnd ≤ σ 61 0 + 1) (hmo : more = 0 ∨ more = 1) (hO : more = 1 → Outer (σ 61 0) (2 * σ 61 0) (enX (sM (σ 28) (σ 29)) (σ 61 0)) (sM (σ 28) (σ 29)) (gR (σ 28) (sM (σ 28) (σ 29)) (σ 30) bt) (fun _ => 0) rnd (σ27 40)) (hR : more = 0 → RHm σ bt) (hB : ∀ l : Int, 0 ≤ l → l < σ 61 0 → 0 ≤ σ27 40 l ∧ σ27 40 l ≤ 32 * rnd) (hmu : 10 - rnd < (n : Int)), G 27 [some (.ref (w.2.2 27)), some (.int (iI bt)), some (.int (iI more)), some (.int (iI rnd)), none, none] [] σ27 := by
          intro n
          induction n with
          | zero => intro more rnd σ27 m27 hrnd hmo hO hR hB hmu; omega
          | succ n ih =>
            intro more rnd σ27 m27 hrnd hmo hO hR hB hmu
            have ih27 := ih
            clear ih
            refine r_iload_n hX dX6_ringsHold_27 rfl ?_
            refine r_aload_n hX dX6_ringsHold_28 rfl ?_
            refine fg_X27_72 hX dX6_ringsHold_29 (fun b29l b29u => ?_)
            have q29 : σ27 61 = σ 61 := ((m27.at 61 rfl).trans (m2.at 61 rfl))
            rw [q29]
            rw [q29] at b29l b29u
            refine r_icmp_gt hX (tgt := 142) dX6_ringsHold_32 (by decide) (by omega) (by omega) (fun c32 => ?_) (fun c32 => ?_)
            · skip
              refine r_iload_n hX dX6_ringsHold_142 rfl ?_
              refine r_if_ne hX (tgt := 150) dX6_ringsHold_143 (by decide) (by omega) (fun c143 => ?_) (fun c143 => ?_)
              · skip
                refine r_iconst hX dX6_ringsHold_150 ?_
                exact r_zret hX dX6_ringsHold_151 rfl (by omega) ⟨_, rfl, ⟨(Mod.tr (L := [40]) m2 m27 rfl rfl), (by first | exact Or.inl ⟨rfl, hR (by omega)⟩ | exact Or.inr ⟨rfl, (hO (by omega)).none wf_X (by omega)⟩)⟩⟩
              · skip
                refine r_iconst hX dX6_ringsHold_146 ?_
                refine r_goto hX dX6_ringsHold_147 (tgt := 151) (by decide) ?_
                exact r_zret hX dX6_ringsHold_151 rfl (by omega) ⟨_, rfl, ⟨(Mod.tr (L := [40]) m2 m27 rfl rfl), (by first | exact Or.inl ⟨rfl, hR (by omega)⟩ | exact Or.inr ⟨rfl, (hO (by omega)).none wf_X (by omega)⟩)⟩⟩
            · skip
              refine r_iload_n hX dX6_ringsHold_35 rfl ?_
              refine r_if_eq hX (tgt := 142) dX6_ringsHold_36 (by decide) (by omega) (fun c36 => ?_) (fun c36 => ?_)
              · skip
                refine r_iload_n hX dX6_ringsHold_142 rfl ?_
                refine r_if_ne hX (tgt := 150) dX6_ringsHold_143 (by decide) (by omega) (fun c143 => ?_) (fun c143 => ?_)
                · skip
                  refine r_iconst hX dX6_ringsHold_150 ?_
                  exact r_zret hX dX6_ringsHold_151 rfl (by omega) ⟨_, rfl, ⟨(Mod.tr (L := [40]) m2 m27 rfl rfl), (by first | exact Or.inl ⟨rfl, hR (by omega)⟩ | exact Or.inr ⟨rfl, (hO (by omega)).none wf_X (by omega)⟩)⟩⟩
                · skip
                  refine r_iconst hX dX6_ringsHold_146 ?_
                  refine r_goto hX dX6_ringsHold_147 (tgt := 151) (by decide) ?_
                  exact r_zret hX dX6_ringsHold_151 rfl (by omega) ⟨_, rfl, ⟨(Mod.tr (L := [40]) m2 m27 rfl rfl), (by first | exact Or.inl ⟨rfl, hR (by omega)⟩ | exact Or.inr ⟨rfl, (hO (by omega)).none wf_X (by omega)⟩)⟩⟩
              · skip
                refine r_iconst hX dX6_ringsHold_39 ?_
                refine r_istore_n hX (fun x40 => [some (.ref (w.2.2 27)), some (.int (iI bt)), some (.int (iI x40)), some (.int (iI rnd)), none, none]) dX6_ringsHold_40 (Nat.le_of_ble_eq_true rfl) rfl rfl (fun _ => rfl) (fun x40 e40 => ?_)
                refine r_iconst hX dX6_ringsHold_41 ?_
                refine r_istore hX (fun x42 => [some (.ref (w.2.2 27)), some (.int (iI bt)), some (.int (iI x40)), some (.int (iI rnd)), some (.int (iI x42)), none]) dX6_ringsHold_42 (Nat.le_of_ble_eq_true rfl) rfl rfl (fun _ => rfl) (fun x42 e42 => ?_)
                have lp44 : ∀ (n : Nat) (more2 : Int) (k : Int) (σ44 : MM) (m44 : Mod [40] σ27 σ44) (hk : 0 ≤ k ∧ k ≤ 2 * σ 61 0) (hm2 : more2 = 0 ∨ more2 = 1) (hP : PassI (σ 61 0) (2 * σ 61 0) (enX (sM (σ 28) (σ 29)) (σ 61 0)) (sM (σ 28) (σ 29)) (gR (σ 28) (sM (σ 28) (σ 29)) (σ 30) bt) (σ27 40) k (σ44 40) more2) (hB2 : ∀ l : Int, 0 ≤ l → l < σ 61 0 → 0 ≤ σ44 40 l ∧ σ44 40 l ≤ 32 * rnd + 2 * k) (hmu : 17 - k < (n : Int)), G 44 [some (.ref (w.2.2 27)), some (.int (iI bt)), some (.int (iI more2)), some (.int (iI rnd)), some (.int (iI k)), none] [] σ44 := by
                  intro n
                  induction n with
                  | zero => intro more2 k σ44 m44 hk hm2 hP hB2 hmu; omega
                  | succ n ih =>
                    intro more2 k σ44 m44 hk hm2 hP hB2 hmu
                    have ih44 := ih
                    clear ih
                    refine r_iload hX dX6_ringsHold_44 rfl ?_
                    refine r_iconst hX dX6_ringsHold_46 ?_
                    refine r_aload_n hX dX6_ringsHold_47 rfl ?_
                    refine fg_X27_72 hX dX6_ringsHold_48 (fun b48l b48u => ?_)
                    have q48 : σ44 61 = σ 61 := ((m44.at 61 rfl).trans ((m27.at 61 rfl).trans (m2.at 61 rfl)))
                    rw [q48]
                    rw [q48] at b48l b48u
                    refine r_imul hX dX6_ringsHold_51 ?_
                    refine r_icmp_ge hX (tgt := 136) dX6_ringsHold_52 (by decide) (by omega) (by omega) (fun c52 => ?_) (fun c52 => ?_)
                    · skip
                      refine r_iinc hX (fun x136 => [some (.ref (w.2.2 27)), some (.int (iI bt)), some (.int (iI more2)), some (.int (iI x136)), some (.int (iI k)), none]) dX6_ringsHold_136 rfl rfl rfl (fun _ => rfl) (fun x136 e136 => ?_)
                      refine r_goto hX dX6_ringsHold_139 (tgt := 27) (by decide) ?_
                      refine r_wk hX (lv1 := [some (.ref (w.2.2 27)), some (.int (iI bt)), some (.int (iI more2)), some (.int (iI x136)), none, none]) ⟨rfl, ⟨rfl, ⟨rfl, ⟨rfl, trivial⟩⟩⟩⟩ ?_
                      exact ih27 more2 x136 σ44 (Mod.tr (L := [40]) m27 m44 rfl rfl) (by omega) (by omega) (fun q => by rw [e136]; exact (hO (by omega)).next wf_X hP (by omega) (by omega)) (fun q => ⟨_, PassI.sol wf_X (cf_z hP q) (by omega), fun b b0 b1 => (hB2 b b0 (by omega)).1⟩) (fun l l0 l1 => by have := hB2 l l0 l1; omega) (by omega)
                    · skip
                      refine r_aload_n hX dX6_ringsHold_55 rfl ?_
                      refine fg_X27_7 hX dX6_ringsHold_56 ?_
                      refine r_iload hX dX6_ringsHold_59 rfl ?_
                      refine r_iconst hX dX6_ringsHold_61 ?_
                      refine r_idiv hX dX6_ringsHold_62 (by omega) (by omega) (by omega) (by omega) ?_
                      refine ld_X28 hX dX6_ringsHold_63 (by omega) (by omega) (fun b63l b63u => ?_)
                      have q63 : σ44 28 = σ 28 := ((m44.at 28 rfl).trans ((m27.at 28 rfl).trans (m2.at 28 rfl)))
                      rw [q63]
                      rw [q63] at b63l b63u
                      refine r_if_le hX (tgt := 130) dX6_ringsHold_64 (by decide) (by omega) (fun c64 => ?_) (fun c64 => ?_)
                      · skip
                        refine r_iinc hX (fun x130 => [some (.ref (w.2.2 27)), some (.int (iI bt)), some (.int (iI more2)), some (.int (iI rnd)), some (.int (iI x130)), none]) dX6_ringsHold_130 rfl rfl rfl (fun _ => rfl) (fun x130 e130 => ?_)
                        refine r_goto hX dX6_ringsHold_133 (tgt := 44) (by decide) ?_
                        exact ih44 more2 x130 σ44 (m44.w rfl) (by omega) (by omega) (by rw [e130]; first | exact hP.skip wf_X (by omega) (Or.inl fun q => by unfold enX at q; rw [sM_0 (by omega)] at q; omega) | exact hP.skip wf_X (by omega) (Or.inr (by rw [← hg]; omega)) | (rw [e129]; exact hP.push wf_X (by omega) hen (by rw [← hg]; omega) (fun b => by rw [s127, hg]))) (fun l l0 l1 => by have h9 := hB2 l l0 l1; first | omega | (rw [s127]; split <;> omega)) (by omega)
                      · skip
                        have hk0 : σ 28 (k / 2) ≠ 0 := by omega
                        have hd1 := hB2 (σ 29 k) (by have := hop k; omega) (hsr k (by omega) (by omega) hk0)
                        have hd2 := hB2 (k / 2) (by omega) (by omega)
                        have hlb := @lenF_bd (σ 28) (σ 29 k)
                        have hmul : 0 ≤ bt * σ 30 k ∧ bt * σ 30 k ≤ 48 := by
                          have := pm (a := bt) (A := 16) (b := σ 30 k) (B := 3) (by omega) (hdi k)
                          omega
                        refine r_aload_n hX dX6_ringsHold_67 rfl ?_
                        refine fg_X27_54 hX dX6_ringsHold_68 ?_
                        refine r_aload_n hX dX6_ringsHold_71 rfl ?_
                        refine fg_X27_13 hX dX6_ringsHold_72 ?_
                        refine r_iload hX dX6_ringsHold_75 rfl ?_
                        refine ld_X29 hX dX6_ringsHold_77 (by omega) (by omega) (fun b77l b77u => ?_)
                        have q77 : σ44 29 = σ 29 := ((m44.at 29 rfl).trans ((m27.at 29 rfl).trans (m2.at 29 rfl)))
                        rw [q77]
                        rw [q77] at b77l b77u
                        refine ld_X40 hX dX6_ringsHold_78 (by omega) (by omega) ?_
                        refine r_aload_n hX dX6_ringsHold_79 rfl ?_
                        refine r_aload_n hX dX6_ringsHold_80 rfl ?_
                        refine fg_X27_13 hX dX6_ringsHold_81 ?_
                        refine r_iload hX dX6_ringsHold_84 rfl ?_
                        refine ld_X29 hX dX6_ringsHold_86 (by omega) (by omega) (fun b86l b86u => ?_)
                        have q86 : σ44 29 = σ 29 := ((m44.at 29 rfl).trans ((m27.at 29 rfl).trans (m2.at 29 rfl)))
                        rw [q86]
                        rw [q86] at b86l b86u
                        refine r_callV hX dX6_ringsHold_87 (k_M_lengthOf l w σ44 _ (by omega) (by omega)) mf_X6_lengthOf mv_X6_lengthOf lk_RX6_130 rfl rfl rfl rfl rfl ⟨Nat.le_of_ble_eq_true rfl, Nat.le_of_ble_eq_true rfl⟩ (Nat.le_of_ble_eq_true rfl) (kI fun z87 σ87 hh => ?_)
                        obtain ⟨rfl, h87_0, h87_1⟩ := hh
                        have q87_1 : σ44 28 = σ 28 := ((m44.at 28 rfl).trans ((m27.at 28 rfl).trans (m2.at 28 rfl)))
                        try simp only [q87_1] at h87_0
                        refine r_iadd hX dX6_ringsHold_90 ?_
                        refine r_iload_n hX dX6_ringsHold_91 rfl ?_
                        refine r_aload_n hX dX6_ringsHold_92 rfl ?_
                        refine fg_X27_16 hX dX6_ringsHold_93 ?_
                        refine r_iload hX dX6_ringsHold_96 rfl ?_
                        refine ld_X30 hX dX6_ringsHold_98 (by omega) (by omega) (fun b98l b98u => ?_)
                        have q98 : σ44 30 = σ 30 := ((m44.at 30 rfl).trans ((m27.at 30 rfl).trans (m2.at 30 rfl)))
                        rw [q98]
                        rw [q98] at b98l b98u
                        refine r_imul hX dX6_ringsHold_99 ?_
                        refine r_isub hX dX6_ringsHold_100 ?_
                        refine r_istore hX (fun x101 => [some (.ref (w.2.2 27)), some (.int (iI bt)), some (.int (iI more2)), some (.int (iI rnd)), some (.int (iI k)), some (.int (iI x101))]) dX6_ringsHold_101 (Nat.le_of_ble_eq_true rfl) rfl rfl (fun _ => rfl) (fun x101 e101 => ?_)
                        have hg : x101 = σ44 40 ((sM (σ 28) (σ 29)) k) + (gR (σ 28) (sM (σ 28) (σ 29)) (σ 30) bt) k := by
                          unfold gR
                          rw [sM_1 hk0]
                          omega
                        have hen : (enX (sM (σ 28) (σ 29)) (σ 61 0)) k := by
                          unfold enX
                          rw [sM_1 hk0]
                          exact ⟨by omega, hsr k (by omega) (by omega) hk0⟩
                        refine r_iload hX dX6_ringsHold_103 rfl ?_
                        refine r_aload_n hX dX6_ringsHold_105 rfl ?_
                        refine fg_X27_54 hX dX6_ringsHold_106 ?_
                        refine r_iload hX dX6_ringsHold_109 rfl ?_
                        refine r_iconst hX dX6_ringsHold_111 ?_
                        refine r_idiv hX dX6_ringsHold_112 (by omega) (by omega) (by omega) (by omega) ?_
                        refine ld_X40 hX dX6_ringsHold_113 (by omega) (by omega) ?_
                        refine r_icmp_le hX (tgt := 130) dX6_ringsHold_114 (by decide) (by omega) (by omega) (fun c114 => ?_) (fun c114 => ?_)
                        · skip
                          refine r_iinc hX (fun x130 => [some (.ref (w.2.2 27)), some (.int (iI bt)), some (.int (iI more2)), some (.int (iI rnd)), some (.int (iI x130)), some (.int (iI x101))]) dX6_ringsHold_130 rfl rfl rfl (fun _ => rfl) (fun x130 e130 => ?_)
                          refine r_goto hX dX6_ringsHold_133 (tgt := 44) (by decide) ?_
                          refine r_wk hX (lv1 := [some (.ref (w.2.2 27)), some (.int (iI bt)), some (.int (iI more2)), some (.int (iI rnd)), some (.int (iI x130)), none]) ⟨rfl, ⟨rfl, ⟨rfl, ⟨rfl, ⟨rfl, trivial⟩⟩⟩⟩⟩ ?_
                          exact ih44 more2 x130 σ44 (m44.w rfl) (by omega) (by omega) (by rw [e130]; first | exact hP.skip wf_X (by omega) (Or.inl fun q => by unfold enX at q; rw [sM_0 (by omega)] at q; omega) | exact hP.skip wf_X (by omega) (Or.inr (by rw [← hg]; omega)) | (rw [e129]; exact hP.push wf_X (by omega) hen (by rw [← hg]; omega) (fun b => by rw [s127, hg]))) (fun l l0 l1 => by have h9 := hB2 l l0 l1; first | omega | (rw [s127]; split <;> omega)) (by omega)
                        · skip
                          refine r_aload_n hX dX6_ringsHold_117 rfl ?_
                          refine fg_X27_54 hX dX6_ringsHold_118 ?_
                          refine r_iload hX dX6_ringsHold_121 rfl ?_
                          refine r_iconst hX dX6_ringsHold_123 ?_
                          refine r_idiv hX dX6_ringsHold_124 (by omega) (by omega) (by omega) (by omega) ?_
                          refine r_iload hX dX6_ringsHold_125 rfl ?_
                          refine st_X40 hX dX6_ringsHold_127 (by omega) (by omega) (fun σ127 m127 s127 => ?_)
                          refine r_iconst hX dX6_ringsHold_128 ?_
                          refine r_istore_n hX (fun x129 => [some (.ref (w.2.2 27)), some (.int (iI bt)), some (.int (iI x129)), some (.int (iI rnd)), some (.int (iI k)), some (.int (iI x101))]) dX6_ringsHold_129 (Nat.le_of_ble_eq_true rfl) rfl rfl (fun _ => rfl) (fun x129 e129 => ?_)
                          refine r_iinc hX (fun x130 => [some (.ref (w.2.2 27)), some (.int (iI bt)), some (.int (iI x129)), some (.int (iI rnd)), some (.int (iI x130)), some (.int (iI x101))]) dX6_ringsHold_130 rfl rfl rfl (fun _ => rfl) (fun x130 e130 => ?_)
                          refine r_goto hX dX6_ringsHold_133 (tgt := 44) (by decide) ?_
                          refine r_wk hX (lv1 := [some (.ref (w.2.2 27)), some (.int (iI bt)), some (.int (iI x129)), some (.int (iI rnd)), some (.int (iI x130)), none]) ⟨rfl, ⟨rfl, ⟨rfl, ⟨rfl, ⟨rfl, trivial⟩⟩⟩⟩⟩ ?_
                          exact ih44 x129 x130 σ127 (Mod.tr (L := [40]) m44 m127 rfl rfl) (by omega) (by omega) (by rw [e130]; first | exact hP.skip wf_X (by omega) (Or.inl fun q => by unfold enX at q; rw [sM_0 (by omega)] at q; omega) | exact hP.skip wf_X (by omega) (Or.inr (by rw [← hg]; omega)) | (rw [e129]; exact hP.push wf_X (by omega) hen (by rw [← hg]; omega) (fun b => by rw [s127, hg]))) (fun l l0 l1 => by have h9 := hB2 l l0 l1; first | omega | (rw [s127]; split <;> omega)) (by omega)
                exact lp44 ((17 - (x42)) + 1).toNat x40 x42 σ27 Mod.rf (by omega) (by omega) (by rw [e40, e42]; exact PassI.init) (fun l l0 l1 => by have := hB l l0 l1; omega) (by omega)
        exact lp27 ((10 - (x26)) + 1).toNat x24 x26 σ2 Mod.rf (by omega) (by omega) (fun _ => by rw [e26]; exact Outer.row (fun b b0 b1 => hz b b0 (by omega))) (fun q => by omega) (fun l l0 l1 => by rw [hz l l0 (by omega)]; omega) (by omega)
      · skip
        refine r_aload_n hX dX6_ringsHold_10 rfl ?_
        refine fg_X27_54 hX dX6_ringsHold_11 ?_
        refine r_iload_n hX dX6_ringsHold_14 rfl ?_
        refine r_iconst hX dX6_ringsHold_15 ?_
        refine st_X40 hX dX6_ringsHold_16 (by omega) (by omega) (fun σ16 m16 s16 => ?_)
        refine r_iinc hX (fun x17 => [some (.ref (w.2.2 27)), some (.int (iI bt)), some (.int (iI x17)), none, none, none]) dX6_ringsHold_17 rfl rfl rfl (fun _ => rfl) (fun x17 e17 => ?_)
        refine r_goto hX dX6_ringsHold_20 (tgt := 2) (by decide) ?_
        exact ih2 x17 σ16 (Mod.tr (L := [40]) m2 m16 rfl rfl) (by omega) (fun b b0 b1 => by rw [s16]; split; rfl; exact hz b b0 (by omega)) (by omega)
  exact lp2 ((9 - (x1)) + 1).toNat x1 σ Mod.rf (by omega) (fun b b0 b1 => by omega) (by omega)
theorem dX6_rings_0 : decode cX6_rings 0 = .ok (.iconst 1, 1) := by decide +kernel
theorem dX6_rings_1 : decode cX6_rings 1 = .ok (.istore_n 1, 1) := by decide +kernel
theorem dX6_rings_2 : decode cX6_rings 2 = .ok (.aload_n 0, 1) := by decide +kernel
theorem dX6_rings_3 : decode cX6_rings 3 = .ok (.iload_n 1, 1) := by decide +kernel
theorem dX6_rings_4 : decode cX6_rings 4 = .ok (.invokevirtual 168, 3) := by decide +kernel
theorem dX6_rings_7 : decode cX6_rings 7 = .ok (.ifCond .ne 9, 3) := by decide +kernel
theorem dX6_rings_10 : decode cX6_rings 10 = .ok (.iinc 1 1, 3) := by decide +kernel
theorem dX6_rings_13 : decode cX6_rings 13 = .ok (.goto (-11), 3) := by decide +kernel
theorem dX6_rings_16 : decode cX6_rings 16 = .ok (.iload_n 1, 1) := by decide +kernel
theorem dX6_rings_17 : decode cX6_rings 17 = .ok (.ireturn, 1) := by decide +kernel
set_option maxRecDepth 20000 in
set_option maxHeartbeats 4000000 in
theorem k_M_rings (l : Launch) (w : WT) (σ : MM) (hSn : SndM σ) : CT SX l w yX6_rings cX6_rings 2 (some .int) 2 46 [.ref (w.2.2 27)] σ (PI fun z σ1 => Mod [40] σ σ1 ∧ (RBm σ z)) := by
  refine CT.of 1 [some (.ref (w.2.2 27)), none] (by decide +kernel) (by simp [lg_sl, Value.category]) rfl sh_X (fun G hX => ?_)
  refine r_bd hX (fun hBd => ?_)
  have b_61 := hBd 61 0 8 rfl 0
  have hop : ∀ s, 0 ≤ σ 29 s ∧ σ 29 s ≤ 7 := fun s => hBd 29 0 7 rfl s
  have hdi : ∀ s, 0 ≤ σ 30 s ∧ σ 30 s ≤ 3 := fun s => hBd 30 0 3 rfl s
  have hR16 : RHm σ 16 := RH.most hSn (fun s => (hdi s).1) b_61.2
  have hsr := hSn.src (fun s => (hop s).1)
  refine r_iconst hX dX6_rings_0 ?_
  refine r_istore_n hX (fun x1 => [some (.ref (w.2.2 27)), some (.int (iI x1))]) dX6_rings_1 (Nat.le_of_ble_eq_true rfl) rfl rfl (fun _ => rfl) (fun x1 e1 => ?_)
  have lp2 : ∀ (n : Nat) (bt : Int) (σ2 : MM) (m2 : Mod [40] σ σ2) (hb : 1 ≤ bt ∧ bt ≤ 16) (hN : ∀ n : Int, 1 ≤ n → n < bt → ¬ RHm σ n) (hmu : 17 - bt < (n : Int)), G 2 [some (.ref (w.2.2 27)), some (.int (iI bt))] [] σ2 := by
    intro n
    induction n with
    | zero => intro bt σ2 m2 hb hN hmu; omega
    | succ n ih =>
      intro bt σ2 m2 hb hN hmu
      have ih2 := ih
      clear ih
      refine r_aload_n hX dX6_rings_2 rfl ?_
      refine r_iload_n hX dX6_rings_3 rfl ?_
      refine r_callV hX dX6_rings_4 (k_M_ringsHold l w σ2 _ (by omega) (by omega) (hsr.keep m2 rfl)) mf_X6_ringsHold mv_X6_ringsHold lk_RX6_168 rfl rfl rfl rfl rfl ⟨Nat.le_of_ble_eq_true rfl, Nat.le_of_ble_eq_true rfl⟩ (Nat.le_of_ble_eq_true rfl) (kI fun z4 σ4 hh => ?_)
      obtain ⟨m4, h4_0⟩ := hh
      rw [RHm_keep m2 rfl] at h4_0
      refine r_if_ne hX (tgt := 16) dX6_rings_7 (by decide) (by omega) (fun c7 => ?_) (fun c7 => ?_)
      · skip
        refine r_iload_n hX dX6_rings_16 rfl ?_
        exact r_iret hX dX6_rings_17 rfl ⟨_, rfl, ⟨(Mod.tr (L := [40]) m2 m4 rfl rfl), (by exact ⟨hb, hN, cf_yes h4_0 (by omega)⟩)⟩⟩
      · skip
        have hne : bt ≠ 16 := fun q => cf_no h4_0 (by omega) (q ▸ hR16)
        refine r_iinc hX (fun x10 => [some (.ref (w.2.2 27)), some (.int (iI x10))]) dX6_rings_10 rfl rfl rfl (fun _ => rfl) (fun x10 e10 => ?_)
        refine r_goto hX dX6_rings_13 (tgt := 2) (by decide) ?_
        exact ih2 x10 σ4 (Mod.tr (L := [40]) m2 m4 rfl rfl) (by omega) (fun n n0 n1 => by
  by_cases q : n = bt
  · rw [q]; exact cf_no h4_0 (by omega)
  · exact hN n n0 (by omega)) (by omega)
  exact lp2 ((17 - (x1)) + 1).toNat x1 σ Mod.rf (by omega) (fun n n0 n1 => by omega) (by omega)
theorem dX6_bound_0 : decode cX6_bound 0 = .ok (.iload_n 1, 1) := by decide +kernel
theorem dX6_bound_1 : decode cX6_bound 1 = .ok (.i2l, 1) := by decide +kernel
theorem dX6_bound_2 : decode cX6_bound 2 = .ok (.lconst 0, 1) := by decide +kernel
theorem dX6_bound_3 : decode cX6_bound 3 = .ok (.lconst 1, 1) := by decide +kernel
theorem dX6_bound_4 : decode cX6_bound 4 = .ok (.invokestatic 75, 3) := by decide +kernel
theorem dX6_bound_7 : decode cX6_bound 7 = .ok (.ifCond .ne 6, 3) := by decide +kernel
theorem dX6_bound_10 : decode cX6_bound 10 = .ok (.bipush (-2), 2) := by decide +kernel
theorem dX6_bound_12 : decode cX6_bound 12 = .ok (.ireturn, 1) := by decide +kernel
theorem dX6_bound_13 : decode cX6_bound 13 = .ok (.aload_n 0, 1) := by decide +kernel
theorem dX6_bound_14 : decode cX6_bound 14 = .ok (.getfield 72, 3) := by decide +kernel
theorem dX6_bound_17 : decode cX6_bound 17 = .ok (.ifCond .ne 6, 3) := by decide +kernel
theorem dX6_bound_20 : decode cX6_bound 20 = .ok (.bipush (-3), 2) := by decide +kernel
theorem dX6_bound_22 : decode cX6_bound 22 = .ok (.ireturn, 1) := by decide +kernel
theorem dX6_bound_23 : decode cX6_bound 23 = .ok (.aload_n 0, 1) := by decide +kernel
theorem dX6_bound_24 : decode cX6_bound 24 = .ok (.invokevirtual 109, 3) := by decide +kernel
theorem dX6_bound_27 : decode cX6_bound 27 = .ok (.ifCond .ne 6, 3) := by decide +kernel
theorem dX6_bound_30 : decode cX6_bound 30 = .ok (.bipush (-5), 2) := by decide +kernel
theorem dX6_bound_32 : decode cX6_bound 32 = .ok (.ireturn, 1) := by decide +kernel
theorem dX6_bound_33 : decode cX6_bound 33 = .ok (.iload_n 1, 1) := by decide +kernel
theorem dX6_bound_34 : decode cX6_bound 34 = .ok (.ifCond .ne 10, 3) := by decide +kernel
theorem dX6_bound_37 : decode cX6_bound 37 = .ok (.aload_n 0, 1) := by decide +kernel
theorem dX6_bound_38 : decode cX6_bound 38 = .ok (.invokevirtual 171, 3) := by decide +kernel
theorem dX6_bound_41 : decode cX6_bound 41 = .ok (.goto 7, 3) := by decide +kernel
theorem dX6_bound_44 : decode cX6_bound 44 = .ok (.aload_n 0, 1) := by decide +kernel
theorem dX6_bound_45 : decode cX6_bound 45 = .ok (.invokevirtual 174, 3) := by decide +kernel
theorem dX6_bound_48 : decode cX6_bound 48 = .ok (.ireturn, 1) := by decide +kernel
set_option maxRecDepth 20000 in
set_option maxHeartbeats 4000000 in
theorem k_M_bound (l : Launch) (w : WT) (σ : MM) (h : Int) (i_h : inr h) : CT SX l w yX6_bound cX6_bound 2 (some .int) 3 69 [.ref (w.2.2 27), .int (iI h)] σ (PI fun z σ1 => Mod [33, 40] σ σ1 ∧ (((h < 0 ∨ 1 < h) ∧ z = -2) ∨ ((h = 0 ∨ h = 1) ∧ σ 61 0 = 0 ∧ z = -3) ∨ ((h = 0 ∨ h = 1) ∧ σ 61 0 ≠ 0 ∧ ¬ SndM σ ∧ z = -5) ∨ (σ 61 0 ≠ 0 ∧ SndM σ ∧ ((h = 0 ∧ PLm σ z) ∨ (h = 1 ∧ RBm σ z))))) := by
  refine CT.of 0 [some (.ref (w.2.2 27)), some (.int (iI h))] (by decide +kernel) (by simp [lg_sl, Value.category]) rfl sh_X (fun G hX => ?_)
  refine r_bd hX (fun hBd => ?_)
  have b_61 := hBd 61 0 8 rfl 0
  refine r_iload_n hX dX6_bound_0 rfl ?_
  refine r_i2l hX dX6_bound_1 (by omega) ?_
  refine r_lconst hX (z := 0) dX6_bound_2 rfl ?_
  refine r_lconst hX (z := 1) dX6_bound_3 rfl ?_
  refine r_callS hX dX6_bound_4 (k_M_in l w σ _ _ _ (by omega) (by omega) (by omega)) mf_X6_in ms_X6_in lk_RX6_75 rfl rfl ⟨Nat.le_of_ble_eq_true rfl, Nat.le_of_ble_eq_true rfl⟩ (Nat.le_of_ble_eq_true rfl) (kI fun z4 σ4 hh => ?_)
  obtain ⟨rfl, h4_0⟩ := hh
  refine r_if_ne hX (tgt := 13) dX6_bound_7 (by decide) (by omega) (fun c7 => ?_) (fun c7 => ?_)
  · skip
    refine r_aload_n hX dX6_bound_13 rfl ?_
    refine fg_X27_72 hX dX6_bound_14 (fun b14l b14u => ?_)
    refine r_if_ne hX (tgt := 23) dX6_bound_17 (by decide) (by omega) (fun c17 => ?_) (fun c17 => ?_)
    · skip
      refine r_aload_n hX dX6_bound_23 rfl ?_
      refine r_callV hX dX6_bound_24 (k_M_isSound l w σ) mf_X6_isSound mv_X6_isSound lk_RX6_109 rfl rfl rfl rfl rfl ⟨Nat.le_of_ble_eq_true rfl, Nat.le_of_ble_eq_true rfl⟩ (Nat.le_of_ble_eq_true rfl) (kI fun z24 σ24 hh => ?_)
      obtain ⟨m24, h24_0⟩ := hh
      refine r_if_ne hX (tgt := 33) dX6_bound_27 (by decide) (by omega) (fun c27 => ?_) (fun c27 => ?_)
      · skip
        have hsn : SndM σ := cf_yes h24_0 (by omega)
        refine r_iload_n hX dX6_bound_33 rfl ?_
        refine r_if_ne hX (tgt := 44) dX6_bound_34 (by decide) (by omega) (fun c34 => ?_) (fun c34 => ?_)
        · skip
          refine r_aload_n hX dX6_bound_44 rfl ?_
          refine r_callV hX dX6_bound_45 (k_M_rings l w σ24 (hsn.keep m24 rfl)) mf_X6_rings mv_X6_rings lk_RX6_174 rfl rfl rfl rfl rfl ⟨Nat.le_of_ble_eq_true rfl, Nat.le_of_ble_eq_true rfl⟩ (Nat.le_of_ble_eq_true rfl) (kI fun z45 σ45 hh => ?_)
          obtain ⟨m45, h45_0⟩ := hh
          exact r_iret hX dX6_bound_48 rfl ⟨_, rfl, ⟨(Mod.tr (L := [33, 40]) m24 m45 rfl rfl), (by first | exact Or.inr (Or.inr (Or.inr ⟨by omega, hsn, Or.inl ⟨by omega, (PLm_keep m24 rfl _).mp h38_0⟩⟩)) | exact Or.inr (Or.inr (Or.inr ⟨by omega, hsn, Or.inr ⟨by omega, (RBm_keep m24 rfl _).mp h45_0⟩⟩)))⟩⟩
        · skip
          refine r_aload_n hX dX6_bound_37 rfl ?_
          refine r_callV hX dX6_bound_38 (k_M_places l w σ24) mf_X6_places mv_X6_places lk_RX6_171 rfl rfl rfl rfl rfl ⟨Nat.le_of_ble_eq_true rfl, Nat.le_of_ble_eq_true rfl⟩ (Nat.le_of_ble_eq_true rfl) (kI fun z38 σ38 hh => ?_)
          obtain ⟨rfl, h38_0, h38_1, h38_2⟩ := hh
          refine r_goto hX dX6_bound_41 (tgt := 48) (by decide) ?_
          exact r_iret hX dX6_bound_48 rfl ⟨_, rfl, ⟨(m24.w rfl), (by first | exact Or.inr (Or.inr (Or.inr ⟨by omega, hsn, Or.inl ⟨by omega, (PLm_keep m24 rfl _).mp h38_0⟩⟩)) | exact Or.inr (Or.inr (Or.inr ⟨by omega, hsn, Or.inr ⟨by omega, (RBm_keep m24 rfl _).mp h45_0⟩⟩)))⟩⟩
      · skip
        refine r_bipush hX dX6_bound_30 (by decide) ?_
        exact r_iret hX dX6_bound_32 rfl ⟨_, rfl, ⟨(m24.w rfl), (by exact Or.inr (Or.inr (Or.inl ⟨by omega, by omega, cf_no h24_0 (by omega), rfl⟩)))⟩⟩
    · skip
      refine r_bipush hX dX6_bound_20 (by decide) ?_
      exact r_iret hX dX6_bound_22 rfl ⟨_, rfl, ⟨Mod.rf, (by exact Or.inr (Or.inl ⟨by omega, by omega, rfl⟩))⟩⟩
  · skip
    refine r_bipush hX dX6_bound_10 (by decide) ?_
    exact r_iret hX dX6_bound_12 rfl ⟨_, rfl, ⟨Mod.rf, (by exact Or.inl ⟨by omega, rfl⟩)⟩⟩
theorem dX6_up_0 : decode cX6_up 0 = .ok (.iload_n 0, 1) := by decide +kernel
theorem dX6_up_1 : decode cX6_up 1 = .ok (.iload_n 1, 1) := by decide +kernel
theorem dX6_up_2 : decode cX6_up 2 = .ok (.idiv, 1) := by decide +kernel
theorem dX6_up_3 : decode cX6_up 3 = .ok (.istore_n 2, 1) := by decide +kernel
theorem dX6_up_4 : decode cX6_up 4 = .ok (.iload_n 0, 1) := by decide +kernel
theorem dX6_up_5 : decode cX6_up 5 = .ok (.iload_n 1, 1) := by decide +kernel
theorem dX6_up_6 : decode cX6_up 6 = .ok (.irem, 1) := by decide +kernel
theorem dX6_up_7 : decode cX6_up 7 = .ok (.ifCond .le 9, 3) := by decide +kernel
theorem dX6_up_10 : decode cX6_up 10 = .ok (.iload_n 2, 1) := by decide +kernel
theorem dX6_up_11 : decode cX6_up 11 = .ok (.iconst 1, 1) := by decide +kernel
theorem dX6_up_12 : decode cX6_up 12 = .ok (.iadd, 1) := by decide +kernel
theorem dX6_up_13 : decode cX6_up 13 = .ok (.goto 4, 3) := by decide +kernel
theorem dX6_up_16 : decode cX6_up 16 = .ok (.iload_n 2, 1) := by decide +kernel
theorem dX6_up_17 : decode cX6_up 17 = .ok (.ireturn, 1) := by decide +kernel
set_option maxRecDepth 20000 in
set_option maxHeartbeats 4000000 in
theorem k_M_up (l : Launch) (w : WT) (σ : MM) (x : Int) (n : Int) (i_x : inr x) (i_n : inr n) (hx : -1000000 ≤ x ∧ x ≤ 1000000) (hn : 1 ≤ n ∧ n ≤ 1000000) : CT SX l w yX6_up cX6_up 3 (some .int) 0 0 [.int (iI x), .int (iI n)] σ (PI fun z σ1 => σ = σ1 ∧ (z = cdiv x n)) := by
  refine CT.of 1 [some (.int (iI x)), some (.int (iI n)), none] (by decide +kernel) (by simp [lg_sl, Value.category]) rfl sh_X (fun G hX => ?_)
  refine r_iload_n hX dX6_up_0 rfl ?_
  refine r_iload_n hX dX6_up_1 rfl ?_
  refine r_idivT hX dX6_up_2 (by omega) (by omega) (by omega) ?_
  refine r_istore_n hX (fun x3 => [some (.int (iI x)), some (.int (iI n)), some (.int (iI x3))]) dX6_up_3 (Nat.le_of_ble_eq_true rfl) rfl rfl (fun _ => rfl) (fun x3 e3 => ?_)
  refine r_iload_n hX dX6_up_4 rfl ?_
  refine r_iload_n hX dX6_up_5 rfl ?_
  refine r_iremT hX dX6_up_6 (by omega) (by omega) (by omega) ?_
  have hup := up_eq (x := x) (n := n) (by omega)
  have tb := Int.tmod_lt_of_pos x (show 0 < n by omega)
  have tb2 := Int.lt_tmod_of_pos x (show (0 : Int) < n by omega)
  refine r_if_le hX (tgt := 16) dX6_up_7 (by decide) (by omega) (fun c7 => ?_) (fun c7 => ?_)
  · skip
    refine r_iload_n hX dX6_up_16 rfl ?_
    exact r_iret hX dX6_up_17 rfl ⟨_, rfl, ⟨rfl, (by first | (have q := hup.1 (by omega); omega) | (have q := hup.2 (by omega); omega))⟩⟩
  · skip
    refine r_iload_n hX dX6_up_10 rfl ?_
    refine r_iconst hX dX6_up_11 ?_
    refine r_iadd hX dX6_up_12 ?_
    refine r_goto hX dX6_up_13 (tgt := 17) (by decide) ?_
    exact r_iret hX dX6_up_17 rfl ⟨_, rfl, ⟨rfl, (by first | (have q := hup.1 (by omega); omega) | (have q := hup.2 (by omega); omega))⟩⟩
theorem dX6_canStart_0 : decode cX6_canStart 0 = .ok (.iconst 0, 1) := by decide +kernel
theorem dX6_canStart_1 : decode cX6_canStart 1 = .ok (.istore_n 3, 1) := by decide +kernel
theorem dX6_canStart_2 : decode cX6_canStart 2 = .ok (.iload_n 3, 1) := by decide +kernel
theorem dX6_canStart_3 : decode cX6_canStart 3 = .ok (.iload_n 1, 1) := by decide +kernel
theorem dX6_canStart_4 : decode cX6_canStart 4 = .ok (.if_icmp .ge 16, 3) := by decide +kernel
theorem dX6_canStart_7 : decode cX6_canStart 7 = .ok (.aload_n 0, 1) := by decide +kernel
theorem dX6_canStart_8 : decode cX6_canStart 8 = .ok (.getfield 63, 3) := by decide +kernel
theorem dX6_canStart_11 : decode cX6_canStart 11 = .ok (.iload_n 3, 1) := by decide +kernel
theorem dX6_canStart_12 : decode cX6_canStart 12 = .ok (.iconst 0, 1) := by decide +kernel
theorem dX6_canStart_13 : decode cX6_canStart 13 = .ok (.iastore, 1) := by decide +kernel
theorem dX6_canStart_14 : decode cX6_canStart 14 = .ok (.iinc 3 1, 3) := by decide +kernel
theorem dX6_canStart_17 : decode cX6_canStart 17 = .ok (.goto (-15), 3) := by decide +kernel
theorem dX6_canStart_20 : decode cX6_canStart 20 = .ok (.iconst 1, 1) := by decide +kernel
theorem dX6_canStart_21 : decode cX6_canStart 21 = .ok (.istore_n 3, 1) := by decide +kernel
theorem dX6_canStart_22 : decode cX6_canStart 22 = .ok (.iconst 0, 1) := by decide +kernel
theorem dX6_canStart_23 : decode cX6_canStart 23 = .ok (.istore 4, 2) := by decide +kernel
theorem dX6_canStart_25 : decode cX6_canStart 25 = .ok (.iload 4, 2) := by decide +kernel
theorem dX6_canStart_27 : decode cX6_canStart 27 = .ok (.iload_n 1, 1) := by decide +kernel
theorem dX6_canStart_28 : decode cX6_canStart 28 = .ok (.if_icmp .gt 170, 3) := by decide +kernel
theorem dX6_canStart_31 : decode cX6_canStart 31 = .ok (.iload_n 3, 1) := by decide +kernel
theorem dX6_canStart_32 : decode cX6_canStart 32 = .ok (.ifCond .eq 166, 3) := by decide +kernel
theorem dX6_canStart_35 : decode cX6_canStart 35 = .ok (.iconst 0, 1) := by decide +kernel
theorem dX6_canStart_36 : decode cX6_canStart 36 = .ok (.istore_n 3, 1) := by decide +kernel
theorem dX6_canStart_37 : decode cX6_canStart 37 = .ok (.iconst 0, 1) := by decide +kernel
theorem dX6_canStart_38 : decode cX6_canStart 38 = .ok (.istore 5, 2) := by decide +kernel
theorem dX6_canStart_40 : decode cX6_canStart 40 = .ok (.iload 5, 2) := by decide +kernel
theorem dX6_canStart_42 : decode cX6_canStart 42 = .ok (.iconst 2, 1) := by decide +kernel
theorem dX6_canStart_43 : decode cX6_canStart 43 = .ok (.iload_n 1, 1) := by decide +kernel
theorem dX6_canStart_44 : decode cX6_canStart 44 = .ok (.imul, 1) := by decide +kernel
theorem dX6_canStart_45 : decode cX6_canStart 45 = .ok (.if_icmp .ge 147, 3) := by decide +kernel
theorem dX6_canStart_48 : decode cX6_canStart 48 = .ok (.iload 5, 2) := by decide +kernel
theorem dX6_canStart_50 : decode cX6_canStart 50 = .ok (.iconst 2, 1) := by decide +kernel
theorem dX6_canStart_51 : decode cX6_canStart 51 = .ok (.idiv, 1) := by decide +kernel
theorem dX6_canStart_52 : decode cX6_canStart 52 = .ok (.istore 6, 2) := by decide +kernel
theorem dX6_canStart_54 : decode cX6_canStart 54 = .ok (.aload_n 0, 1) := by decide +kernel
theorem dX6_canStart_55 : decode cX6_canStart 55 = .ok (.getfield 13, 3) := by decide +kernel
theorem dX6_canStart_58 : decode cX6_canStart 58 = .ok (.iload 5, 2) := by decide +kernel
theorem dX6_canStart_60 : decode cX6_canStart 60 = .ok (.iaload, 1) := by decide +kernel
theorem dX6_canStart_61 : decode cX6_canStart 61 = .ok (.istore 7, 2) := by decide +kernel
theorem dX6_canStart_63 : decode cX6_canStart 63 = .ok (.aload_n 0, 1) := by decide +kernel
theorem dX6_canStart_64 : decode cX6_canStart 64 = .ok (.getfield 7, 3) := by decide +kernel
theorem dX6_canStart_67 : decode cX6_canStart 67 = .ok (.iload 6, 2) := by decide +kernel
theorem dX6_canStart_69 : decode cX6_canStart 69 = .ok (.iaload, 1) := by decide +kernel
theorem dX6_canStart_70 : decode cX6_canStart 70 = .ok (.ifCond .le 116, 3) := by decide +kernel
theorem dX6_canStart_73 : decode cX6_canStart 73 = .ok (.iload 7, 2) := by decide +kernel
theorem dX6_canStart_75 : decode cX6_canStart 75 = .ok (.iload_n 1, 1) := by decide +kernel
theorem dX6_canStart_76 : decode cX6_canStart 76 = .ok (.if_icmp .ge 110, 3) := by decide +kernel
theorem dX6_canStart_79 : decode cX6_canStart 79 = .ok (.aload_n 0, 1) := by decide +kernel
theorem dX6_canStart_80 : decode cX6_canStart 80 = .ok (.getfield 66, 3) := by decide +kernel
theorem dX6_canStart_83 : decode cX6_canStart 83 = .ok (.bipush 9, 2) := by decide +kernel
theorem dX6_canStart_85 : decode cX6_canStart 85 = .ok (.aload_n 0, 1) := by decide +kernel
theorem dX6_canStart_86 : decode cX6_canStart 86 = .ok (.getfield 57, 3) := by decide +kernel
theorem dX6_canStart_89 : decode cX6_canStart 89 = .ok (.iload 7, 2) := by decide +kernel
theorem dX6_canStart_91 : decode cX6_canStart 91 = .ok (.iaload, 1) := by decide +kernel
theorem dX6_canStart_92 : decode cX6_canStart 92 = .ok (.imul, 1) := by decide +kernel
theorem dX6_canStart_93 : decode cX6_canStart 93 = .ok (.aload_n 0, 1) := by decide +kernel
theorem dX6_canStart_94 : decode cX6_canStart 94 = .ok (.getfield 57, 3) := by decide +kernel
theorem dX6_canStart_97 : decode cX6_canStart 97 = .ok (.iload 6, 2) := by decide +kernel
theorem dX6_canStart_99 : decode cX6_canStart 99 = .ok (.iaload, 1) := by decide +kernel
theorem dX6_canStart_100 : decode cX6_canStart 100 = .ok (.iadd, 1) := by decide +kernel
theorem dX6_canStart_101 : decode cX6_canStart 101 = .ok (.iaload, 1) := by decide +kernel
theorem dX6_canStart_102 : decode cX6_canStart 102 = .ok (.istore 8, 2) := by decide +kernel
theorem dX6_canStart_104 : decode cX6_canStart 104 = .ok (.iload 8, 2) := by decide +kernel
theorem dX6_canStart_106 : decode cX6_canStart 106 = .ok (.sipush 1000, 3) := by decide +kernel
theorem dX6_canStart_109 : decode cX6_canStart 109 = .ok (.if_icmp .lt 5, 3) := by decide +kernel
theorem dX6_canStart_112 : decode cX6_canStart 112 = .ok (.iconst 0, 1) := by decide +kernel
theorem dX6_canStart_113 : decode cX6_canStart 113 = .ok (.ireturn, 1) := by decide +kernel
theorem dX6_canStart_114 : decode cX6_canStart 114 = .ok (.aload_n 0, 1) := by decide +kernel
theorem dX6_canStart_115 : decode cX6_canStart 115 = .ok (.getfield 63, 3) := by decide +kernel
theorem dX6_canStart_118 : decode cX6_canStart 118 = .ok (.iload 7, 2) := by decide +kernel
theorem dX6_canStart_120 : decode cX6_canStart 120 = .ok (.iaload, 1) := by decide +kernel
theorem dX6_canStart_121 : decode cX6_canStart 121 = .ok (.aload_n 0, 1) := by decide +kernel
theorem dX6_canStart_122 : decode cX6_canStart 122 = .ok (.getfield 60, 3) := by decide +kernel
theorem dX6_canStart_125 : decode cX6_canStart 125 = .ok (.iload 7, 2) := by decide +kernel
theorem dX6_canStart_127 : decode cX6_canStart 127 = .ok (.iaload, 1) := by decide +kernel
theorem dX6_canStart_128 : decode cX6_canStart 128 = .ok (.aload_n 0, 1) := by decide +kernel
theorem dX6_canStart_129 : decode cX6_canStart 129 = .ok (.iload 7, 2) := by decide +kernel
theorem dX6_canStart_131 : decode cX6_canStart 131 = .ok (.invokevirtual 130, 3) := by decide +kernel
theorem dX6_canStart_134 : decode cX6_canStart 134 = .ok (.iadd, 1) := by decide +kernel
theorem dX6_canStart_135 : decode cX6_canStart 135 = .ok (.iload 8, 2) := by decide +kernel
theorem dX6_canStart_137 : decode cX6_canStart 137 = .ok (.iadd, 1) := by decide +kernel
theorem dX6_canStart_138 : decode cX6_canStart 138 = .ok (.aload_n 0, 1) := by decide +kernel
theorem dX6_canStart_139 : decode cX6_canStart 139 = .ok (.getfield 60, 3) := by decide +kernel
theorem dX6_canStart_142 : decode cX6_canStart 142 = .ok (.iload 6, 2) := by decide +kernel
theorem dX6_canStart_144 : decode cX6_canStart 144 = .ok (.iaload, 1) := by decide +kernel
theorem dX6_canStart_145 : decode cX6_canStart 145 = .ok (.isub, 1) := by decide +kernel
theorem dX6_canStart_146 : decode cX6_canStart 146 = .ok (.aload_n 0, 1) := by decide +kernel
theorem dX6_canStart_147 : decode cX6_canStart 147 = .ok (.getfield 16, 3) := by decide +kernel
theorem dX6_canStart_150 : decode cX6_canStart 150 = .ok (.iload 5, 2) := by decide +kernel
theorem dX6_canStart_152 : decode cX6_canStart 152 = .ok (.iaload, 1) := by decide +kernel
theorem dX6_canStart_153 : decode cX6_canStart 153 = .ok (.iload_n 2, 1) := by decide +kernel
theorem dX6_canStart_154 : decode cX6_canStart 154 = .ok (.imul, 1) := by decide +kernel
theorem dX6_canStart_155 : decode cX6_canStart 155 = .ok (.isub, 1) := by decide +kernel
theorem dX6_canStart_156 : decode cX6_canStart 156 = .ok (.iload_n 2, 1) := by decide +kernel
theorem dX6_canStart_157 : decode cX6_canStart 157 = .ok (.invokestatic 177, 3) := by decide +kernel
theorem dX6_canStart_160 : decode cX6_canStart 160 = .ok (.iadd, 1) := by decide +kernel
theorem dX6_canStart_161 : decode cX6_canStart 161 = .ok (.istore 9, 2) := by decide +kernel
theorem dX6_canStart_163 : decode cX6_canStart 163 = .ok (.iload 9, 2) := by decide +kernel
theorem dX6_canStart_165 : decode cX6_canStart 165 = .ok (.aload_n 0, 1) := by decide +kernel
theorem dX6_canStart_166 : decode cX6_canStart 166 = .ok (.getfield 63, 3) := by decide +kernel
theorem dX6_canStart_169 : decode cX6_canStart 169 = .ok (.iload 6, 2) := by decide +kernel
theorem dX6_canStart_171 : decode cX6_canStart 171 = .ok (.iaload, 1) := by decide +kernel
theorem dX6_canStart_172 : decode cX6_canStart 172 = .ok (.if_icmp .le 14, 3) := by decide +kernel
theorem dX6_canStart_175 : decode cX6_canStart 175 = .ok (.aload_n 0, 1) := by decide +kernel
theorem dX6_canStart_176 : decode cX6_canStart 176 = .ok (.getfield 63, 3) := by decide +kernel
theorem dX6_canStart_179 : decode cX6_canStart 179 = .ok (.iload 6, 2) := by decide +kernel
theorem dX6_canStart_181 : decode cX6_canStart 181 = .ok (.iload 9, 2) := by decide +kernel
theorem dX6_canStart_183 : decode cX6_canStart 183 = .ok (.iastore, 1) := by decide +kernel
theorem dX6_canStart_184 : decode cX6_canStart 184 = .ok (.iconst 1, 1) := by decide +kernel
theorem dX6_canStart_185 : decode cX6_canStart 185 = .ok (.istore_n 3, 1) := by decide +kernel
theorem dX6_canStart_186 : decode cX6_canStart 186 = .ok (.iinc 5 1, 3) := by decide +kernel
theorem dX6_canStart_189 : decode cX6_canStart 189 = .ok (.goto (-149), 3) := by decide +kernel
theorem dX6_canStart_192 : decode cX6_canStart 192 = .ok (.iinc 4 1, 3) := by decide +kernel
theorem dX6_canStart_195 : decode cX6_canStart 195 = .ok (.goto (-170), 3) := by decide +kernel
theorem dX6_canStart_198 : decode cX6_canStart 198 = .ok (.iload_n 3, 1) := by decide +kernel
theorem dX6_canStart_199 : decode cX6_canStart 199 = .ok (.ifCond .ne 7, 3) := by decide +kernel
theorem dX6_canStart_202 : decode cX6_canStart 202 = .ok (.iconst 1, 1) := by decide +kernel
theorem dX6_canStart_203 : decode cX6_canStart 203 = .ok (.goto 4, 3) := by decide +kernel
theorem dX6_canStart_206 : decode cX6_canStart 206 = .ok (.iconst 0, 1) := by decide +kernel
theorem dX6_canStart_207 : decode cX6_canStart 207 = .ok (.ireturn, 1) := by decide +kernel
set_option maxRecDepth 20000 in
set_option maxHeartbeats 4000000 in
theorem k_M_canStart (l : Launch) (w : WT) (σ : MM) (pl : Int) (bt : Int) (i_pl : inr pl) (i_bt : inr bt) (a : Int) (ha : pl = a + 1 ∧ 0 ≤ a ∧ a < σ 61 0) (hb : 1 ≤ bt ∧ bt ≤ 12) : CT SX l w yX6_canStart cX6_canStart 10 (some .boolean) 1 22 [.ref (w.2.2 27), .int (iI pl), .int (iI bt)] σ (PI fun z σ1 => Mod [43] σ σ1 ∧ ((z = 1 ∧ WaysS (sM (σ 28) (σ 29)) (σ 44) (σ 41) a ∧ LeastS (sM (σ 28) (σ 29)) (gapM σ (σ 44) (σ 41) (σ 42) bt) a (σ1 43)) ∨ (z = 0 ∧ ¬ (WaysS (sM (σ 28) (σ 29)) (σ 44) (σ 41) a ∧ FeasS (sM (σ 28) (σ 29)) (gapM σ (σ 44) (σ 41) (σ 42) bt) a)))) := by
  refine CT.of 7 [some (.ref (w.2.2 27)), some (.int (iI pl)), some (.int (iI bt)), none, none, none, none, none, none, none] (by decide +kernel) (by simp [lg_sl, Value.category]) rfl sh_X (fun G hX => ?_)
  refine r_bd hX (fun hBd => ?_)
  have b_61 := hBd 61 0 8 rfl 0
  have hop : ∀ s, 0 ≤ σ 29 s ∧ σ 29 s ≤ 7 := fun s => hBd 29 0 7 rfl s
  have hdi : ∀ s, 0 ≤ σ 30 s ∧ σ 30 s ≤ 3 := fun s => hBd 30 0 3 rfl s
  refine r_iconst hX dX6_canStart_0 ?_
  refine r_istore_n hX (fun x1 => [some (.ref (w.2.2 27)), some (.int (iI pl)), some (.int (iI bt)), some (.int (iI x1)), none, none, none, none, none, none]) dX6_canStart_1 (Nat.le_of_ble_eq_true rfl) rfl rfl (fun _ => rfl) (fun x1 e1 => ?_)
  have lp2 : ∀ (n : Nat) (a0 : Int) (σ2 : MM) (m2 : Mod [43] σ σ2) (ha0 : 0 ≤ a0 ∧ a0 ≤ pl) (hz : ∀ b, 0 ≤ b → b < a0 → σ2 43 b = 0) (hmu : 9 - a0 < (n : Int)), G 2 [some (.ref (w.2.2 27)), some (.int (iI pl)), some (.int (iI bt)), some (.int (iI a0)), none, none, none, none, none, none] [] σ2 := by
    intro n
    induction n with
    | zero => intro a0 σ2 m2 ha0 hz hmu; omega
    | succ n ih =>
      intro a0 σ2 m2 ha0 hz hmu
      have ih2 := ih
      clear ih
      refine r_iload_n hX dX6_canStart_2 rfl ?_
      refine r_iload_n hX dX6_canStart_3 rfl ?_
      refine r_icmp_ge hX (tgt := 20) dX6_canStart_4 (by decide) (by omega) (by omega) (fun c4 => ?_) (fun c4 => ?_)
      · skip
        refine r_iconst hX dX6_canStart_20 ?_
        refine r_istore_n hX (fun x21 => [some (.ref (w.2.2 27)), some (.int (iI pl)), some (.int (iI bt)), some (.int (iI x21)), none, none, none, none, none, none]) dX6_canStart_21 (Nat.le_of_ble_eq_true rfl) rfl rfl (fun _ => rfl) (fun x21 e21 => ?_)
        refine r_iconst hX dX6_canStart_22 ?_
        refine r_istore hX (fun x23 => [some (.ref (w.2.2 27)), some (.int (iI pl)), some (.int (iI bt)), some (.int (iI x21)), some (.int (iI x23)), none, none, none, none, none]) dX6_canStart_23 (Nat.le_of_ble_eq_true rfl) rfl rfl (fun _ => rfl) (fun x23 e23 => ?_)
        have lp25 : ∀ (n : Nat) (more : Int) (rnd : Int) (σ25 : MM) (m25 : Mod [43] σ2 σ25) (hrnd : 0 ≤ rnd ∧ rnd ≤ pl + 1) (hmo : more = 0 ∨ more = 1) (hO : more = 1 → Outer (a + 1) (2 * (a + 1)) (enS (sM (σ 28) (σ 29)) a) (sM (σ 28) (σ 29)) (gapM σ (σ 44) (σ 41) (σ 42) bt) (fun _ => 0) rnd (σ25 43)) (hL : more = 0 → WaysS (sM (σ 28) (σ 29)) (σ 44) (σ 41) a ∧ LeastS (sM (σ 28) (σ 29)) (gapM σ (σ 44) (σ 41) (σ 42) bt) a (σ25 43)) (hB : ∀ l : Int, 0 ≤ l → l ≤ a → σ25 43 l ≤ 17600 * rnd) (hmu : 10 - rnd < (n : Int)), G 25 [some (.ref (w.2.2 27)), some (.int (iI pl)), some (.int (iI bt)), some (.int (iI more)), some (.int (iI rnd)), none, none, none, none, none] [] σ25 := by
          intro n
          induction n with
          | zero => intro more rnd σ25 m25 hrnd hmo hO hL hB hmu; omega
          | succ n ih =>
            intro more rnd σ25 m25 hrnd hmo hO hL hB hmu
            have ih25 := ih
            clear ih
            refine r_iload hX dX6_canStart_25 rfl ?_
            refine r_iload_n hX dX6_canStart_27 rfl ?_
            refine r_icmp_gt hX (tgt := 198) dX6_canStart_28 (by decide) (by omega) (by omega) (fun c28 => ?_) (fun c28 => ?_)
            · skip
              refine r_iload_n hX dX6_canStart_198 rfl ?_
              refine r_if_ne hX (tgt := 206) dX6_canStart_199 (by decide) (by omega) (fun c199 => ?_) (fun c199 => ?_)
              · skip
                refine r_iconst hX dX6_canStart_206 ?_
                exact r_zret hX dX6_canStart_207 rfl (by omega) ⟨_, rfl, ⟨(Mod.tr (L := [43]) m2 m25 rfl rfl), (by first | exact Or.inl ⟨rfl, hL (by omega)⟩ | exact Or.inr ⟨rfl, fun q => (hO (by omega)).nofeas (by omega) (by omega) q.2⟩)⟩⟩
              · skip
                refine r_iconst hX dX6_canStart_202 ?_
                refine r_goto hX dX6_canStart_203 (tgt := 207) (by decide) ?_
                exact r_zret hX dX6_canStart_207 rfl (by omega) ⟨_, rfl, ⟨(Mod.tr (L := [43]) m2 m25 rfl rfl), (by first | exact Or.inl ⟨rfl, hL (by omega)⟩ | exact Or.inr ⟨rfl, fun q => (hO (by omega)).nofeas (by omega) (by omega) q.2⟩)⟩⟩
            · skip
              refine r_iload_n hX dX6_canStart_31 rfl ?_
              refine r_if_eq hX (tgt := 198) dX6_canStart_32 (by decide) (by omega) (fun c32 => ?_) (fun c32 => ?_)
              · skip
                refine r_iload_n hX dX6_canStart_198 rfl ?_
                refine r_if_ne hX (tgt := 206) dX6_canStart_199 (by decide) (by omega) (fun c199 => ?_) (fun c199 => ?_)
                · skip
                  refine r_iconst hX dX6_canStart_206 ?_
                  exact r_zret hX dX6_canStart_207 rfl (by omega) ⟨_, rfl, ⟨(Mod.tr (L := [43]) m2 m25 rfl rfl), (by first | exact Or.inl ⟨rfl, hL (by omega)⟩ | exact Or.inr ⟨rfl, fun q => (hO (by omega)).nofeas (by omega) (by omega) q.2⟩)⟩⟩
                · skip
                  refine r_iconst hX dX6_canStart_202 ?_
                  refine r_goto hX dX6_canStart_203 (tgt := 207) (by decide) ?_
                  exact r_zret hX dX6_canStart_207 rfl (by omega) ⟨_, rfl, ⟨(Mod.tr (L := [43]) m2 m25 rfl rfl), (by first | exact Or.inl ⟨rfl, hL (by omega)⟩ | exact Or.inr ⟨rfl, fun q => (hO (by omega)).nofeas (by omega) (by omega) q.2⟩)⟩⟩
              · skip
                refine r_iconst hX dX6_canStart_35 ?_
                refine r_istore_n hX (fun x36 => [some (.ref (w.2.2 27)), some (.int (iI pl)), some (.int (iI bt)), some (.int (iI x36)), some (.int (iI rnd)), none, none, none, none, none]) dX6_canStart_36 (Nat.le_of_ble_eq_true rfl) rfl rfl (fun _ => rfl) (fun x36 e36 => ?_)
                refine r_iconst hX dX6_canStart_37 ?_
                refine r_istore hX (fun x38 => [some (.ref (w.2.2 27)), some (.int (iI pl)), some (.int (iI bt)), some (.int (iI x36)), some (.int (iI rnd)), some (.int (iI x38)), none, none, none, none]) dX6_canStart_38 (Nat.le_of_ble_eq_true rfl) rfl rfl (fun _ => rfl) (fun x38 e38 => ?_)
                have lp40 : ∀ (n : Nat) (more2 : Int) (k : Int) (σ40 : MM) (m40 : Mod [43] σ25 σ40) (hk : 0 ≤ k ∧ k ≤ 2 * pl) (hm2 : more2 = 0 ∨ more2 = 1) (hP : PassI (a + 1) (2 * (a + 1)) (enS (sM (σ 28) (σ 29)) a) (sM (σ 28) (σ 29)) (gapM σ (σ 44) (σ 41) (σ 42) bt) (σ25 43) k (σ40 43) more2) (hWy : ∀ s : Int, 0 ≤ s → s < k → enS (sM (σ 28) (σ 29)) a s → σ 44 (σ 41 ((sM (σ 28) (σ 29)) s) * 9 + σ 41 (s / 2)) < 1000) (hB2 : ∀ l : Int, 0 ≤ l → l ≤ a → σ40 43 l ≤ 17600 * rnd + 1100 * k) (hmu : 17 - k < (n : Int)), G 40 [some (.ref (w.2.2 27)), some (.int (iI pl)), some (.int (iI bt)), some (.int (iI more2)), some (.int (iI rnd)), some (.int (iI k)), none, none, none, none] [] σ40 := by
                  intro n
                  induction n with
                  | zero => intro more2 k σ40 m40 hk hm2 hP hWy hB2 hmu; omega
                  | succ n ih =>
                    intro more2 k σ40 m40 hk hm2 hP hWy hB2 hmu
                    have ih40 := ih
                    clear ih
                    refine r_iload hX dX6_canStart_40 rfl ?_
                    refine r_iconst hX dX6_canStart_42 ?_
                    refine r_iload_n hX dX6_canStart_43 rfl ?_
                    refine r_imul hX dX6_canStart_44 ?_
                    refine r_icmp_ge hX (tgt := 192) dX6_canStart_45 (by decide) (by omega) (by omega) (fun c45 => ?_) (fun c45 => ?_)
                    · skip
                      refine r_iinc hX (fun x192 => [some (.ref (w.2.2 27)), some (.int (iI pl)), some (.int (iI bt)), some (.int (iI more2)), some (.int (iI x192)), some (.int (iI k)), none, none, none, none]) dX6_canStart_192 rfl rfl rfl (fun _ => rfl) (fun x192 e192 => ?_)
                      refine r_goto hX dX6_canStart_195 (tgt := 25) (by decide) ?_
                      refine r_wk hX (lv1 := [some (.ref (w.2.2 27)), some (.int (iI pl)), some (.int (iI bt)), some (.int (iI more2)), some (.int (iI x192)), none, none, none, none, none]) ⟨rfl, ⟨rfl, ⟨rfl, ⟨rfl, ⟨rfl, trivial⟩⟩⟩⟩⟩ ?_
                      exact ih25 more2 x192 σ40 (Mod.tr (L := [43]) m25 m40 rfl rfl) (by omega) (by omega) (fun q => by rw [e192]; exact (hO (by omega)).next wf_S hP (by omega) (by omega)) (fun q => ⟨fun s s0 s1 hs => hWy s s0 (by omega) hs, Outer.least (by omega) (hO (by omega)) (cf_z hP q) (by omega)⟩) (fun l l0 l1 => by have := hB2 l l0 l1; omega) (by omega)
                    · skip
                      refine r_iload hX dX6_canStart_48 rfl ?_
                      refine r_iconst hX dX6_canStart_50 ?_
                      refine r_idiv hX dX6_canStart_51 (by omega) (by omega) (by omega) (by omega) ?_
                      refine r_istore hX (fun x52 => [some (.ref (w.2.2 27)), some (.int (iI pl)), some (.int (iI bt)), some (.int (iI more2)), some (.int (iI rnd)), some (.int (iI k)), some (.int (iI x52)), none, none, none]) dX6_canStart_52 (Nat.le_of_ble_eq_true rfl) rfl rfl (fun _ => rfl) (fun x52 e52 => ?_)
                      obtain rfl : x52 = k / 2 := e52
                      refine r_aload_n hX dX6_canStart_54 rfl ?_
                      refine fg_X27_13 hX dX6_canStart_55 ?_
                      refine r_iload hX dX6_canStart_58 rfl ?_
                      refine ld_X29 hX dX6_canStart_60 (by omega) (by omega) (fun b60l b60u => ?_)
                      have q60 : σ40 29 = σ 29 := ((m40.at 29 rfl).trans ((m25.at 29 rfl).trans (m2.at 29 rfl)))
                      rw [q60]
                      rw [q60] at b60l b60u
                      refine r_istore hX (fun x61 => [some (.ref (w.2.2 27)), some (.int (iI pl)), some (.int (iI bt)), some (.int (iI more2)), some (.int (iI rnd)), some (.int (iI k)), some (.int (iI (k / 2))), some (.int (iI x61)), none, none]) dX6_canStart_61 (Nat.le_of_ble_eq_true rfl) rfl rfl (fun _ => rfl) (fun x61 e61 => ?_)
                      obtain rfl : x61 = σ 29 k := by omega
                      have hop9 := hop k
                      refine r_aload_n hX dX6_canStart_63 rfl ?_
                      refine fg_X27_7 hX dX6_canStart_64 ?_
                      refine r_iload hX dX6_canStart_67 rfl ?_
                      refine ld_X28 hX dX6_canStart_69 (by omega) (by omega) (fun b69l b69u => ?_)
                      have q69 : σ40 28 = σ 28 := ((m40.at 28 rfl).trans ((m25.at 28 rfl).trans (m2.at 28 rfl)))
                      rw [q69]
                      rw [q69] at b69l b69u
                      refine r_if_le hX (tgt := 186) dX6_canStart_70 (by decide) (by omega) (fun c70 => ?_) (fun c70 => ?_)
                      · skip
                        refine r_iinc hX (fun x186 => [some (.ref (w.2.2 27)), some (.int (iI pl)), some (.int (iI bt)), some (.int (iI more2)), some (.int (iI rnd)), some (.int (iI x186)), some (.int (iI (k / 2))), some (.int (iI (σ 29 k))), none, none]) dX6_canStart_186 rfl rfl rfl (fun _ => rfl) (fun x186 e186 => ?_)
                        refine r_goto hX dX6_canStart_189 (tgt := 40) (by decide) ?_
                        refine r_wk hX (lv1 := [some (.ref (w.2.2 27)), some (.int (iI pl)), some (.int (iI bt)), some (.int (iI more2)), some (.int (iI rnd)), some (.int (iI x186)), none, none, none, none]) ⟨rfl, ⟨rfl, ⟨rfl, ⟨rfl, ⟨rfl, ⟨rfl, trivial⟩⟩⟩⟩⟩⟩ ?_
                        exact ih40 more2 x186 σ40 (m40.w rfl) (by omega) (by omega) (by rw [e186]; first | exact hP.skip wf_S (by omega) (Or.inl fun q => by unfold enS at q; first | (rw [sM_0 (by omega)] at q; omega) | (rw [sM_1 (by omega)] at q; omega)) | exact hP.skip wf_S (by omega) (Or.inr (by rw [← hx161]; omega)) | (rw [e185]; exact hP.push wf_S (by omega) hen (by rw [← hx161]; omega) (fun b => by rw [s183, hx161]))) (fun s s0 s1 q => by
  by_cases w : s = k
  · subst w
    first | (rw [← hx102]; omega) | (exfalso; unfold enS at q; first | (rw [sM_0 (by omega)] at q; omega) | (rw [sM_1 (by omega)] at q; omega))
  · exact hWy s s0 (by omega) q) (fun l l0 l1 => by have h9 := hB2 l l0 l1; first | omega | (rw [s183]; split <;> omega)) (by omega)
                      · skip
                        refine r_iload hX dX6_canStart_73 rfl ?_
                        refine r_iload_n hX dX6_canStart_75 rfl ?_
                        refine r_icmp_ge hX (tgt := 186) dX6_canStart_76 (by decide) (by omega) (by omega) (fun c76 => ?_) (fun c76 => ?_)
                        · skip
                          refine r_iinc hX (fun x186 => [some (.ref (w.2.2 27)), some (.int (iI pl)), some (.int (iI bt)), some (.int (iI more2)), some (.int (iI rnd)), some (.int (iI x186)), some (.int (iI (k / 2))), some (.int (iI (σ 29 k))), none, none]) dX6_canStart_186 rfl rfl rfl (fun _ => rfl) (fun x186 e186 => ?_)
                          refine r_goto hX dX6_canStart_189 (tgt := 40) (by decide) ?_
                          refine r_wk hX (lv1 := [some (.ref (w.2.2 27)), some (.int (iI pl)), some (.int (iI bt)), some (.int (iI more2)), some (.int (iI rnd)), some (.int (iI x186)), none, none, none, none]) ⟨rfl, ⟨rfl, ⟨rfl, ⟨rfl, ⟨rfl, ⟨rfl, trivial⟩⟩⟩⟩⟩⟩ ?_
                          exact ih40 more2 x186 σ40 (m40.w rfl) (by omega) (by omega) (by rw [e186]; first | exact hP.skip wf_S (by omega) (Or.inl fun q => by unfold enS at q; first | (rw [sM_0 (by omega)] at q; omega) | (rw [sM_1 (by omega)] at q; omega)) | exact hP.skip wf_S (by omega) (Or.inr (by rw [← hx161]; omega)) | (rw [e185]; exact hP.push wf_S (by omega) hen (by rw [← hx161]; omega) (fun b => by rw [s183, hx161]))) (fun s s0 s1 q => by
  by_cases w : s = k
  · subst w
    first | (rw [← hx102]; omega) | (exfalso; unfold enS at q; first | (rw [sM_0 (by omega)] at q; omega) | (rw [sM_1 (by omega)] at q; omega))
  · exact hWy s s0 (by omega) q) (fun l l0 l1 => by have h9 := hB2 l l0 l1; first | omega | (rw [s183]; split <;> omega)) (by omega)
                        · skip
                          have hk0 : σ 28 (k / 2) ≠ 0 := by omega
                          have hen : enS (sM (σ 28) (σ 29)) a k := by
                            unfold enS
                            rw [sM_1 hk0]
                            omega
                          refine r_aload_n hX dX6_canStart_79 rfl ?_
                          refine fg_X27_66 hX dX6_canStart_80 ?_
                          refine r_bipush hX dX6_canStart_83 (by decide) ?_
                          refine r_aload_n hX dX6_canStart_85 rfl ?_
                          refine fg_X27_57 hX dX6_canStart_86 ?_
                          refine r_iload hX dX6_canStart_89 rfl ?_
                          refine ld_X41 hX dX6_canStart_91 (by omega) (by omega) (fun b91l b91u => ?_)
                          have q91 : σ40 41 = σ 41 := ((m40.at 41 rfl).trans ((m25.at 41 rfl).trans (m2.at 41 rfl)))
                          rw [q91]
                          rw [q91] at b91l b91u
                          refine r_imul hX dX6_canStart_92 ?_
                          refine r_aload_n hX dX6_canStart_93 rfl ?_
                          refine fg_X27_57 hX dX6_canStart_94 ?_
                          refine r_iload hX dX6_canStart_97 rfl ?_
                          refine ld_X41 hX dX6_canStart_99 (by omega) (by omega) (fun b99l b99u => ?_)
                          have q99 : σ40 41 = σ 41 := ((m40.at 41 rfl).trans ((m25.at 41 rfl).trans (m2.at 41 rfl)))
                          rw [q99]
                          rw [q99] at b99l b99u
                          refine r_iadd hX dX6_canStart_100 ?_
                          refine ld_X44 hX dX6_canStart_101 (by omega) (by omega) (fun b101l b101u => ?_)
                          have q101 : σ40 44 = σ 44 := ((m40.at 44 rfl).trans ((m25.at 44 rfl).trans (m2.at 44 rfl)))
                          rw [q101]
                          rw [q101] at b101l b101u
                          refine r_istore hX (fun x102 => [some (.ref (w.2.2 27)), some (.int (iI pl)), some (.int (iI bt)), some (.int (iI more2)), some (.int (iI rnd)), some (.int (iI k)), some (.int (iI (k / 2))), some (.int (iI (σ 29 k))), some (.int (iI x102)), none]) dX6_canStart_102 (Nat.le_of_ble_eq_true rfl) rfl rfl (fun _ => rfl) (fun x102 e102 => ?_)
                          have hx102 : x102 = σ 44 (σ 41 ((sM (σ 28) (σ 29)) k) * 9 + σ 41 (k / 2)) := by
                            rw [e102, sM_1 hk0]
                            exact congrArg (σ 44) (by omega)
                          refine r_iload hX dX6_canStart_104 rfl ?_
                          refine r_sipush hX dX6_canStart_106 (by decide) ?_
                          refine r_icmp_lt hX (tgt := 114) dX6_canStart_109 (by decide) (by omega) (by omega) (fun c109 => ?_) (fun c109 => ?_)
                          · skip
                            have hd1 := hB2 (σ 29 k) (by omega) (by omega)
                            have hd2 := hB2 (k / 2) (by omega) (by omega)
                            refine r_aload_n hX dX6_canStart_114 rfl ?_
                            refine fg_X27_63 hX dX6_canStart_115 ?_
                            refine r_iload hX dX6_canStart_118 rfl ?_
                            refine ld_X43 hX dX6_canStart_120 (by omega) (by omega) (fun b120l b120u => ?_)
                            refine r_aload_n hX dX6_canStart_121 rfl ?_
                            refine fg_X27_60 hX dX6_canStart_122 ?_
                            refine r_iload hX dX6_canStart_125 rfl ?_
                            refine ld_X42 hX dX6_canStart_127 (by omega) (by omega) (fun b127l b127u => ?_)
                            have q127 : σ40 42 = σ 42 := ((m40.at 42 rfl).trans ((m25.at 42 rfl).trans (m2.at 42 rfl)))
                            rw [q127]
                            rw [q127] at b127l b127u
                            refine r_aload_n hX dX6_canStart_128 rfl ?_
                            refine r_iload hX dX6_canStart_129 rfl ?_
                            refine r_callV hX dX6_canStart_131 (k_M_lengthOf l w σ40 _ (by omega) (by omega)) mf_X6_lengthOf mv_X6_lengthOf lk_RX6_130 rfl rfl rfl rfl rfl ⟨Nat.le_of_ble_eq_true rfl, Nat.le_of_ble_eq_true rfl⟩ (Nat.le_of_ble_eq_true rfl) (kI fun z131 σ131 hh => ?_)
                            obtain ⟨rfl, h131_0, h131_1⟩ := hh
                            have q131_1 : σ40 28 = σ 28 := ((m40.at 28 rfl).trans ((m25.at 28 rfl).trans (m2.at 28 rfl)))
                            try simp only [q131_1] at h131_0
                            refine r_iadd hX dX6_canStart_134 ?_
                            refine r_iload hX dX6_canStart_135 rfl ?_
                            refine r_iadd hX dX6_canStart_137 ?_
                            refine r_aload_n hX dX6_canStart_138 rfl ?_
                            refine fg_X27_60 hX dX6_canStart_139 ?_
                            refine r_iload hX dX6_canStart_142 rfl ?_
                            refine ld_X42 hX dX6_canStart_144 (by omega) (by omega) (fun b144l b144u => ?_)
                            have q144 : σ40 42 = σ 42 := ((m40.at 42 rfl).trans ((m25.at 42 rfl).trans (m2.at 42 rfl)))
                            rw [q144]
                            rw [q144] at b144l b144u
                            refine r_isub hX dX6_canStart_145 ?_
                            refine r_aload_n hX dX6_canStart_146 rfl ?_
                            refine fg_X27_16 hX dX6_canStart_147 ?_
                            refine r_iload hX dX6_canStart_150 rfl ?_
                            refine ld_X30 hX dX6_canStart_152 (by omega) (by omega) (fun b152l b152u => ?_)
                            have q152 : σ40 30 = σ 30 := ((m40.at 30 rfl).trans ((m25.at 30 rfl).trans (m2.at 30 rfl)))
                            rw [q152]
                            rw [q152] at b152l b152u
                            refine r_iload_n hX dX6_canStart_153 rfl ?_
                            refine r_imul hX dX6_canStart_154 ?_
                            have hp := pm (a := σ 30 k) (A := 3) (b := bt) (B := 12) (hdi k) (by omega)
                            have hlb := @lenF_bd (σ 28) (σ 29 k)
                            refine r_isub hX dX6_canStart_155 ?_
                            refine r_iload_n hX dX6_canStart_156 rfl ?_
                            refine r_callS hX dX6_canStart_157 (k_M_up l w σ40 _ _ (by omega) (by omega) (by omega) (by omega)) mf_X6_up ms_X6_up lk_RX6_177 rfl rfl ⟨Nat.le_of_ble_eq_true rfl, Nat.le_of_ble_eq_true rfl⟩ (Nat.le_of_ble_eq_true rfl) (kI fun z157 σ157 hh => ?_)
                            obtain ⟨rfl, h157_0⟩ := hh
                            have hgap : z157 = (gapM σ (σ 44) (σ 41) (σ 42) bt) k := by
                              rw [h157_0, gapM, gapS, ← hx102, sM_1 hk0, ← h131_0, Int.mul_comm bt]
                              exact congrArg (fun q => cdiv q bt) (by omega)
                            have hcb := cdiv_bd (n := bt) (B := 1100) (x := σ 42 (σ 29 k) + z131 + x102 - σ 42 (k / 2) - σ 30 k * bt) (by omega) (by omega) (by omega)
                            rw [← h157_0] at hcb
                            refine r_iadd hX dX6_canStart_160 ?_
                            refine r_istore hX (fun x161 => [some (.ref (w.2.2 27)), some (.int (iI pl)), some (.int (iI bt)), some (.int (iI more2)), some (.int (iI rnd)), some (.int (iI k)), some (.int (iI (k / 2))), some (.int (iI (σ 29 k))), some (.int (iI x102)), some (.int (iI x161))]) dX6_canStart_161 (Nat.le_of_ble_eq_true rfl) rfl rfl (fun _ => rfl) (fun x161 e161 => ?_)
                            have hx161 : x161 = σ40 43 ((sM (σ 28) (σ 29)) k) + (gapM σ (σ 44) (σ 41) (σ 42) bt) k := by rw [e161, ← hgap, sM_1 hk0]
                            refine r_iload hX dX6_canStart_163 rfl ?_
                            refine r_aload_n hX dX6_canStart_165 rfl ?_
                            refine fg_X27_63 hX dX6_canStart_166 ?_
                            refine r_iload hX dX6_canStart_169 rfl ?_
                            refine ld_X43 hX dX6_canStart_171 (by omega) (by omega) (fun b171l b171u => ?_)
                            refine r_icmp_le hX (tgt := 186) dX6_canStart_172 (by decide) (by omega) (by omega) (fun c172 => ?_) (fun c172 => ?_)
                            · skip
                              refine r_iinc hX (fun x186 => [some (.ref (w.2.2 27)), some (.int (iI pl)), some (.int (iI bt)), some (.int (iI more2)), some (.int (iI rnd)), some (.int (iI x186)), some (.int (iI (k / 2))), some (.int (iI (σ 29 k))), some (.int (iI x102)), some (.int (iI x161))]) dX6_canStart_186 rfl rfl rfl (fun _ => rfl) (fun x186 e186 => ?_)
                              refine r_goto hX dX6_canStart_189 (tgt := 40) (by decide) ?_
                              refine r_wk hX (lv1 := [some (.ref (w.2.2 27)), some (.int (iI pl)), some (.int (iI bt)), some (.int (iI more2)), some (.int (iI rnd)), some (.int (iI x186)), none, none, none, none]) ⟨rfl, ⟨rfl, ⟨rfl, ⟨rfl, ⟨rfl, ⟨rfl, trivial⟩⟩⟩⟩⟩⟩ ?_
                              exact ih40 more2 x186 σ40 (m40.w rfl) (by omega) (by omega) (by rw [e186]; first | exact hP.skip wf_S (by omega) (Or.inl fun q => by unfold enS at q; first | (rw [sM_0 (by omega)] at q; omega) | (rw [sM_1 (by omega)] at q; omega)) | exact hP.skip wf_S (by omega) (Or.inr (by rw [← hx161]; omega)) | (rw [e185]; exact hP.push wf_S (by omega) hen (by rw [← hx161]; omega) (fun b => by rw [s183, hx161]))) (fun s s0 s1 q => by
  by_cases w : s = k
  · subst w
    first | (rw [← hx102]; omega) | (exfalso; unfold enS at q; first | (rw [sM_0 (by omega)] at q; omega) | (rw [sM_1 (by omega)] at q; omega))
  · exact hWy s s0 (by omega) q) (fun l l0 l1 => by have h9 := hB2 l l0 l1; first | omega | (rw [s183]; split <;> omega)) (by omega)
                            · skip
                              refine r_aload_n hX dX6_canStart_175 rfl ?_
                              refine fg_X27_63 hX dX6_canStart_176 ?_
                              refine r_iload hX dX6_canStart_179 rfl ?_
                              refine r_iload hX dX6_canStart_181 rfl ?_
                              refine st_X43 hX dX6_canStart_183 (by omega) (by omega) (by omega) (fun σ183 m183 s183 => ?_)
                              refine r_iconst hX dX6_canStart_184 ?_
                              refine r_istore_n hX (fun x185 => [some (.ref (w.2.2 27)), some (.int (iI pl)), some (.int (iI bt)), some (.int (iI x185)), some (.int (iI rnd)), some (.int (iI k)), some (.int (iI (k / 2))), some (.int (iI (σ 29 k))), some (.int (iI x102)), some (.int (iI x161))]) dX6_canStart_185 (Nat.le_of_ble_eq_true rfl) rfl rfl (fun _ => rfl) (fun x185 e185 => ?_)
                              refine r_iinc hX (fun x186 => [some (.ref (w.2.2 27)), some (.int (iI pl)), some (.int (iI bt)), some (.int (iI x185)), some (.int (iI rnd)), some (.int (iI x186)), some (.int (iI (k / 2))), some (.int (iI (σ 29 k))), some (.int (iI x102)), some (.int (iI x161))]) dX6_canStart_186 rfl rfl rfl (fun _ => rfl) (fun x186 e186 => ?_)
                              refine r_goto hX dX6_canStart_189 (tgt := 40) (by decide) ?_
                              refine r_wk hX (lv1 := [some (.ref (w.2.2 27)), some (.int (iI pl)), some (.int (iI bt)), some (.int (iI x185)), some (.int (iI rnd)), some (.int (iI x186)), none, none, none, none]) ⟨rfl, ⟨rfl, ⟨rfl, ⟨rfl, ⟨rfl, ⟨rfl, trivial⟩⟩⟩⟩⟩⟩ ?_
                              exact ih40 x185 x186 σ183 (Mod.tr (L := [43]) m40 m183 rfl rfl) (by omega) (by omega) (by rw [e186]; first | exact hP.skip wf_S (by omega) (Or.inl fun q => by unfold enS at q; first | (rw [sM_0 (by omega)] at q; omega) | (rw [sM_1 (by omega)] at q; omega)) | exact hP.skip wf_S (by omega) (Or.inr (by rw [← hx161]; omega)) | (rw [e185]; exact hP.push wf_S (by omega) hen (by rw [← hx161]; omega) (fun b => by rw [s183, hx161]))) (fun s s0 s1 q => by
  by_cases w : s = k
  · subst w
    first | (rw [← hx102]; omega) | (exfalso; unfold enS at q; first | (rw [sM_0 (by omega)] at q; omega) | (rw [sM_1 (by omega)] at q; omega))
  · exact hWy s s0 (by omega) q) (fun l l0 l1 => by have h9 := hB2 l l0 l1; first | omega | (rw [s183]; split <;> omega)) (by omega)
                          · skip
                            refine r_iconst hX dX6_canStart_112 ?_
                            exact r_zret hX dX6_canStart_113 rfl (by omega) ⟨_, rfl, ⟨(Mod.tr (L := [43]) (Mod.tr (L := [43]) m2 m25 rfl rfl) m40 rfl rfl), (by exact Or.inr ⟨rfl, fun q => by have := q.1 k (by omega) (by omega) hen; omega⟩)⟩⟩
                exact lp40 ((17 - (x38)) + 1).toNat x36 x38 σ25 Mod.rf (by omega) (by omega) (by rw [e36, e38]; exact PassI.init) (fun s s0 s1 => by omega) (fun l l0 l1 => by have := hB l l0 l1; omega) (by omega)
        exact lp25 ((10 - (x23)) + 1).toNat x21 x23 σ2 Mod.rf (by omega) (by omega) (fun _ => by rw [e23]; exact Outer.row (fun b b0 b1 => hz b b0 (by omega))) (fun q => by omega) (fun l l0 l1 => by rw [hz l l0 (by omega)]; omega) (by omega)
      · skip
        refine r_aload_n hX dX6_canStart_7 rfl ?_
        refine fg_X27_63 hX dX6_canStart_8 ?_
        refine r_iload_n hX dX6_canStart_11 rfl ?_
        refine r_iconst hX dX6_canStart_12 ?_
        refine st_X43 hX dX6_canStart_13 (by omega) (by omega) (by omega) (fun σ13 m13 s13 => ?_)
        refine r_iinc hX (fun x14 => [some (.ref (w.2.2 27)), some (.int (iI pl)), some (.int (iI bt)), some (.int (iI x14)), none, none, none, none, none, none]) dX6_canStart_14 rfl rfl rfl (fun _ => rfl) (fun x14 e14 => ?_)
        refine r_goto hX dX6_canStart_17 (tgt := 2) (by decide) ?_
        exact ih2 x14 σ13 (Mod.tr (L := [43]) m2 m13 rfl rfl) (by omega) (fun b b0 b1 => by rw [s13]; split; rfl; exact hz b b0 (by omega)) (by omega)
  exact lp2 ((9 - (x1)) + 1).toNat x1 σ Mod.rf (by omega) (fun b b0 b1 => by omega) (by omega)
theorem dX6_goesAt_0 : decode cX6_goesAt 0 = .ok (.aload_n 0, 1) := by decide +kernel
theorem dX6_goesAt_1 : decode cX6_goesAt 1 = .ok (.getfield 39, 3) := by decide +kernel
theorem dX6_goesAt_4 : decode cX6_goesAt 4 = .ok (.aload_n 0, 1) := by decide +kernel
theorem dX6_goesAt_5 : decode cX6_goesAt 5 = .ok (.getfield 57, 3) := by decide +kernel
theorem dX6_goesAt_8 : decode cX6_goesAt 8 = .ok (.iload_n 1, 1) := by decide +kernel
theorem dX6_goesAt_9 : decode cX6_goesAt 9 = .ok (.iaload, 1) := by decide +kernel
theorem dX6_goesAt_10 : decode cX6_goesAt 10 = .ok (.baload, 1) := by decide +kernel
theorem dX6_goesAt_11 : decode cX6_goesAt 11 = .ok (.ifCond .ne 27, 3) := by decide +kernel
theorem dX6_goesAt_14 : decode cX6_goesAt 14 = .ok (.aload_n 0, 1) := by decide +kernel
theorem dX6_goesAt_15 : decode cX6_goesAt 15 = .ok (.getfield 7, 3) := by decide +kernel
theorem dX6_goesAt_18 : decode cX6_goesAt 18 = .ok (.iload_n 1, 1) := by decide +kernel
theorem dX6_goesAt_19 : decode cX6_goesAt 19 = .ok (.iaload, 1) := by decide +kernel
theorem dX6_goesAt_20 : decode cX6_goesAt 20 = .ok (.iconst 3, 1) := by decide +kernel
theorem dX6_goesAt_21 : decode cX6_goesAt 21 = .ok (.if_icmp .ne 19, 3) := by decide +kernel
theorem dX6_goesAt_24 : decode cX6_goesAt 24 = .ok (.aload_n 0, 1) := by decide +kernel
theorem dX6_goesAt_25 : decode cX6_goesAt 25 = .ok (.getfield 42, 3) := by decide +kernel
theorem dX6_goesAt_28 : decode cX6_goesAt 28 = .ok (.aload_n 0, 1) := by decide +kernel
theorem dX6_goesAt_29 : decode cX6_goesAt 29 = .ok (.getfield 57, 3) := by decide +kernel
theorem dX6_goesAt_32 : decode cX6_goesAt 32 = .ok (.iload_n 1, 1) := by decide +kernel
theorem dX6_goesAt_33 : decode cX6_goesAt 33 = .ok (.iaload, 1) := by decide +kernel
theorem dX6_goesAt_34 : decode cX6_goesAt 34 = .ok (.baload, 1) := by decide +kernel
theorem dX6_goesAt_35 : decode cX6_goesAt 35 = .ok (.ifCond .ne 5, 3) := by decide +kernel
theorem dX6_goesAt_38 : decode cX6_goesAt 38 = .ok (.iconst 0, 1) := by decide +kernel
theorem dX6_goesAt_39 : decode cX6_goesAt 39 = .ok (.ireturn, 1) := by decide +kernel
theorem dX6_goesAt_40 : decode cX6_goesAt 40 = .ok (.iconst 0, 1) := by decide +kernel
theorem dX6_goesAt_41 : decode cX6_goesAt 41 = .ok (.istore_n 3, 1) := by decide +kernel
theorem dX6_goesAt_42 : decode cX6_goesAt 42 = .ok (.iload_n 3, 1) := by decide +kernel
theorem dX6_goesAt_43 : decode cX6_goesAt 43 = .ok (.iload_n 1, 1) := by decide +kernel
theorem dX6_goesAt_44 : decode cX6_goesAt 44 = .ok (.if_icmp .ge 41, 3) := by decide +kernel
theorem dX6_goesAt_47 : decode cX6_goesAt 47 = .ok (.aload_n 0, 1) := by decide +kernel
theorem dX6_goesAt_48 : decode cX6_goesAt 48 = .ok (.getfield 57, 3) := by decide +kernel
theorem dX6_goesAt_51 : decode cX6_goesAt 51 = .ok (.iload_n 3, 1) := by decide +kernel
theorem dX6_goesAt_52 : decode cX6_goesAt 52 = .ok (.iaload, 1) := by decide +kernel
theorem dX6_goesAt_53 : decode cX6_goesAt 53 = .ok (.aload_n 0, 1) := by decide +kernel
theorem dX6_goesAt_54 : decode cX6_goesAt 54 = .ok (.getfield 57, 3) := by decide +kernel
theorem dX6_goesAt_57 : decode cX6_goesAt 57 = .ok (.iload_n 1, 1) := by decide +kernel
theorem dX6_goesAt_58 : decode cX6_goesAt 58 = .ok (.iaload, 1) := by decide +kernel
theorem dX6_goesAt_59 : decode cX6_goesAt 59 = .ok (.if_icmp .ne 20, 3) := by decide +kernel
theorem dX6_goesAt_62 : decode cX6_goesAt 62 = .ok (.aload_n 0, 1) := by decide +kernel
theorem dX6_goesAt_63 : decode cX6_goesAt 63 = .ok (.getfield 60, 3) := by decide +kernel
theorem dX6_goesAt_66 : decode cX6_goesAt 66 = .ok (.iload_n 3, 1) := by decide +kernel
theorem dX6_goesAt_67 : decode cX6_goesAt 67 = .ok (.iaload, 1) := by decide +kernel
theorem dX6_goesAt_68 : decode cX6_goesAt 68 = .ok (.aload_n 0, 1) := by decide +kernel
theorem dX6_goesAt_69 : decode cX6_goesAt 69 = .ok (.getfield 60, 3) := by decide +kernel
theorem dX6_goesAt_72 : decode cX6_goesAt 72 = .ok (.iload_n 1, 1) := by decide +kernel
theorem dX6_goesAt_73 : decode cX6_goesAt 73 = .ok (.iaload, 1) := by decide +kernel
theorem dX6_goesAt_74 : decode cX6_goesAt 74 = .ok (.if_icmp .ne 5, 3) := by decide +kernel
theorem dX6_goesAt_77 : decode cX6_goesAt 77 = .ok (.iconst 0, 1) := by decide +kernel
theorem dX6_goesAt_78 : decode cX6_goesAt 78 = .ok (.ireturn, 1) := by decide +kernel
theorem dX6_goesAt_79 : decode cX6_goesAt 79 = .ok (.iinc 3 1, 3) := by decide +kernel
theorem dX6_goesAt_82 : decode cX6_goesAt 82 = .ok (.goto (-40), 3) := by decide +kernel
theorem dX6_goesAt_85 : decode cX6_goesAt 85 = .ok (.aload_n 0, 1) := by decide +kernel
theorem dX6_goesAt_86 : decode cX6_goesAt 86 = .ok (.iload_n 1, 1) := by decide +kernel
theorem dX6_goesAt_87 : decode cX6_goesAt 87 = .ok (.iconst 1, 1) := by decide +kernel
theorem dX6_goesAt_88 : decode cX6_goesAt 88 = .ok (.iadd, 1) := by decide +kernel
theorem dX6_goesAt_89 : decode cX6_goesAt 89 = .ok (.iload_n 2, 1) := by decide +kernel
theorem dX6_goesAt_90 : decode cX6_goesAt 90 = .ok (.invokevirtual 180, 3) := by decide +kernel
theorem dX6_goesAt_93 : decode cX6_goesAt 93 = .ok (.ireturn, 1) := by decide +kernel
set_option maxRecDepth 20000 in
set_option maxHeartbeats 4000000 in
theorem k_M_goesAt (l : Launch) (w : WT) (σ : MM) (a : Int) (bt : Int) (i_a : inr a) (i_bt : inr bt) (ha : 0 ≤ a ∧ a < σ 61 0) (hb : 1 ≤ bt ∧ bt ≤ 12) : CT SX l w yX6_goesAt cX6_goesAt 4 (some .boolean) 2 51 [.ref (w.2.2 27), .int (iI a), .int (iI bt)] σ (PI fun z σ1 => Mod [43] σ σ1 ∧ ((z = 1 ∧ GoesM σ (σ 44) bt (σ 41) (σ 42) a) ∨ (z = 0 ∧ ¬ GoesM σ (σ 44) bt (σ 41) (σ 42) a))) := by
  refine CT.of 1 [some (.ref (w.2.2 27)), some (.int (iI a)), some (.int (iI bt)), none] (by decide +kernel) (by simp [lg_sl, Value.category]) rfl sh_X (fun G hX => ?_)
  refine r_bd hX (fun hBd => ?_)
  have b_61 := hBd 61 0 8 rfl 0
  refine r_aload_n hX dX6_goesAt_0 rfl ?_
  refine fg_X27_39 hX dX6_goesAt_1 ?_
  refine r_aload_n hX dX6_goesAt_4 rfl ?_
  refine fg_X27_57 hX dX6_goesAt_5 ?_
  refine r_iload_n hX dX6_goesAt_8 rfl ?_
  refine ld_X41 hX dX6_goesAt_9 (by omega) (by omega) (fun b9l b9u => ?_)
  refine ld_X35 hX dX6_goesAt_10 (by omega) (by omega) (fun b10l b10u => ?_)
  refine r_if_ne hX (tgt := 38) dX6_goesAt_11 (by decide) (by omega) (fun c11 => ?_) (fun c11 => ?_)
  · skip
    refine r_iconst hX dX6_goesAt_38 ?_
    exact r_zret hX dX6_goesAt_39 rfl (by omega) ⟨_, rfl, ⟨Mod.rf, (by exact Or.inr ⟨rfl, fun q => by have q1 := q.1.1; have q2 := q.1.2.1; first | omega | (have q3 := q2 (by omega); omega)⟩)⟩⟩
  · skip
    refine r_aload_n hX dX6_goesAt_14 rfl ?_
    refine fg_X27_7 hX dX6_goesAt_15 ?_
    refine r_iload_n hX dX6_goesAt_18 rfl ?_
    refine ld_X28 hX dX6_goesAt_19 (by omega) (by omega) (fun b19l b19u => ?_)
    refine r_iconst hX dX6_goesAt_20 ?_
    refine r_icmp_ne hX (tgt := 40) dX6_goesAt_21 (by decide) (by omega) (by omega) (fun c21 => ?_) (fun c21 => ?_)
    · skip
      refine r_iconst hX dX6_goesAt_40 ?_
      refine r_istore_n hX (fun x41 => [some (.ref (w.2.2 27)), some (.int (iI a)), some (.int (iI bt)), some (.int (iI x41))]) dX6_goesAt_41 (Nat.le_of_ble_eq_true rfl) rfl rfl (fun _ => rfl) (fun x41 e41 => ?_)
      have lp42 : ∀ (n : Nat) (o3 : Int) (ho3 : 0 ≤ o3 ∧ o3 ≤ a) (hn : ∀ x, 0 ≤ x → x < o3 → ¬ (σ 41 x = σ 41 a ∧ σ 42 x = σ 42 a)) (hmu : 9 - o3 < (n : Int)), G 42 [some (.ref (w.2.2 27)), some (.int (iI a)), some (.int (iI bt)), some (.int (iI o3))] [] σ := by
        intro n
        induction n with
        | zero => intro o3 ho3 hn hmu; omega
        | succ n ih =>
          intro o3 ho3 hn hmu
          have ih42 := ih
          clear ih
          refine r_iload_n hX dX6_goesAt_42 rfl ?_
          refine r_iload_n hX dX6_goesAt_43 rfl ?_
          refine r_icmp_ge hX (tgt := 85) dX6_goesAt_44 (by decide) (by omega) (by omega) (fun c44 => ?_) (fun c44 => ?_)
          · skip
            refine r_aload_n hX dX6_goesAt_85 rfl ?_
            refine r_iload_n hX dX6_goesAt_86 rfl ?_
            refine r_iconst hX dX6_goesAt_87 ?_
            refine r_iadd hX dX6_goesAt_88 ?_
            refine r_iload_n hX dX6_goesAt_89 rfl ?_
            refine r_callV hX dX6_goesAt_90 (k_M_canStart l w σ _ _ (by omega) (by omega) a (by omega) (by omega)) mf_X6_canStart mv_X6_canStart lk_RX6_180 rfl rfl rfl rfl rfl ⟨Nat.le_of_ble_eq_true rfl, Nat.le_of_ble_eq_true rfl⟩ (Nat.le_of_ble_eq_true rfl) (kI fun z90 σ90 hh => ?_)
            obtain ⟨m90, h90_0⟩ := hh
            have hz90 : z90 = 0 ∨ z90 = 1 := by rcases h90_0 with q | q; exact Or.inr q.1; exact Or.inl q.1
            exact r_zret hX dX6_goesAt_93 rfl (by omega) ⟨_, rfl, ⟨(m90.w rfl), (by rcases h90_0 with ⟨q1, q2, q3⟩ | ⟨q1, q2⟩; exact Or.inl ⟨q1, ⟨by omega, by omega, (show o3 = a by omega) ▸ hn⟩, q2, q3.feas⟩; exact Or.inr ⟨q1, fun q => q2 q.2⟩)⟩⟩
          · skip
            refine r_aload_n hX dX6_goesAt_47 rfl ?_
            refine fg_X27_57 hX dX6_goesAt_48 ?_
            refine r_iload_n hX dX6_goesAt_51 rfl ?_
            refine ld_X41 hX dX6_goesAt_52 (by omega) (by omega) (fun b52l b52u => ?_)
            refine r_aload_n hX dX6_goesAt_53 rfl ?_
            refine fg_X27_57 hX dX6_goesAt_54 ?_
            refine r_iload_n hX dX6_goesAt_57 rfl ?_
            refine ld_X41 hX dX6_goesAt_58 (by omega) (by omega) (fun b58l b58u => ?_)
            refine r_icmp_ne hX (tgt := 79) dX6_goesAt_59 (by decide) (by omega) (by omega) (fun c59 => ?_) (fun c59 => ?_)
            · skip
              refine r_iinc hX (fun x79 => [some (.ref (w.2.2 27)), some (.int (iI a)), some (.int (iI bt)), some (.int (iI x79))]) dX6_goesAt_79 rfl rfl rfl (fun _ => rfl) (fun x79 e79 => ?_)
              refine r_goto hX dX6_goesAt_82 (tgt := 42) (by decide) ?_
              exact ih42 x79 (by omega) (Non.next (P := fun x => σ 41 x = σ 41 a ∧ σ 42 x = σ 42 a) hn (fun q => by have q1 := q.1; have q2 := q.2; omega) e79) (by omega)
            · skip
              refine r_aload_n hX dX6_goesAt_62 rfl ?_
              refine fg_X27_60 hX dX6_goesAt_63 ?_
              refine r_iload_n hX dX6_goesAt_66 rfl ?_
              refine ld_X42 hX dX6_goesAt_67 (by omega) (by omega) (fun b67l b67u => ?_)
              refine r_aload_n hX dX6_goesAt_68 rfl ?_
              refine fg_X27_60 hX dX6_goesAt_69 ?_
              refine r_iload_n hX dX6_goesAt_72 rfl ?_
              refine ld_X42 hX dX6_goesAt_73 (by omega) (by omega) (fun b73l b73u => ?_)
              refine r_icmp_ne hX (tgt := 79) dX6_goesAt_74 (by decide) (by omega) (by omega) (fun c74 => ?_) (fun c74 => ?_)
              · skip
                refine r_iinc hX (fun x79 => [some (.ref (w.2.2 27)), some (.int (iI a)), some (.int (iI bt)), some (.int (iI x79))]) dX6_goesAt_79 rfl rfl rfl (fun _ => rfl) (fun x79 e79 => ?_)
                refine r_goto hX dX6_goesAt_82 (tgt := 42) (by decide) ?_
                exact ih42 x79 (by omega) (Non.next (P := fun x => σ 41 x = σ 41 a ∧ σ 42 x = σ 42 a) hn (fun q => by have q1 := q.1; have q2 := q.2; omega) e79) (by omega)
              · skip
                refine r_iconst hX dX6_goesAt_77 ?_
                exact r_zret hX dX6_goesAt_78 rfl (by omega) ⟨_, rfl, ⟨Mod.rf, (by exact Or.inr ⟨rfl, fun q => q.1.2.2 o3 (by omega) (by omega) ⟨by omega, by omega⟩⟩)⟩⟩
      exact lp42 ((9 - (x41)) + 1).toNat x41 (by omega) (fun x x0 x1 => by omega) (by omega)
    · skip
      refine r_aload_n hX dX6_goesAt_24 rfl ?_
      refine fg_X27_42 hX dX6_goesAt_25 ?_
      refine r_aload_n hX dX6_goesAt_28 rfl ?_
      refine fg_X27_57 hX dX6_goesAt_29 ?_
      refine r_iload_n hX dX6_goesAt_32 rfl ?_
      refine ld_X41 hX dX6_goesAt_33 (by omega) (by omega) (fun b33l b33u => ?_)
      refine ld_X36 hX dX6_goesAt_34 (by omega) (by omega) (fun b34l b34u => ?_)
      refine r_if_ne hX (tgt := 40) dX6_goesAt_35 (by decide) (by omega) (fun c35 => ?_) (fun c35 => ?_)
      · skip
        refine r_iconst hX dX6_goesAt_40 ?_
        refine r_istore_n hX (fun x41 => [some (.ref (w.2.2 27)), some (.int (iI a)), some (.int (iI bt)), some (.int (iI x41))]) dX6_goesAt_41 (Nat.le_of_ble_eq_true rfl) rfl rfl (fun _ => rfl) (fun x41 e41 => ?_)
        have lp42 : ∀ (n : Nat) (o3 : Int) (ho3 : 0 ≤ o3 ∧ o3 ≤ a) (hn : ∀ x, 0 ≤ x → x < o3 → ¬ (σ 41 x = σ 41 a ∧ σ 42 x = σ 42 a)) (hmu : 9 - o3 < (n : Int)), G 42 [some (.ref (w.2.2 27)), some (.int (iI a)), some (.int (iI bt)), some (.int (iI o3))] [] σ := by
          intro n
          induction n with
          | zero => intro o3 ho3 hn hmu; omega
          | succ n ih =>
            intro o3 ho3 hn hmu
            have ih42 := ih
            clear ih
            refine r_iload_n hX dX6_goesAt_42 rfl ?_
            refine r_iload_n hX dX6_goesAt_43 rfl ?_
            refine r_icmp_ge hX (tgt := 85) dX6_goesAt_44 (by decide) (by omega) (by omega) (fun c44 => ?_) (fun c44 => ?_)
            · skip
              refine r_aload_n hX dX6_goesAt_85 rfl ?_
              refine r_iload_n hX dX6_goesAt_86 rfl ?_
              refine r_iconst hX dX6_goesAt_87 ?_
              refine r_iadd hX dX6_goesAt_88 ?_
              refine r_iload_n hX dX6_goesAt_89 rfl ?_
              refine r_callV hX dX6_goesAt_90 (k_M_canStart l w σ _ _ (by omega) (by omega) a (by omega) (by omega)) mf_X6_canStart mv_X6_canStart lk_RX6_180 rfl rfl rfl rfl rfl ⟨Nat.le_of_ble_eq_true rfl, Nat.le_of_ble_eq_true rfl⟩ (Nat.le_of_ble_eq_true rfl) (kI fun z90 σ90 hh => ?_)
              obtain ⟨m90, h90_0⟩ := hh
              have hz90 : z90 = 0 ∨ z90 = 1 := by rcases h90_0 with q | q; exact Or.inr q.1; exact Or.inl q.1
              exact r_zret hX dX6_goesAt_93 rfl (by omega) ⟨_, rfl, ⟨(m90.w rfl), (by rcases h90_0 with ⟨q1, q2, q3⟩ | ⟨q1, q2⟩; exact Or.inl ⟨q1, ⟨by omega, by omega, (show o3 = a by omega) ▸ hn⟩, q2, q3.feas⟩; exact Or.inr ⟨q1, fun q => q2 q.2⟩)⟩⟩
            · skip
              refine r_aload_n hX dX6_goesAt_47 rfl ?_
              refine fg_X27_57 hX dX6_goesAt_48 ?_
              refine r_iload_n hX dX6_goesAt_51 rfl ?_
              refine ld_X41 hX dX6_goesAt_52 (by omega) (by omega) (fun b52l b52u => ?_)
              refine r_aload_n hX dX6_goesAt_53 rfl ?_
              refine fg_X27_57 hX dX6_goesAt_54 ?_
              refine r_iload_n hX dX6_goesAt_57 rfl ?_
              refine ld_X41 hX dX6_goesAt_58 (by omega) (by omega) (fun b58l b58u => ?_)
              refine r_icmp_ne hX (tgt := 79) dX6_goesAt_59 (by decide) (by omega) (by omega) (fun c59 => ?_) (fun c59 => ?_)
              · skip
                refine r_iinc hX (fun x79 => [some (.ref (w.2.2 27)), some (.int (iI a)), some (.int (iI bt)), some (.int (iI x79))]) dX6_goesAt_79 rfl rfl rfl (fun _ => rfl) (fun x79 e79 => ?_)
                refine r_goto hX dX6_goesAt_82 (tgt := 42) (by decide) ?_
                exact ih42 x79 (by omega) (Non.next (P := fun x => σ 41 x = σ 41 a ∧ σ 42 x = σ 42 a) hn (fun q => by have q1 := q.1; have q2 := q.2; omega) e79) (by omega)
              · skip
                refine r_aload_n hX dX6_goesAt_62 rfl ?_
                refine fg_X27_60 hX dX6_goesAt_63 ?_
                refine r_iload_n hX dX6_goesAt_66 rfl ?_
                refine ld_X42 hX dX6_goesAt_67 (by omega) (by omega) (fun b67l b67u => ?_)
                refine r_aload_n hX dX6_goesAt_68 rfl ?_
                refine fg_X27_60 hX dX6_goesAt_69 ?_
                refine r_iload_n hX dX6_goesAt_72 rfl ?_
                refine ld_X42 hX dX6_goesAt_73 (by omega) (by omega) (fun b73l b73u => ?_)
                refine r_icmp_ne hX (tgt := 79) dX6_goesAt_74 (by decide) (by omega) (by omega) (fun c74 => ?_) (fun c74 => ?_)
                · skip
                  refine r_iinc hX (fun x79 => [some (.ref (w.2.2 27)), some (.int (iI a)), some (.int (iI bt)), some (.int (iI x79))]) dX6_goesAt_79 rfl rfl rfl (fun _ => rfl) (fun x79 e79 => ?_)
                  refine r_goto hX dX6_goesAt_82 (tgt := 42) (by decide) ?_
                  exact ih42 x79 (by omega) (Non.next (P := fun x => σ 41 x = σ 41 a ∧ σ 42 x = σ 42 a) hn (fun q => by have q1 := q.1; have q2 := q.2; omega) e79) (by omega)
                · skip
                  refine r_iconst hX dX6_goesAt_77 ?_
                  exact r_zret hX dX6_goesAt_78 rfl (by omega) ⟨_, rfl, ⟨Mod.rf, (by exact Or.inr ⟨rfl, fun q => q.1.2.2 o3 (by omega) (by omega) ⟨by omega, by omega⟩⟩)⟩⟩
        exact lp42 ((9 - (x41)) + 1).toNat x41 (by omega) (fun x x0 x1 => by omega) (by omega)
      · skip
        refine r_iconst hX dX6_goesAt_38 ?_
        exact r_zret hX dX6_goesAt_39 rfl (by omega) ⟨_, rfl, ⟨Mod.rf, (by exact Or.inr ⟨rfl, fun q => by have q1 := q.1.1; have q2 := q.1.2.1; first | omega | (have q3 := q2 (by omega); omega)⟩)⟩⟩
theorem dX6_search_0 : decode cX6_search 0 = .ok (.iconst 0, 1) := by decide +kernel
theorem dX6_search_1 : decode cX6_search 1 = .ok (.istore_n 2, 1) := by decide +kernel
theorem dX6_search_2 : decode cX6_search 2 = .ok (.iconst 0, 1) := by decide +kernel
theorem dX6_search_3 : decode cX6_search 3 = .ok (.istore_n 3, 1) := by decide +kernel
theorem dX6_search_4 : decode cX6_search 4 = .ok (.iconst 0, 1) := by decide +kernel
theorem dX6_search_5 : decode cX6_search 5 = .ok (.istore 4, 2) := by decide +kernel
theorem dX6_search_7 : decode cX6_search 7 = .ok (.iload_n 3, 1) := by decide +kernel
theorem dX6_search_8 : decode cX6_search 8 = .ok (.ifCond .lt 139, 3) := by decide +kernel
theorem dX6_search_11 : decode cX6_search 11 = .ok (.iload_n 3, 1) := by decide +kernel
theorem dX6_search_12 : decode cX6_search 12 = .ok (.aload_n 0, 1) := by decide +kernel
theorem dX6_search_13 : decode cX6_search 13 = .ok (.getfield 72, 3) := by decide +kernel
theorem dX6_search_16 : decode cX6_search 16 = .ok (.if_icmp .ne 5, 3) := by decide +kernel
theorem dX6_search_19 : decode cX6_search 19 = .ok (.iconst 1, 1) := by decide +kernel
theorem dX6_search_20 : decode cX6_search 20 = .ok (.ireturn, 1) := by decide +kernel
theorem dX6_search_21 : decode cX6_search 21 = .ok (.iload 4, 2) := by decide +kernel
theorem dX6_search_23 : decode cX6_search 23 = .ok (.aload_n 0, 1) := by decide +kernel
theorem dX6_search_24 : decode cX6_search 24 = .ok (.invokevirtual 133, 3) := by decide +kernel
theorem dX6_search_27 : decode cX6_search 27 = .ok (.iload_n 1, 1) := by decide +kernel
theorem dX6_search_28 : decode cX6_search 28 = .ok (.imul, 1) := by decide +kernel
theorem dX6_search_29 : decode cX6_search 29 = .ok (.if_icmp .ne 36, 3) := by decide +kernel
theorem dX6_search_32 : decode cX6_search 32 = .ok (.iinc 3 (-1), 3) := by decide +kernel
theorem dX6_search_35 : decode cX6_search 35 = .ok (.iload_n 3, 1) := by decide +kernel
theorem dX6_search_36 : decode cX6_search 36 = .ok (.ifCond .ge 7, 3) := by decide +kernel
theorem dX6_search_39 : decode cX6_search 39 = .ok (.iconst 0, 1) := by decide +kernel
theorem dX6_search_40 : decode cX6_search 40 = .ok (.goto 20, 3) := by decide +kernel
theorem dX6_search_43 : decode cX6_search 43 = .ok (.aload_n 0, 1) := by decide +kernel
theorem dX6_search_44 : decode cX6_search 44 = .ok (.getfield 57, 3) := by decide +kernel
theorem dX6_search_47 : decode cX6_search 47 = .ok (.iload_n 3, 1) := by decide +kernel
theorem dX6_search_48 : decode cX6_search 48 = .ok (.iaload, 1) := by decide +kernel
theorem dX6_search_49 : decode cX6_search 49 = .ok (.iload_n 1, 1) := by decide +kernel
theorem dX6_search_50 : decode cX6_search 50 = .ok (.imul, 1) := by decide +kernel
theorem dX6_search_51 : decode cX6_search 51 = .ok (.aload_n 0, 1) := by decide +kernel
theorem dX6_search_52 : decode cX6_search 52 = .ok (.getfield 60, 3) := by decide +kernel
theorem dX6_search_55 : decode cX6_search 55 = .ok (.iload_n 3, 1) := by decide +kernel
theorem dX6_search_56 : decode cX6_search 56 = .ok (.iaload, 1) := by decide +kernel
theorem dX6_search_57 : decode cX6_search 57 = .ok (.iadd, 1) := by decide +kernel
theorem dX6_search_58 : decode cX6_search 58 = .ok (.iconst 1, 1) := by decide +kernel
theorem dX6_search_59 : decode cX6_search 59 = .ok (.iadd, 1) := by decide +kernel
theorem dX6_search_60 : decode cX6_search 60 = .ok (.istore 4, 2) := by decide +kernel
theorem dX6_search_62 : decode cX6_search 62 = .ok (.goto (-55), 3) := by decide +kernel
theorem dX6_search_65 : decode cX6_search 65 = .ok (.iload_n 2, 1) := by decide +kernel
theorem dX6_search_66 : decode cX6_search 66 = .ok (.sipush 20000, 3) := by decide +kernel
theorem dX6_search_69 : decode cX6_search 69 = .ok (.if_icmp .ne 6, 3) := by decide +kernel
theorem dX6_search_72 : decode cX6_search 72 = .ok (.bipush (-7), 2) := by decide +kernel
theorem dX6_search_74 : decode cX6_search 74 = .ok (.ireturn, 1) := by decide +kernel
theorem dX6_search_75 : decode cX6_search 75 = .ok (.iinc 2 1, 3) := by decide +kernel
theorem dX6_search_78 : decode cX6_search 78 = .ok (.aload_n 0, 1) := by decide +kernel
theorem dX6_search_79 : decode cX6_search 79 = .ok (.dup, 1) := by decide +kernel
theorem dX6_search_80 : decode cX6_search 80 = .ok (.getfield 183, 3) := by decide +kernel
theorem dX6_search_83 : decode cX6_search 83 = .ok (.iconst 1, 1) := by decide +kernel
theorem dX6_search_84 : decode cX6_search 84 = .ok (.iadd, 1) := by decide +kernel
theorem dX6_search_85 : decode cX6_search 85 = .ok (.putfield 183, 3) := by decide +kernel
theorem dX6_search_88 : decode cX6_search 88 = .ok (.aload_n 0, 1) := by decide +kernel
theorem dX6_search_89 : decode cX6_search 89 = .ok (.getfield 57, 3) := by decide +kernel
theorem dX6_search_92 : decode cX6_search 92 = .ok (.iload_n 3, 1) := by decide +kernel
theorem dX6_search_93 : decode cX6_search 93 = .ok (.iload 4, 2) := by decide +kernel
theorem dX6_search_95 : decode cX6_search 95 = .ok (.iload_n 1, 1) := by decide +kernel
theorem dX6_search_96 : decode cX6_search 96 = .ok (.idiv, 1) := by decide +kernel
theorem dX6_search_97 : decode cX6_search 97 = .ok (.iastore, 1) := by decide +kernel
theorem dX6_search_98 : decode cX6_search 98 = .ok (.aload_n 0, 1) := by decide +kernel
theorem dX6_search_99 : decode cX6_search 99 = .ok (.getfield 60, 3) := by decide +kernel
theorem dX6_search_102 : decode cX6_search 102 = .ok (.iload_n 3, 1) := by decide +kernel
theorem dX6_search_103 : decode cX6_search 103 = .ok (.iload 4, 2) := by decide +kernel
theorem dX6_search_105 : decode cX6_search 105 = .ok (.iload_n 1, 1) := by decide +kernel
theorem dX6_search_106 : decode cX6_search 106 = .ok (.irem, 1) := by decide +kernel
theorem dX6_search_107 : decode cX6_search 107 = .ok (.iastore, 1) := by decide +kernel
theorem dX6_search_108 : decode cX6_search 108 = .ok (.aload_n 0, 1) := by decide +kernel
theorem dX6_search_109 : decode cX6_search 109 = .ok (.iload_n 3, 1) := by decide +kernel
theorem dX6_search_110 : decode cX6_search 110 = .ok (.iload_n 1, 1) := by decide +kernel
theorem dX6_search_111 : decode cX6_search 111 = .ok (.invokevirtual 186, 3) := by decide +kernel
theorem dX6_search_114 : decode cX6_search 114 = .ok (.istore 5, 2) := by decide +kernel
theorem dX6_search_116 : decode cX6_search 116 = .ok (.iload_n 3, 1) := by decide +kernel
theorem dX6_search_117 : decode cX6_search 117 = .ok (.iload 5, 2) := by decide +kernel
theorem dX6_search_119 : decode cX6_search 119 = .ok (.ifCond .eq 7, 3) := by decide +kernel
theorem dX6_search_122 : decode cX6_search 122 = .ok (.iconst 1, 1) := by decide +kernel
theorem dX6_search_123 : decode cX6_search 123 = .ok (.goto 4, 3) := by decide +kernel
theorem dX6_search_126 : decode cX6_search 126 = .ok (.iconst 0, 1) := by decide +kernel
theorem dX6_search_127 : decode cX6_search 127 = .ok (.iadd, 1) := by decide +kernel
theorem dX6_search_128 : decode cX6_search 128 = .ok (.istore_n 3, 1) := by decide +kernel
theorem dX6_search_129 : decode cX6_search 129 = .ok (.iload 5, 2) := by decide +kernel
theorem dX6_search_131 : decode cX6_search 131 = .ok (.ifCond .eq 7, 3) := by decide +kernel
theorem dX6_search_134 : decode cX6_search 134 = .ok (.iconst 0, 1) := by decide +kernel
theorem dX6_search_135 : decode cX6_search 135 = .ok (.goto 7, 3) := by decide +kernel
theorem dX6_search_138 : decode cX6_search 138 = .ok (.iload 4, 2) := by decide +kernel
theorem dX6_search_140 : decode cX6_search 140 = .ok (.iconst 1, 1) := by decide +kernel
theorem dX6_search_141 : decode cX6_search 141 = .ok (.iadd, 1) := by decide +kernel
theorem dX6_search_142 : decode cX6_search 142 = .ok (.istore 4, 2) := by decide +kernel
theorem dX6_search_144 : decode cX6_search 144 = .ok (.goto (-137), 3) := by decide +kernel
theorem dX6_search_147 : decode cX6_search 147 = .ok (.iconst 0, 1) := by decide +kernel
theorem dX6_search_148 : decode cX6_search 148 = .ok (.ireturn, 1) := by decide +kernel
set_option maxRecDepth 20000 in
set_option maxHeartbeats 4000000 in
theorem k_M_search (l : Launch) (w : WT) (σ : MM) (bt : Int) (i_bt : inr bt) (hb : 1 ≤ bt ∧ bt ≤ 12) (hc : 1 ≤ σ 61 0) : CT SX l w yX6_search cX6_search 6 (some .int) 3 74 [.ref (w.2.2 27), .int (iI bt)] σ (PI fun z σ1 => Mod [41, 42, 43, 67] σ σ1 ∧ (DFm σ σ1 bt z)) := by
  refine CT.of 4 [some (.ref (w.2.2 27)), some (.int (iI bt)), none, none, none, none] (by decide +kernel) (by simp [lg_sl, Value.category]) rfl sh_X (fun G hX => ?_)
  refine r_bd hX (fun hBd => ?_)
  have b_61 := hBd 61 0 8 rfl 0
  have b_65 := hBd 65 1 3 rfl 0
  have b_66 := hBd 66 1 3 rfl 0
  have hn := mul_bd b_65 b_66
  have hpl := pm (a := σ 65 0 * σ 66 0) (A := 9) (b := bt) (B := 12) (by omega) (by omega)
  refine r_iconst hX dX6_search_0 ?_
  refine r_istore_n hX (fun x1 => [some (.ref (w.2.2 27)), some (.int (iI bt)), some (.int (iI x1)), none, none, none]) dX6_search_1 (Nat.le_of_ble_eq_true rfl) rfl rfl (fun _ => rfl) (fun x1 e1 => ?_)
  refine r_iconst hX dX6_search_2 ?_
  refine r_istore_n hX (fun x3 => [some (.ref (w.2.2 27)), some (.int (iI bt)), some (.int (iI x1)), some (.int (iI x3)), none, none]) dX6_search_3 (Nat.le_of_ble_eq_true rfl) rfl rfl (fun _ => rfl) (fun x3 e3 => ?_)
  refine r_iconst hX dX6_search_4 ?_
  refine r_istore hX (fun x5 => [some (.ref (w.2.2 27)), some (.int (iI bt)), some (.int (iI x1)), some (.int (iI x3)), some (.int (iI x5)), none]) dX6_search_5 (Nat.le_of_ble_eq_true rfl) rfl rfl (fun _ => rfl) (fun x5 e5 => ?_)
  have lp7 : ∀ (n : Nat) (used : Int) (a : Int) (ch : Int) (σ7 : MM) (m7 : Mod [41, 42, 43, 67] σ σ7) (hu : 0 ≤ used ∧ used ≤ 20000) (hac : -1 ≤ a ∧ a ≤ σ 61 0) (hD : DIm σ σ7 bt a ch used) (hmu : 2 * (20000 - used) + a + 2 < (n : Int)), G 7 [some (.ref (w.2.2 27)), some (.int (iI bt)), some (.int (iI used)), some (.int (iI a)), some (.int (iI ch)), none] [] σ7 := by
    intro n
    induction n with
    | zero => intro used a ch σ7 m7 hu hac hD hmu; omega
    | succ n ih =>
      intro used a ch σ7 m7 hu hac hD hmu
      have ih7 := ih
      clear ih
      refine r_iload_n hX dX6_search_7 rfl ?_
      refine r_if_lt hX (tgt := 147) dX6_search_8 (by decide) (by omega) (fun c8 => ?_) (fun c8 => ?_)
      · skip
        refine r_iconst hX dX6_search_147 ?_
        exact r_iret hX dX6_search_148 rfl ⟨_, rfl, ⟨(m7.w rfl), (by exact hD.fin (by omega) hc (Or.inr (Or.inl ⟨by omega, rfl⟩)))⟩⟩
      · skip
        refine r_iload_n hX dX6_search_11 rfl ?_
        refine r_aload_n hX dX6_search_12 rfl ?_
        refine fg_X27_72 hX dX6_search_13 (fun b13l b13u => ?_)
        have q13 : σ7 61 = σ 61 := (m7.at 61 rfl)
        rw [q13]
        rw [q13] at b13l b13u
        refine r_icmp_ne hX (tgt := 21) dX6_search_16 (by decide) (by omega) (by omega) (fun c16 => ?_) (fun c16 => ?_)
        · skip
          have hcr := hD.rng (by omega)
          refine r_iload hX dX6_search_21 rfl ?_
          refine r_aload_n hX dX6_search_23 rfl ?_
          refine r_callV hX dX6_search_24 (k_M_cells l w σ7) mf_X6_cells mv_X6_cells lk_RX6_133 rfl rfl rfl rfl rfl ⟨Nat.le_of_ble_eq_true rfl, Nat.le_of_ble_eq_true rfl⟩ (Nat.le_of_ble_eq_true rfl) (kI fun z24 σ24 hh => ?_)
          obtain ⟨rfl, h24_0, h24_1⟩ := hh
          have q24_1 : σ7 65 = σ 65 := (m7.at 65 rfl)
          have q24_2 : σ7 66 = σ 66 := (m7.at 66 rfl)
          try simp only [q24_1, q24_2] at h24_0
          refine r_iload_n hX dX6_search_27 rfl ?_
          have hx : z24 * bt = σ 65 0 * σ 66 0 * bt := by rw [h24_0]
          refine r_imul hX dX6_search_28 ?_
          refine r_icmp_ne hX (tgt := 65) dX6_search_29 (by decide) (by omega) (by omega) (fun c29 => ?_) (fun c29 => ?_)
          · skip
            refine r_iload_n hX dX6_search_65 rfl ?_
            refine r_sipush hX dX6_search_66 (by decide) ?_
            refine r_icmp_ne hX (tgt := 75) dX6_search_69 (by decide) (by omega) (by omega) (fun c69 => ?_) (fun c69 => ?_)
            · skip
              refine r_iinc hX (fun x75 => [some (.ref (w.2.2 27)), some (.int (iI bt)), some (.int (iI x75)), some (.int (iI a)), some (.int (iI ch)), none]) dX6_search_75 rfl rfl rfl (fun _ => rfl) (fun x75 e75 => ?_)
              refine r_aload_n hX dX6_search_78 rfl ?_
              refine r_dup hX dX6_search_79 rfl ?_
              refine fg_X27_183 hX dX6_search_80 ?_
              refine r_iconst hX dX6_search_83 ?_
              refine r_iadd hX dX6_search_84 ?_
              refine fp_X27_183 hX dX6_search_85 (fun σ85 m85 s85 => ?_)
              have hq0 : 0 ≤ ch / bt := Int.ediv_nonneg hcr.1 (by omega)
              have hq1 : ch / bt < σ 65 0 * σ 66 0 := Int.ediv_lt_of_lt_mul (by omega) (by omega)
              have hq2 := Int.emod_nonneg ch (show bt ≠ 0 by omega)
              have hq3 := Int.emod_lt_of_pos ch (show (0 : Int) < bt by omega)
              refine r_aload_n hX dX6_search_88 rfl ?_
              refine fg_X27_57 hX dX6_search_89 ?_
              refine r_iload_n hX dX6_search_92 rfl ?_
              refine r_iload hX dX6_search_93 rfl ?_
              refine r_iload_n hX dX6_search_95 rfl ?_
              refine r_idiv hX dX6_search_96 (by omega) (by omega) (by omega) (by omega) ?_
              refine st_X41 hX dX6_search_97 (by omega) (by omega) (by omega) (fun σ97 m97 s97 => ?_)
              simp only [show σ85 41 = σ7 41 from (m85.at 41 rfl)] at s97
              refine r_aload_n hX dX6_search_98 rfl ?_
              refine fg_X27_60 hX dX6_search_99 ?_
              refine r_iload_n hX dX6_search_102 rfl ?_
              refine r_iload hX dX6_search_103 rfl ?_
              refine r_iload_n hX dX6_search_105 rfl ?_
              refine r_irem hX dX6_search_106 (by omega) (by omega) (by omega) (by omega) ?_
              refine st_X42 hX dX6_search_107 (by omega) (by omega) (by omega) (fun σ107 m107 s107 => ?_)
              simp only [show σ97 42 = σ7 42 from ((m97.at 42 rfl).trans (m85.at 42 rfl))] at s107
              refine r_aload_n hX dX6_search_108 rfl ?_
              refine r_iload_n hX dX6_search_109 rfl ?_
              refine r_iload_n hX dX6_search_110 rfl ?_
              have qp111_61 : σ107 61 = σ 61 := ((m107.at 61 rfl).trans ((m97.at 61 rfl).trans ((m85.at 61 rfl).trans (m7.at 61 rfl))))
              refine r_callV hX dX6_search_111 (k_M_goesAt l w σ107 _ _ (by omega) (by omega) (by simp only [qp111_61]; omega) (by omega)) mf_X6_goesAt mv_X6_goesAt lk_RX6_186 rfl rfl rfl rfl rfl ⟨Nat.le_of_ble_eq_true rfl, Nat.le_of_ble_eq_true rfl⟩ (Nat.le_of_ble_eq_true rfl) (kI fun z111 σ111 hh => ?_)
              obtain ⟨m111, h111_0⟩ := hh
              have q111_3 : σ107 41 = σ97 41 := (m107.at 41 rfl)
              have q111_4 : σ107 44 = σ 44 := ((m107.at 44 rfl).trans ((m97.at 44 rfl).trans ((m85.at 44 rfl).trans (m7.at 44 rfl))))
              try simp only [q111_3, q111_4] at h111_0
              have hgo : (z111 = 1 ∧ GoesM σ (σ 44) bt (σ111 41) (σ111 42) a) ∨ (z111 = 0 ∧ ¬ GoesM σ (σ 44) bt (σ111 41) (σ111 42) a) := by
                rw [m111.at 41 rfl, m111.at 42 rfl, m107.at 41 rfl, ← GoesM_keep (L := [41, 42, 43, 67]) (Mod.tr (L := [41, 42, 43, 67]) (Mod.tr (L := [41, 42, 43, 67]) (Mod.tr (L := [41, 42, 43, 67]) m7 m85 rfl rfl) m97 rfl rfl) m107 rfl rfl) rfl]
                exact h111_0
              have hz111 : z111 = 0 ∨ z111 = 1 := by rcases hgo with q | q; exact Or.inr q.1; exact Or.inl q.1
              refine r_istore hX (fun x114 => [some (.ref (w.2.2 27)), some (.int (iI bt)), some (.int (iI x75)), some (.int (iI a)), some (.int (iI ch)), some (.int (iI x114))]) dX6_search_114 (Nat.le_of_ble_eq_true rfl) rfl rfl (fun _ => rfl) (fun x114 e114 => ?_)
              refine r_iload_n hX dX6_search_116 rfl ?_
              refine r_iload hX dX6_search_117 rfl ?_
              refine r_if_eq hX (tgt := 126) dX6_search_119 (by decide) (by omega) (fun c119 => ?_) (fun c119 => ?_)
              · skip
                refine r_iconst hX dX6_search_126 ?_
                refine r_iadd hX dX6_search_127 ?_
                refine r_istore_n hX (fun x128 => [some (.ref (w.2.2 27)), some (.int (iI bt)), some (.int (iI x75)), some (.int (iI x128)), some (.int (iI ch)), some (.int (iI x114))]) dX6_search_128 (Nat.le_of_ble_eq_true rfl) rfl rfl (fun _ => rfl) (fun x128 e128 => ?_)
                refine r_iload hX dX6_search_129 rfl ?_
                refine r_if_eq hX (tgt := 138) dX6_search_131 (by decide) (by omega) (fun c131 => ?_) (fun c131 => ?_)
                · skip
                  refine r_iload hX dX6_search_138 rfl ?_
                  refine r_iconst hX dX6_search_140 ?_
                  refine r_iadd hX dX6_search_141 ?_
                  refine r_istore hX (fun x142 => [some (.ref (w.2.2 27)), some (.int (iI bt)), some (.int (iI x75)), some (.int (iI x128)), some (.int (iI x142)), some (.int (iI x114))]) dX6_search_142 (Nat.le_of_ble_eq_true rfl) rfl rfl (fun _ => rfl) (fun x142 e142 => ?_)
                  refine r_goto hX dX6_search_144 (tgt := 7) (by decide) ?_
                  refine r_wk hX (lv1 := [some (.ref (w.2.2 27)), some (.int (iI bt)), some (.int (iI x75)), some (.int (iI x128)), some (.int (iI x142)), none]) ⟨rfl, ⟨rfl, ⟨rfl, ⟨rfl, ⟨rfl, trivial⟩⟩⟩⟩⟩ ?_
                  exact ih7 x75 x128 x142 σ111 (Mod.tr (L := [41, 42, 43, 67]) (Mod.tr (L := [41, 42, 43, 67]) (Mod.tr (L := [41, 42, 43, 67]) (Mod.tr (L := [41, 42, 43, 67]) m7 m85 rfl rfl) m97 rfl rfl) m107 rfl rfl) m111 rfl rfl) (by omega) (by omega) (by first | exact hD.back (by omega) (by omega) (by omega) (by omega) e32 (fun q => by first | exact e60 | (exfalso; omega)) | exact hD.go (by omega) (by omega) (by omega) (by omega) (by omega) (fun b => by rw [m111.at 41 rfl, m107.at 41 rfl]; exact s97 b) (fun b => by rw [m111.at 42 rfl]; exact s107 b) hgo (by omega) e75) (by omega)
                · skip
                  refine r_iconst hX dX6_search_134 ?_
                  refine r_goto hX dX6_search_135 (tgt := 142) (by decide) ?_
                  refine r_istore hX (fun x142 => [some (.ref (w.2.2 27)), some (.int (iI bt)), some (.int (iI x75)), some (.int (iI x128)), some (.int (iI x142)), some (.int (iI x114))]) dX6_search_142 (Nat.le_of_ble_eq_true rfl) rfl rfl (fun _ => rfl) (fun x142 e142 => ?_)
                  refine r_goto hX dX6_search_144 (tgt := 7) (by decide) ?_
                  refine r_wk hX (lv1 := [some (.ref (w.2.2 27)), some (.int (iI bt)), some (.int (iI x75)), some (.int (iI x128)), some (.int (iI x142)), none]) ⟨rfl, ⟨rfl, ⟨rfl, ⟨rfl, ⟨rfl, trivial⟩⟩⟩⟩⟩ ?_
                  exact ih7 x75 x128 x142 σ111 (Mod.tr (L := [41, 42, 43, 67]) (Mod.tr (L := [41, 42, 43, 67]) (Mod.tr (L := [41, 42, 43, 67]) (Mod.tr (L := [41, 42, 43, 67]) m7 m85 rfl rfl) m97 rfl rfl) m107 rfl rfl) m111 rfl rfl) (by omega) (by omega) (by first | exact hD.back (by omega) (by omega) (by omega) (by omega) e32 (fun q => by first | exact e60 | (exfalso; omega)) | exact hD.go (by omega) (by omega) (by omega) (by omega) (by omega) (fun b => by rw [m111.at 41 rfl, m107.at 41 rfl]; exact s97 b) (fun b => by rw [m111.at 42 rfl]; exact s107 b) hgo (by omega) e75) (by omega)
              · skip
                refine r_iconst hX dX6_search_122 ?_
                refine r_goto hX dX6_search_123 (tgt := 127) (by decide) ?_
                refine r_iadd hX dX6_search_127 ?_
                refine r_istore_n hX (fun x128 => [some (.ref (w.2.2 27)), some (.int (iI bt)), some (.int (iI x75)), some (.int (iI x128)), some (.int (iI ch)), some (.int (iI x114))]) dX6_search_128 (Nat.le_of_ble_eq_true rfl) rfl rfl (fun _ => rfl) (fun x128 e128 => ?_)
                refine r_iload hX dX6_search_129 rfl ?_
                refine r_if_eq hX (tgt := 138) dX6_search_131 (by decide) (by omega) (fun c131 => ?_) (fun c131 => ?_)
                · skip
                  refine r_iload hX dX6_search_138 rfl ?_
                  refine r_iconst hX dX6_search_140 ?_
                  refine r_iadd hX dX6_search_141 ?_
                  refine r_istore hX (fun x142 => [some (.ref (w.2.2 27)), some (.int (iI bt)), some (.int (iI x75)), some (.int (iI x128)), some (.int (iI x142)), some (.int (iI x114))]) dX6_search_142 (Nat.le_of_ble_eq_true rfl) rfl rfl (fun _ => rfl) (fun x142 e142 => ?_)
                  refine r_goto hX dX6_search_144 (tgt := 7) (by decide) ?_
                  refine r_wk hX (lv1 := [some (.ref (w.2.2 27)), some (.int (iI bt)), some (.int (iI x75)), some (.int (iI x128)), some (.int (iI x142)), none]) ⟨rfl, ⟨rfl, ⟨rfl, ⟨rfl, ⟨rfl, trivial⟩⟩⟩⟩⟩ ?_
                  exact ih7 x75 x128 x142 σ111 (Mod.tr (L := [41, 42, 43, 67]) (Mod.tr (L := [41, 42, 43, 67]) (Mod.tr (L := [41, 42, 43, 67]) (Mod.tr (L := [41, 42, 43, 67]) m7 m85 rfl rfl) m97 rfl rfl) m107 rfl rfl) m111 rfl rfl) (by omega) (by omega) (by first | exact hD.back (by omega) (by omega) (by omega) (by omega) e32 (fun q => by first | exact e60 | (exfalso; omega)) | exact hD.go (by omega) (by omega) (by omega) (by omega) (by omega) (fun b => by rw [m111.at 41 rfl, m107.at 41 rfl]; exact s97 b) (fun b => by rw [m111.at 42 rfl]; exact s107 b) hgo (by omega) e75) (by omega)
                · skip
                  refine r_iconst hX dX6_search_134 ?_
                  refine r_goto hX dX6_search_135 (tgt := 142) (by decide) ?_
                  refine r_istore hX (fun x142 => [some (.ref (w.2.2 27)), some (.int (iI bt)), some (.int (iI x75)), some (.int (iI x128)), some (.int (iI x142)), some (.int (iI x114))]) dX6_search_142 (Nat.le_of_ble_eq_true rfl) rfl rfl (fun _ => rfl) (fun x142 e142 => ?_)
                  refine r_goto hX dX6_search_144 (tgt := 7) (by decide) ?_
                  refine r_wk hX (lv1 := [some (.ref (w.2.2 27)), some (.int (iI bt)), some (.int (iI x75)), some (.int (iI x128)), some (.int (iI x142)), none]) ⟨rfl, ⟨rfl, ⟨rfl, ⟨rfl, ⟨rfl, trivial⟩⟩⟩⟩⟩ ?_
                  exact ih7 x75 x128 x142 σ111 (Mod.tr (L := [41, 42, 43, 67]) (Mod.tr (L := [41, 42, 43, 67]) (Mod.tr (L := [41, 42, 43, 67]) (Mod.tr (L := [41, 42, 43, 67]) m7 m85 rfl rfl) m97 rfl rfl) m107 rfl rfl) m111 rfl rfl) (by omega) (by omega) (by first | exact hD.back (by omega) (by omega) (by omega) (by omega) e32 (fun q => by first | exact e60 | (exfalso; omega)) | exact hD.go (by omega) (by omega) (by omega) (by omega) (by omega) (fun b => by rw [m111.at 41 rfl, m107.at 41 rfl]; exact s97 b) (fun b => by rw [m111.at 42 rfl]; exact s107 b) hgo (by omega) e75) (by omega)
            · skip
              refine r_bipush hX dX6_search_72 (by decide) ?_
              exact r_iret hX dX6_search_74 rfl ⟨_, rfl, ⟨(m7.w rfl), (by exact hD.fin (by omega) hc (Or.inr (Or.inr ⟨by omega, by omega, by omega, by omega, rfl⟩)))⟩⟩
          · skip
            refine r_iinc hX (fun x32 => [some (.ref (w.2.2 27)), some (.int (iI bt)), some (.int (iI used)), some (.int (iI x32)), some (.int (iI ch)), none]) dX6_search_32 rfl rfl rfl (fun _ => rfl) (fun x32 e32 => ?_)
            refine r_iload_n hX dX6_search_35 rfl ?_
            refine r_if_ge hX (tgt := 43) dX6_search_36 (by decide) (by omega) (fun c36 => ?_) (fun c36 => ?_)
            · skip
              refine r_aload_n hX dX6_search_43 rfl ?_
              refine fg_X27_57 hX dX6_search_44 ?_
              refine r_iload_n hX dX6_search_47 rfl ?_
              refine ld_X41 hX dX6_search_48 (by omega) (by omega) (fun b48l b48u => ?_)
              refine r_iload_n hX dX6_search_49 rfl ?_
              refine r_imul hX dX6_search_50 ?_
              refine r_aload_n hX dX6_search_51 rfl ?_
              refine fg_X27_60 hX dX6_search_52 ?_
              refine r_iload_n hX dX6_search_55 rfl ?_
              refine ld_X42 hX dX6_search_56 (by omega) (by omega) (fun b56l b56u => ?_)
              refine r_iadd hX dX6_search_57 ?_
              refine r_iconst hX dX6_search_58 ?_
              refine r_iadd hX dX6_search_59 ?_
              refine r_istore hX (fun x60 => [some (.ref (w.2.2 27)), some (.int (iI bt)), some (.int (iI used)), some (.int (iI x32)), some (.int (iI x60)), none]) dX6_search_60 (Nat.le_of_ble_eq_true rfl) rfl rfl (fun _ => rfl) (fun x60 e60 => ?_)
              refine r_goto hX dX6_search_62 (tgt := 7) (by decide) ?_
              exact ih7 used x32 x60 σ7 (m7.w rfl) (by omega) (by omega) (by first | exact hD.back (by omega) (by omega) (by omega) (by omega) e32 (fun q => by first | exact e60 | (exfalso; omega)) | exact hD.go (by omega) (by omega) (by omega) (by omega) (by omega) (fun b => by rw [m111.at 41 rfl, m107.at 41 rfl]; exact s97 b) (fun b => by rw [m111.at 42 rfl]; exact s107 b) hgo (by omega) e75) (by omega)
            · skip
              refine r_iconst hX dX6_search_39 ?_
              refine r_goto hX dX6_search_40 (tgt := 60) (by decide) ?_
              refine r_istore hX (fun x60 => [some (.ref (w.2.2 27)), some (.int (iI bt)), some (.int (iI used)), some (.int (iI x32)), some (.int (iI x60)), none]) dX6_search_60 (Nat.le_of_ble_eq_true rfl) rfl rfl (fun _ => rfl) (fun x60 e60 => ?_)
              refine r_goto hX dX6_search_62 (tgt := 7) (by decide) ?_
              exact ih7 used x32 x60 σ7 (m7.w rfl) (by omega) (by omega) (by first | exact hD.back (by omega) (by omega) (by omega) (by omega) e32 (fun q => by first | exact e60 | (exfalso; omega)) | exact hD.go (by omega) (by omega) (by omega) (by omega) (by omega) (fun b => by rw [m111.at 41 rfl, m107.at 41 rfl]; exact s97 b) (fun b => by rw [m111.at 42 rfl]; exact s107 b) hgo (by omega) e75) (by omega)
        · skip
          refine r_iconst hX dX6_search_19 ?_
          exact r_iret hX dX6_search_20 rfl ⟨_, rfl, ⟨(m7.w rfl), (by exact hD.fin (by omega) hc (Or.inl ⟨by omega, rfl⟩))⟩⟩
  exact lp7 ((2 * (20000 - (x1)) + (x3) + 2) + 1).toNat x1 x3 x5 σ Mod.rf (by omega) (by omega) (DIm.init e3 e5 e1 hpl.1) (by omega)
theorem dX6_find_0 : decode cX6_find 0 = .ok (.aload_n 0, 1) := by decide +kernel
theorem dX6_find_1 : decode cX6_find 1 = .ok (.getfield 72, 3) := by decide +kernel
theorem dX6_find_4 : decode cX6_find 4 = .ok (.ifCond .ne 6, 3) := by decide +kernel
theorem dX6_find_7 : decode cX6_find 7 = .ok (.bipush (-3), 2) := by decide +kernel
theorem dX6_find_9 : decode cX6_find 9 = .ok (.ireturn, 1) := by decide +kernel
theorem dX6_find_10 : decode cX6_find 10 = .ok (.aload_n 0, 1) := by decide +kernel
theorem dX6_find_11 : decode cX6_find 11 = .ok (.invokevirtual 109, 3) := by decide +kernel
theorem dX6_find_14 : decode cX6_find 14 = .ok (.ifCond .ne 6, 3) := by decide +kernel
theorem dX6_find_17 : decode cX6_find 17 = .ok (.bipush (-5), 2) := by decide +kernel
theorem dX6_find_19 : decode cX6_find 19 = .ok (.ireturn, 1) := by decide +kernel
theorem dX6_find_20 : decode cX6_find 20 = .ok (.aload_n 0, 1) := by decide +kernel
theorem dX6_find_21 : decode cX6_find 21 = .ok (.iconst 0, 1) := by decide +kernel
theorem dX6_find_22 : decode cX6_find 22 = .ok (.putfield 183, 3) := by decide +kernel
theorem dX6_find_25 : decode cX6_find 25 = .ok (.aload_n 0, 1) := by decide +kernel
theorem dX6_find_26 : decode cX6_find 26 = .ok (.invokevirtual 171, 3) := by decide +kernel
theorem dX6_find_29 : decode cX6_find 29 = .ok (.istore_n 1, 1) := by decide +kernel
theorem dX6_find_30 : decode cX6_find 30 = .ok (.iload_n 1, 1) := by decide +kernel
theorem dX6_find_31 : decode cX6_find 31 = .ok (.ifCond .ge 6, 3) := by decide +kernel
theorem dX6_find_34 : decode cX6_find 34 = .ok (.bipush (-6), 2) := by decide +kernel
theorem dX6_find_36 : decode cX6_find 36 = .ok (.ireturn, 1) := by decide +kernel
theorem dX6_find_37 : decode cX6_find 37 = .ok (.aload_n 0, 1) := by decide +kernel
theorem dX6_find_38 : decode cX6_find 38 = .ok (.invokevirtual 174, 3) := by decide +kernel
theorem dX6_find_41 : decode cX6_find 41 = .ok (.istore_n 2, 1) := by decide +kernel
theorem dX6_find_42 : decode cX6_find 42 = .ok (.iconst 0, 1) := by decide +kernel
theorem dX6_find_43 : decode cX6_find 43 = .ok (.istore_n 3, 1) := by decide +kernel
theorem dX6_find_44 : decode cX6_find 44 = .ok (.iload_n 3, 1) := by decide +kernel
theorem dX6_find_45 : decode cX6_find 45 = .ok (.aload_n 0, 1) := by decide +kernel
theorem dX6_find_46 : decode cX6_find 46 = .ok (.invokevirtual 133, 3) := by decide +kernel
theorem dX6_find_49 : decode cX6_find 49 = .ok (.if_icmp .ge 46, 3) := by decide +kernel
theorem dX6_find_52 : decode cX6_find 52 = .ok (.iconst 0, 1) := by decide +kernel
theorem dX6_find_53 : decode cX6_find 53 = .ok (.istore 4, 2) := by decide +kernel
theorem dX6_find_55 : decode cX6_find 55 = .ok (.iload 4, 2) := by decide +kernel
theorem dX6_find_57 : decode cX6_find 57 = .ok (.aload_n 0, 1) := by decide +kernel
theorem dX6_find_58 : decode cX6_find 58 = .ok (.invokevirtual 133, 3) := by decide +kernel
theorem dX6_find_61 : decode cX6_find 61 = .ok (.if_icmp .ge 28, 3) := by decide +kernel
theorem dX6_find_64 : decode cX6_find 64 = .ok (.aload_n 0, 1) := by decide +kernel
theorem dX6_find_65 : decode cX6_find 65 = .ok (.getfield 66, 3) := by decide +kernel
theorem dX6_find_68 : decode cX6_find 68 = .ok (.bipush 9, 2) := by decide +kernel
theorem dX6_find_70 : decode cX6_find 70 = .ok (.iload_n 3, 1) := by decide +kernel
theorem dX6_find_71 : decode cX6_find 71 = .ok (.imul, 1) := by decide +kernel
theorem dX6_find_72 : decode cX6_find 72 = .ok (.iload 4, 2) := by decide +kernel
theorem dX6_find_74 : decode cX6_find 74 = .ok (.iadd, 1) := by decide +kernel
theorem dX6_find_75 : decode cX6_find 75 = .ok (.aload_n 0, 1) := by decide +kernel
theorem dX6_find_76 : decode cX6_find 76 = .ok (.iload_n 3, 1) := by decide +kernel
theorem dX6_find_77 : decode cX6_find 77 = .ok (.iload 4, 2) := by decide +kernel
theorem dX6_find_79 : decode cX6_find 79 = .ok (.invokevirtual 144, 3) := by decide +kernel
theorem dX6_find_82 : decode cX6_find 82 = .ok (.iastore, 1) := by decide +kernel
theorem dX6_find_83 : decode cX6_find 83 = .ok (.iinc 4 1, 3) := by decide +kernel
theorem dX6_find_86 : decode cX6_find 86 = .ok (.goto (-31), 3) := by decide +kernel
theorem dX6_find_89 : decode cX6_find 89 = .ok (.iinc 3 1, 3) := by decide +kernel
theorem dX6_find_92 : decode cX6_find 92 = .ok (.goto (-48), 3) := by decide +kernel
theorem dX6_find_95 : decode cX6_find 95 = .ok (.iload_n 2, 1) := by decide +kernel
theorem dX6_find_96 : decode cX6_find 96 = .ok (.iload_n 1, 1) := by decide +kernel
theorem dX6_find_97 : decode cX6_find 97 = .ok (.if_icmp .le 7, 3) := by decide +kernel
theorem dX6_find_100 : decode cX6_find 100 = .ok (.iload_n 2, 1) := by decide +kernel
theorem dX6_find_101 : decode cX6_find 101 = .ok (.goto 4, 3) := by decide +kernel
theorem dX6_find_104 : decode cX6_find 104 = .ok (.iload_n 1, 1) := by decide +kernel
theorem dX6_find_105 : decode cX6_find 105 = .ok (.istore_n 3, 1) := by decide +kernel
theorem dX6_find_106 : decode cX6_find 106 = .ok (.iload_n 3, 1) := by decide +kernel
theorem dX6_find_107 : decode cX6_find 107 = .ok (.bipush 12, 2) := by decide +kernel
theorem dX6_find_109 : decode cX6_find 109 = .ok (.if_icmp .gt 118, 3) := by decide +kernel
theorem dX6_find_112 : decode cX6_find 112 = .ok (.aload_n 0, 1) := by decide +kernel
theorem dX6_find_113 : decode cX6_find 113 = .ok (.iload_n 3, 1) := by decide +kernel
theorem dX6_find_114 : decode cX6_find 114 = .ok (.invokevirtual 189, 3) := by decide +kernel
theorem dX6_find_117 : decode cX6_find 117 = .ok (.istore 4, 2) := by decide +kernel
theorem dX6_find_119 : decode cX6_find 119 = .ok (.iload 4, 2) := by decide +kernel
theorem dX6_find_121 : decode cX6_find 121 = .ok (.ifCond .ge 6, 3) := by decide +kernel
theorem dX6_find_124 : decode cX6_find 124 = .ok (.iload 4, 2) := by decide +kernel
theorem dX6_find_126 : decode cX6_find 126 = .ok (.ireturn, 1) := by decide +kernel
theorem dX6_find_127 : decode cX6_find 127 = .ok (.iload 4, 2) := by decide +kernel
theorem dX6_find_129 : decode cX6_find 129 = .ok (.iconst 1, 1) := by decide +kernel
theorem dX6_find_130 : decode cX6_find 130 = .ok (.if_icmp .ne 91, 3) := by decide +kernel
theorem dX6_find_133 : decode cX6_find 133 = .ok (.aload_n 0, 1) := by decide +kernel
theorem dX6_find_134 : decode cX6_find 134 = .ok (.aload_n 0, 1) := by decide +kernel
theorem dX6_find_135 : decode cX6_find 135 = .ok (.getfield 72, 3) := by decide +kernel
theorem dX6_find_138 : decode cX6_find 138 = .ok (.iload_n 3, 1) := by decide +kernel
theorem dX6_find_139 : decode cX6_find 139 = .ok (.invokevirtual 180, 3) := by decide +kernel
theorem dX6_find_142 : decode cX6_find 142 = .ok (.istore 5, 2) := by decide +kernel
theorem dX6_find_144 : decode cX6_find 144 = .ok (.aload_n 0, 1) := by decide +kernel
theorem dX6_find_145 : decode cX6_find 145 = .ok (.iload 5, 2) := by decide +kernel
theorem dX6_find_147 : decode cX6_find 147 = .ok (.ifCond .eq 7, 3) := by decide +kernel
theorem dX6_find_150 : decode cX6_find 150 = .ok (.iload_n 3, 1) := by decide +kernel
theorem dX6_find_151 : decode cX6_find 151 = .ok (.goto 4, 3) := by decide +kernel
theorem dX6_find_154 : decode cX6_find 154 = .ok (.iconst 0, 1) := by decide +kernel
theorem dX6_find_155 : decode cX6_find 155 = .ok (.putfield 79, 3) := by decide +kernel
theorem dX6_find_158 : decode cX6_find 158 = .ok (.aload_n 0, 1) := by decide +kernel
theorem dX6_find_159 : decode cX6_find 159 = .ok (.iconst 0, 1) := by decide +kernel
theorem dX6_find_160 : decode cX6_find 160 = .ok (.putfield 82, 3) := by decide +kernel
theorem dX6_find_163 : decode cX6_find 163 = .ok (.iconst 0, 1) := by decide +kernel
theorem dX6_find_164 : decode cX6_find 164 = .ok (.istore 6, 2) := by decide +kernel
theorem dX6_find_166 : decode cX6_find 166 = .ok (.iload 6, 2) := by decide +kernel
theorem dX6_find_168 : decode cX6_find 168 = .ok (.aload_n 0, 1) := by decide +kernel
theorem dX6_find_169 : decode cX6_find 169 = .ok (.getfield 72, 3) := by decide +kernel
theorem dX6_find_172 : decode cX6_find 172 = .ok (.if_icmp .ge 47, 3) := by decide +kernel
theorem dX6_find_175 : decode cX6_find 175 = .ok (.aload_n 0, 1) := by decide +kernel
theorem dX6_find_176 : decode cX6_find 176 = .ok (.getfield 48, 3) := by decide +kernel
theorem dX6_find_179 : decode cX6_find 179 = .ok (.iload 6, 2) := by decide +kernel
theorem dX6_find_181 : decode cX6_find 181 = .ok (.aload_n 0, 1) := by decide +kernel
theorem dX6_find_182 : decode cX6_find 182 = .ok (.getfield 57, 3) := by decide +kernel
theorem dX6_find_185 : decode cX6_find 185 = .ok (.iload 6, 2) := by decide +kernel
theorem dX6_find_187 : decode cX6_find 187 = .ok (.iaload, 1) := by decide +kernel
theorem dX6_find_188 : decode cX6_find 188 = .ok (.iastore, 1) := by decide +kernel
theorem dX6_find_189 : decode cX6_find 189 = .ok (.aload_n 0, 1) := by decide +kernel
theorem dX6_find_190 : decode cX6_find 190 = .ok (.getfield 51, 3) := by decide +kernel
theorem dX6_find_193 : decode cX6_find 193 = .ok (.iload 6, 2) := by decide +kernel
theorem dX6_find_195 : decode cX6_find 195 = .ok (.aload_n 0, 1) := by decide +kernel
theorem dX6_find_196 : decode cX6_find 196 = .ok (.getfield 60, 3) := by decide +kernel
theorem dX6_find_199 : decode cX6_find 199 = .ok (.iload 6, 2) := by decide +kernel
theorem dX6_find_201 : decode cX6_find 201 = .ok (.iaload, 1) := by decide +kernel
theorem dX6_find_202 : decode cX6_find 202 = .ok (.iload_n 3, 1) := by decide +kernel
theorem dX6_find_203 : decode cX6_find 203 = .ok (.aload_n 0, 1) := by decide +kernel
theorem dX6_find_204 : decode cX6_find 204 = .ok (.getfield 63, 3) := by decide +kernel
theorem dX6_find_207 : decode cX6_find 207 = .ok (.iload 6, 2) := by decide +kernel
theorem dX6_find_209 : decode cX6_find 209 = .ok (.iaload, 1) := by decide +kernel
theorem dX6_find_210 : decode cX6_find 210 = .ok (.imul, 1) := by decide +kernel
theorem dX6_find_211 : decode cX6_find 211 = .ok (.iadd, 1) := by decide +kernel
theorem dX6_find_212 : decode cX6_find 212 = .ok (.iastore, 1) := by decide +kernel
theorem dX6_find_213 : decode cX6_find 213 = .ok (.iinc 6 1, 3) := by decide +kernel
theorem dX6_find_216 : decode cX6_find 216 = .ok (.goto (-50), 3) := by decide +kernel
theorem dX6_find_219 : decode cX6_find 219 = .ok (.iload_n 3, 1) := by decide +kernel
theorem dX6_find_220 : decode cX6_find 220 = .ok (.ireturn, 1) := by decide +kernel
theorem dX6_find_221 : decode cX6_find 221 = .ok (.iinc 3 1, 3) := by decide +kernel
theorem dX6_find_224 : decode cX6_find 224 = .ok (.goto (-118), 3) := by decide +kernel
theorem dX6_find_227 : decode cX6_find 227 = .ok (.bipush (-6), 2) := by decide +kernel
theorem dX6_find_229 : decode cX6_find 229 = .ok (.ireturn, 1) := by decide +kernel
set_option maxRecDepth 20000 in
set_option maxHeartbeats 4000000 in
theorem k_M_find (l : Launch) (w : WT) (σ : MM) (W : Int → Int) (hW : WayM σ W) : CT SX l w yX6_find cX6_find 7 (some .int) 4 99 [.ref (w.2.2 27)] σ (PI fun z σ1 => Mod [33, 37, 38, 39, 40, 41, 42, 43, 44, 63, 64, 67] σ σ1 ∧ (FndM σ σ1 W z)) := by
  refine CT.of 6 [some (.ref (w.2.2 27)), none, none, none, none, none, none] (by decide +kernel) (by simp [lg_sl, Value.category]) rfl sh_X (fun G hX => ?_)
  refine r_bd hX (fun hBd => ?_)
  have b_61 := hBd 61 0 8 rfl 0
  have b_63 := hBd 63 0 12 rfl 0
  have b_65 := hBd 65 1 3 rfl 0
  have b_66 := hBd 66 1 3 rfl 0
  have hn := mul_bd b_65 b_66
  have hop : ∀ s, 0 ≤ σ 29 s ∧ σ 29 s ≤ 7 := fun s => hBd 29 0 7 rfl s
  refine r_aload_n hX dX6_find_0 rfl ?_
  refine fg_X27_72 hX dX6_find_1 (fun b1l b1u => ?_)
  refine r_if_ne hX (tgt := 10) dX6_find_4 (by decide) (by omega) (fun c4 => ?_) (fun c4 => ?_)
  · skip
    refine r_aload_n hX dX6_find_10 rfl ?_
    refine r_callV hX dX6_find_11 (k_M_isSound l w σ) mf_X6_isSound mv_X6_isSound lk_RX6_109 rfl rfl rfl rfl rfl ⟨Nat.le_of_ble_eq_true rfl, Nat.le_of_ble_eq_true rfl⟩ (Nat.le_of_ble_eq_true rfl) (kI fun z11 σ11 hh => ?_)
    obtain ⟨m11, h11_0⟩ := hh
    refine r_if_ne hX (tgt := 20) dX6_find_14 (by decide) (by omega) (fun c14 => ?_) (fun c14 => ?_)
    · skip
      have hsn : SndM σ := cf_yes h11_0 (by omega)
      refine r_aload_n hX dX6_find_20 rfl ?_
      refine r_iconst hX dX6_find_21 ?_
      refine fp_X27_183 hX dX6_find_22 (fun σ22 m22 s22 => ?_)
      refine r_aload_n hX dX6_find_25 rfl ?_
      refine r_callV hX dX6_find_26 (k_M_places l w σ22) mf_X6_places mv_X6_places lk_RX6_171 rfl rfl rfl rfl rfl ⟨Nat.le_of_ble_eq_true rfl, Nat.le_of_ble_eq_true rfl⟩ (Nat.le_of_ble_eq_true rfl) (kI fun z26 σ26 hh => ?_)
      obtain ⟨rfl, h26_0, h26_1, h26_2⟩ := hh
      refine r_istore_n hX (fun x29 => [some (.ref (w.2.2 27)), some (.int (iI x29)), none, none, none, none, none]) dX6_find_29 (Nat.le_of_ble_eq_true rfl) rfl rfl (fun _ => rfl) (fun x29 e29 => ?_)
      have hpb : PLm σ x29 := by rw [e29]; exact (PLm_keep (L := [33, 67]) (Mod.tr (L := [33, 67]) m11 m22 rfl rfl) rfl _).mp h26_0
      refine r_iload_n hX dX6_find_30 rfl ?_
      refine r_if_ge hX (tgt := 37) dX6_find_31 (by decide) (by omega) (fun c31 => ?_) (fun c31 => ?_)
      · skip
        refine r_aload_n hX dX6_find_37 rfl ?_
        refine r_callV hX dX6_find_38 (k_M_rings l w σ22 (hsn.keep (L := [33, 67]) (Mod.tr (L := [33, 67]) m11 m22 rfl rfl) rfl)) mf_X6_rings mv_X6_rings lk_RX6_174 rfl rfl rfl rfl rfl ⟨Nat.le_of_ble_eq_true rfl, Nat.le_of_ble_eq_true rfl⟩ (Nat.le_of_ble_eq_true rfl) (kI fun z38 σ38 hh => ?_)
        obtain ⟨m38, h38_0⟩ := hh
        refine r_istore_n hX (fun x41 => [some (.ref (w.2.2 27)), some (.int (iI x29)), some (.int (iI x41)), none, none, none, none]) dX6_find_41 (Nat.le_of_ble_eq_true rfl) rfl rfl (fun _ => rfl) (fun x41 e41 => ?_)
        have hrb : RBm σ x41 := by rw [e41]; exact (RBm_keep (L := [33, 67]) (Mod.tr (L := [33, 67]) m11 m22 rfl rfl) rfl _).mp h38_0
        have hr41 := hrb.1
        refine r_iconst hX dX6_find_42 ?_
        refine r_istore_n hX (fun x43 => [some (.ref (w.2.2 27)), some (.int (iI x29)), some (.int (iI x41)), some (.int (iI x43)), none, none, none]) dX6_find_43 (Nat.le_of_ble_eq_true rfl) rfl rfl (fun _ => rfl) (fun x43 e43 => ?_)
        have lp44 : ∀ (n : Nat) (i : Int) (σ44 : MM) (m44 : Mod [37, 44] σ38 σ44) (hi : 0 ≤ i ∧ i ≤ σ 65 0 * σ 66 0) (hWy1 : ∀ u v : Int, 0 ≤ u → u < i → 0 ≤ v → v < σ 65 0 * σ 66 0 → σ44 44 (9 * u + v) = W (u * 9 + v)) (hmu : 10 - i < (n : Int)), G 44 [some (.ref (w.2.2 27)), some (.int (iI x29)), some (.int (iI x41)), some (.int (iI i)), none, none, none] [] σ44 := by
          intro n
          induction n with
          | zero => intro i σ44 m44 hi hWy1 hmu; omega
          | succ n ih =>
            intro i σ44 m44 hi hWy1 hmu
            have ih44 := ih
            clear ih
            refine r_iload_n hX dX6_find_44 rfl ?_
            refine r_aload_n hX dX6_find_45 rfl ?_
            refine r_callV hX dX6_find_46 (k_M_cells l w σ44) mf_X6_cells mv_X6_cells lk_RX6_133 rfl rfl rfl rfl rfl ⟨Nat.le_of_ble_eq_true rfl, Nat.le_of_ble_eq_true rfl⟩ (Nat.le_of_ble_eq_true rfl) (kI fun z46 σ46 hh => ?_)
            obtain ⟨rfl, h46_0, h46_1⟩ := hh
            have q46_1 : σ44 65 = σ 65 := ((m44.at 65 rfl).trans ((m38.at 65 rfl).trans ((m22.at 65 rfl).trans (m11.at 65 rfl))))
            have q46_2 : σ44 66 = σ 66 := ((m44.at 66 rfl).trans ((m38.at 66 rfl).trans ((m22.at 66 rfl).trans (m11.at 66 rfl))))
            try simp only [q46_1, q46_2] at h46_0
            refine r_icmp_ge hX (tgt := 95) dX6_find_49 (by decide) (by omega) (by omega) (fun c49 => ?_) (fun c49 => ?_)
            · skip
              have hwy : WyM σ W (σ44 44) := fun u v u0 u1 v0 v1 => by
                have := hWy1 u v u0 (by omega) v0 v1
                rw [← this]; exact congrArg (σ44 44) (by omega)
              refine r_iload_n hX dX6_find_95 rfl ?_
              refine r_iload_n hX dX6_find_96 rfl ?_
              refine r_icmp_le hX (tgt := 104) dX6_find_97 (by decide) (by omega) (by omega) (fun c97 => ?_) (fun c97 => ?_)
              · skip
                refine r_iload_n hX dX6_find_104 rfl ?_
                refine r_istore_n hX (fun x105 => [some (.ref (w.2.2 27)), some (.int (iI x29)), some (.int (iI x41)), some (.int (iI x105)), none, none, none]) dX6_find_105 (Nat.le_of_ble_eq_true rfl) rfl rfl (fun _ => rfl) (fun x105 e105 => ?_)
                have lp106 : ∀ (n : Nat) (bt : Int) (σ106 : MM) (m106 : Mod [41, 42, 43, 67] σ44 σ106) (hbt : x105 ≤ bt ∧ 1 ≤ bt ∧ bt ≤ 16) (hO : ∀ b : Int, x105 ≤ b → b < bt → OutM σ W b 0) (hmu : 20 - bt < (n : Int)), G 106 [some (.ref (w.2.2 27)), some (.int (iI x29)), some (.int (iI x41)), some (.int (iI bt)), none, none, none] [] σ106 := by
                  intro n
                  induction n with
                  | zero => intro bt σ106 m106 hbt hO hmu; omega
                  | succ n ih =>
                    intro bt σ106 m106 hbt hO hmu
                    have ih106 := ih
                    clear ih
                    have hls : (x29 < x41 ∧ x105 = x41) ∨ (x41 ≤ x29 ∧ x105 = x29) := by omega
                    refine r_iload_n hX dX6_find_106 rfl ?_
                    refine r_bipush hX dX6_find_107 (by decide) ?_
                    refine r_icmp_gt hX (tgt := 227) dX6_find_109 (by decide) (by omega) (by omega) (fun c109 => ?_) (fun c109 => ?_)
                    · skip
                      refine r_bipush hX dX6_find_227 (by decide) ?_
                      exact r_iret hX dX6_find_229 rfl ⟨_, rfl, ⟨(Mod.tr (L := [33, 37, 38, 39, 40, 41, 42, 43, 44, 63, 64, 67]) (Mod.tr (L := [33, 37, 38, 39, 40, 41, 42, 43, 44, 63, 64, 67]) (Mod.tr (L := [33, 37, 38, 39, 40, 41, 42, 43, 44, 63, 64, 67]) (Mod.tr (L := [33, 37, 38, 39, 40, 41, 42, 43, 44, 63, 64, 67]) m11 m22 rfl rfl) m38 rfl rfl) m44 rfl rfl) m106 rfl rfl), (by exact FndM.go (by omega) hsn hpb (by omega) hrb hls hbt.1 hO (Or.inl ⟨by omega, rfl, SameQ.of (L := [33, 67, 40, 37, 44, 41, 42, 43]) (Mod.tr (L := [33, 67, 40, 37, 44, 41, 42, 43]) (Mod.tr (L := [33, 67, 40, 37, 44, 41, 42, 43]) (Mod.tr (L := [33, 67, 40, 37, 44, 41, 42, 43]) (Mod.tr (L := [33, 67, 40, 37, 44, 41, 42, 43]) m11 m22 rfl rfl) m38 rfl rfl) m44 rfl rfl) m106 rfl rfl) rfl⟩))⟩⟩
                    · skip
                      refine r_aload_n hX dX6_find_112 rfl ?_
                      refine r_iload_n hX dX6_find_113 rfl ?_
                      have qp114_61 : σ106 61 = σ 61 := ((m106.at 61 rfl).trans ((m44.at 61 rfl).trans ((m38.at 61 rfl).trans ((m22.at 61 rfl).trans (m11.at 61 rfl)))))
                      refine r_callV hX dX6_find_114 (k_M_search l w σ106 _ (by omega) (by omega) (by simp only [qp114_61]; omega)) mf_X6_search mv_X6_search lk_RX6_189 rfl rfl rfl rfl rfl ⟨Nat.le_of_ble_eq_true rfl, Nat.le_of_ble_eq_true rfl⟩ (Nat.le_of_ble_eq_true rfl) (kI fun z114 σ114 hh => ?_)
                      obtain ⟨m114, h114_0⟩ := hh
                      refine r_istore hX (fun x117 => [some (.ref (w.2.2 27)), some (.int (iI x29)), some (.int (iI x41)), some (.int (iI bt)), some (.int (iI x117)), none, none]) dX6_find_117 (Nat.le_of_ble_eq_true rfl) rfl rfl (fun _ => rfl) (fun x117 e117 => ?_)
                      have hDF : DFw σ σ114 W bt x117 := by
                        rw [e117]
                        refine DFm.ways h114_0 (L := [33, 67, 40, 37, 44, 41, 42, 43]) (Mod.tr (L := [33, 67, 40, 37, 44, 41, 42, 43]) (Mod.tr (L := [33, 67, 40, 37, 44, 41, 42, 43]) (Mod.tr (L := [33, 67, 40, 37, 44, 41, 42, 43]) (Mod.tr (L := [33, 67, 40, 37, 44, 41, 42, 43]) m11 m22 rfl rfl) m38 rfl rfl) m44 rfl rfl) m106 rfl rfl) rfl ?_ (by omega) (by omega) (by omega)
                        rw [m106.at 44 rfl]; exact hwy
                      have hzr := hDF.rng
                      have hMM : Mod [33, 67, 40, 37, 44, 41, 42, 43] σ σ114 := (Mod.tr (L := [33, 67, 40, 37, 44, 41, 42, 43]) (Mod.tr (L := [33, 67, 40, 37, 44, 41, 42, 43]) (Mod.tr (L := [33, 67, 40, 37, 44, 41, 42, 43]) (Mod.tr (L := [33, 67, 40, 37, 44, 41, 42, 43]) (Mod.tr (L := [33, 67, 40, 37, 44, 41, 42, 43]) m11 m22 rfl rfl) m38 rfl rfl) m44 rfl rfl) m106 rfl rfl) m114 rfl rfl)
                      refine r_iload hX dX6_find_119 rfl ?_
                      refine r_if_ge hX (tgt := 127) dX6_find_121 (by decide) (by omega) (fun c121 => ?_) (fun c121 => ?_)
                      · skip
                        refine r_iload hX dX6_find_127 rfl ?_
                        refine r_iconst hX dX6_find_129 ?_
                        refine r_icmp_ne hX (tgt := 221) dX6_find_130 (by decide) (by omega) (by omega) (fun c130 => ?_) (fun c130 => ?_)
                        · skip
                          refine r_iinc hX (fun x221 => [some (.ref (w.2.2 27)), some (.int (iI x29)), some (.int (iI x41)), some (.int (iI x221)), some (.int (iI x117)), none, none]) dX6_find_221 rfl rfl rfl (fun _ => rfl) (fun x221 e221 => ?_)
                          refine r_goto hX dX6_find_224 (tgt := 106) (by decide) ?_
                          refine r_wk hX (lv1 := [some (.ref (w.2.2 27)), some (.int (iI x29)), some (.int (iI x41)), some (.int (iI x221)), none, none, none]) ⟨rfl, ⟨rfl, ⟨rfl, ⟨rfl, trivial⟩⟩⟩⟩ ?_
                          exact ih106 x221 σ114 (Mod.tr (L := [41, 42, 43, 67]) m106 m114 rfl rfl) (by omega) (fun b b0 b1 => by
  by_cases q : b = bt
  · rw [q]; exact hDF.o0 (by omega)
  · exact hO b b0 (by omega)) (by omega)
                        · skip
                          refine r_aload_n hX dX6_find_133 rfl ?_
                          refine r_aload_n hX dX6_find_134 rfl ?_
                          refine fg_X27_72 hX dX6_find_135 (fun b135l b135u => ?_)
                          have q135 : σ114 61 = σ 61 := ((m114.at 61 rfl).trans ((m106.at 61 rfl).trans ((m44.at 61 rfl).trans ((m38.at 61 rfl).trans ((m22.at 61 rfl).trans (m11.at 61 rfl))))))
                          rw [q135]
                          rw [q135] at b135l b135u
                          refine r_iload_n hX dX6_find_138 rfl ?_
                          have qp139_61 : σ114 61 = σ 61 := ((m114.at 61 rfl).trans ((m106.at 61 rfl).trans ((m44.at 61 rfl).trans ((m38.at 61 rfl).trans ((m22.at 61 rfl).trans (m11.at 61 rfl))))))
                          refine r_callV hX dX6_find_139 (k_M_canStart l w σ114 _ _ (by omega) (by omega) (σ 61 0 - 1) (by simp only [qp139_61]; omega) (by omega)) mf_X6_canStart mv_X6_canStart lk_RX6_180 rfl rfl rfl rfl rfl ⟨Nat.le_of_ble_eq_true rfl, Nat.le_of_ble_eq_true rfl⟩ (Nat.le_of_ble_eq_true rfl) (kI fun z139 σ139 hh => ?_)
                          obtain ⟨m139, h139_0⟩ := hh
                          have q139_3 : σ114 28 = σ 28 := ((m114.at 28 rfl).trans ((m106.at 28 rfl).trans ((m44.at 28 rfl).trans ((m38.at 28 rfl).trans ((m22.at 28 rfl).trans (m11.at 28 rfl))))))
                          have q139_4 : σ114 29 = σ 29 := ((m114.at 29 rfl).trans ((m106.at 29 rfl).trans ((m44.at 29 rfl).trans ((m38.at 29 rfl).trans ((m22.at 29 rfl).trans (m11.at 29 rfl))))))
                          have q139_5 : σ114 44 = σ44 44 := ((m114.at 44 rfl).trans (m106.at 44 rfl))
                          try simp only [q139_3, q139_4, q139_5] at h139_0
                          have hgz := hDF.goes (by omega)
                          have hT : z139 = 1 ∧ LeastS (sM (σ 28) (σ 29)) (gapM σ (σ44 44) (σ114 41) (σ114 42) bt) (σ 61 0 - 1) (σ139 43) := by
                            have hk := GoesM.ways (W := σ44 44) (V := W) hgz.1 hwy.sy (by omega) (by omega) (fun l l0 l1 => hgz.2 l l0 (by omega))
                            have e28 : σ114 28 = σ 28 := hMM.at 28 rfl
                            have e29 : σ114 29 = σ 29 := hMM.at 29 rfl
                            have e30 : σ114 30 = σ 30 := hMM.at 30 rfl
                            have g := h139_0
                            simp only [gapM, e28, e29, e30] at g
                            rcases g with q | q
                            · exact ⟨q.1, q.2.2⟩
                            · exact absurd hk.2 q.2
                          refine r_istore hX (fun x142 => [some (.ref (w.2.2 27)), some (.int (iI x29)), some (.int (iI x41)), some (.int (iI bt)), some (.int (iI x117)), some (.int (iI x142)), none]) dX6_find_142 (Nat.le_of_ble_eq_true rfl) rfl rfl (fun _ => rfl) (fun x142 e142 => ?_)
                          refine r_aload_n hX dX6_find_144 rfl ?_
                          refine r_iload hX dX6_find_145 rfl ?_
                          refine r_if_eq hX (tgt := 154) dX6_find_147 (by decide) (by omega) (fun c147 => ?_) (fun c147 => ?_)
                          · skip
                            refine r_iconst hX dX6_find_154 ?_
                            refine fp_X27_79 hX dX6_find_155 (by omega) (fun σ155 m155 s155 => ?_)
                            refine r_aload_n hX dX6_find_158 rfl ?_
                            refine r_iconst hX dX6_find_159 ?_
                            refine fp_X27_82 hX dX6_find_160 (by omega) (fun σ160 m160 s160 => ?_)
                            refine r_iconst hX dX6_find_163 ?_
                            refine r_istore hX (fun x164 => [some (.ref (w.2.2 27)), some (.int (iI x29)), some (.int (iI x41)), some (.int (iI bt)), some (.int (iI x117)), some (.int (iI x142)), some (.int (iI x164))]) dX6_find_164 (Nat.le_of_ble_eq_true rfl) rfl rfl (fun _ => rfl) (fun x164 e164 => ?_)
                            have lp166 : ∀ (n : Nat) (i6 : Int) (σ166 : MM) (m166 : Mod [38, 39] σ160 σ166) (hi6 : 0 ≤ i6 ∧ i6 ≤ σ 61 0) (hcp : ∀ b : Int, 0 ≤ b → b < i6 → σ166 38 b = σ114 41 b ∧ σ166 39 b = σ114 42 b + bt * σ139 43 b) (hmu : 9 - i6 < (n : Int)), G 166 [some (.ref (w.2.2 27)), some (.int (iI x29)), some (.int (iI x41)), some (.int (iI bt)), some (.int (iI x117)), some (.int (iI x142)), some (.int (iI i6))] [] σ166 := by
                              intro n
                              induction n with
                              | zero => intro i6 σ166 m166 hi6 hcp hmu; omega
                              | succ n ih =>
                                intro i6 σ166 m166 hi6 hcp hmu
                                have ih166 := ih
                                clear ih
                                refine r_iload hX dX6_find_166 rfl ?_
                                refine r_aload_n hX dX6_find_168 rfl ?_
                                refine fg_X27_72 hX dX6_find_169 (fun b169l b169u => ?_)
                                have q169 : σ166 61 = σ 61 := ((m166.at 61 rfl).trans ((m160.at 61 rfl).trans ((m155.at 61 rfl).trans ((m139.at 61 rfl).trans ((m114.at 61 rfl).trans ((m106.at 61 rfl).trans ((m44.at 61 rfl).trans ((m38.at 61 rfl).trans ((m22.at 61 rfl).trans (m11.at 61 rfl))))))))))
                                rw [q169]
                                rw [q169] at b169l b169u
                                refine r_icmp_ge hX (tgt := 219) dX6_find_172 (by decide) (by omega) (by omega) (fun c172 => ?_) (fun c172 => ?_)
                                · skip
                                  have hf : OutM σ W bt 1 ∧ FoundM σ σ166 W bt := hDF.o1 (by omega) (V := σ44 44) hwy hT.2 (fun b b0 b1 => hcp b b0 (by omega))
                                  refine r_iload_n hX dX6_find_219 rfl ?_
                                  exact r_iret hX dX6_find_220 rfl ⟨_, rfl, ⟨(Mod.tr (L := [33, 37, 38, 39, 40, 41, 42, 43, 44, 63, 64, 67]) (Mod.tr (L := [33, 37, 38, 39, 40, 41, 42, 43, 44, 63, 64, 67]) (Mod.tr (L := [33, 37, 38, 39, 40, 41, 42, 43, 44, 63, 64, 67]) (Mod.tr (L := [33, 37, 38, 39, 40, 41, 42, 43, 44, 63, 64, 67]) (Mod.tr (L := [33, 37, 38, 39, 40, 41, 42, 43, 44, 63, 64, 67]) (Mod.tr (L := [33, 37, 38, 39, 40, 41, 42, 43, 44, 63, 64, 67]) (Mod.tr (L := [33, 37, 38, 39, 40, 41, 42, 43, 44, 63, 64, 67]) (Mod.tr (L := [33, 37, 38, 39, 40, 41, 42, 43, 44, 63, 64, 67]) (Mod.tr (L := [33, 37, 38, 39, 40, 41, 42, 43, 44, 63, 64, 67]) m11 m22 rfl rfl) m38 rfl rfl) m44 rfl rfl) m106 rfl rfl) m114 rfl rfl) m139 rfl rfl) m155 rfl rfl) m160 rfl rfl) m166 rfl rfl), (by exact FndM.go (by omega) hsn hpb (by omega) hrb hls hbt.1 hO (Or.inr (Or.inr ⟨by omega, hf.1, ⟨hf.2, by rw [m166.at 63 rfl, m160.at 63 rfl]; omega, by rw [m166.at 64 rfl]; exact s160⟩, rfl⟩)))⟩⟩
                                · skip
                                  refine r_aload_n hX dX6_find_175 rfl ?_
                                  refine fg_X27_48 hX dX6_find_176 ?_
                                  refine r_iload hX dX6_find_179 rfl ?_
                                  refine r_aload_n hX dX6_find_181 rfl ?_
                                  refine fg_X27_57 hX dX6_find_182 ?_
                                  refine r_iload hX dX6_find_185 rfl ?_
                                  refine ld_X41 hX dX6_find_187 (by omega) (by omega) (fun b187l b187u => ?_)
                                  have q187 : σ166 41 = σ114 41 := ((m166.at 41 rfl).trans ((m160.at 41 rfl).trans ((m155.at 41 rfl).trans (m139.at 41 rfl))))
                                  rw [q187]
                                  rw [q187] at b187l b187u
                                  refine st_X38 hX dX6_find_188 (by omega) (by omega) (by omega) (fun σ188 m188 s188 => ?_)
                                  refine r_aload_n hX dX6_find_189 rfl ?_
                                  refine fg_X27_51 hX dX6_find_190 ?_
                                  refine r_iload hX dX6_find_193 rfl ?_
                                  refine r_aload_n hX dX6_find_195 rfl ?_
                                  refine fg_X27_60 hX dX6_find_196 ?_
                                  refine r_iload hX dX6_find_199 rfl ?_
                                  refine ld_X42 hX dX6_find_201 (by omega) (by omega) (fun b201l b201u => ?_)
                                  have q201 : σ188 42 = σ114 42 := ((m188.at 42 rfl).trans ((m166.at 42 rfl).trans ((m160.at 42 rfl).trans ((m155.at 42 rfl).trans (m139.at 42 rfl)))))
                                  rw [q201]
                                  rw [q201] at b201l b201u
                                  refine r_iload_n hX dX6_find_202 rfl ?_
                                  refine r_aload_n hX dX6_find_203 rfl ?_
                                  refine fg_X27_63 hX dX6_find_204 ?_
                                  refine r_iload hX dX6_find_207 rfl ?_
                                  refine ld_X43 hX dX6_find_209 (by omega) (by omega) (fun b209l b209u => ?_)
                                  have q209 : σ188 43 = σ139 43 := ((m188.at 43 rfl).trans ((m166.at 43 rfl).trans ((m160.at 43 rfl).trans (m155.at 43 rfl))))
                                  rw [q209]
                                  rw [q209] at b209l b209u
                                  refine r_imul hX dX6_find_210 ?_
                                  have hpt := pm (a := bt) (A := 12) (b := σ139 43 i6) (B := 200000) (by omega) (by omega)
                                  refine r_iadd hX dX6_find_211 ?_
                                  refine st_X39 hX dX6_find_212 (by omega) (by omega) (by omega) (fun σ212 m212 s212 => ?_)
                                  simp only [show σ188 39 = σ166 39 from (m188.at 39 rfl)] at s212
                                  refine r_iinc hX (fun x213 => [some (.ref (w.2.2 27)), some (.int (iI x29)), some (.int (iI x41)), some (.int (iI bt)), some (.int (iI x117)), some (.int (iI x142)), some (.int (iI x213))]) dX6_find_213 rfl rfl rfl (fun _ => rfl) (fun x213 e213 => ?_)
                                  refine r_goto hX dX6_find_216 (tgt := 166) (by decide) ?_
                                  exact ih166 x213 σ212 (Mod.tr (L := [38, 39]) (Mod.tr (L := [38, 39]) m166 m188 rfl rfl) m212 rfl rfl) (by omega) (fun b b0 b1 => by
  rw [m212.at 38 rfl, s188, s212]
  by_cases w : b = i6
  · rw [if_pos w, if_pos w, w]; exact ⟨rfl, rfl⟩
  · rw [if_neg w, if_neg w]; exact hcp b b0 (by omega)) (by omega)
                            exact lp166 ((9 - (x164)) + 1).toNat x164 σ160 Mod.rf (by omega) (fun b b0 b1 => by omega) (by omega)
                          · skip
                            refine r_iload_n hX dX6_find_150 rfl ?_
                            refine r_goto hX dX6_find_151 (tgt := 155) (by decide) ?_
                            refine fp_X27_79 hX dX6_find_155 (by omega) (fun σ155 m155 s155 => ?_)
                            refine r_aload_n hX dX6_find_158 rfl ?_
                            refine r_iconst hX dX6_find_159 ?_
                            refine fp_X27_82 hX dX6_find_160 (by omega) (fun σ160 m160 s160 => ?_)
                            refine r_iconst hX dX6_find_163 ?_
                            refine r_istore hX (fun x164 => [some (.ref (w.2.2 27)), some (.int (iI x29)), some (.int (iI x41)), some (.int (iI bt)), some (.int (iI x117)), some (.int (iI x142)), some (.int (iI x164))]) dX6_find_164 (Nat.le_of_ble_eq_true rfl) rfl rfl (fun _ => rfl) (fun x164 e164 => ?_)
                            have lp166 : ∀ (n : Nat) (i6 : Int) (σ166 : MM) (m166 : Mod [38, 39] σ160 σ166) (hi6 : 0 ≤ i6 ∧ i6 ≤ σ 61 0) (hcp : ∀ b : Int, 0 ≤ b → b < i6 → σ166 38 b = σ114 41 b ∧ σ166 39 b = σ114 42 b + bt * σ139 43 b) (hmu : 9 - i6 < (n : Int)), G 166 [some (.ref (w.2.2 27)), some (.int (iI x29)), some (.int (iI x41)), some (.int (iI bt)), some (.int (iI x117)), some (.int (iI x142)), some (.int (iI i6))] [] σ166 := by
                              intro n
                              induction n with
                              | zero => intro i6 σ166 m166 hi6 hcp hmu; omega
                              | succ n ih =>
                                intro i6 σ166 m166 hi6 hcp hmu
                                have ih166 := ih
                                clear ih
                                refine r_iload hX dX6_find_166 rfl ?_
                                refine r_aload_n hX dX6_find_168 rfl ?_
                                refine fg_X27_72 hX dX6_find_169 (fun b169l b169u => ?_)
                                have q169 : σ166 61 = σ 61 := ((m166.at 61 rfl).trans ((m160.at 61 rfl).trans ((m155.at 61 rfl).trans ((m139.at 61 rfl).trans ((m114.at 61 rfl).trans ((m106.at 61 rfl).trans ((m44.at 61 rfl).trans ((m38.at 61 rfl).trans ((m22.at 61 rfl).trans (m11.at 61 rfl))))))))))
                                rw [q169]
                                rw [q169] at b169l b169u
                                refine r_icmp_ge hX (tgt := 219) dX6_find_172 (by decide) (by omega) (by omega) (fun c172 => ?_) (fun c172 => ?_)
                                · skip
                                  have hf : OutM σ W bt 1 ∧ FoundM σ σ166 W bt := hDF.o1 (by omega) (V := σ44 44) hwy hT.2 (fun b b0 b1 => hcp b b0 (by omega))
                                  refine r_iload_n hX dX6_find_219 rfl ?_
                                  exact r_iret hX dX6_find_220 rfl ⟨_, rfl, ⟨(Mod.tr (L := [33, 37, 38, 39, 40, 41, 42, 43, 44, 63, 64, 67]) (Mod.tr (L := [33, 37, 38, 39, 40, 41, 42, 43, 44, 63, 64, 67]) (Mod.tr (L := [33, 37, 38, 39, 40, 41, 42, 43, 44, 63, 64, 67]) (Mod.tr (L := [33, 37, 38, 39, 40, 41, 42, 43, 44, 63, 64, 67]) (Mod.tr (L := [33, 37, 38, 39, 40, 41, 42, 43, 44, 63, 64, 67]) (Mod.tr (L := [33, 37, 38, 39, 40, 41, 42, 43, 44, 63, 64, 67]) (Mod.tr (L := [33, 37, 38, 39, 40, 41, 42, 43, 44, 63, 64, 67]) (Mod.tr (L := [33, 37, 38, 39, 40, 41, 42, 43, 44, 63, 64, 67]) (Mod.tr (L := [33, 37, 38, 39, 40, 41, 42, 43, 44, 63, 64, 67]) m11 m22 rfl rfl) m38 rfl rfl) m44 rfl rfl) m106 rfl rfl) m114 rfl rfl) m139 rfl rfl) m155 rfl rfl) m160 rfl rfl) m166 rfl rfl), (by exact FndM.go (by omega) hsn hpb (by omega) hrb hls hbt.1 hO (Or.inr (Or.inr ⟨by omega, hf.1, ⟨hf.2, by rw [m166.at 63 rfl, m160.at 63 rfl]; omega, by rw [m166.at 64 rfl]; exact s160⟩, rfl⟩)))⟩⟩
                                · skip
                                  refine r_aload_n hX dX6_find_175 rfl ?_
                                  refine fg_X27_48 hX dX6_find_176 ?_
                                  refine r_iload hX dX6_find_179 rfl ?_
                                  refine r_aload_n hX dX6_find_181 rfl ?_
                                  refine fg_X27_57 hX dX6_find_182 ?_
                                  refine r_iload hX dX6_find_185 rfl ?_
                                  refine ld_X41 hX dX6_find_187 (by omega) (by omega) (fun b187l b187u => ?_)
                                  have q187 : σ166 41 = σ114 41 := ((m166.at 41 rfl).trans ((m160.at 41 rfl).trans ((m155.at 41 rfl).trans (m139.at 41 rfl))))
                                  rw [q187]
                                  rw [q187] at b187l b187u
                                  refine st_X38 hX dX6_find_188 (by omega) (by omega) (by omega) (fun σ188 m188 s188 => ?_)
                                  refine r_aload_n hX dX6_find_189 rfl ?_
                                  refine fg_X27_51 hX dX6_find_190 ?_
                                  refine r_iload hX dX6_find_193 rfl ?_
                                  refine r_aload_n hX dX6_find_195 rfl ?_
                                  refine fg_X27_60 hX dX6_find_196 ?_
                                  refine r_iload hX dX6_find_199 rfl ?_
                                  refine ld_X42 hX dX6_find_201 (by omega) (by omega) (fun b201l b201u => ?_)
                                  have q201 : σ188 42 = σ114 42 := ((m188.at 42 rfl).trans ((m166.at 42 rfl).trans ((m160.at 42 rfl).trans ((m155.at 42 rfl).trans (m139.at 42 rfl)))))
                                  rw [q201]
                                  rw [q201] at b201l b201u
                                  refine r_iload_n hX dX6_find_202 rfl ?_
                                  refine r_aload_n hX dX6_find_203 rfl ?_
                                  refine fg_X27_63 hX dX6_find_204 ?_
                                  refine r_iload hX dX6_find_207 rfl ?_
                                  refine ld_X43 hX dX6_find_209 (by omega) (by omega) (fun b209l b209u => ?_)
                                  have q209 : σ188 43 = σ139 43 := ((m188.at 43 rfl).trans ((m166.at 43 rfl).trans ((m160.at 43 rfl).trans (m155.at 43 rfl))))
                                  rw [q209]
                                  rw [q209] at b209l b209u
                                  refine r_imul hX dX6_find_210 ?_
                                  have hpt := pm (a := bt) (A := 12) (b := σ139 43 i6) (B := 200000) (by omega) (by omega)
                                  refine r_iadd hX dX6_find_211 ?_
                                  refine st_X39 hX dX6_find_212 (by omega) (by omega) (by omega) (fun σ212 m212 s212 => ?_)
                                  simp only [show σ188 39 = σ166 39 from (m188.at 39 rfl)] at s212
                                  refine r_iinc hX (fun x213 => [some (.ref (w.2.2 27)), some (.int (iI x29)), some (.int (iI x41)), some (.int (iI bt)), some (.int (iI x117)), some (.int (iI x142)), some (.int (iI x213))]) dX6_find_213 rfl rfl rfl (fun _ => rfl) (fun x213 e213 => ?_)
                                  refine r_goto hX dX6_find_216 (tgt := 166) (by decide) ?_
                                  exact ih166 x213 σ212 (Mod.tr (L := [38, 39]) (Mod.tr (L := [38, 39]) m166 m188 rfl rfl) m212 rfl rfl) (by omega) (fun b b0 b1 => by
  rw [m212.at 38 rfl, s188, s212]
  by_cases w : b = i6
  · rw [if_pos w, if_pos w, w]; exact ⟨rfl, rfl⟩
  · rw [if_neg w, if_neg w]; exact hcp b b0 (by omega)) (by omega)
                            exact lp166 ((9 - (x164)) + 1).toNat x164 σ160 Mod.rf (by omega) (fun b b0 b1 => by omega) (by omega)
                      · skip
                        refine r_iload hX dX6_find_124 rfl ?_
                        exact r_iret hX dX6_find_126 rfl ⟨_, rfl, ⟨(Mod.tr (L := [33, 37, 38, 39, 40, 41, 42, 43, 44, 63, 64, 67]) (Mod.tr (L := [33, 37, 38, 39, 40, 41, 42, 43, 44, 63, 64, 67]) (Mod.tr (L := [33, 37, 38, 39, 40, 41, 42, 43, 44, 63, 64, 67]) (Mod.tr (L := [33, 37, 38, 39, 40, 41, 42, 43, 44, 63, 64, 67]) (Mod.tr (L := [33, 37, 38, 39, 40, 41, 42, 43, 44, 63, 64, 67]) m11 m22 rfl rfl) m38 rfl rfl) m44 rfl rfl) m106 rfl rfl) m114 rfl rfl), (by exact FndM.go (by omega) hsn hpb (by omega) hrb hls hbt.1 hO (Or.inr (Or.inl ⟨by omega, hDF.o2 (by omega), by omega, SameQ.of hMM rfl⟩)))⟩⟩
                exact lp106 ((20 - (x105)) + 1).toNat x105 σ44 Mod.rf (by omega) (fun b b0 b1 => by omega) (by omega)
              · skip
                refine r_iload_n hX dX6_find_100 rfl ?_
                refine r_goto hX dX6_find_101 (tgt := 105) (by decide) ?_
                refine r_istore_n hX (fun x105 => [some (.ref (w.2.2 27)), some (.int (iI x29)), some (.int (iI x41)), some (.int (iI x105)), none, none, none]) dX6_find_105 (Nat.le_of_ble_eq_true rfl) rfl rfl (fun _ => rfl) (fun x105 e105 => ?_)
                have lp106 : ∀ (n : Nat) (bt : Int) (σ106 : MM) (m106 : Mod [41, 42, 43, 67] σ44 σ106) (hbt : x105 ≤ bt ∧ 1 ≤ bt ∧ bt ≤ 16) (hO : ∀ b : Int, x105 ≤ b → b < bt → OutM σ W b 0) (hmu : 20 - bt < (n : Int)), G 106 [some (.ref (w.2.2 27)), some (.int (iI x29)), some (.int (iI x41)), some (.int (iI bt)), none, none, none] [] σ106 := by
                  intro n
                  induction n with
                  | zero => intro bt σ106 m106 hbt hO hmu; omega
                  | succ n ih =>
                    intro bt σ106 m106 hbt hO hmu
                    have ih106 := ih
                    clear ih
                    have hls : (x29 < x41 ∧ x105 = x41) ∨ (x41 ≤ x29 ∧ x105 = x29) := by omega
                    refine r_iload_n hX dX6_find_106 rfl ?_
                    refine r_bipush hX dX6_find_107 (by decide) ?_
                    refine r_icmp_gt hX (tgt := 227) dX6_find_109 (by decide) (by omega) (by omega) (fun c109 => ?_) (fun c109 => ?_)
                    · skip
                      refine r_bipush hX dX6_find_227 (by decide) ?_
                      exact r_iret hX dX6_find_229 rfl ⟨_, rfl, ⟨(Mod.tr (L := [33, 37, 38, 39, 40, 41, 42, 43, 44, 63, 64, 67]) (Mod.tr (L := [33, 37, 38, 39, 40, 41, 42, 43, 44, 63, 64, 67]) (Mod.tr (L := [33, 37, 38, 39, 40, 41, 42, 43, 44, 63, 64, 67]) (Mod.tr (L := [33, 37, 38, 39, 40, 41, 42, 43, 44, 63, 64, 67]) m11 m22 rfl rfl) m38 rfl rfl) m44 rfl rfl) m106 rfl rfl), (by exact FndM.go (by omega) hsn hpb (by omega) hrb hls hbt.1 hO (Or.inl ⟨by omega, rfl, SameQ.of (L := [33, 67, 40, 37, 44, 41, 42, 43]) (Mod.tr (L := [33, 67, 40, 37, 44, 41, 42, 43]) (Mod.tr (L := [33, 67, 40, 37, 44, 41, 42, 43]) (Mod.tr (L := [33, 67, 40, 37, 44, 41, 42, 43]) (Mod.tr (L := [33, 67, 40, 37, 44, 41, 42, 43]) m11 m22 rfl rfl) m38 rfl rfl) m44 rfl rfl) m106 rfl rfl) rfl⟩))⟩⟩
                    · skip
                      refine r_aload_n hX dX6_find_112 rfl ?_
                      refine r_iload_n hX dX6_find_113 rfl ?_
                      have qp114_61 : σ106 61 = σ 61 := ((m106.at 61 rfl).trans ((m44.at 61 rfl).trans ((m38.at 61 rfl).trans ((m22.at 61 rfl).trans (m11.at 61 rfl)))))
                      refine r_callV hX dX6_find_114 (k_M_search l w σ106 _ (by omega) (by omega) (by simp only [qp114_61]; omega)) mf_X6_search mv_X6_search lk_RX6_189 rfl rfl rfl rfl rfl ⟨Nat.le_of_ble_eq_true rfl, Nat.le_of_ble_eq_true rfl⟩ (Nat.le_of_ble_eq_true rfl) (kI fun z114 σ114 hh => ?_)
                      obtain ⟨m114, h114_0⟩ := hh
                      refine r_istore hX (fun x117 => [some (.ref (w.2.2 27)), some (.int (iI x29)), some (.int (iI x41)), some (.int (iI bt)), some (.int (iI x117)), none, none]) dX6_find_117 (Nat.le_of_ble_eq_true rfl) rfl rfl (fun _ => rfl) (fun x117 e117 => ?_)
                      have hDF : DFw σ σ114 W bt x117 := by
                        rw [e117]
                        refine DFm.ways h114_0 (L := [33, 67, 40, 37, 44, 41, 42, 43]) (Mod.tr (L := [33, 67, 40, 37, 44, 41, 42, 43]) (Mod.tr (L := [33, 67, 40, 37, 44, 41, 42, 43]) (Mod.tr (L := [33, 67, 40, 37, 44, 41, 42, 43]) (Mod.tr (L := [33, 67, 40, 37, 44, 41, 42, 43]) m11 m22 rfl rfl) m38 rfl rfl) m44 rfl rfl) m106 rfl rfl) rfl ?_ (by omega) (by omega) (by omega)
                        rw [m106.at 44 rfl]; exact hwy
                      have hzr := hDF.rng
                      have hMM : Mod [33, 67, 40, 37, 44, 41, 42, 43] σ σ114 := (Mod.tr (L := [33, 67, 40, 37, 44, 41, 42, 43]) (Mod.tr (L := [33, 67, 40, 37, 44, 41, 42, 43]) (Mod.tr (L := [33, 67, 40, 37, 44, 41, 42, 43]) (Mod.tr (L := [33, 67, 40, 37, 44, 41, 42, 43]) (Mod.tr (L := [33, 67, 40, 37, 44, 41, 42, 43]) m11 m22 rfl rfl) m38 rfl rfl) m44 rfl rfl) m106 rfl rfl) m114 rfl rfl)
                      refine r_iload hX dX6_find_119 rfl ?_
                      refine r_if_ge hX (tgt := 127) dX6_find_121 (by decide) (by omega) (fun c121 => ?_) (fun c121 => ?_)
                      · skip
                        refine r_iload hX dX6_find_127 rfl ?_
                        refine r_iconst hX dX6_find_129 ?_
                        refine r_icmp_ne hX (tgt := 221) dX6_find_130 (by decide) (by omega) (by omega) (fun c130 => ?_) (fun c130 => ?_)
                        · skip
                          refine r_iinc hX (fun x221 => [some (.ref (w.2.2 27)), some (.int (iI x29)), some (.int (iI x41)), some (.int (iI x221)), some (.int (iI x117)), none, none]) dX6_find_221 rfl rfl rfl (fun _ => rfl) (fun x221 e221 => ?_)
                          refine r_goto hX dX6_find_224 (tgt := 106) (by decide) ?_
                          refine r_wk hX (lv1 := [some (.ref (w.2.2 27)), some (.int (iI x29)), some (.int (iI x41)), some (.int (iI x221)), none, none, none]) ⟨rfl, ⟨rfl, ⟨rfl, ⟨rfl, trivial⟩⟩⟩⟩ ?_
                          exact ih106 x221 σ114 (Mod.tr (L := [41, 42, 43, 67]) m106 m114 rfl rfl) (by omega) (fun b b0 b1 => by
  by_cases q : b = bt
  · rw [q]; exact hDF.o0 (by omega)
  · exact hO b b0 (by omega)) (by omega)
                        · skip
                          refine r_aload_n hX dX6_find_133 rfl ?_
                          refine r_aload_n hX dX6_find_134 rfl ?_
                          refine fg_X27_72 hX dX6_find_135 (fun b135l b135u => ?_)
                          have q135 : σ114 61 = σ 61 := ((m114.at 61 rfl).trans ((m106.at 61 rfl).trans ((m44.at 61 rfl).trans ((m38.at 61 rfl).trans ((m22.at 61 rfl).trans (m11.at 61 rfl))))))
                          rw [q135]
                          rw [q135] at b135l b135u
                          refine r_iload_n hX dX6_find_138 rfl ?_
                          have qp139_61 : σ114 61 = σ 61 := ((m114.at 61 rfl).trans ((m106.at 61 rfl).trans ((m44.at 61 rfl).trans ((m38.at 61 rfl).trans ((m22.at 61 rfl).trans (m11.at 61 rfl))))))
                          refine r_callV hX dX6_find_139 (k_M_canStart l w σ114 _ _ (by omega) (by omega) (σ 61 0 - 1) (by simp only [qp139_61]; omega) (by omega)) mf_X6_canStart mv_X6_canStart lk_RX6_180 rfl rfl rfl rfl rfl ⟨Nat.le_of_ble_eq_true rfl, Nat.le_of_ble_eq_true rfl⟩ (Nat.le_of_ble_eq_true rfl) (kI fun z139 σ139 hh => ?_)
                          obtain ⟨m139, h139_0⟩ := hh
                          have q139_6 : σ114 28 = σ 28 := ((m114.at 28 rfl).trans ((m106.at 28 rfl).trans ((m44.at 28 rfl).trans ((m38.at 28 rfl).trans ((m22.at 28 rfl).trans (m11.at 28 rfl))))))
                          have q139_7 : σ114 29 = σ 29 := ((m114.at 29 rfl).trans ((m106.at 29 rfl).trans ((m44.at 29 rfl).trans ((m38.at 29 rfl).trans ((m22.at 29 rfl).trans (m11.at 29 rfl))))))
                          have q139_8 : σ114 44 = σ44 44 := ((m114.at 44 rfl).trans (m106.at 44 rfl))
                          try simp only [q139_6, q139_7, q139_8] at h139_0
                          have hgz := hDF.goes (by omega)
                          have hT : z139 = 1 ∧ LeastS (sM (σ 28) (σ 29)) (gapM σ (σ44 44) (σ114 41) (σ114 42) bt) (σ 61 0 - 1) (σ139 43) := by
                            have hk := GoesM.ways (W := σ44 44) (V := W) hgz.1 hwy.sy (by omega) (by omega) (fun l l0 l1 => hgz.2 l l0 (by omega))
                            have e28 : σ114 28 = σ 28 := hMM.at 28 rfl
                            have e29 : σ114 29 = σ 29 := hMM.at 29 rfl
                            have e30 : σ114 30 = σ 30 := hMM.at 30 rfl
                            have g := h139_0
                            simp only [gapM, e28, e29, e30] at g
                            rcases g with q | q
                            · exact ⟨q.1, q.2.2⟩
                            · exact absurd hk.2 q.2
                          refine r_istore hX (fun x142 => [some (.ref (w.2.2 27)), some (.int (iI x29)), some (.int (iI x41)), some (.int (iI bt)), some (.int (iI x117)), some (.int (iI x142)), none]) dX6_find_142 (Nat.le_of_ble_eq_true rfl) rfl rfl (fun _ => rfl) (fun x142 e142 => ?_)
                          refine r_aload_n hX dX6_find_144 rfl ?_
                          refine r_iload hX dX6_find_145 rfl ?_
                          refine r_if_eq hX (tgt := 154) dX6_find_147 (by decide) (by omega) (fun c147 => ?_) (fun c147 => ?_)
                          · skip
                            refine r_iconst hX dX6_find_154 ?_
                            refine fp_X27_79 hX dX6_find_155 (by omega) (fun σ155 m155 s155 => ?_)
                            refine r_aload_n hX dX6_find_158 rfl ?_
                            refine r_iconst hX dX6_find_159 ?_
                            refine fp_X27_82 hX dX6_find_160 (by omega) (fun σ160 m160 s160 => ?_)
                            refine r_iconst hX dX6_find_163 ?_
                            refine r_istore hX (fun x164 => [some (.ref (w.2.2 27)), some (.int (iI x29)), some (.int (iI x41)), some (.int (iI bt)), some (.int (iI x117)), some (.int (iI x142)), some (.int (iI x164))]) dX6_find_164 (Nat.le_of_ble_eq_true rfl) rfl rfl (fun _ => rfl) (fun x164 e164 => ?_)
                            have lp166 : ∀ (n : Nat) (i6 : Int) (σ166 : MM) (m166 : Mod [38, 39] σ160 σ166) (hi6 : 0 ≤ i6 ∧ i6 ≤ σ 61 0) (hcp : ∀ b : Int, 0 ≤ b → b < i6 → σ166 38 b = σ114 41 b ∧ σ166 39 b = σ114 42 b + bt * σ139 43 b) (hmu : 9 - i6 < (n : Int)), G 166 [some (.ref (w.2.2 27)), some (.int (iI x29)), some (.int (iI x41)), some (.int (iI bt)), some (.int (iI x117)), some (.int (iI x142)), some (.int (iI i6))] [] σ166 := by
                              intro n
                              induction n with
                              | zero => intro i6 σ166 m166 hi6 hcp hmu; omega
                              | succ n ih =>
                                intro i6 σ166 m166 hi6 hcp hmu
                                have ih166 := ih
                                clear ih
                                refine r_iload hX dX6_find_166 rfl ?_
                                refine r_aload_n hX dX6_find_168 rfl ?_
                                refine fg_X27_72 hX dX6_find_169 (fun b169l b169u => ?_)
                                have q169 : σ166 61 = σ 61 := ((m166.at 61 rfl).trans ((m160.at 61 rfl).trans ((m155.at 61 rfl).trans ((m139.at 61 rfl).trans ((m114.at 61 rfl).trans ((m106.at 61 rfl).trans ((m44.at 61 rfl).trans ((m38.at 61 rfl).trans ((m22.at 61 rfl).trans (m11.at 61 rfl))))))))))
                                rw [q169]
                                rw [q169] at b169l b169u
                                refine r_icmp_ge hX (tgt := 219) dX6_find_172 (by decide) (by omega) (by omega) (fun c172 => ?_) (fun c172 => ?_)
                                · skip
                                  have hf : OutM σ W bt 1 ∧ FoundM σ σ166 W bt := hDF.o1 (by omega) (V := σ44 44) hwy hT.2 (fun b b0 b1 => hcp b b0 (by omega))
                                  refine r_iload_n hX dX6_find_219 rfl ?_
                                  exact r_iret hX dX6_find_220 rfl ⟨_, rfl, ⟨(Mod.tr (L := [33, 37, 38, 39, 40, 41, 42, 43, 44, 63, 64, 67]) (Mod.tr (L := [33, 37, 38, 39, 40, 41, 42, 43, 44, 63, 64, 67]) (Mod.tr (L := [33, 37, 38, 39, 40, 41, 42, 43, 44, 63, 64, 67]) (Mod.tr (L := [33, 37, 38, 39, 40, 41, 42, 43, 44, 63, 64, 67]) (Mod.tr (L := [33, 37, 38, 39, 40, 41, 42, 43, 44, 63, 64, 67]) (Mod.tr (L := [33, 37, 38, 39, 40, 41, 42, 43, 44, 63, 64, 67]) (Mod.tr (L := [33, 37, 38, 39, 40, 41, 42, 43, 44, 63, 64, 67]) (Mod.tr (L := [33, 37, 38, 39, 40, 41, 42, 43, 44, 63, 64, 67]) (Mod.tr (L := [33, 37, 38, 39, 40, 41, 42, 43, 44, 63, 64, 67]) m11 m22 rfl rfl) m38 rfl rfl) m44 rfl rfl) m106 rfl rfl) m114 rfl rfl) m139 rfl rfl) m155 rfl rfl) m160 rfl rfl) m166 rfl rfl), (by exact FndM.go (by omega) hsn hpb (by omega) hrb hls hbt.1 hO (Or.inr (Or.inr ⟨by omega, hf.1, ⟨hf.2, by rw [m166.at 63 rfl, m160.at 63 rfl]; omega, by rw [m166.at 64 rfl]; exact s160⟩, rfl⟩)))⟩⟩
                                · skip
                                  refine r_aload_n hX dX6_find_175 rfl ?_
                                  refine fg_X27_48 hX dX6_find_176 ?_
                                  refine r_iload hX dX6_find_179 rfl ?_
                                  refine r_aload_n hX dX6_find_181 rfl ?_
                                  refine fg_X27_57 hX dX6_find_182 ?_
                                  refine r_iload hX dX6_find_185 rfl ?_
                                  refine ld_X41 hX dX6_find_187 (by omega) (by omega) (fun b187l b187u => ?_)
                                  have q187 : σ166 41 = σ114 41 := ((m166.at 41 rfl).trans ((m160.at 41 rfl).trans ((m155.at 41 rfl).trans (m139.at 41 rfl))))
                                  rw [q187]
                                  rw [q187] at b187l b187u
                                  refine st_X38 hX dX6_find_188 (by omega) (by omega) (by omega) (fun σ188 m188 s188 => ?_)
                                  refine r_aload_n hX dX6_find_189 rfl ?_
                                  refine fg_X27_51 hX dX6_find_190 ?_
                                  refine r_iload hX dX6_find_193 rfl ?_
                                  refine r_aload_n hX dX6_find_195 rfl ?_
                                  refine fg_X27_60 hX dX6_find_196 ?_
                                  refine r_iload hX dX6_find_199 rfl ?_
                                  refine ld_X42 hX dX6_find_201 (by omega) (by omega) (fun b201l b201u => ?_)
                                  have q201 : σ188 42 = σ114 42 := ((m188.at 42 rfl).trans ((m166.at 42 rfl).trans ((m160.at 42 rfl).trans ((m155.at 42 rfl).trans (m139.at 42 rfl)))))
                                  rw [q201]
                                  rw [q201] at b201l b201u
                                  refine r_iload_n hX dX6_find_202 rfl ?_
                                  refine r_aload_n hX dX6_find_203 rfl ?_
                                  refine fg_X27_63 hX dX6_find_204 ?_
                                  refine r_iload hX dX6_find_207 rfl ?_
                                  refine ld_X43 hX dX6_find_209 (by omega) (by omega) (fun b209l b209u => ?_)
                                  have q209 : σ188 43 = σ139 43 := ((m188.at 43 rfl).trans ((m166.at 43 rfl).trans ((m160.at 43 rfl).trans (m155.at 43 rfl))))
                                  rw [q209]
                                  rw [q209] at b209l b209u
                                  refine r_imul hX dX6_find_210 ?_
                                  have hpt := pm (a := bt) (A := 12) (b := σ139 43 i6) (B := 200000) (by omega) (by omega)
                                  refine r_iadd hX dX6_find_211 ?_
                                  refine st_X39 hX dX6_find_212 (by omega) (by omega) (by omega) (fun σ212 m212 s212 => ?_)
                                  simp only [show σ188 39 = σ166 39 from (m188.at 39 rfl)] at s212
                                  refine r_iinc hX (fun x213 => [some (.ref (w.2.2 27)), some (.int (iI x29)), some (.int (iI x41)), some (.int (iI bt)), some (.int (iI x117)), some (.int (iI x142)), some (.int (iI x213))]) dX6_find_213 rfl rfl rfl (fun _ => rfl) (fun x213 e213 => ?_)
                                  refine r_goto hX dX6_find_216 (tgt := 166) (by decide) ?_
                                  exact ih166 x213 σ212 (Mod.tr (L := [38, 39]) (Mod.tr (L := [38, 39]) m166 m188 rfl rfl) m212 rfl rfl) (by omega) (fun b b0 b1 => by
  rw [m212.at 38 rfl, s188, s212]
  by_cases w : b = i6
  · rw [if_pos w, if_pos w, w]; exact ⟨rfl, rfl⟩
  · rw [if_neg w, if_neg w]; exact hcp b b0 (by omega)) (by omega)
                            exact lp166 ((9 - (x164)) + 1).toNat x164 σ160 Mod.rf (by omega) (fun b b0 b1 => by omega) (by omega)
                          · skip
                            refine r_iload_n hX dX6_find_150 rfl ?_
                            refine r_goto hX dX6_find_151 (tgt := 155) (by decide) ?_
                            refine fp_X27_79 hX dX6_find_155 (by omega) (fun σ155 m155 s155 => ?_)
                            refine r_aload_n hX dX6_find_158 rfl ?_
                            refine r_iconst hX dX6_find_159 ?_
                            refine fp_X27_82 hX dX6_find_160 (by omega) (fun σ160 m160 s160 => ?_)
                            refine r_iconst hX dX6_find_163 ?_
                            refine r_istore hX (fun x164 => [some (.ref (w.2.2 27)), some (.int (iI x29)), some (.int (iI x41)), some (.int (iI bt)), some (.int (iI x117)), some (.int (iI x142)), some (.int (iI x164))]) dX6_find_164 (Nat.le_of_ble_eq_true rfl) rfl rfl (fun _ => rfl) (fun x164 e164 => ?_)
                            have lp166 : ∀ (n : Nat) (i6 : Int) (σ166 : MM) (m166 : Mod [38, 39] σ160 σ166) (hi6 : 0 ≤ i6 ∧ i6 ≤ σ 61 0) (hcp : ∀ b : Int, 0 ≤ b → b < i6 → σ166 38 b = σ114 41 b ∧ σ166 39 b = σ114 42 b + bt * σ139 43 b) (hmu : 9 - i6 < (n : Int)), G 166 [some (.ref (w.2.2 27)), some (.int (iI x29)), some (.int (iI x41)), some (.int (iI bt)), some (.int (iI x117)), some (.int (iI x142)), some (.int (iI i6))] [] σ166 := by
                              intro n
                              induction n with
                              | zero => intro i6 σ166 m166 hi6 hcp hmu; omega
                              | succ n ih =>
                                intro i6 σ166 m166 hi6 hcp hmu
                                have ih166 := ih
                                clear ih
                                refine r_iload hX dX6_find_166 rfl ?_
                                refine r_aload_n hX dX6_find_168 rfl ?_
                                refine fg_X27_72 hX dX6_find_169 (fun b169l b169u => ?_)
                                have q169 : σ166 61 = σ 61 := ((m166.at 61 rfl).trans ((m160.at 61 rfl).trans ((m155.at 61 rfl).trans ((m139.at 61 rfl).trans ((m114.at 61 rfl).trans ((m106.at 61 rfl).trans ((m44.at 61 rfl).trans ((m38.at 61 rfl).trans ((m22.at 61 rfl).trans (m11.at 61 rfl))))))))))
                                rw [q169]
                                rw [q169] at b169l b169u
                                refine r_icmp_ge hX (tgt := 219) dX6_find_172 (by decide) (by omega) (by omega) (fun c172 => ?_) (fun c172 => ?_)
                                · skip
                                  have hf : OutM σ W bt 1 ∧ FoundM σ σ166 W bt := hDF.o1 (by omega) (V := σ44 44) hwy hT.2 (fun b b0 b1 => hcp b b0 (by omega))
                                  refine r_iload_n hX dX6_find_219 rfl ?_
                                  exact r_iret hX dX6_find_220 rfl ⟨_, rfl, ⟨(Mod.tr (L := [33, 37, 38, 39, 40, 41, 42, 43, 44, 63, 64, 67]) (Mod.tr (L := [33, 37, 38, 39, 40, 41, 42, 43, 44, 63, 64, 67]) (Mod.tr (L := [33, 37, 38, 39, 40, 41, 42, 43, 44, 63, 64, 67]) (Mod.tr (L := [33, 37, 38, 39, 40, 41, 42, 43, 44, 63, 64, 67]) (Mod.tr (L := [33, 37, 38, 39, 40, 41, 42, 43, 44, 63, 64, 67]) (Mod.tr (L := [33, 37, 38, 39, 40, 41, 42, 43, 44, 63, 64, 67]) (Mod.tr (L := [33, 37, 38, 39, 40, 41, 42, 43, 44, 63, 64, 67]) (Mod.tr (L := [33, 37, 38, 39, 40, 41, 42, 43, 44, 63, 64, 67]) (Mod.tr (L := [33, 37, 38, 39, 40, 41, 42, 43, 44, 63, 64, 67]) m11 m22 rfl rfl) m38 rfl rfl) m44 rfl rfl) m106 rfl rfl) m114 rfl rfl) m139 rfl rfl) m155 rfl rfl) m160 rfl rfl) m166 rfl rfl), (by exact FndM.go (by omega) hsn hpb (by omega) hrb hls hbt.1 hO (Or.inr (Or.inr ⟨by omega, hf.1, ⟨hf.2, by rw [m166.at 63 rfl, m160.at 63 rfl]; omega, by rw [m166.at 64 rfl]; exact s160⟩, rfl⟩)))⟩⟩
                                · skip
                                  refine r_aload_n hX dX6_find_175 rfl ?_
                                  refine fg_X27_48 hX dX6_find_176 ?_
                                  refine r_iload hX dX6_find_179 rfl ?_
                                  refine r_aload_n hX dX6_find_181 rfl ?_
                                  refine fg_X27_57 hX dX6_find_182 ?_
                                  refine r_iload hX dX6_find_185 rfl ?_
                                  refine ld_X41 hX dX6_find_187 (by omega) (by omega) (fun b187l b187u => ?_)
                                  have q187 : σ166 41 = σ114 41 := ((m166.at 41 rfl).trans ((m160.at 41 rfl).trans ((m155.at 41 rfl).trans (m139.at 41 rfl))))
                                  rw [q187]
                                  rw [q187] at b187l b187u
                                  refine st_X38 hX dX6_find_188 (by omega) (by omega) (by omega) (fun σ188 m188 s188 => ?_)
                                  refine r_aload_n hX dX6_find_189 rfl ?_
                                  refine fg_X27_51 hX dX6_find_190 ?_
                                  refine r_iload hX dX6_find_193 rfl ?_
                                  refine r_aload_n hX dX6_find_195 rfl ?_
                                  refine fg_X27_60 hX dX6_find_196 ?_
                                  refine r_iload hX dX6_find_199 rfl ?_
                                  refine ld_X42 hX dX6_find_201 (by omega) (by omega) (fun b201l b201u => ?_)
                                  have q201 : σ188 42 = σ114 42 := ((m188.at 42 rfl).trans ((m166.at 42 rfl).trans ((m160.at 42 rfl).trans ((m155.at 42 rfl).trans (m139.at 42 rfl)))))
                                  rw [q201]
                                  rw [q201] at b201l b201u
                                  refine r_iload_n hX dX6_find_202 rfl ?_
                                  refine r_aload_n hX dX6_find_203 rfl ?_
                                  refine fg_X27_63 hX dX6_find_204 ?_
                                  refine r_iload hX dX6_find_207 rfl ?_
                                  refine ld_X43 hX dX6_find_209 (by omega) (by omega) (fun b209l b209u => ?_)
                                  have q209 : σ188 43 = σ139 43 := ((m188.at 43 rfl).trans ((m166.at 43 rfl).trans ((m160.at 43 rfl).trans (m155.at 43 rfl))))
                                  rw [q209]
                                  rw [q209] at b209l b209u
                                  refine r_imul hX dX6_find_210 ?_
                                  have hpt := pm (a := bt) (A := 12) (b := σ139 43 i6) (B := 200000) (by omega) (by omega)
                                  refine r_iadd hX dX6_find_211 ?_
                                  refine st_X39 hX dX6_find_212 (by omega) (by omega) (by omega) (fun σ212 m212 s212 => ?_)
                                  simp only [show σ188 39 = σ166 39 from (m188.at 39 rfl)] at s212
                                  refine r_iinc hX (fun x213 => [some (.ref (w.2.2 27)), some (.int (iI x29)), some (.int (iI x41)), some (.int (iI bt)), some (.int (iI x117)), some (.int (iI x142)), some (.int (iI x213))]) dX6_find_213 rfl rfl rfl (fun _ => rfl) (fun x213 e213 => ?_)
                                  refine r_goto hX dX6_find_216 (tgt := 166) (by decide) ?_
                                  exact ih166 x213 σ212 (Mod.tr (L := [38, 39]) (Mod.tr (L := [38, 39]) m166 m188 rfl rfl) m212 rfl rfl) (by omega) (fun b b0 b1 => by
  rw [m212.at 38 rfl, s188, s212]
  by_cases w : b = i6
  · rw [if_pos w, if_pos w, w]; exact ⟨rfl, rfl⟩
  · rw [if_neg w, if_neg w]; exact hcp b b0 (by omega)) (by omega)
                            exact lp166 ((9 - (x164)) + 1).toNat x164 σ160 Mod.rf (by omega) (fun b b0 b1 => by omega) (by omega)
                      · skip
                        refine r_iload hX dX6_find_124 rfl ?_
                        exact r_iret hX dX6_find_126 rfl ⟨_, rfl, ⟨(Mod.tr (L := [33, 37, 38, 39, 40, 41, 42, 43, 44, 63, 64, 67]) (Mod.tr (L := [33, 37, 38, 39, 40, 41, 42, 43, 44, 63, 64, 67]) (Mod.tr (L := [33, 37, 38, 39, 40, 41, 42, 43, 44, 63, 64, 67]) (Mod.tr (L := [33, 37, 38, 39, 40, 41, 42, 43, 44, 63, 64, 67]) (Mod.tr (L := [33, 37, 38, 39, 40, 41, 42, 43, 44, 63, 64, 67]) m11 m22 rfl rfl) m38 rfl rfl) m44 rfl rfl) m106 rfl rfl) m114 rfl rfl), (by exact FndM.go (by omega) hsn hpb (by omega) hrb hls hbt.1 hO (Or.inr (Or.inl ⟨by omega, hDF.o2 (by omega), by omega, SameQ.of hMM rfl⟩)))⟩⟩
                exact lp106 ((20 - (x105)) + 1).toNat x105 σ44 Mod.rf (by omega) (fun b b0 b1 => by omega) (by omega)
            · skip
              refine r_iconst hX dX6_find_52 ?_
              refine r_istore hX (fun x53 => [some (.ref (w.2.2 27)), some (.int (iI x29)), some (.int (iI x41)), some (.int (iI i)), some (.int (iI x53)), none, none]) dX6_find_53 (Nat.le_of_ble_eq_true rfl) rfl rfl (fun _ => rfl) (fun x53 e53 => ?_)
              have lp55 : ∀ (n : Nat) (j : Int) (σ55 : MM) (m55 : Mod [37, 44] σ44 σ55) (hj : 0 ≤ j ∧ j ≤ σ 65 0 * σ 66 0) (hWy2 : ∀ u v : Int, 0 ≤ u → 0 ≤ v → v < σ 65 0 * σ 66 0 → (u < i ∨ (u = i ∧ v < j)) → σ55 44 (9 * u + v) = W (u * 9 + v)) (hmu : 10 - j < (n : Int)), G 55 [some (.ref (w.2.2 27)), some (.int (iI x29)), some (.int (iI x41)), some (.int (iI i)), some (.int (iI j)), none, none] [] σ55 := by
                intro n
                induction n with
                | zero => intro j σ55 m55 hj hWy2 hmu; omega
                | succ n ih =>
                  intro j σ55 m55 hj hWy2 hmu
                  have ih55 := ih
                  clear ih
                  refine r_iload hX dX6_find_55 rfl ?_
                  refine r_aload_n hX dX6_find_57 rfl ?_
                  refine r_callV hX dX6_find_58 (k_M_cells l w σ55) mf_X6_cells mv_X6_cells lk_RX6_133 rfl rfl rfl rfl rfl ⟨Nat.le_of_ble_eq_true rfl, Nat.le_of_ble_eq_true rfl⟩ (Nat.le_of_ble_eq_true rfl) (kI fun z58 σ58 hh => ?_)
                  obtain ⟨rfl, h58_0, h58_1⟩ := hh
                  have q58_9 : σ55 65 = σ 65 := ((m55.at 65 rfl).trans ((m44.at 65 rfl).trans ((m38.at 65 rfl).trans ((m22.at 65 rfl).trans (m11.at 65 rfl)))))
                  have q58_10 : σ55 66 = σ 66 := ((m55.at 66 rfl).trans ((m44.at 66 rfl).trans ((m38.at 66 rfl).trans ((m22.at 66 rfl).trans (m11.at 66 rfl)))))
                  try simp only [q58_9, q58_10] at h58_0
                  refine r_icmp_ge hX (tgt := 89) dX6_find_61 (by decide) (by omega) (by omega) (fun c61 => ?_) (fun c61 => ?_)
                  · skip
                    refine r_iinc hX (fun x89 => [some (.ref (w.2.2 27)), some (.int (iI x29)), some (.int (iI x41)), some (.int (iI x89)), some (.int (iI j)), none, none]) dX6_find_89 rfl rfl rfl (fun _ => rfl) (fun x89 e89 => ?_)
                    refine r_goto hX dX6_find_92 (tgt := 44) (by decide) ?_
                    refine r_wk hX (lv1 := [some (.ref (w.2.2 27)), some (.int (iI x29)), some (.int (iI x41)), some (.int (iI x89)), none, none, none]) ⟨rfl, ⟨rfl, ⟨rfl, ⟨rfl, trivial⟩⟩⟩⟩ ?_
                    exact ih44 x89 σ55 (Mod.tr (L := [37, 44]) m44 m55 rfl rfl) (by omega) (fun u v u0 u1 v0 v1 => hWy2 u v u0 v0 v1 (by omega)) (by omega)
                  · skip
                    refine r_aload_n hX dX6_find_64 rfl ?_
                    refine fg_X27_66 hX dX6_find_65 ?_
                    refine r_bipush hX dX6_find_68 (by decide) ?_
                    refine r_iload_n hX dX6_find_70 rfl ?_
                    refine r_imul hX dX6_find_71 ?_
                    refine r_iload hX dX6_find_72 rfl ?_
                    refine r_iadd hX dX6_find_74 ?_
                    refine r_aload_n hX dX6_find_75 rfl ?_
                    refine r_iload_n hX dX6_find_76 rfl ?_
                    refine r_iload hX dX6_find_77 rfl ?_
                    have qp79_65 : σ55 65 = σ 65 := ((m55.at 65 rfl).trans ((m44.at 65 rfl).trans ((m38.at 65 rfl).trans ((m22.at 65 rfl).trans (m11.at 65 rfl)))))
                    have qp79_66 : σ55 66 = σ 66 := ((m55.at 66 rfl).trans ((m44.at 66 rfl).trans ((m38.at 66 rfl).trans ((m22.at 66 rfl).trans (m11.at 66 rfl)))))
                    have qp79_65 : σ55 65 = σ 65 := ((m55.at 65 rfl).trans ((m44.at 65 rfl).trans ((m38.at 65 rfl).trans ((m22.at 65 rfl).trans (m11.at 65 rfl)))))
                    have qp79_66 : σ55 66 = σ 66 := ((m55.at 66 rfl).trans ((m44.at 66 rfl).trans ((m38.at 66 rfl).trans ((m22.at 66 rfl).trans (m11.at 66 rfl)))))
                    refine r_callV hX dX6_find_79 (k_M_wayOf l w σ55 _ _ (by omega) (by omega) _ (hW.keep (L := [33, 67, 40, 37, 44]) (Mod.tr (L := [33, 67, 40, 37, 44]) (Mod.tr (L := [33, 67, 40, 37, 44]) (Mod.tr (L := [33, 67, 40, 37, 44]) (Mod.tr (L := [33, 67, 40, 37, 44]) m11 m22 rfl rfl) m38 rfl rfl) m44 rfl rfl) m55 rfl rfl) rfl) (by simp only [qp79_65, qp79_66]; omega) (by simp only [qp79_65, qp79_66]; omega)) mf_X6_wayOf mv_X6_wayOf lk_RX6_144 rfl rfl rfl rfl rfl ⟨Nat.le_of_ble_eq_true rfl, Nat.le_of_ble_eq_true rfl⟩ (Nat.le_of_ble_eq_true rfl) (kI fun z79 σ79 hh => ?_)
                    obtain ⟨m79, h79_0, h79_1⟩ := hh
                    refine st_X44 hX dX6_find_82 (by omega) (by omega) (by omega) (fun σ82 m82 s82 => ?_)
                    simp only [show σ79 44 = σ55 44 from (m79.at 44 rfl)] at s82
                    refine r_iinc hX (fun x83 => [some (.ref (w.2.2 27)), some (.int (iI x29)), some (.int (iI x41)), some (.int (iI i)), some (.int (iI x83)), none, none]) dX6_find_83 rfl rfl rfl (fun _ => rfl) (fun x83 e83 => ?_)
                    refine r_goto hX dX6_find_86 (tgt := 55) (by decide) ?_
                    exact ih55 x83 σ82 (Mod.tr (L := [37, 44]) (Mod.tr (L := [37, 44]) m55 m79 rfl rfl) m82 rfl rfl) (by omega) (fun u v u0 v0 v1 q => by
  rw [s82]
  by_cases w : u = i ∧ v = j
  · rw [if_pos (by omega), h79_0, w.1, w.2]
  · rw [if_neg (by omega)]; exact hWy2 u v u0 v0 v1 (by omega)) (by omega)
              exact lp55 ((10 - (x53)) + 1).toNat x53 σ44 Mod.rf (by omega) (fun u v u0 v0 v1 q => hWy1 u v u0 (by omega) v0 v1) (by omega)
        exact lp44 ((10 - (x43)) + 1).toNat x43 σ38 Mod.rf (by omega) (fun u v u0 u1 => by omega) (by omega)
      · skip
        refine r_bipush hX dX6_find_34 (by decide) ?_
        exact r_iret hX dX6_find_36 rfl ⟨_, rfl, ⟨(Mod.tr (L := [33, 37, 38, 39, 40, 41, 42, 43, 44, 63, 64, 67]) m11 m22 rfl rfl), (by exact Or.inr (Or.inr ⟨by omega, hsn, Or.inl ⟨(show x29 = -6 by omega) ▸ hpb, rfl, SameQ.of (L := [33, 67]) (Mod.tr (L := [33, 67]) m11 m22 rfl rfl) rfl⟩⟩))⟩⟩
    · skip
      refine r_bipush hX dX6_find_17 (by decide) ?_
      exact r_iret hX dX6_find_19 rfl ⟨_, rfl, ⟨(m11.w rfl), (by exact Or.inr (Or.inl ⟨by omega, cf_no h11_0 (by omega), rfl, SameQ.of m11 rfl⟩))⟩⟩
  · skip
    refine r_bipush hX dX6_find_7 (by decide) ?_
    exact r_iret hX dX6_find_9 rfl ⟨_, rfl, ⟨Mod.rf, (by exact Or.inl ⟨by omega, rfl, rfl, rfl, rfl, rfl⟩)⟩⟩
