/-! PURE: what the board's calls keep -/
theorem cdiv_nn {x n : Int} (hn : 0 < n) (hx : 0 ≤ x) : 0 ≤ cdiv x n := by
  have h := Int.ediv_le_ediv hn (show -x ≤ 0 by omega)
  rw [Int.zero_ediv] at h
  unfold cdiv
  omega
theorem LoopOK.keep {σ τ : MM} {L : List Nat} (h : LoopOK σ) (m : Mod L σ τ) (hL : ([5, 6, 7, 8, 53, 54] : List Nat).all (fun r => !(L.contains r)) = true) : LoopOK τ := by
  have e : ∀ r ∈ ([5, 6, 7, 8, 53, 54] : List Nat), τ r = σ r := fun r hr => m.at r (by have := List.all_eq_true.mp hL r hr; simpa using this)
  unfold LoopOK at *
  rw [e 5 (by decide), e 6 (by decide), e 7 (by decide), e 8 (by decide), e 53 (by decide), e 54 (by decide)]
  exact h
theorem Added.keep {σ σ1 τ : MM} {L : List Nat} {k p q s1 d1 s2 d2 : Int} (h : Added σ σ1 k p q s1 d1 s2 d2) (m : Mod L σ1 τ) (hL : ([2, 3, 4, 5, 6, 53] : List Nat).all (fun r => !(L.contains r)) = true) : Added σ τ k p q s1 d1 s2 d2 := by
  have e : ∀ r ∈ ([2, 3, 4, 5, 6, 53] : List Nat), τ r = σ1 r := fun r hr => m.at r (by have := List.all_eq_true.mp hL r hr; simpa using this)
  unfold Added at *
  rw [e 2 (by decide), e 3 (by decide), e 4 (by decide), e 5 (by decide), e 6 (by decide), e 53 (by decide)]
  exact h
theorem DatOK.keep {σ τ : MM} {L : List Nat} (h : DatOK σ) (m : Mod L σ τ) (hL : ([2, 5, 53] : List Nat).all (fun r => !(L.contains r)) = true) : DatOK τ := by
  have e : ∀ r ∈ ([2, 5, 53] : List Nat), τ r = σ r := fun r hr => m.at r (by have := List.all_eq_true.mp hL r hr; simpa using this)
  unfold DatOK at *
  rw [e 2 (by decide), e 5 (by decide), e 53 (by decide)]
  exact h
theorem P4x_keep {σ τ : MM} {L : List Nat} (m : Mod L σ τ) (hL : ([2, 5, 6, 13, 15, 16, 58] : List Nat).all (fun r => !(L.contains r)) = true) : P4x τ = P4x σ := by
  have e : ∀ r ∈ ([2, 5, 6, 13, 15, 16, 58] : List Nat), τ r = σ r := fun r hr => m.at r (by have := List.all_eq_true.mp hL r hr; simpa using this)
  unfold P4x
  rw [e 2 (by decide), e 5 (by decide), e 6 (by decide), e 13 (by decide), e 15 (by decide), e 16 (by decide), e 58 (by decide)]
theorem SBx_keep {σ τ : MM} {L : List Nat} (m : Mod L σ τ) (hL : ([2, 3, 4, 5, 6, 16, 53, 55, 58] : List Nat).all (fun r => !(L.contains r)) = true) (V : Int → Int) (R bt act : Int) : SBx τ V R bt act ↔ SBx σ V R bt act := by
  have e : ∀ r ∈ ([2, 3, 4, 5, 6, 16, 53, 55, 58] : List Nat), τ r = σ r := fun r hr => m.at r (by have := List.all_eq_true.mp hL r hr; simpa using this)
  unfold SBx VALx
  rw [e 2 (by decide), e 3 (by decide), e 4 (by decide), e 5 (by decide), e 6 (by decide), e 16 (by decide), e 53 (by decide), e 55 (by decide), e 58 (by decide)]
theorem EQs_keep {σ τ : MM} {L : List Nat} (m : Mod L σ τ) (hL : ([2, 3, 4, 5, 6, 53, 55] : List Nat).all (fun r => !(L.contains r)) = true) (V : Int → Int) (T : Int) : EQs τ V T ↔ EQs σ V T := by
  have e : ∀ r ∈ ([2, 3, 4, 5, 6, 53, 55] : List Nat), τ r = σ r := fun r hr => m.at r (by have := List.all_eq_true.mp hL r hr; simpa using this)
  unfold EQs VALx
  rw [e 2 (by decide), e 3 (by decide), e 4 (by decide), e 5 (by decide), e 6 (by decide), e 53 (by decide), e 55 (by decide)]
def GoodX (σ : MM) : Prop := 0 < σ 58 0 ∧ σ 54 0 = σ 53 0 ∧ FLx σ 0
def BadX (σ : MM) : Prop := σ 54 0 ≠ σ 53 0 ∨ ∃ y, FLx σ y ∧ y ≠ 0
theorem good_of {σ : MM} {z : Int} (h : (z = 1 ∧ 0 < σ 58 0 ∧ σ 54 0 = σ 53 0 ∧ FLx σ 0) ∨ (z = 0 ∧ (σ 58 0 = 0 ∨ σ 54 0 ≠ σ 53 0 ∨ ∃ y, FLx σ y ∧ y ≠ 0))) (hb : 0 < σ 58 0) : (z = 1 ∧ GoodX σ) ∨ (z = 0 ∧ BadX σ) := by
  rcases h with h | ⟨h, q | q | q⟩
  · exact Or.inl h
  · omega
  · exact Or.inr ⟨h, Or.inl q⟩
  · exact Or.inr ⟨h, Or.inr q⟩
theorem GoodX.late {σ : MM} (h : GoodX σ) (hc : σ 53 0 ≤ 8) (s : Int) (s0 : 0 ≤ s) (s1 : s < 2 * σ 53 0) : ¬ P4x σ s :=
  ((FL.rng h.2.2 hc).2.2.mp rfl).2.2.2 s s0 s1
def RBx (σ : MM) (z : Int) : Prop := (1 ≤ z ∧ z ≤ 16) ∧ (∀ n : Int, 1 ≤ n → n < z → ¬ RH (σ 2) (σ 5) (σ 6) (σ 53 0) n) ∧ (z < 16 → RH (σ 2) (σ 5) (σ 6) (σ 53 0) z)
theorem cf_no2 {A B : Prop} {z : Int} (h : (z = 1 ∧ A) ∨ (z = 0 ∧ B)) (hz : z = 0) : B := by
  rcases h with ⟨q, -⟩ | ⟨-, q⟩
  · omega
  · exact q
theorem cf_yes2 {A B : Prop} {z : Int} (h : (z = 1 ∧ A) ∨ (z = 0 ∧ B)) (hz : z ≠ 0) : A := by
  rcases h with ⟨-, q⟩ | ⟨q, -⟩
  · exact q
  · omega
