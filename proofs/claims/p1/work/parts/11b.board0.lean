/-! PURE: what the board's calls keep -/
theorem cdiv_nn {x n : Int} (hn : 0 < n) (hx : 0 ≤ x) : 0 ≤ cdiv x n := by
  have h := Int.ediv_le_ediv hn (show -x ≤ 0 by omega)
  rw [Int.zero_ediv] at h
  unfold cdiv
  omega
theorem LoopOK.keep {σ τ : MM} {L : List Nat} (h : LoopOK σ) (m : Mod L σ τ) (hL : ([5, 6, 7, 8, 53, 54] : List Nat).all (fun r => !(L.contains r)) = true) : LoopOK τ := by
  have e : ∀ r ∈ ([5, 6, 7, 8, 53, 54] : List Nat), τ r = σ r := fun r hr => m.at r (by have := List.all_eq_true.mp hL r hr; simpa using this)
  unfold LoopOK at *
  rw [e 5 (by decide), e 6 (by decide), e 7 (by decide), e 8 (by decide), e 53 (by decide), e 54 (by decide)]
  exact h
theorem Added.keep {σ σ1 τ : MM} {L : List Nat} {k p q s1 d1 s2 d2 : Int} (h : Added σ σ1 k p q s1 d1 s2 d2) (m : Mod L σ1 τ) (hL : ([2, 3, 4, 5, 6, 53] : List Nat).all (fun r => !(L.contains r)) = true) : Added σ τ k p q s1 d1 s2 d2 := by
  have e : ∀ r ∈ ([2, 3, 4, 5, 6, 53] : List Nat), τ r = σ1 r := fun r hr => m.at r (by have := List.all_eq_true.mp hL r hr; simpa using this)
  unfold Added at *
  rw [e 2 (by decide), e 3 (by decide), e 4 (by decide), e 5 (by decide), e 6 (by decide), e 53 (by decide)]
  exact h
