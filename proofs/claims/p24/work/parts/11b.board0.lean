/-! PURE: what the board's calls keep -/
theorem cdiv_nn {x n : Int} (hn : 0 < n) (hx : 0 ≤ x) : 0 ≤ cdiv x n := by
  have h := Int.ediv_le_ediv hn (show -x ≤ 0 by omega)
  rw [Int.zero_ediv] at h
  unfold cdiv
  omega
theorem LoopOK.keep {σ τ : MM} {L : List Nat} (h : LoopOK σ) (m : Mod L σ τ) (hL : ([5, 6, 7, 8, 53, 54] : List Nat).all (fun r => !(L.contains r)) = true) : LoopOK τ := by
  have e : ∀ r ∈ ([5, 6, 7, 8, 53, 54] : List Nat), τ r = σ r := fun r hr => m.at r (by have := List.all_eq_true.mp hL r hr; simpa using this)
  unfold LoopOK at *
  rw [e 5 (by decide), e 6 (by decide), e 7 (by decide), e 8 (by decide), e 53 (by decide), e 54 (by decide)]
  exact h
theorem Added.keep {σ σ1 τ : MM} {L : List Nat} {k p q s1 d1 s2 d2 : Int} (h : Added σ σ1 k p q s1 d1 s2 d2) (m : Mod L σ1 τ) (hL : ([2, 3, 4, 5, 6, 53] : List Nat).all (fun r => !(L.contains r)) = true) : Added σ τ k p q s1 d1 s2 d2 := by
  have e : ∀ r ∈ ([2, 3, 4, 5, 6, 53] : List Nat), τ r = σ1 r := fun r hr => m.at r (by have := List.all_eq_true.mp hL r hr; simpa using this)
  unfold Added at *
  rw [e 2 (by decide), e 3 (by decide), e 4 (by decide), e 5 (by decide), e 6 (by decide), e 53 (by decide)]
  exact h
theorem DatOK.keep {σ τ : MM} {L : List Nat} (h : DatOK σ) (m : Mod L σ τ) (hL : ([2, 5, 53] : List Nat).all (fun r => !(L.contains r)) = true) : DatOK τ := by
  have e : ∀ r ∈ ([2, 5, 53] : List Nat), τ r = σ r := fun r hr => m.at r (by have := List.all_eq_true.mp hL r hr; simpa using this)
  unfold DatOK at *
  rw [e 2 (by decide), e 5 (by decide), e 53 (by decide)]
  exact h
theorem P4x_keep {σ τ : MM} {L : List Nat} (m : Mod L σ τ) (hL : ([2, 5, 6, 13, 15, 16, 58] : List Nat).all (fun r => !(L.contains r)) = true) : P4x τ = P4x σ := by
  have e : ∀ r ∈ ([2, 5, 6, 13, 15, 16, 58] : List Nat), τ r = σ r := fun r hr => m.at r (by have := List.all_eq_true.mp hL r hr; simpa using this)
  unfold P4x
  rw [e 2 (by decide), e 5 (by decide), e 6 (by decide), e 13 (by decide), e 15 (by decide), e 16 (by decide), e 58 (by decide)]
theorem SBx_keep {σ τ : MM} {L : List Nat} (m : Mod L σ τ) (hL : ([2, 3, 4, 5, 6, 16, 53, 55, 58] : List Nat).all (fun r => !(L.contains r)) = true) (V : Int → Int) (R bt act : Int) : SBx τ V R bt act ↔ SBx σ V R bt act := by
  have e : ∀ r ∈ ([2, 3, 4, 5, 6, 16, 53, 55, 58] : List Nat), τ r = σ r := fun r hr => m.at r (by have := List.all_eq_true.mp hL r hr; simpa using this)
  unfold SBx VALx
  rw [e 2 (by decide), e 3 (by decide), e 4 (by decide), e 5 (by decide), e 6 (by decide), e 16 (by decide), e 53 (by decide), e 55 (by decide), e 58 (by decide)]
theorem EQs_keep {σ τ : MM} {L : List Nat} (m : Mod L σ τ) (hL : ([2, 3, 4, 5, 6, 53, 55] : List Nat).all (fun r => !(L.contains r)) = true) (V : Int → Int) (T : Int) : EQs τ V T ↔ EQs σ V T := by
  have e : ∀ r ∈ ([2, 3, 4, 5, 6, 53, 55] : List Nat), τ r = σ r := fun r hr => m.at r (by have := List.all_eq_true.mp hL r hr; simpa using this)
  unfold EQs VALx
  rw [e 2 (by decide), e 3 (by decide), e 4 (by decide), e 5 (by decide), e 6 (by decide), e 53 (by decide), e 55 (by decide)]
def GoodX (σ : MM) : Prop := 0 < σ 58 0 ∧ σ 54 0 = σ 53 0 ∧ FLx σ 0
def BadX (σ : MM) : Prop := σ 54 0 ≠ σ 53 0 ∨ ∃ y, FLx σ y ∧ y ≠ 0
theorem good_of {σ : MM} {z : Int} (h : (z = 1 ∧ 0 < σ 58 0 ∧ σ 54 0 = σ 53 0 ∧ FLx σ 0) ∨ (z = 0 ∧ (σ 58 0 = 0 ∨ σ 54 0 ≠ σ 53 0 ∨ ∃ y, FLx σ y ∧ y ≠ 0))) (hb : 0 < σ 58 0) : (z = 1 ∧ GoodX σ) ∨ (z = 0 ∧ BadX σ) := by
  rcases h with h | ⟨h, q | q | q⟩
  · exact Or.inl h
  · omega
  · exact Or.inr ⟨h, Or.inl q⟩
  · exact Or.inr ⟨h, Or.inr q⟩
theorem GoodX.late {σ : MM} (h : GoodX σ) (hc : σ 53 0 ≤ 8) (s : Int) (s0 : 0 ≤ s) (s1 : s < 2 * σ 53 0) : ¬ P4x σ s :=
  ((FL.rng h.2.2 hc).2.2.mp rfl).2.2.2 s s0 s1
def RBx (σ : MM) (z : Int) : Prop := (1 ≤ z ∧ z ≤ 16) ∧ (∀ n : Int, 1 ≤ n → n < z → ¬ RH (σ 2) (σ 5) (σ 6) (σ 53 0) n) ∧ (z < 16 → RH (σ 2) (σ 5) (σ 6) (σ 53 0) z)
theorem cf_no2 {A B : Prop} {z : Int} (h : (z = 1 ∧ A) ∨ (z = 0 ∧ B)) (hz : z = 0) : B := by
  rcases h with ⟨q, -⟩ | ⟨-, q⟩
  · omega
  · exact q
theorem cf_yes2 {A B : Prop} {z : Int} (h : (z = 1 ∧ A) ∨ (z = 0 ∧ B)) (hz : z ≠ 0) : A := by
  rcases h with ⟨-, q⟩ | ⟨q, -⟩
  · exact q
  · omega
theorem r_i2lR {S : ST} {l : Launch} {w : WT} {cc : ByteArray} {nL : Nat} {ret : Option FieldType} {own : String} {R : Room} {P : Option Value → MM → Prop} {G : GT} {pc : Nat} {lv : List (Option Value)} {st : List Value} {σ : MM} (hX : Cx S l w cc nL ret own R P G) {a : Int} (hd : decode cc pc = .ok (.i2l, 1)) (k : G (pc + 1) lv (.long (lI (iI a).toInt) :: st) σ) : G pc lv (.int (iI a) :: st) σ := by
  have e : iI a = iI (iI a).toInt := (iI_self (iI a)).symm
  rw [e]
  have h1 := Int32.le_toInt (iI a)
  have h2 := Int32.toInt_lt (iI a)
  refine r_i2l hX hd ⟨by omega, by omega⟩ ?_
  exact k
/-- how a beat's search ends: 1 found, 0 there is none, 2 spent -/
def OutD (c pl : Int) (Gs : Int → (Int → Int) → Prop) (r : Int) : Prop := ∃ k : Nat, endD c pl (runD c pl Gs k) ∧ (((runD c pl Gs k).1 = c ∧ r = 1) ∨ ((runD c pl Gs k).1 < 0 ∧ r = 0) ∨ (0 ≤ (runD c pl Gs k).1 ∧ (runD c pl Gs k).1 < c ∧ r = 2))
theorem OutD.uniq {c pl r q : Int} {Gs : Int → (Int → Int) → Prop} (hc : 0 ≤ c) (h : OutD c pl Gs r) (g : OutD c pl Gs q) : r = q := by
  obtain ⟨k, k1, k2⟩ := h
  obtain ⟨j, j1, j2⟩ := g
  rw [runD_uniq j1 k1] at j2
  omega
def OutX (σ : MM) (bt r : Int) : Prop := OutD (σ 53 0) (σ 56 0 * σ 57 0 * bt) (GsX σ bt) r
/-- what was found stands in the plan -/
def FoundD (c n bt : Int) (Gs : Int → (Int → Int) → Prop) (kd src dist W lc ls : Int → Int) : Prop := ∃ (k : Nat) (T : Int → Int), endD c (n * bt) (runD c (n * bt) Gs k) ∧ (runD c (n * bt) Gs k).1 = c ∧
  LeastS src (gapS kd src dist W (fun l => (runD c (n * bt) Gs k).2.1 l / bt) (fun l => (runD c (n * bt) Gs k).2.1 l % bt) bt) (c - 1) T ∧
  ∀ l, 0 ≤ l → l < c → lc l = (runD c (n * bt) Gs k).2.1 l / bt ∧ ls l = (runD c (n * bt) Gs k).2.1 l % bt + bt * T l ∧ 0 ≤ lc l ∧ lc l < n
def FoundX (σ τ : MM) (bt : Int) : Prop := FoundD (σ 53 0) (σ 56 0 * σ 57 0) bt (GsX σ bt) (σ 2) (σ 5) (σ 6) (σ 13) (τ 15) (τ 16)
theorem DFin.base {σ τ υ : MM} {bt z : Int} {L : List Nat} (m : Mod L σ τ) (hL : ([2, 5, 6, 11, 12, 13, 53, 56, 57] : List Nat).all (fun r => !(L.contains r)) = true) (h : DFin τ υ bt z) : DFin σ υ bt z := by
  have e : ∀ r ∈ ([2, 5, 6, 11, 12, 13, 53, 56, 57] : List Nat), τ r = σ r := fun r hr => m.at r (by have := List.all_eq_true.mp hL r hr; simpa using this)
  unfold DFin GsX GoesX gapX at *
  rw [e 2 (by decide), e 5 (by decide), e 6 (by decide), e 11 (by decide), e 12 (by decide), e 13 (by decide), e 53 (by decide), e 56 (by decide), e 57 (by decide)] at h
  exact h
theorem DFin.o0 {σ υ : MM} {bt z : Int} (h : DFin σ υ bt z) (hb : 1 ≤ bt) (hz : z ≠ bt) (hz2 : z ≠ -7) : OutX σ bt 0 := by
  obtain ⟨k, k1, -, k2⟩ := h
  refine ⟨k, k1, ?_⟩
  rcases k2 with ⟨-, q, -⟩ | ⟨q, -⟩ | ⟨-, -, q⟩
  · exact absurd q hz
  · exact Or.inr (Or.inl ⟨q, rfl⟩)
  · exact absurd q hz2
theorem DFin.o2 {σ υ : MM} {bt z : Int} (h : DFin σ υ bt z) (hb : 1 ≤ bt) (hz : z = -7) : OutX σ bt 2 := by
  obtain ⟨k, k1, -, k2⟩ := h
  refine ⟨k, k1, ?_⟩
  rcases k2 with ⟨-, q, -⟩ | ⟨-, q⟩ | ⟨q1, q2, -⟩
  · omega
  · omega
  · exact Or.inr (Or.inr ⟨q1, q2, rfl⟩)
theorem DFin.o1 {σ υ τ : MM} {bt z : Int} (h : DFin σ υ bt z) (hb : 1 ≤ bt) (hz : z = bt) (ht : ∀ a : Int, 0 ≤ a → a < σ 53 0 → τ 15 a = υ 18 a ∧ τ 16 a = υ 19 a + bt * υ 22 ((σ 53 0 - 1) * 8 + a)) : OutX σ bt 1 ∧ FoundX σ τ bt := by
  obtain ⟨k, k1, -, k2⟩ := h
  rcases k2 with ⟨q1, -, q2, q3⟩ | ⟨-, q⟩ | ⟨-, -, q⟩
  · refine ⟨⟨k, k1, Or.inl ⟨q1, rfl⟩⟩, k, _, k1, q1, q3.congr (fun s s0 s1 hs => ?_) (fun _ _ _ => rfl), fun l l0 l1 => ?_⟩
    · have a1 := q2 (σ 5 s) hs.1 (by have := hs.2; omega)
      have a2 := q2 (s / 2) (by omega) (by omega)
      unfold gapX gapS
      rw [a1.1, a1.2.1, a2.1, a2.2.1]
    · have a1 := q2 l l0 l1
      have a2 := ht l l0 l1
      exact ⟨by rw [a2.1]; exact a1.1, by rw [a2.2, a1.2.1], by rw [a2.1]; exact a1.2.2.1, by rw [a2.1]; exact a1.2.2.2⟩
  · omega
  · omega
def SameP (σ τ : MM) : Prop := τ 15 = σ 15 ∧ τ 16 = σ 16 ∧ τ 51 = σ 51 ∧ τ 58 = σ 58
theorem SameP.of {σ τ : MM} {L : List Nat} (m : Mod L σ τ) (hL : ([15, 16, 51, 58] : List Nat).all (fun r => !(L.contains r)) = true) : SameP σ τ := by
  have e : ∀ r ∈ ([15, 16, 51, 58] : List Nat), τ r = σ r := fun r hr => m.at r (by have := List.all_eq_true.mp hL r hr; simpa using this)
  exact ⟨e 15 (by decide), e 16 (by decide), e 51 (by decide), e 58 (by decide)⟩
/-- how a find ends, from the least beat on -/
def FndE (pl rg : Int) (Out : Int → Int → Prop) (Fd : Int → Prop) (same : Prop) (z : Int) : Prop := ∃ bt : Int, pl ≤ bt ∧ rg ≤ bt ∧ (∀ b, pl ≤ b → rg ≤ b → b < bt → Out b 0) ∧
  ((12 < bt ∧ z = -6 ∧ same) ∨ (bt ≤ 12 ∧ Out bt 2 ∧ z = -7 ∧ same) ∨ (bt ≤ 12 ∧ Out bt 1 ∧ Fd bt ∧ z = bt))
def FndX (σ τ : MM) (z : Int) : Prop := (σ 53 0 = 0 ∧ z = -3 ∧ SameP σ τ) ∨ (σ 53 0 ≠ 0 ∧ σ 54 0 ≠ σ 53 0 ∧ z = -5 ∧ SameP σ τ) ∨
  (σ 53 0 ≠ 0 ∧ σ 54 0 = σ 53 0 ∧ ((PBX σ (-6) ∧ z = -6 ∧ SameP σ τ) ∨ ∃ pl rg : Int, PBX σ pl ∧ pl ≠ -6 ∧ RBx σ rg ∧ FndE pl rg (OutX σ) (fun bt => FoundX σ τ bt ∧ τ 58 0 = bt ∧ τ 51 0 = 0) (SameP σ τ) z))
theorem FndX.go {σ τ : MM} {pl rg ls bt z : Int} (h1 : σ 53 0 ≠ 0) (h2 : σ 54 0 = σ 53 0) (hp : PBX σ pl) (hn : pl ≠ -6) (hr : RBx σ rg) (hl : (pl < rg ∧ ls = rg) ∨ (rg ≤ pl ∧ ls = pl)) (hb : ls ≤ bt) (hO : ∀ b, ls ≤ b → b < bt → OutX σ b 0)
    (he : (12 < bt ∧ z = -6 ∧ SameP σ τ) ∨ (bt ≤ 12 ∧ OutX σ bt 2 ∧ z = -7 ∧ SameP σ τ) ∨ (bt ≤ 12 ∧ OutX σ bt 1 ∧ (FoundX σ τ bt ∧ τ 58 0 = bt ∧ τ 51 0 = 0) ∧ z = bt)) : FndX σ τ z :=
  Or.inr (Or.inr ⟨h1, h2, Or.inr ⟨pl, rg, hp, hn, hr, bt, by omega, by omega, fun b b0 b1 b2 => hO b (by omega) b2, he⟩⟩)
theorem DFin.rng {σ υ : MM} {bt z : Int} (h : DFin σ υ bt z) : z = bt ∨ z = -6 ∨ z = -7 := by
  obtain ⟨k, k1, -, k2⟩ := h
  rcases k2 with ⟨-, q, -⟩ | ⟨-, q⟩ | ⟨-, -, q⟩
  · exact Or.inl q
  · exact Or.inr (Or.inl q)
  · exact Or.inr (Or.inr q)
