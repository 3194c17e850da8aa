/-! PURE: values of acts by rounds; a row V holds act a's value of round t at a * 61 + t -/
def opV (src dist V : Int → Int) (f s t : Int) : Int := if t - dist s < 0 then f else V (src s * 61 + (t - dist s))
def VAL (kd p q src dist V : Int → Int) (f a t : Int) : Int32 :=
  if kd a = 0 then iI (p a * t + q a) else
  if kd a = 1 then iI (opV src dist V f (2 * a) t + opV src dist V f (2 * a + 1) t) else
  if kd a = 2 then iI (opV src dist V f (2 * a) t - opV src dist V f (2 * a + 1) t) else
  if kd a = 3 then iI (opV src dist V f (2 * a) t * opV src dist V f (2 * a + 1) t) else
  if kd a = 4 then (if iI (opV src dist V f (2 * a + 1) t) < iI (opV src dist V f (2 * a) t) then iI (opV src dist V f (2 * a + 1) t) else iI (opV src dist V f (2 * a) t)) else
  (if iI (opV src dist V f (2 * a) t) < iI (opV src dist V f (2 * a + 1) t) then iI (opV src dist V f (2 * a + 1) t) else iI (opV src dist V f (2 * a) t))
theorem VAL_congr {kd p q src dist V V1 : Int → Int} {f a t : Int} (h : kd a = 0 ∨ ∀ s, (s = 2 * a ∨ s = 2 * a + 1) → 0 ≤ t - dist s → V1 (src s * 61 + (t - dist s)) = V (src s * 61 + (t - dist s))) : VAL kd p q src dist V1 f a t = VAL kd p q src dist V f a t := by
  unfold VAL
  rcases h with h | h
  · rw [if_pos h, if_pos h]
  · have e : ∀ s, (s = 2 * a ∨ s = 2 * a + 1) → opV src dist V1 f s t = opV src dist V f s t := fun s hs => by
      unfold opV
      split
      · rfl
      · exact h s hs (by omega)
    rw [e (2 * a) (Or.inl rfl), e (2 * a + 1) (Or.inr rfl)]
/-- inputs have no operands, all others two -/
def DatOK (σ : MM) : Prop := ∀ a, 0 ≤ a → a < σ 53 0 → (σ 2 a = 0 ∧ σ 5 (2 * a) = -6 ∧ σ 5 (2 * a + 1) = -6) ∨ (1 ≤ σ 2 a ∧ 0 ≤ σ 5 (2 * a) ∧ 0 ≤ σ 5 (2 * a + 1))
def VALx (σ : MM) (V : Int → Int) (a t : Int) : Int32 := VAL (σ 2) (σ 3) (σ 4) (σ 5) (σ 6) V (σ 55 0) a t
/-- the values of rounds 0 to T - 1 stand in V -/
def EQs (σ : MM) (V : Int → Int) (T : Int) : Prop := ∀ t a, 0 ≤ t → t < T → 0 ≤ a → a < σ 53 0 → iI (V (a * 61 + t)) = VALx σ V a t
/-- a round's values are being made, place by place -/
def MR (σ : MM) (V : Int → Int) (t p : Int) (V1 : Int → Int) : Prop :=
  (∀ a t1, 0 ≤ a → a < 8 → 0 ≤ t1 → t1 ≤ 60 → t1 ≠ t → V1 (a * 61 + t1) = V (a * 61 + t1)) ∧ ∀ i, 0 ≤ i → i < p → iI (V1 (σ 7 i * 61 + t)) = VALx σ V1 (σ 7 i) t
theorem MR.init {σ : MM} {V : Int → Int} {t : Int} : MR σ V t 0 V := ⟨fun _ _ _ _ _ _ _ => rfl, fun i i0 i1 => by omega⟩
theorem ar_ord {σ : MM} (h : LoopOK σ) (e : σ 54 0 = σ 53 0) (hc : σ 53 0 ≤ 8) {i : Int} (i0 : 0 ≤ i) (i1 : i < σ 53 0) : 0 ≤ σ 7 i ∧ σ 7 i < σ 53 0 ∧ Dep (σ 5) (σ 6) (σ 53 0) (σ 7) i (2 * σ 7 i) ∧ Dep (σ 5) (σ 6) (σ 53 0) (σ 7) i (2 * σ 7 i + 1) := by
  obtain ⟨⟨-, -, h5, -, -⟩, -⟩ := h
  obtain ⟨g1, g2, -, g3, g4⟩ := h5 i i0 (by omega)
  exact ⟨g1, g2, g3, g4⟩
theorem MR.next {σ : MM} {V V1 V2 : Int → Int} {t p v : Int} (h : LoopOK σ) (e : σ 54 0 = σ 53 0) (hD : DatOK σ) (hc : σ 53 0 ≤ 8) (hdist : ∀ s, 0 ≤ σ 6 s ∧ σ 6 s ≤ 3) (ht : 0 ≤ t ∧ t ≤ 60) (hM : MR σ V t p V1) (hp : 0 ≤ p ∧ p < σ 53 0)
    (hv : iI v = VALx σ V1 (σ 7 p) t) (h2 : ∀ b, V2 b = if b = σ 7 p * 61 + t then v else V1 b) : MR σ V t (p + 1) V2 := by
  obtain ⟨m1, m2⟩ := hM
  obtain ⟨o1, o2, o3, o4⟩ := ar_ord h e hc hp.1 hp.2
  have dist := h.1.2.2.2.2
  have key : ∀ i, 0 ≤ i → i ≤ p → VALx σ V2 (σ 7 i) t = VALx σ V1 (σ 7 i) t := by
    intro i i0 i1
    obtain ⟨q1, q2, q3, q4⟩ := ar_ord h e hc i0 (show i < σ 53 0 by omega)
    refine VAL_congr ?_
    rcases hD (σ 7 i) q1 q2 with k | k
    · exact Or.inl k.1
    · refine Or.inr fun s hs hts => ?_
      have hd : Dep (σ 5) (σ 6) (σ 53 0) (σ 7) i s := by
        rcases hs with rfl | rfl
        · exact q3
        · exact q4
      rw [h2, if_neg]
      have hds := hdist s
      rcases hd with d | ⟨d1, d2, d3⟩
      · rcases hs with rfl | rfl <;> omega
      · rcases d3 with d3 | ⟨j, j0, j1, j2⟩
        · omega
        · have := dist j p j0 (by omega) (by omega)
          omega
  refine ⟨fun a t1 a0 a1 t0 t2 tn => ?_, fun i i0 i1 => ?_⟩
  · rw [h2, if_neg (by omega)]
    exact m1 a t1 a0 a1 t0 t2 tn
  · by_cases q : i = p
    · rw [key i i0 (by omega), h2, q, if_pos rfl]
      exact hv
    · rw [key i i0 (by omega), h2, if_neg]
      · exact m2 i i0 (by omega)
      · have := dist i p i0 (by omega) (by omega)
        omega
theorem MR.fin {σ : MM} {V V1 : Int → Int} {t p : Int} (h : LoopOK σ) (e : σ 54 0 = σ 53 0) (hD : DatOK σ) (hc : σ 53 0 ≤ 8) (hdist : ∀ s, 0 ≤ σ 6 s ∧ σ 6 s ≤ 3) (ht : 0 ≤ t ∧ t ≤ 60) (hE : EQs σ V t) (hM : MR σ V t p V1) (hp : σ 53 0 ≤ p) : EQs σ V1 (t + 1) := by
  obtain ⟨m1, m2⟩ := hM
  have hS := srcOK_of h e
  intro t1 a t0 t2 a0 a1
  by_cases q : t1 = t
  · obtain ⟨⟨⟨h1, h3, h4⟩, h5, h6, h7, -⟩, -⟩ := h
    obtain ⟨i, i0, i1, i2⟩ := h7 a a0 a1 (sm_all (σ 53 0).toNat (fun k k0 k1 => h5 k k0 (by omega)) (by omega) a a0 (by omega))
    rw [q, ← i2]
    exact m2 i i0 (by omega)
  · rw [m1 a t1 a0 (by omega) t0 (by omega) q, hE t1 a t0 (by omega) a0 a1]
    refine (VAL_congr ?_).symm
    rcases hD a a0 a1 with k | k
    · exact Or.inl k.1
    · refine Or.inr fun s hs hts => ?_
      have hds := hdist s
      have hsr := hS s (by omega) (by omega)
      have hs2 : 0 ≤ σ 5 s := by rcases hs with rfl | rfl <;> omega
      exact m1 (σ 5 s) (t1 - σ 6 s) hs2 (by omega) hts (by omega) (by omega)
theorem VALx_of {σ σ1 : MM} {L : List Nat} (h : Mod L σ σ1) (hL : ([2, 3, 4, 5, 6, 55] : List Nat).all (fun r => !(L.contains r)) = true) (V : Int → Int) (a t : Int) : VALx σ1 V a t = VALx σ V a t := by
  have e : ∀ r ∈ ([2, 3, 4, 5, 6, 55] : List Nat), σ1 r = σ r := fun r hr => h.at r (by have := List.all_eq_true.mp hL r hr; simpa using this)
  unfold VALx
  rw [e 2 (by decide), e 3 (by decide), e 4 (by decide), e 5 (by decide), e 6 (by decide), e 55 (by decide)]
