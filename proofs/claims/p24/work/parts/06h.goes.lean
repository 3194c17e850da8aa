/-! PURE: one try of the search -/
def inv2 (src : Int → Int) (a s : Int) : Prop := 0 ≤ s ∧ s < 2 * (a + 1) ∧ 0 ≤ src s ∧ src s ≤ a ∧ (src s = a ∨ s / 2 = a)
theorem STab.keep {σ τ υ : MM} {bt a : Int} (h : STab σ τ bt a) (hC : ∀ l, l ≠ a → υ 18 l = τ 18 l) (hO : ∀ l, l ≠ a → υ 19 l = τ 19 l) (hg : ∀ s, ¬ inv2 (σ 5) a s → υ 21 s = τ 21 s) (ht : ∀ b, b < a * 8 → υ 22 b = τ 22 b) (a8 : a ≤ 8 := by omega) : STab σ υ bt a := by
  intro j j0 j1
  obtain ⟨h1, h2, h3, h4⟩ := h j j0 j1
  have eg : ∀ s, 0 ≤ s → s < 2 * (j + 1) → enS (σ 5) j s → gapX σ υ bt s = gapX σ τ bt s := fun s s0 s1 hs => by
    unfold gapX gapS
    have := hs.2
    rw [hC (σ 5 s) (by omega), hC (s / 2) (by omega), hO (σ 5 s) (by omega), hO (s / 2) (by omega)]
  refine ⟨h1.congr eg fun l l0 l1 => ht _ (by omega), fun s s0 s1 hs => ?_, fun s s0 s1 hs => ?_, fun l l0 l1 => by rw [ht _ (by omega)]; exact h4 l l0 l1⟩
  · have := hs.2
    rw [hC (σ 5 s) (by omega), hC (s / 2) (by omega)]
    exact h2 s s0 s1 hs
  · rw [eg s s0 s1 hs, hg s (fun q => by have := hs.2; have := q.2.2.2.2; omega)]
    exact h3 s s0 s1 hs
theorem STab.gaps {σ τ υ : MM} {bt a : Int} (h : STab σ τ bt a) (hC : ∀ l, l ≠ a → υ 18 l = τ 18 l) (hO : ∀ l, l ≠ a → υ 19 l = τ 19 l) (hg : ∀ s, ¬ inv2 (σ 5) a s → υ 21 s = τ 21 s)
    (hG : ∀ s, inv2 (σ 5) a s → σ 13 (υ 18 (σ 5 s) * 9 + υ 18 (s / 2)) < 1000 ∧ υ 21 s = gapX σ υ bt s) (s : Int) (s0 : 0 ≤ s) (s1 : s < 2 * (a + 1)) (hs : enS (σ 5) a s) : σ 13 (υ 18 (σ 5 s) * 9 + υ 18 (s / 2)) < 1000 ∧ υ 21 s = gapX σ υ bt s := by
  by_cases q : inv2 (σ 5) a s
  · exact hG s q
  · have hs1 := hs.1
    have hs2 := hs.2
    have hj : σ 5 s < a ∧ s / 2 < a := by
      unfold inv2 at q
      omega
    obtain ⟨-, h2, h3, -⟩ := h (a - 1) (by omega) (by omega)
    have e2 := h2 s s0 (by omega) ⟨hs1, by omega⟩
    have e3 := h3 s s0 (by omega) ⟨hs1, by omega⟩
    refine ⟨by rw [hC (σ 5 s) (by omega), hC (s / 2) (by omega)]; exact e2, ?_⟩
    rw [hg s q, e3]
    unfold gapX gapS
    rw [hC (σ 5 s) (by omega), hC (s / 2) (by omega), hO (σ 5 s) (by omega), hO (s / 2) (by omega)]
theorem STab.row {σ τ υ : MM} {bt a : Int} (h : STab σ τ bt a) (hg : ∀ s, ¬ inv2 (σ 5) a s → υ 21 s = τ 21 s) (ha : 0 < a) : LeastS (σ 5) (υ 21) (a - 1) (fun l => τ 22 ((a - 1) * 8 + l)) := by
  obtain ⟨h1, -, h3, -⟩ := h (a - 1) (by omega) (by omega)
  refine h1.congr (fun s s0 s1 hs => ?_) (fun _ _ _ => rfl)
  rw [hg s (fun q => by have := hs.2; have := q.2.2.2.2; omega)]
  exact h3 s s0 s1 hs
theorem STab.rowB {σ τ : MM} {bt a : Int} (h : STab σ τ bt a) (l : Int) (l0 : 0 ≤ l) (l1 : l < a) : τ 22 ((a - 1) * 8 + l) ≤ 160000 * a := by
  have := (h (a - 1) (by omega) (by omega)).2.2.2 l l0 (by omega)
  omega
/-- the memory as the try begins: tries, cells, left-overs and the next try are written -/
def Try0 (σ υ : MM) (bt a : Int) : Prop := υ 60 0 = σ 60 0 + 1 ∧ (∀ b, υ 18 b = if b = a then σ 20 a / bt else σ 18 b) ∧ (∀ b, υ 19 b = if b = a then σ 20 a % bt else σ 19 b) ∧ (∀ b, υ 20 b = if b = a then σ 20 a + 1 else σ 20 b)
theorem Try0.C {σ υ : MM} {bt a : Int} (h : Try0 σ υ bt a) : ∀ l, l ≠ a → υ 18 l = σ 18 l := fun l hl => by rw [h.2.1, if_neg hl]
theorem Try0.O {σ υ : MM} {bt a : Int} (h : Try0 σ υ bt a) : ∀ l, l ≠ a → υ 19 l = σ 19 l := fun l hl => by rw [h.2.2.1, if_neg hl]
theorem gn_no {σ υ : MM} {bt a : Int} (h : Try0 σ υ bt a) (hS : STab σ σ bt a) (hg : ∀ s, ¬ inv2 (σ 5) a s → υ 21 s = σ 21 s) (ht : ∀ b, b < a * 8 → υ 22 b = σ 22 b) (hn : ¬ GoesX σ bt a (υ 18) (υ 19)) (a8 : a ≤ 8 := by omega) : GN σ σ υ bt a 0 :=
  ⟨h.1, h.2.1, h.2.2.1, h.2.2.2, Or.inr ⟨rfl, hn, hS.keep h.C h.O hg ht⟩⟩
theorem gn_noF {σ υ : MM} {bt a : Int} (h : Try0 σ υ bt a) (hS : STab σ σ bt a) (hg : ∀ s, ¬ inv2 (σ 5) a s → υ 21 s = σ 21 s) (ht : ∀ b, b < a * 8 → υ 22 b = σ 22 b)
    (hG : ∀ s, inv2 (σ 5) a s → σ 13 (υ 18 (σ 5 s) * 9 + υ 18 (s / 2)) < 1000 ∧ υ 21 s = gapX σ υ bt s) (hF : ¬ FeasS (σ 5) (υ 21) a) (a8 : a ≤ 8 := by omega) : GN σ σ υ bt a 0 :=
  gn_no h hS hg ht fun q => hF (q.2.2.congr fun s s0 s1 hs => (hS.gaps h.C h.O hg hG s s0 s1 hs).2)
theorem gn_yes {σ υ : MM} {bt a : Int} (h : Try0 σ υ bt a) (hS : STab σ σ bt a) (hg : ∀ s, ¬ inv2 (σ 5) a s → υ 21 s = σ 21 s) (ht : ∀ b, b < a * 8 → υ 22 b = σ 22 b)
    (hG : ∀ s, inv2 (σ 5) a s → σ 13 (υ 18 (σ 5 s) * 9 + υ 18 (s / 2)) < 1000 ∧ υ 21 s = gapX σ υ bt s) (hf : FreeS (σ 11) (σ 12) (σ 2) (υ 18) (υ 19) a) (hL : LeastS (σ 5) (υ 21) a (fun l => υ 22 (a * 8 + l))) (hB : ∀ l, 0 ≤ l → l ≤ a → υ 22 (a * 8 + l) ≤ 160000 * (a + 1)) (a8 : a ≤ 8 := by omega) : GN σ σ υ bt a 1 := by
  have hall := hS.gaps h.C h.O hg hG
  have hL2 : LeastS (σ 5) (gapX σ υ bt) a (fun l => υ 22 (a * 8 + l)) := hL.congr (fun s s0 s1 hs => (hall s s0 s1 hs).2.symm) (fun _ _ _ => rfl)
  have hW : WaysS (σ 5) (σ 13) (υ 18) a := fun s s0 s1 hs => (hall s s0 s1 hs).1
  refine ⟨h.1, h.2.1, h.2.2.1, h.2.2.2, Or.inl ⟨rfl, ⟨hf, hW, hL2.feas⟩, fun j j0 j1 => ?_⟩⟩
  by_cases e : j = a
  · rw [e]
    exact ⟨hL2, hW, fun s s0 s1 hs => (hall s s0 s1 hs).2, hB⟩
  · exact (hS.keep h.C h.O hg ht a8) j j0 (by omega)
theorem GN.base {σ τ τ1 : MM} {bt a z : Int} {L : List Nat} (m : Mod L σ τ) (hL : ([2, 5, 6, 11, 12, 13] : List Nat).all (fun r => !(L.contains r)) = true) (h : GN τ τ τ1 bt a z) : GN σ τ τ1 bt a z := by
  have e : ∀ r ∈ ([2, 5, 6, 11, 12, 13] : List Nat), τ r = σ r := fun r hr => m.at r (by have := List.all_eq_true.mp hL r hr; simpa using this)
  unfold GN GoesX STab gapX at h ⊢
  rw [e 2 (by decide), e 5 (by decide), e 6 (by decide), e 11 (by decide), e 12 (by decide), e 13 (by decide)] at h
  exact h
theorem STab.base {σ τ : MM} {bt a : Int} {L : List Nat} (m : Mod L σ τ) (hL : ([2, 5, 6, 11, 12, 13] : List Nat).all (fun r => !(L.contains r)) = true) (h : STab σ τ bt a) : STab τ τ bt a := by
  have e : ∀ r ∈ ([2, 5, 6, 11, 12, 13] : List Nat), τ r = σ r := fun r hr => m.at r (by have := List.all_eq_true.mp hL r hr; simpa using this)
  unfold STab gapX at h ⊢
  rw [e 2 (by decide), e 5 (by decide), e 6 (by decide), e 13 (by decide)]
  exact h
theorem DInv.mv {σ τ : MM} {bt act move : Int} (h : DInv σ τ bt act move) (h0 : -1 ≤ act) (h1 : τ 60 0 ≤ 20000) : move ≤ 40001 := by
  obtain ⟨k, cho, ch, pu, -, h3, -⟩ := h
  omega
theorem DInv.stab {σ τ : MM} {bt act move : Int} (h : DInv σ τ bt act move) : STab σ τ bt act := by
  obtain ⟨k, cho, ch, pu, -, -, -, -, h6⟩ := h
  exact h6
theorem DInv.next {σ τ : MM} {bt act move : Int} (h : DInv σ τ bt act move) (h0 : 0 ≤ act) (h1 : act < σ 53 0) : 0 ≤ τ 20 act := by
  obtain ⟨k, cho, ch, pu, -, -, h4, -⟩ := h
  have := h4 h0 h1
  omega
theorem DInv.cells {σ τ : MM} {bt act move : Int} (h : DInv σ τ bt act move) (hb : 0 < bt) (l : Int) (l0 : 0 ≤ l) (l1 : l < act) : τ 18 l < σ 56 0 * σ 57 0 := by
  obtain ⟨k, cho, ch, pu, -, -, -, h5, -⟩ := h
  obtain ⟨q1, -, -, q2, q3⟩ := h5 l l0 l1
  rw [q1]
  exact Int.ediv_lt_of_lt_mul hb q3
/-- how a search ended -/
def DFin (σ υ : MM) (bt z : Int) : Prop := ∃ k : Nat, endD (σ 53 0) (σ 56 0 * σ 57 0 * bt) (runD (σ 53 0) (σ 56 0 * σ 57 0 * bt) (GsX σ bt) k) ∧ υ 60 0 = (runD (σ 53 0) (σ 56 0 * σ 57 0 * bt) (GsX σ bt) k).2.2.2 ∧
  (((runD (σ 53 0) (σ 56 0 * σ 57 0 * bt) (GsX σ bt) k).1 = σ 53 0 ∧ z = bt ∧
      (∀ l, 0 ≤ l → l < σ 53 0 → υ 18 l = (runD (σ 53 0) (σ 56 0 * σ 57 0 * bt) (GsX σ bt) k).2.1 l / bt ∧ υ 19 l = (runD (σ 53 0) (σ 56 0 * σ 57 0 * bt) (GsX σ bt) k).2.1 l % bt ∧ 0 ≤ υ 18 l ∧ υ 18 l < σ 56 0 * σ 57 0) ∧
      LeastS (σ 5) (gapX σ υ bt) (σ 53 0 - 1) (fun l => υ 22 ((σ 53 0 - 1) * 8 + l))) ∨
    ((runD (σ 53 0) (σ 56 0 * σ 57 0 * bt) (GsX σ bt) k).1 < 0 ∧ z = -6) ∨
    (0 ≤ (runD (σ 53 0) (σ 56 0 * σ 57 0 * bt) (GsX σ bt) k).1 ∧ (runD (σ 53 0) (σ 56 0 * σ 57 0 * bt) (GsX σ bt) k).1 < σ 53 0 ∧ z = -7))
theorem DInv.fin {σ τ : MM} {bt act move z : Int} (h : DInv σ τ bt act move) (hb : 0 < bt) (hc : 1 ≤ σ 53 0) (hz : (act = σ 53 0 ∧ z = bt) ∨ (act < 0 ∧ z = -6) ∨ (0 ≤ act ∧ act < σ 53 0 ∧ τ 20 act < σ 56 0 * σ 57 0 * bt ∧ 20000 ≤ τ 60 0 ∧ z = -7)) : DFin σ τ bt z := by
  have hcl := h.cells hb
  obtain ⟨k, cho, ch, pu, h2, h3, h4, h5, h6⟩ := h
  refine ⟨k, ?_, ?_, ?_⟩
  · rw [h2]
    unfold endD
    rcases hz with q | q | q
    · exact Or.inr (Or.inl (by show σ 53 0 ≤ act; omega))
    · exact Or.inl q.1
    · have := h4 q.1 q.2.1
      exact Or.inr (Or.inr ⟨by show ch < _; omega, q.2.2.2.1⟩)
  · rw [h2]
  · rw [h2]
    rcases hz with ⟨rfl, q2⟩ | q | q
    · refine Or.inl ⟨rfl, q2, fun l l0 l1 => ?_, ?_⟩
      · obtain ⟨g1, g2, -, g4, g5⟩ := h5 l l0 l1
        exact ⟨g1, g2, by rw [g1]; exact Int.ediv_nonneg g4 (by omega), hcl l l0 l1⟩
      · exact (h6 (σ 53 0 - 1) (by omega) (by omega)).1
    · exact Or.inr (Or.inl q)
    · exact Or.inr (Or.inr ⟨q.1, q.2.1, q.2.2.2.2⟩)
