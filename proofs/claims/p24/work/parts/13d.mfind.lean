/-! PURE: the model's find -/
theorem P4m_keep {σ τ : MM} {L : List Nat} (m : Mod L σ τ) (hL : ([28, 29, 30, 38, 39, 63] : List Nat).all (fun r => !(L.contains r)) = true) (W : Int → Int) : P4m τ W = P4m σ W := by
  have e : ∀ r ∈ ([28, 29, 30, 38, 39, 63] : List Nat), τ r = σ r := fun r hr => m.at r (by have := List.all_eq_true.mp hL r hr; simpa using this)
  unfold P4m
  rw [e 28 (by decide), e 29 (by decide), e 30 (by decide), e 38 (by decide), e 39 (by decide), e 63 (by decide)]
theorem SrcM.keep {σ τ : MM} {L : List Nat} (h : SrcM σ) (m : Mod L σ τ) (hL : ([28, 29, 61] : List Nat).all (fun r => !(L.contains r)) = true) : SrcM τ := by
  have e : ∀ r ∈ ([28, 29, 61] : List Nat), τ r = σ r := fun r hr => m.at r (by have := List.all_eq_true.mp hL r hr; simpa using this)
  unfold SrcM at *
  rw [e 28 (by decide), e 29 (by decide), e 61 (by decide)]
  exact h
theorem LayM.keep {σ τ : MM} {L : List Nat} (h : LayM σ) (m : Mod L σ τ) (hL : ([38, 61, 63, 65, 66] : List Nat).all (fun r => !(L.contains r)) = true) : LayM τ := by
  have e : ∀ r ∈ ([38, 61, 63, 65, 66] : List Nat), τ r = σ r := fun r hr => m.at r (by have := List.all_eq_true.mp hL r hr; simpa using this)
  unfold LayM at *
  rw [e 38 (by decide), e 61 (by decide), e 63 (by decide), e 65 (by decide), e 66 (by decide)]
  exact h
theorem GoesM_keep {σ τ : MM} {L : List Nat} (m : Mod L σ τ) (hL : ([28, 29, 30, 35, 36] : List Nat).all (fun r => !(L.contains r)) = true) (W : Int → Int) (n : Int) (C O : Int → Int) (a : Int) : GoesM τ W n C O a ↔ GoesM σ W n C O a := by
  have e : ∀ r ∈ ([28, 29, 30, 35, 36] : List Nat), τ r = σ r := fun r hr => m.at r (by have := List.all_eq_true.mp hL r hr; simpa using this)
  unfold GoesM
  rw [e 28 (by decide), e 29 (by decide), e 30 (by decide), e 35 (by decide), e 36 (by decide)]
theorem DIm.rng {σ τ : MM} {bt a ch used : Int} (h : DIm σ τ bt a ch used) (h0 : 0 ≤ a) : 0 ≤ ch ∧ ch ≤ σ 65 0 * σ 66 0 * bt := by
  obtain ⟨k, cho, c1, h2, h3, h4, h5⟩ := h
  have := h3 h0
  omega
theorem Outer.least {src g : Int → Int} {a p k : Int} {ts t : Int → Int} (ha : 0 ≤ a) (hO : Outer (a + 1) (2 * (a + 1)) (enS src a) src g (fun _ => 0) p ts) (hP : PassI (a + 1) (2 * (a + 1)) (enS src a) src g ts k t 0) (hk : 2 * (a + 1) ≤ k) : LeastS src g a t := by
  have hS := hP.sol wf_S hk
  have e := (hP.2.1 rfl).1
  refine ⟨hS, fun l l0 l1 => ?_, fun M hM hM0 l l0 l1 => ?_⟩
  · rw [e l l0 (by omega)]
    exact hO.1 l l0 (by omega)
  · rw [e l l0 (by omega)]
    exact hO.2.1 M hM (fun b b0 b1 => hM0 b b0 (by omega)) l l0 (by omega)
theorem Outer.nofeas {src g : Int → Int} {a p : Int} {t : Int → Int} (ha : 0 ≤ a) (hO : Outer (a + 1) (2 * (a + 1)) (enS src a) src g (fun _ => 0) p t) (hp : a + 1 < p) : ¬ FeasS src g a := by
  rintro ⟨M, hM, hM0⟩
  exact hO.none wf_S hp ⟨M, hM, fun b b0 b1 => hM0 b b0 (by omega)⟩
-- the machine's choices lie where they may
theorem runD_rng {c pl : Int} {Gs : Int → (Int → Int) → Prop} (hpl : 0 < pl) : ∀ k, (∀ l, 0 ≤ (runD c pl Gs k).2.1 l ∧ (runD c pl Gs k).2.1 l < pl) ∧ 0 ≤ (runD c pl Gs k).2.2.1
  | 0 => ⟨fun l => ⟨Int.le_refl 0, hpl⟩, Int.le_refl 0⟩
  | k + 1 => by
    obtain ⟨h1, h2⟩ := runD_rng (c := c) (Gs := Gs) hpl k
    show (∀ l, 0 ≤ (stepD c pl Gs (runD c pl Gs k)).2.1 l ∧ (stepD c pl Gs (runD c pl Gs k)).2.1 l < pl) ∧ 0 ≤ (stepD c pl Gs (runD c pl Gs k)).2.2.1
    generalize runD c pl Gs k = s at h1 h2
    unfold stepD
    split
    · exact ⟨h1, h2⟩
    · split
      · refine ⟨fun l => ?_, ?_⟩
        · show 0 ≤ (if l = s.1 - 1 then 0 else s.2.1 l) ∧ (if l = s.1 - 1 then 0 else s.2.1 l) < pl
          split
          · exact ⟨Int.le_refl 0, hpl⟩
          · exact h1 l
        · show 0 ≤ s.2.1 (s.1 - 1) + 1
          have := h1 (s.1 - 1)
          omega
      · split
        · exact ⟨h1, h2⟩
        · split
          · refine ⟨fun l => ?_, Int.le_refl 0⟩
            show 0 ≤ (if l = s.1 then s.2.2.1 else s.2.1 l) ∧ (if l = s.1 then s.2.2.1 else s.2.1 l) < pl
            split
            · omega
            · exact h1 l
          · refine ⟨h1, ?_⟩
            show 0 ≤ s.2.2.1 + 1
            omega
theorem runD_congr2 {c pl : Int} {Gs Hs : Int → (Int → Int) → Prop} (hpl : 0 < pl) (h : ∀ a cho, 0 ≤ a → a < c → (∀ l, 0 ≤ cho l ∧ cho l < pl) → (Gs a cho ↔ Hs a cho)) : ∀ k, runD c pl Gs k = runD c pl Hs k
  | 0 => rfl
  | k + 1 => by
    show stepD c pl Gs (runD c pl Gs k) = stepD c pl Hs (runD c pl Hs k)
    have hr := runD_rng (c := c) (pl := pl) (Gs := Gs) hpl k
    rw [← runD_congr2 hpl h k]
    generalize runD c pl Gs k = s at hr
    unfold stepD
    split
    · rfl
    · split
      · rfl
      · split
        · rfl
        · refine if_iff _ _ (h _ _ (by omega) (by omega) fun l => ?_)
          show 0 ≤ (if l = s.1 then s.2.2.1 else s.2.1 l) ∧ (if l = s.1 then s.2.2.1 else s.2.1 l) < pl
          split
          · have := hr.2
            omega
          · exact hr.1 l
theorem GoesS.congr2 {br mu kd src dist W br1 mu1 kd1 src1 dist1 W1 C O : Int → Int} {bt a n : Int} (h : GoesS br mu kd src dist W bt C O a) (ha : 0 ≤ a) (hn : n ≤ 9) (hC : ∀ l, 0 ≤ l → l ≤ a → 0 ≤ C l ∧ C l < n) (hbr : ∀ b, 0 ≤ b → b < n → br1 b = br b) (hmu : ∀ b, 0 ≤ b → b < n → mu1 b = mu b) (hk : ∀ l, 0 ≤ l → l ≤ a → kd1 l = kd l)
    (hs : ∀ s, 0 ≤ s → s < 2 * (a + 1) → src1 s = src s) (hd : ∀ s, 0 ≤ s → s < 2 * (a + 1) → enS src a s → dist1 s = dist s) (hW : ∀ u v, 0 ≤ u → u < n → 0 ≤ v → v < n → W1 (u * 9 + v) = W (u * 9 + v)) : GoesS br1 mu1 kd1 src1 dist1 W1 bt C O a := by
  obtain ⟨⟨f1, f2, f3⟩, h2, h3⟩ := h
  have ca := hC a ha (Int.le_refl a)
  have en : ∀ s, 0 ≤ s → s < 2 * (a + 1) → enS src1 a s → enS src a s := fun s s0 s1 q => by
    unfold enS at *
    rw [← hs s s0 s1]
    exact q
  have ew : ∀ s, 0 ≤ s → s < 2 * (a + 1) → enS src a s → W1 (C (src s) * 9 + C (s / 2)) = W (C (src s) * 9 + C (s / 2)) := fun s s0 s1 q => by
    have c1 := hC (src s) q.1 q.2
    have c2 := hC (s / 2) (by omega) (by omega)
    exact hW _ _ c1.1 c1.2 c2.1 c2.2
  refine ⟨⟨by rw [hbr _ ca.1 ca.2]; exact f1, fun q => by rw [hmu _ ca.1 ca.2]; exact f2 (by rw [← hk a ha (Int.le_refl a)]; exact q), f3⟩, fun s s0 s1 q => ?_, ?_⟩
  · have q1 := en s s0 s1 q
    rw [hs s s0 s1, ew s s0 s1 q1]
    exact h2 s s0 s1 q1
  · obtain ⟨M, m1, m2⟩ := h3
    refine ⟨M, fun s s0 s1 q => ?_, m2⟩
    have q1 := en s s0 s1 q
    have e : gapS kd1 src1 dist1 W1 C O bt s = gapS kd src dist W C O bt s := by
      unfold gapS lenF
      rw [hs s s0 s1, ew s s0 s1 q1, hd s s0 s1 q1, hk _ q1.1 q1.2]
    rw [e, hs s s0 s1]
    exact m1 s s0 s1 q1
/-- how the model's search ends, by ways W -/
def DFw (σ υ : MM) (W : Int → Int) (bt z : Int) : Prop := ∃ k : Nat, endD (σ 61 0) (σ 65 0 * σ 66 0 * bt) (runD (σ 61 0) (σ 65 0 * σ 66 0 * bt) (GsM σ W bt) k) ∧
  (((runD (σ 61 0) (σ 65 0 * σ 66 0 * bt) (GsM σ W bt) k).1 = σ 61 0 ∧ z = 1 ∧
      (∀ l, 0 ≤ l → l < σ 61 0 → υ 41 l = (runD (σ 61 0) (σ 65 0 * σ 66 0 * bt) (GsM σ W bt) k).2.1 l / bt ∧ υ 42 l = (runD (σ 61 0) (σ 65 0 * σ 66 0 * bt) (GsM σ W bt) k).2.1 l % bt ∧ 0 ≤ υ 41 l ∧ υ 41 l < σ 65 0 * σ 66 0) ∧
      GoesM σ W bt (υ 41) (υ 42) (σ 61 0 - 1)) ∨
    ((runD (σ 61 0) (σ 65 0 * σ 66 0 * bt) (GsM σ W bt) k).1 < 0 ∧ z = 0) ∨
    (0 ≤ (runD (σ 61 0) (σ 65 0 * σ 66 0 * bt) (GsM σ W bt) k).1 ∧ (runD (σ 61 0) (σ 65 0 * σ 66 0 * bt) (GsM σ W bt) k).1 < σ 61 0 ∧ z = -7))
def WyM (σ : MM) (W V : Int → Int) : Prop := ∀ u v, 0 ≤ u → u < σ 65 0 * σ 66 0 → 0 ≤ v → v < σ 65 0 * σ 66 0 → V (u * 9 + v) = W (u * 9 + v)
theorem GoesM.ways {σ : MM} {W V : Int → Int} {n : Int} {C O : Int → Int} {a : Int} (h : GoesM σ V n C O a) (hV : WyM σ W V) (hn : σ 65 0 * σ 66 0 ≤ 9) (ha : 0 ≤ a) (hC : ∀ l, 0 ≤ l → l ≤ a → 0 ≤ C l ∧ C l < σ 65 0 * σ 66 0) : GoesM σ W n C O a :=
  GoesS.congr2 h ha hn hC (fun _ _ _ => rfl) (fun _ _ _ => rfl) (fun _ _ _ => rfl) (fun _ _ _ => rfl) (fun _ _ _ _ => rfl) (fun u v u0 u1 v0 v1 => (hV u v u0 u1 v0 v1).symm)
theorem WyM.sy {σ : MM} {W V : Int → Int} (h : WyM σ W V) : WyM σ V W := fun u v u0 u1 v0 v1 => (h u v u0 u1 v0 v1).symm
theorem DFm.ways {σ τ υ : MM} {W : Int → Int} {bt z : Int} {L : List Nat} (h : DFm τ υ bt z) (m : Mod L σ τ) (hL : ([28, 29, 30, 35, 36, 61, 65, 66] : List Nat).all (fun r => !(L.contains r)) = true) (hV : WyM σ W (τ 44)) (hb : 1 ≤ bt) (hn : 1 ≤ σ 65 0 * σ 66 0 ∧ σ 65 0 * σ 66 0 ≤ 9) (hc : 1 ≤ σ 61 0) : DFw σ υ W bt z := by
  have e : ∀ r ∈ ([28, 29, 30, 35, 36, 61, 65, 66] : List Nat), τ r = σ r := fun r hr => m.at r (by have := List.all_eq_true.mp hL r hr; simpa using this)
  have hp : 0 < σ 65 0 * σ 66 0 * bt := Int.mul_pos (by omega) (by omega)
  have e2 : GsM τ (τ 44) bt = GsM σ (τ 44) bt := by
    unfold GsM GoesM
    rw [e 28 (by decide), e 29 (by decide), e 30 (by decide), e 35 (by decide), e 36 (by decide)]
  have hcd : ∀ x, 0 ≤ x ∧ x < σ 65 0 * σ 66 0 * bt → 0 ≤ x / bt ∧ x / bt < σ 65 0 * σ 66 0 := fun x hx => ⟨Int.ediv_nonneg hx.1 (by omega), Int.ediv_lt_of_lt_mul (by omega) hx.2⟩
  have e3 : ∀ k, runD (σ 61 0) (σ 65 0 * σ 66 0 * bt) (GsM σ (τ 44) bt) k = runD (σ 61 0) (σ 65 0 * σ 66 0 * bt) (GsM σ W bt) k := runD_congr2 hp fun a cho a0 a1 hr =>
    ⟨fun q => GoesM.ways q hV hn.2 a0 (fun l _ _ => hcd _ (hr l)), fun q => GoesM.ways q hV.sy hn.2 a0 (fun l _ _ => hcd _ (hr l))⟩
  unfold DFm at h
  rw [e2, e 61 (by decide), e 65 (by decide), e 66 (by decide)] at h
  obtain ⟨k, k1, k2⟩ := h
  rw [e3] at k1 k2
  refine ⟨k, k1, ?_⟩
  rcases k2 with ⟨q1, q2, q3, q4⟩ | q | q
  · refine Or.inl ⟨q1, q2, q3, ?_⟩
    have q5 : GoesM σ (τ 44) bt (υ 41) (υ 42) (σ 61 0 - 1) := (GoesM_keep (L := L) m (by
      refine List.all_eq_true.mpr fun r hr => ?_
      exact List.all_eq_true.mp hL r (by simp at hr ⊢; omega)) _ _ _ _ _).mp q4
    exact q5.ways hV hn.2 (by omega) (fun l l0 l1 => by have := q3 l l0 (by omega); exact this.2.2)
  · exact Or.inr (Or.inl q)
  · exact Or.inr (Or.inr q)
def OutM (σ : MM) (W : Int → Int) (bt r : Int) : Prop := OutD (σ 61 0) (σ 65 0 * σ 66 0 * bt) (GsM σ W bt) r
def FoundM (σ τ : MM) (W : Int → Int) (bt : Int) : Prop := FoundD (σ 61 0) (σ 65 0 * σ 66 0) bt (GsM σ W bt) (σ 28) (sM (σ 28) (σ 29)) (σ 30) W (τ 38) (τ 39)
theorem DFw.rng {σ υ : MM} {W : Int → Int} {bt z : Int} (h : DFw σ υ W bt z) : z = 1 ∨ z = 0 ∨ z = -7 := by
  obtain ⟨k, -, k2⟩ := h
  rcases k2 with ⟨-, q, -⟩ | ⟨-, q⟩ | ⟨-, -, q⟩
  · exact Or.inl q
  · exact Or.inr (Or.inl q)
  · exact Or.inr (Or.inr q)
theorem DFw.o0 {σ υ : MM} {W : Int → Int} {bt z : Int} (h : DFw σ υ W bt z) (hz : z = 0) : OutM σ W bt 0 := by
  obtain ⟨k, k1, k2⟩ := h
  refine ⟨k, k1, ?_⟩
  rcases k2 with ⟨-, q, -⟩ | ⟨q, -⟩ | ⟨-, -, q⟩
  · omega
  · exact Or.inr (Or.inl ⟨q, rfl⟩)
  · omega
theorem DFw.o2 {σ υ : MM} {W : Int → Int} {bt z : Int} (h : DFw σ υ W bt z) (hz : z = -7) : OutM σ W bt 2 := by
  obtain ⟨k, k1, k2⟩ := h
  refine ⟨k, k1, ?_⟩
  rcases k2 with ⟨-, q, -⟩ | ⟨-, q⟩ | ⟨q1, q2, -⟩
  · omega
  · omega
  · exact Or.inr (Or.inr ⟨q1, q2, rfl⟩)
theorem DFw.goes {σ υ : MM} {W : Int → Int} {bt z : Int} (h : DFw σ υ W bt z) (hz : z = 1) : GoesM σ W bt (υ 41) (υ 42) (σ 61 0 - 1) ∧ ∀ l, 0 ≤ l → l < σ 61 0 → 0 ≤ υ 41 l ∧ υ 41 l < σ 65 0 * σ 66 0 := by
  obtain ⟨k, k1, k2⟩ := h
  rcases k2 with ⟨-, -, q, w⟩ | ⟨-, q⟩ | ⟨-, -, q⟩
  · exact ⟨w, fun l l0 l1 => (q l l0 l1).2.2⟩
  · omega
  · omega
theorem gapM_ways {σ : MM} {W V C O : Int → Int} {n s a : Int} (hV : WyM σ W V) (hC : ∀ l, 0 ≤ l → l ≤ a → 0 ≤ C l ∧ C l < σ 65 0 * σ 66 0) (s0 : 0 ≤ s) (s1 : s < 2 * (a + 1)) (hs : enS (sM (σ 28) (σ 29)) a s) : gapM σ V C O n s = gapM σ W C O n s := by
  have c1 := hC _ hs.1 hs.2
  have c2 := hC (s / 2) (by omega) (by omega)
  unfold gapM gapS
  rw [hV _ _ c1.1 c1.2 c2.1 c2.2]
theorem DFw.o1 {σ υ τ : MM} {W V T : Int → Int} {bt z : Int} (h : DFw σ υ W bt z) (hz : z = 1) (hV : WyM σ W V) (hT : LeastS (sM (σ 28) (σ 29)) (gapM σ V (υ 41) (υ 42) bt) (σ 61 0 - 1) T) (ht : ∀ a : Int, 0 ≤ a → a < σ 61 0 → τ 38 a = υ 41 a ∧ τ 39 a = υ 42 a + bt * T a) : OutM σ W bt 1 ∧ FoundM σ τ W bt := by
  have hg := (h.goes hz).2
  obtain ⟨k, k1, k2⟩ := h
  rcases k2 with ⟨q1, -, q2, q3⟩ | ⟨-, q⟩ | ⟨-, -, q⟩
  · refine ⟨⟨k, k1, Or.inl ⟨q1, rfl⟩⟩, k, T, k1, q1, hT.congr (fun s s0 s1 hs => ?_) (fun _ _ _ => rfl), fun l l0 l1 => ?_⟩
    · rw [gapM_ways hV (fun l l0 l1 => hg l l0 (by omega)) s0 s1 hs]
      have a1 := q2 _ hs.1 (by have := hs.2; omega)
      have a2 := q2 (s / 2) (by omega) (by omega)
      unfold gapM gapS
      rw [a1.1, a1.2.1, a2.1, a2.2.1]
    · have a1 := q2 l l0 l1
      have a2 := ht l l0 l1
      exact ⟨by rw [a2.1]; exact a1.1, by rw [a2.2, a1.2.1], by rw [a2.1]; exact a1.2.2.1, by rw [a2.1]; exact a1.2.2.2⟩
  · omega
  · omega
def SameQ (σ τ : MM) : Prop := τ 38 = σ 38 ∧ τ 39 = σ 39 ∧ τ 63 = σ 63 ∧ τ 64 = σ 64
theorem SameQ.of {σ τ : MM} {L : List Nat} (m : Mod L σ τ) (hL : ([38, 39, 63, 64] : List Nat).all (fun r => !(L.contains r)) = true) : SameQ σ τ := by
  have e : ∀ r ∈ ([38, 39, 63, 64] : List Nat), τ r = σ r := fun r hr => m.at r (by have := List.all_eq_true.mp hL r hr; simpa using this)
  exact ⟨e 38 (by decide), e 39 (by decide), e 63 (by decide), e 64 (by decide)⟩
def FndM (σ τ : MM) (W : Int → Int) (z : Int) : Prop := (σ 61 0 = 0 ∧ z = -3 ∧ SameQ σ τ) ∨ (σ 61 0 ≠ 0 ∧ ¬ SndM σ ∧ z = -5 ∧ SameQ σ τ) ∨
  (σ 61 0 ≠ 0 ∧ SndM σ ∧ ((PLm σ (-6) ∧ z = -6 ∧ SameQ σ τ) ∨ ∃ pl rg : Int, PLm σ pl ∧ pl ≠ -6 ∧ RBm σ rg ∧ FndE pl rg (OutM σ W) (fun bt => FoundM σ τ W bt ∧ τ 63 0 = bt ∧ τ 64 0 = 0) (SameQ σ τ) z))
theorem FndM.go {σ τ : MM} {W : Int → Int} {pl rg ls bt z : Int} (h1 : σ 61 0 ≠ 0) (h2 : SndM σ) (hp : PLm σ pl) (hn : pl ≠ -6) (hr : RBm σ rg) (hl : (pl < rg ∧ ls = rg) ∨ (rg ≤ pl ∧ ls = pl)) (hb : ls ≤ bt) (hO : ∀ b, ls ≤ b → b < bt → OutM σ W b 0)
    (he : (12 < bt ∧ z = -6 ∧ SameQ σ τ) ∨ (bt ≤ 12 ∧ OutM σ W bt 2 ∧ z = -7 ∧ SameQ σ τ) ∨ (bt ≤ 12 ∧ OutM σ W bt 1 ∧ (FoundM σ τ W bt ∧ τ 63 0 = bt ∧ τ 64 0 = 0) ∧ z = bt)) : FndM σ τ W z :=
  Or.inr (Or.inr ⟨h1, h2, Or.inr ⟨pl, rg, hp, hn, hr, bt, by omega, by omega, fun b b0 b1 b2 => hO b (by omega) b2, he⟩⟩)
