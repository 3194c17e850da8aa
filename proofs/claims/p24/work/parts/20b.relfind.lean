/-! THE RELATION: what is found -/
theorem LeastS.src {src src1 g : Int → Int} {a : Int} {t : Int → Int} (h : LeastS src g a t) (hs : ∀ s, 0 ≤ s → s < 2 * (a + 1) → src1 s = src s) : LeastS src1 g a t := by
  have sol : ∀ M : Int → Int, Sol (2 * (a + 1)) (enS src a) src g M ↔ Sol (2 * (a + 1)) (enS src1 a) src1 g M := fun M => by
    unfold Sol
    refine forall_congr' fun s => forall_congr' fun s0 => forall_congr' fun s1 => ?_
    unfold enS
    rw [hs s s0 s1]
  exact ⟨(sol t).mp h.1, h.2.1, fun M hM => h.2.2 M ((sol M).mpr hM)⟩
theorem RR.goes {σ : MM} (h : RR σ) (hB : Bd bdL σ) {bt a : Int} {C O : Int → Int} (a0 : 0 ≤ a) (a1 : a < σ 53 0) (hC : ∀ l, 0 ≤ l → l ≤ a → 0 ≤ C l ∧ C l < σ 56 0 * σ 57 0) : GoesX σ bt a C O ↔ GoesM σ (σ 13) bt C O a := by
  have k := bdk hB
  obtain ⟨h1, h2, -⟩ := h
  unfold GoesX GoesM
  constructor
  · intro q
    exact q.congr2 a0 k.2.2.2.2.2.2 hC (fun b b0 b1 => (h2.2 b b0 (by omega)).1.symm) (fun b b0 b1 => (h2.2 b b0 (by omega)).2.symm) (fun l l0 l1 => (h1.2.1 l l0 (by omega)).1.symm) (fun s s0 s1 => (h1.2.2 s s0 (by omega)).1.symm) (fun s s0 s1 w => h1.dist s0 (by omega) (by have := w.1; omega)) (fun _ _ _ _ _ _ => rfl)
  · intro q
    refine q.congr2 a0 k.2.2.2.2.2.2 hC (fun b b0 b1 => (h2.2 b b0 (by omega)).1) (fun b b0 b1 => (h2.2 b b0 (by omega)).2) (fun l l0 l1 => (h1.2.1 l l0 (by omega)).1) (fun s s0 s1 => (h1.2.2 s s0 (by omega)).1) (fun s s0 s1 w => ?_) (fun _ _ _ _ _ _ => rfl)
    have e := (h1.2.2 s s0 (by omega)).1
    have := w.1
    rw [← e] at this
    exact (h1.dist s0 (by omega) (by omega)).symm
theorem RR.run {σ : MM} (h : RR σ) (hB : Bd bdL σ) {bt : Int} (hb : 1 ≤ bt) (k : Nat) : runD (σ 53 0) (σ 56 0 * σ 57 0 * bt) (GsX σ bt) k = runD (σ 61 0) (σ 65 0 * σ 66 0 * bt) (GsM σ (σ 13) bt) k := by
  have q := (bdk hB).2.2.2.2.2
  rw [← h.1.1.1, ← h.2.1.1.1, ← h.2.1.1.2]
  refine runD_congr2 (Int.mul_pos (by omega) (by omega)) (fun a cho a0 a1 hr => ?_) k
  exact h.goes hB a0 a1 (fun l _ _ => ⟨Int.ediv_nonneg (hr l).1 (by omega), Int.ediv_lt_of_lt_mul (by omega) (hr l).2⟩)
theorem RR.out {σ : MM} (h : RR σ) (hB : Bd bdL σ) {bt r : Int} (hb : 1 ≤ bt) : OutX σ bt r ↔ OutM σ (σ 13) bt r := by
  unfold OutX OutM OutD
  refine exists_congr fun k => ?_
  rw [h.run hB hb k, h.1.1.1, h.2.1.1.1, h.2.1.1.2]
theorem RR.found {σ τ υ : MM} (h : RR σ) (hB : Bd bdL σ) {bt : Int} (hb : 1 ≤ bt) (hx : FoundX σ τ bt) (hm : FoundM σ υ (σ 13) bt) (l : Int) (l0 : 0 ≤ l) (l1 : l < σ 53 0) : τ 15 l = υ 38 l ∧ τ 16 l = υ 39 l ∧ 0 ≤ τ 15 l ∧ τ 15 l < σ 56 0 * σ 57 0 := by
  obtain ⟨k, T, k1, k2, k3, k4⟩ := hx
  obtain ⟨j, S, j1, j2, j3, j4⟩ := hm
  rw [h.run hB hb k] at k1 k2 k3 k4
  rw [h.1.1.1, h.2.1.1.1, h.2.1.1.2] at k1
  have e := runD_uniq k1 j1
  rw [e] at k3 k4
  have a := k4 l l0 l1
  have b := j4 l l0 (by rw [← h.1.1.1]; exact l1)
  rw [show σ 61 0 - 1 = σ 53 0 - 1 by rw [h.1.1.1]] at j3
  have j5 := j3.src (src1 := σ 5) (fun s s0 s1 => (h.1.2.2 s s0 (by omega)).1)
  have eT := LeastS.uniq k3 j5 (fun s s0 s1 hs => by
    unfold gapS
    rw [(h.1.2.2 s s0 (by omega)).1.symm, h.1.len hs.1 (by have := hs.2; omega), h.1.dist s0 (by omega) (by have := hs.1; omega)]) l l0 (by omega)
  refine ⟨by rw [a.1, b.1], by rw [a.2.1, b.2.1, eT], a.2.2.1, a.2.2.2⟩
theorem FndE.uniq {pl rg y z : Int} {Out Out1 : Int → Int → Prop} {Fd Fd1 : Int → Prop} {sm sm1 : Prop} (h : FndE pl rg Out Fd sm z) (g : FndE pl rg Out1 Fd1 sm1 y) (hO : ∀ b r, pl ≤ b → rg ≤ b → (Out b r ↔ Out1 b r)) (hU : ∀ b r q, Out b r → Out b q → r = q) : z = y ∧ ((sm ∧ sm1) ∨ ∃ bt, pl ≤ bt ∧ rg ≤ bt ∧ bt ≤ 12 ∧ Fd bt ∧ Fd1 bt) := by
  obtain ⟨b, b1, b2, b3, b4⟩ := h
  obtain ⟨c, c1, c2, c3, c4⟩ := g
  have key : ∀ r, r ≠ 0 → ∀ q, pl ≤ q → rg ≤ q → Out q r → ¬ Out q 0 := fun r hr q _ _ o1 o2 => hr (hU q r 0 o1 o2)
  have nb : b ≤ 12 → ∃ r, r ≠ 0 ∧ Out b r := fun q => by
    rcases b4 with w | ⟨-, w, -⟩ | ⟨-, w, -⟩
    · omega
    · exact ⟨2, by omega, w⟩
    · exact ⟨1, by omega, w⟩
  have nc : c ≤ 12 → ∃ r, r ≠ 0 ∧ Out c r := fun q => by
    rcases c4 with w | ⟨-, w, -⟩ | ⟨-, w, -⟩
    · omega
    · exact ⟨2, by omega, (hO c 2 c1 c2).mpr w⟩
    · exact ⟨1, by omega, (hO c 1 c1 c2).mpr w⟩
  have le1 : b ≤ 12 → ¬ b < c := fun q w => by
    obtain ⟨r, r0, r1⟩ := nb q
    exact r0 (hU b r 0 r1 ((hO b 0 b1 b2).mpr (c3 b b1 b2 w)))
  have le2 : c ≤ 12 → ¬ c < b := fun q w => by
    obtain ⟨r, r0, r1⟩ := nc q
    exact r0 (hU c r 0 r1 (b3 c c1 c2 w))
  by_cases hb : b ≤ 12
  · have hc : c ≤ 12 := by
      have := le1 hb
      omega
    have e : b = c := by
      have := le1 hb
      have := le2 hc
      omega
    subst e
    rcases b4 with w | ⟨-, o, ez, s⟩ | ⟨-, o, f, ez⟩
    · omega
    · rcases c4 with w | ⟨-, o2, ey, s2⟩ | ⟨-, o2, f2, ey⟩
      · omega
      · exact ⟨by omega, Or.inl ⟨s, s2⟩⟩
      · have := hU b 2 1 o ((hO b 1 b1 b2).mpr o2)
        omega
    · rcases c4 with w | ⟨-, o2, ey, s2⟩ | ⟨-, o2, f2, ey⟩
      · omega
      · have := hU b 1 2 o ((hO b 2 b1 b2).mpr o2)
        omega
      · exact ⟨by omega, Or.inr ⟨b, b1, b2, hb, f, f2⟩⟩
  · have hc : ¬ c ≤ 12 := fun q => by
      have := le2 q
      omega
    rcases b4 with ⟨-, ez, s⟩ | ⟨w, -⟩ | ⟨w, -⟩
    · rcases c4 with ⟨-, ey, s2⟩ | ⟨w, -⟩ | ⟨w, -⟩
      · exact ⟨by omega, Or.inl ⟨s, s2⟩⟩
      · exact absurd w hc
      · exact absurd w hc
    · exact absurd w hb
    · exact absurd w hb
theorem FndM_keep {σ τ υ : MM} {L : List Nat} (m : Mod L σ τ) (hL : ([28, 29, 30, 35, 36, 38, 39, 61, 63, 64, 65, 66] : List Nat).all (fun r => !(L.contains r)) = true) (W : Int → Int) (z : Int) : FndM τ υ W z ↔ FndM σ υ W z := by
  have e : ∀ r ∈ ([28, 29, 30, 35, 36, 38, 39, 61, 63, 64, 65, 66] : List Nat), τ r = σ r := fun r hr => m.at r (by have := List.all_eq_true.mp hL r hr; simpa using this)
  unfold FndM SndM PLm RBm RHm OutM FoundM GsM GoesM SameQ
  rw [e 28 (by decide), e 29 (by decide), e 30 (by decide), e 35 (by decide), e 36 (by decide), e 38 (by decide), e 39 (by decide), e 61 (by decide), e 63 (by decide), e 64 (by decide), e 65 (by decide), e 66 (by decide)]
/-- how a find ends, on both sides -/
theorem RR.find {σ τ υ : MM} {y z : Int} (h : RR σ) (hB : Bd bdL σ) (hx : FndX σ τ z) (hm : FndM σ υ (σ 13) y) : z = y ∧ ((SameP σ τ ∧ SameQ σ υ) ∨ ∃ bt, 1 ≤ bt ∧ bt ≤ 12 ∧ (FoundX σ τ bt ∧ τ 58 0 = bt ∧ τ 51 0 = 0) ∧ FoundM σ υ (σ 13) bt ∧ υ 63 0 = bt ∧ υ 64 0 = 0) := by
  have hc := h.1.1.1
  rcases hx with ⟨x1, x2, x3⟩ | ⟨x1, x2, x3, x4⟩ | ⟨x1, x2, x3⟩
  · rcases hm with ⟨m1, m2, m3⟩ | ⟨m1, m2, m3, m4⟩ | ⟨m1, m2, m3⟩
    · exact ⟨by omega, Or.inl ⟨x3, m3⟩⟩
    · exact absurd (hc ▸ x1) m1
    · exact absurd (hc ▸ x1) m1
  · rcases hm with ⟨m1, m2, m3⟩ | ⟨m1, m2, m3, m4⟩ | ⟨m1, m2, m3⟩
    · exact absurd (hc.trans m1) x1
    · exact ⟨by omega, Or.inl ⟨x4, m4⟩⟩
    · exact absurd (h.snd.mpr m2) x2
  · rcases hm with ⟨m1, m2, m3⟩ | ⟨m1, m2, m3, m4⟩ | ⟨m1, m2, m3⟩
    · exact absurd (hc.trans m1) x1
    · exact absurd (h.snd.mp x2) m2
    · rcases x3 with ⟨p1, p2, p3⟩ | ⟨pl, rg, p1, p2, p3, p4⟩
      · rcases m3 with ⟨q1, q2, q3⟩ | ⟨pl, rg, q1, q2, q3, q4⟩
        · exact ⟨by omega, Or.inl ⟨p3, q3⟩⟩
        · exact absurd (PLm.uniq q1 ((h.pl hB).mp p1)) q2
      · rcases m3 with ⟨q1, q2, q3⟩ | ⟨pl1, rg1, q1, q2, q3, q4⟩
        · exact absurd (PLm.uniq ((h.pl hB).mp p1) q1) p2
        · have e1 : pl = pl1 := PLm.uniq ((h.pl hB).mp p1) q1
          have e2 : rg = rg1 := h.rb p3 q3
          subst e1
          subst e2
          have hrg := p3.1.1
          obtain ⟨w1, w2⟩ := FndE.uniq p4 q4 (fun b r _ hb => h.out hB (by omega)) (fun b r q o1 o2 => OutD.uniq (bdk hB).1.1 o1 o2)
          refine ⟨w1, ?_⟩
          rcases w2 with w2 | ⟨bt, w3, w4, w5, w6, w7⟩
          · exact Or.inl w2
          · exact Or.inr ⟨bt, by omega, w5, w6, w7⟩
