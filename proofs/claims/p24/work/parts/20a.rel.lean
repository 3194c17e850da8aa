/-! THE RELATION between the class's memory and the model's -/
def ReL (σ : MM) : Prop := (σ 53 0 = σ 61 0 ∧ σ 55 0 = σ 62 0) ∧ (∀ a, 0 ≤ a → a < σ 53 0 → σ 2 a = σ 28 a ∧ σ 3 a = pM (σ 28) (σ 31) a ∧ σ 4 a = pM (σ 28) (σ 32) a) ∧ (∀ s, 0 ≤ s → s < 2 * σ 53 0 → σ 5 s = sM (σ 28) (σ 29) s ∧ σ 6 s = dM (σ 28) (σ 30) s)
def ReB (σ : MM) : Prop := (σ 56 0 = σ 65 0 ∧ σ 57 0 = σ 66 0) ∧ ∀ b, 0 ≤ b → b < 9 → σ 11 b = σ 35 b ∧ σ 12 b = σ 36 b
def RPn (σ : MM) : Prop := σ 58 0 = σ 63 0 ∧ (0 < σ 58 0 → ∀ a, 0 ≤ a → a < σ 53 0 → σ 15 a = σ 38 a ∧ σ 16 a = σ 39 a)
def ReS (σ : MM) : Prop := σ 51 0 = σ 64 0 ∧ (σ 51 0 ≠ 0 → σ 54 0 = σ 53 0 ∧ EQs σ (σ 26) (σ 51 0))
def WayX (σ : MM) : Prop := WayOK (σ 11) (σ 56 0 * σ 57 0) (σ 57 0) (σ 13)
def EQ24 (σ : MM) : Prop := EQs σ (σ 24) (σ 50 0)
def RR (σ : MM) : Prop := ReL σ ∧ ReB σ ∧ RPn σ ∧ ReS σ ∧ LoopOK σ ∧ LayOK σ ∧ WayX σ ∧ EQ24 σ
theorem ReL.keep {σ τ : MM} {L : List Nat} (h : ReL σ) (m : Mod L σ τ) (hL : ([2, 3, 4, 5, 6, 28, 29, 30, 31, 32, 53, 55, 61, 62] : List Nat).all (fun r => !(L.contains r)) = true) : ReL τ := by
  have e : ∀ r ∈ ([2, 3, 4, 5, 6, 28, 29, 30, 31, 32, 53, 55, 61, 62] : List Nat), τ r = σ r := fun r hr => m.at r (by have := List.all_eq_true.mp hL r hr; simpa using this)
  unfold ReL at *
  rw [e 2 (by decide), e 3 (by decide), e 4 (by decide), e 5 (by decide), e 6 (by decide), e 28 (by decide), e 29 (by decide), e 30 (by decide), e 31 (by decide), e 32 (by decide), e 53 (by decide), e 55 (by decide), e 61 (by decide), e 62 (by decide)]
  exact h
theorem ReB.keep {σ τ : MM} {L : List Nat} (h : ReB σ) (m : Mod L σ τ) (hL : ([11, 12, 35, 36, 56, 57, 65, 66] : List Nat).all (fun r => !(L.contains r)) = true) : ReB τ := by
  have e : ∀ r ∈ ([11, 12, 35, 36, 56, 57, 65, 66] : List Nat), τ r = σ r := fun r hr => m.at r (by have := List.all_eq_true.mp hL r hr; simpa using this)
  unfold ReB at *
  rw [e 11 (by decide), e 12 (by decide), e 35 (by decide), e 36 (by decide), e 56 (by decide), e 57 (by decide), e 65 (by decide), e 66 (by decide)]
  exact h
theorem RPn.keep {σ τ : MM} {L : List Nat} (h : RPn σ) (m : Mod L σ τ) (hL : ([15, 16, 38, 39, 53, 58, 63] : List Nat).all (fun r => !(L.contains r)) = true) : RPn τ := by
  have e : ∀ r ∈ ([15, 16, 38, 39, 53, 58, 63] : List Nat), τ r = σ r := fun r hr => m.at r (by have := List.all_eq_true.mp hL r hr; simpa using this)
  unfold RPn at *
  rw [e 15 (by decide), e 16 (by decide), e 38 (by decide), e 39 (by decide), e 53 (by decide), e 58 (by decide), e 63 (by decide)]
  exact h
theorem ReS.keep {σ τ : MM} {L : List Nat} (h : ReS σ) (m : Mod L σ τ) (hL : ([2, 3, 4, 5, 6, 26, 51, 53, 54, 55, 64] : List Nat).all (fun r => !(L.contains r)) = true) : ReS τ := by
  have e : ∀ r ∈ ([2, 3, 4, 5, 6, 26, 51, 53, 54, 55, 64] : List Nat), τ r = σ r := fun r hr => m.at r (by have := List.all_eq_true.mp hL r hr; simpa using this)
  unfold ReS EQs VALx at *
  rw [e 2 (by decide), e 3 (by decide), e 4 (by decide), e 5 (by decide), e 6 (by decide), e 26 (by decide), e 51 (by decide), e 53 (by decide), e 54 (by decide), e 55 (by decide), e 64 (by decide)]
  exact h
theorem LayOK.keep {σ τ : MM} {L : List Nat} (h : LayOK σ) (m : Mod L σ τ) (hL : ([15, 53, 56, 57, 58] : List Nat).all (fun r => !(L.contains r)) = true) : LayOK τ := by
  have e : ∀ r ∈ ([15, 53, 56, 57, 58] : List Nat), τ r = σ r := fun r hr => m.at r (by have := List.all_eq_true.mp hL r hr; simpa using this)
  unfold LayOK at *
  rw [e 15 (by decide), e 53 (by decide), e 56 (by decide), e 57 (by decide), e 58 (by decide)]
  exact h
theorem WayX.keep {σ τ : MM} {L : List Nat} (h : WayX σ) (m : Mod L σ τ) (hL : ([11, 13, 56, 57] : List Nat).all (fun r => !(L.contains r)) = true) : WayX τ := by
  have e : ∀ r ∈ ([11, 13, 56, 57] : List Nat), τ r = σ r := fun r hr => m.at r (by have := List.all_eq_true.mp hL r hr; simpa using this)
  unfold WayX at *
  rw [e 11 (by decide), e 13 (by decide), e 56 (by decide), e 57 (by decide)]
  exact h
theorem EQ24.keep {σ τ : MM} {L : List Nat} (h : EQ24 σ) (m : Mod L σ τ) (hL : ([2, 3, 4, 5, 6, 24, 50, 53, 55] : List Nat).all (fun r => !(L.contains r)) = true) : EQ24 τ := by
  have e : ∀ r ∈ ([2, 3, 4, 5, 6, 24, 50, 53, 55] : List Nat), τ r = σ r := fun r hr => m.at r (by have := List.all_eq_true.mp hL r hr; simpa using this)
  unfold EQ24 EQs VALx at *
  rw [e 2 (by decide), e 3 (by decide), e 4 (by decide), e 5 (by decide), e 6 (by decide), e 24 (by decide), e 50 (by decide), e 53 (by decide), e 55 (by decide)]
  exact h
theorem EQ24.nil {σ : MM} (h : σ 50 0 = 0) : EQ24 σ := fun t a t0 t1 => by omega
theorem ReS.nil {σ : MM} (h : σ 51 0 = 0) (h1 : σ 64 0 = 0) : ReS σ := ⟨by omega, fun q => absurd h q⟩
theorem LayOK.nil {σ : MM} (h : σ 58 0 = 0) : LayOK σ := fun q => by omega
theorem RPn.nil {σ : MM} (h : σ 58 0 = 0) (h1 : σ 63 0 = 0) : RPn σ := ⟨by omega, fun q => by omega⟩
theorem RR.keep {σ τ : MM} {L : List Nat} (h : RR σ) (m : Mod L σ τ) (hL : ([2, 3, 4, 5, 6, 7, 8, 11, 12, 13, 15, 16, 24, 26, 28, 29, 30, 31, 32, 35, 36, 38, 39, 50, 51, 53, 54, 55, 56, 57, 58, 61, 62, 63, 64, 65, 66] : List Nat).all (fun r => !(L.contains r)) = true) : RR τ := by
  have sub : ∀ K : List Nat, K.all (([2, 3, 4, 5, 6, 7, 8, 11, 12, 13, 15, 16, 24, 26, 28, 29, 30, 31, 32, 35, 36, 38, 39, 50, 51, 53, 54, 55, 56, 57, 58, 61, 62, 63, 64, 65, 66] : List Nat).contains ·) = true → K.all (fun r => !(L.contains r)) = true := fun K hK => by
    refine List.all_eq_true.mpr fun r hr => ?_
    have := List.all_eq_true.mp hK r hr
    exact List.all_eq_true.mp hL r (by simpa using this)
  obtain ⟨h1, h2, h3, h4, h5, h6, h7, h8⟩ := h
  exact ⟨h1.keep m (sub _ rfl), h2.keep m (sub _ rfl), h3.keep m (sub _ rfl), h4.keep m (sub _ rfl), h5.keep m (sub _ rfl), h6.keep m (sub _ rfl), h7.keep m (sub _ rfl), h8.keep m (sub _ rfl)⟩
theorem bdk {σ : MM} (hB : Bd bdL σ) : (0 ≤ σ 53 0 ∧ σ 53 0 ≤ 8) ∧ (1 ≤ σ 56 0 ∧ σ 56 0 ≤ 3) ∧ (1 ≤ σ 57 0 ∧ σ 57 0 ≤ 3) ∧ (0 ≤ σ 58 0 ∧ σ 58 0 ≤ 12) ∧ (0 ≤ σ 51 0 ∧ σ 51 0 ≤ 60) ∧ (1 ≤ σ 56 0 * σ 57 0 ∧ σ 56 0 * σ 57 0 ≤ 9) :=
  ⟨hB 53 0 8 rfl 0, hB 56 1 3 rfl 0, hB 57 1 3 rfl 0, hB 58 0 12 rfl 0, hB 51 0 60 rfl 0, mul_bd (hB 56 1 3 rfl 0) (hB 57 1 3 rfl 0)⟩
theorem ReL.dat {σ : MM} (h : ReL σ) (hB : Bd bdL σ) : DatOK σ := by
  obtain ⟨⟨h1, -⟩, h2, h3⟩ := h
  intro a a0 a1
  have k := h2 a a0 a1
  have s1 := h3 (2 * a) (by omega) (by omega)
  have s2 := h3 (2 * a + 1) (by omega) (by omega)
  have b28 := hB 28 0 5 rfl a
  by_cases e : σ 28 a = 0
  · rw [sM_0 (by rw [hf0]; exact e)] at s1
    rw [sM_0 (by rw [hf1]; exact e)] at s2
    exact Or.inl ⟨by omega, s1.1, s2.1⟩
  · rw [sM_1 (by rw [hf0]; exact e)] at s1
    rw [sM_1 (by rw [hf1]; exact e)] at s2
    have := hB 29 0 7 rfl (2 * a)
    have := hB 29 0 7 rfl (2 * a + 1)
    exact Or.inr ⟨by omega, by omega, by omega⟩
/-- a slot that takes a value, on both sides -/
theorem ReL.slot {σ : MM} (h : ReL σ) {s : Int} (s0 : 0 ≤ s) (s1 : s < 2 * σ 53 0) (hs : σ 5 s ≠ -6) : σ 28 (s / 2) ≠ 0 ∧ σ 5 s = σ 29 s ∧ σ 6 s = σ 30 s := by
  have k := h.2.2 s s0 s1
  by_cases e : σ 28 (s / 2) = 0
  · rw [sM_0 e] at k
    exact absurd k.1 hs
  · rw [sM_1 e] at k
    unfold dM at k
    rw [if_neg e] at k
    exact ⟨e, k⟩
theorem ReL.len {σ : MM} (h : ReL σ) {a : Int} (a0 : 0 ≤ a) (a1 : a < σ 53 0) : lenF (σ 2) a = lenF (σ 28) a := by
  unfold lenF
  rw [(h.2.1 a a0 a1).1]
theorem ReL.dist {σ : MM} (h : ReL σ) {s : Int} (s0 : 0 ≤ s) (s1 : s < 2 * σ 53 0) (hs : σ 5 s ≠ -6) : σ 30 s = σ 6 s := (h.slot s0 s1 hs).2.2.symm
theorem ReL.sndX {σ : MM} (h : ReL σ) : Snd (σ 5) (σ 6) (σ 53 0) ↔ SndM σ := by
  unfold SndM
  rw [← h.1.1]
  constructor
  · intro q
    exact q.congr (fun s s0 s1 => (h.2.2 s s0 s1).1.symm) (fun s s0 s1 e => h.dist s0 s1 e)
  · intro q
    refine q.congr (fun s s0 s1 => (h.2.2 s s0 s1).1) (fun s s0 s1 e => ?_)
    rw [← (h.2.2 s s0 s1).1] at e
    exact (h.dist s0 s1 e).symm
theorem RR.snd {σ : MM} (h : RR σ) : σ 54 0 = σ 53 0 ↔ SndM σ := by
  obtain ⟨h1, -, -, -, h5, -⟩ := h
  exact (snd_iff h5.1 h5.2).trans h1.sndX
theorem Nbr_br {br br1 : Int → Int} {n c : Int} (hn : n ≤ 9) (h : ∀ b, 0 ≤ b → b < 9 → br b = br1 b) : ∀ a b, Stq br n c a b ↔ Stq br1 n c a b := fun a b => by
  unfold Stq Op
  constructor
  · rintro ⟨⟨q1, q2, q3⟩, ⟨q4, q5, q6⟩, q7⟩
    exact ⟨⟨q1, q2, by rw [← h a q1 (by omega)]; exact q3⟩, ⟨q4, q5, by rw [← h b q4 (by omega)]; exact q6⟩, q7⟩
  · rintro ⟨⟨q1, q2, q3⟩, ⟨q4, q5, q6⟩, q7⟩
    exact ⟨⟨q1, q2, by rw [h a q1 (by omega)]; exact q3⟩, ⟨q4, q5, by rw [h b q4 (by omega)]; exact q6⟩, q7⟩
theorem Wk_br {br br1 : Int → Int} {n c : Int} (hn : n ≤ 9) (h : ∀ b, 0 ≤ b → b < 9 → br b = br1 b) : ∀ (k : Nat) (a b : Int), Wk br n c k a b ↔ Wk br1 n c k a b
  | 0, a, b => Iff.rfl
  | k + 1, a, b => by
    show (∃ m, Wk br n c k a m ∧ Stq br n c m b) ↔ ∃ m, Wk br1 n c k a m ∧ Stq br1 n c m b
    exact exists_congr fun m => and_congr (Wk_br hn h k a m) (Nbr_br hn h m b)
theorem WayOK.br {br br1 W : Int → Int} {n c : Int} (hW : WayOK br n c W) (hn : n ≤ 9) (h : ∀ b, 0 ≤ b → b < 9 → br b = br1 b) : WayOK br1 n c W :=
  ⟨hW.1, fun a b a0 a1 b0 b1 q => (Wk_br hn h _ _ _).mp (hW.2.1 a b a0 a1 b0 b1 q), fun a b a0 a1 b0 b1 L q => hW.2.2 a b a0 a1 b0 b1 L ((Wk_br hn h _ _ _).mpr q)⟩
theorem RR.way {σ : MM} (h : RR σ) (hB : Bd bdL σ) : WayM σ (σ 13) := by
  obtain ⟨-, h2, -, -, -, -, h7, -⟩ := h
  have k := (bdk hB).2.2.2.2.2
  have := WayOK.br h7 k.2 (fun b b0 b1 => (h2.2 b b0 b1).1)
  unfold WayM
  rw [← h2.1.1, ← h2.1.2]
  exact this
theorem RR.layM {σ : MM} (h : RR σ) : LayM σ := by
  obtain ⟨h1, h2, h3, -, -, h6, -⟩ := h
  intro q a a0 a1
  rw [← h3.1] at q
  rw [← h1.1.1] at a1
  rw [← h2.1.1, ← h2.1.2, ← (h3.2 q a a0 a1).1]
  exact h6 q a a0 a1
/-- what a plan lacks first is the same -/
theorem RR.lack {σ : MM} (h : RR σ) (hB : Bd bdL σ) (hp : 0 < σ 58 0) (hs : σ 54 0 = σ 53 0) {y z : Int} (hx : FLx σ y) (hm : FLm σ (σ 13) z) : y = z := by
  obtain ⟨h1, h2, h3, -, h5, -⟩ := h
  have hsr := srcOK_of h5 hs
  have hc := (bdk hB).1
  have pl := h3.2 hp
  unfold FLm at hm
  rw [← h1.1.1] at hm
  have cell : ∀ x, 0 ≤ x → x < σ 53 0 → 0 ≤ σ 15 x ∧ σ 15 x < 9 := fun x x0 x1 => by have := hB 15 0 8 rfl x; omega
  refine FL.uniq hx hm (fun x x0 x1 => ?_) (fun x x0 x1 => ?_) (fun x x0 x1 => ?_) (fun s s0 s1 => ?_)
  · unfold P1x P1m
    rw [← (pl x x0 x1).1, (h2.2 _ (cell x x0 x1).1 (cell x x0 x1).2).1]
  · unfold P2x P2m
    rw [← (pl x x0 x1).1, (h2.2 _ (cell x x0 x1).1 (cell x x0 x1).2).2, (h1.2.1 x x0 x1).1]
  · unfold P3x P3m Meet
    rw [← h3.1]
    refine exists_congr fun o => ?_
    constructor
    · rintro ⟨o0, o1, q1, q2⟩
      have e1 := pl o o0 (by omega)
      have e2 := pl x x0 x1
      exact ⟨o0, o1, by rw [← e1.1, ← e2.1]; exact q1, by rw [← e1.2, ← e2.2]; exact q2⟩
    · rintro ⟨o0, o1, q1, q2⟩
      have e1 := pl o o0 (by omega)
      have e2 := pl x x0 x1
      exact ⟨o0, o1, by rw [e1.1, e2.1]; exact q1, by rw [e1.2, e2.2]; exact q2⟩
  · unfold P4x P4m Late
    rw [← h3.1, ← (h1.2.2 s s0 s1).1]
    by_cases e : σ 5 s = -6
    · exact ⟨fun q => absurd e q.1, fun q => absurd e q.1⟩
    · have hu : 0 ≤ σ 5 s ∧ σ 5 s < σ 53 0 := by
        rcases hsr s s0 s1 with q | q
        · exact absurd q e
        · exact q
      have e1 := pl (σ 5 s) hu.1 hu.2
      have e2 := pl (s / 2) (by omega) (by omega)
      rw [h1.dist s0 s1 e, ← e1.1, ← e1.2, ← e2.1, ← e2.2, h1.len hu.1 hu.2]
theorem RR.gb {σ : MM} (h : RR σ) (hB : Bd bdL σ) : (GoodX σ → BadM σ (σ 13) → False) ∧ (0 < σ 58 0 → BadX σ → GoodM σ (σ 13) → False) := by
  refine ⟨fun g b => ?_, fun hp b g => ?_⟩
  · rcases b with b | ⟨y, b1, b2⟩
    · exact b (h.snd.mp g.2.1)
    · exact b2 (h.lack hB g.1 g.2.1 g.2.2 b1).symm
  · rcases b with b | ⟨y, b1, b2⟩
    · exact b (h.snd.mpr g.2.1)
    · exact b2 (h.lack hB hp (h.snd.mpr g.2.1) b1 g.2.2)
-- values
theorem VAL_iI {kd p q src dist V kd1 p1 q1 src1 dist1 V1 : Int → Int} {f f1 a t : Int} (hk : kd a = kd1 a) (hp : kd a = 0 → p a = p1 a ∧ q a = q1 a) (ho : kd a ≠ 0 → ∀ s, (s = 2 * a ∨ s = 2 * a + 1) → iI (opV src dist V f s t) = iI (opV src1 dist1 V1 f1 s t)) : VAL kd p q src dist V f a t = VAL kd1 p1 q1 src1 dist1 V1 f1 a t := by
  unfold VAL
  rw [← hk]
  by_cases e : kd a = 0
  · rw [if_pos e, if_pos e, (hp e).1, (hp e).2]
  · have o1 := ho e (2 * a) (Or.inl rfl)
    have o2 := ho e (2 * a + 1) (Or.inr rfl)
    rw [if_neg e, if_neg e, ← iI_add, ← iI_add, ← iI_sub, ← iI_sub, ← iI_mul, ← iI_mul, o1, o2]
theorem RR.vals {σ : MM} (h : RR σ) (hB : Bd bdL σ) (hs : σ 54 0 = σ 53 0) {V W : Int → Int} {T : Int} (hT : T ≤ 61) (hV : EQs σ V T) (hW : EQm σ W T) : ∀ (n : Nat) (t i : Int), 0 ≤ t → t < T → 0 ≤ i → i < σ 53 0 → t * 8 + i < n → iI (V (σ 7 i * 61 + t)) = iI (W (8 * t + σ 7 i)) := by
  have hc := (bdk hB).1
  obtain ⟨h1, -, -, -, h5, -⟩ := h
  have hd := h1.dat hB
  intro n
  induction n with
  | zero => intro t i t0 t1 i0 i1 q; omega
  | succ n ih =>
    intro t i t0 t1 i0 i1 q
    obtain ⟨a0, a1, d1, d2⟩ := ar_ord h5 hs hc.2 i0 i1
    have ka := h1.2.1 (σ 7 i) a0 a1
    rw [hV t (σ 7 i) t0 t1 a0 a1, hW t (σ 7 i) t0 t1 a0 (by rw [← h1.1.1]; exact a1)]
    unfold VALx VALm
    refine VAL_iI ka.1 (fun e => ?_) (fun e s hsl => ?_)
    · have e2 : σ 28 (σ 7 i) = 0 := by rw [← ka.1]; exact e
      have k1 := ka.2.1
      have k2 := ka.2.2
      unfold pM at k1 k2
      rw [if_pos e2] at k1 k2
      exact ⟨k1, k2⟩
    · have s2 : s / 2 = σ 7 i := by omega
      have sb : 0 ≤ s ∧ s < 2 * σ 53 0 := by omega
      have dep : Dep (σ 5) (σ 6) (σ 53 0) (σ 7) i s := by
        rcases hsl with rfl | rfl
        · exact d1
        · exact d2
      have hne : σ 5 s ≠ -6 := by
        rcases hd (σ 7 i) a0 a1 with k | k
        · exact absurd k.1 e
        · rcases hsl with rfl | rfl <;> omega
      obtain ⟨k0, k1, k2⟩ := h1.slot sb.1 sb.2 hne
      have hdi := hB 6 0 3 rfl s
      have hdi2 := hB 30 0 3 rfl s
      rw [opM_eq hdi2.1 (by omega)]
      unfold opV opM
      rw [← k2, h1.1.2]
      by_cases w : t - σ 6 s < 0
      · rw [if_pos w, if_pos w]
      · rw [if_neg w, if_neg w, ← k1]
        rcases dep with g | ⟨g1, g2, g3⟩
        · exact absurd g hne
        · obtain ⟨j, j0, j1, j2⟩ : ∃ j, 0 ≤ j ∧ j < σ 53 0 ∧ σ 7 j = σ 5 s := by
            have hA := h5.1
            rw [hs] at hA
            exact hA.all _ g1 g2
          have lt : (t - σ 6 s) * 8 + j < n := by
            rcases g3 with g3 | ⟨jj, m0, m1, m2⟩
            · omega
            · have hinj := h5.1.2.2.2.2
              have : jj = j := by
                rcases Int.lt_trichotomy jj j with z | z | z
                · exact absurd (m2.trans j2.symm) (hinj jj j m0 z (by omega))
                · exact z
                · exact absurd (j2.trans m2.symm) (hinj j jj j0 z (by omega))
              omega
          rw [← j2]
          exact ih (t - σ 6 s) j (by omega) (by omega) j0 j1 lt
theorem RR.val {σ : MM} (h : RR σ) (hB : Bd bdL σ) (hs : σ 54 0 = σ 53 0) {V W : Int → Int} {T T1 a t : Int} (hT : T ≤ 61) (hV : EQs σ V T) (hW : EQm σ W T1) (t0 : 0 ≤ t) (t1 : t < T) (t2 : t < T1) (a0 : 0 ≤ a) (a1 : a < σ 53 0) : iI (V (a * 61 + t)) = iI (W (8 * t + a)) := by
  have hA := h.2.2.2.2.1.1
  rw [hs] at hA
  obtain ⟨i, i0, i1, i2⟩ := hA.all a a0 a1
  rw [← i2]
  exact h.vals hB hs (T := t + 1) (by omega) (fun u b u0 u1 b0 b1 => hV u b u0 (by omega) b0 b1) (fun u b u0 u1 b0 b1 => hW u b u0 (by omega) b0 b1) (t * 8 + i + 1).toNat t i t0 (by omega) i0 i1 (by omega)
-- bounds
theorem cdiv_eq {a b c d : Int} (h1 : a = c) (h2 : b = d) : cdiv a b = cdiv c d := by rw [h1, h2]
theorem PBx.uniq {c p u m y z : Int} (h : PBx c p u m y) (g : PBx c p u m z) (hp : 0 ≤ p) : y = z := by
  unfold PBx at h g
  omega
theorem RR.pl {σ : MM} (h : RR σ) (hB : Bd bdL σ) {z : Int} : PBX σ z ↔ PLm σ z := by
  have k := bdk hB
  obtain ⟨h1, h2, -⟩ := h
  unfold PBX PLm
  rw [← h1.1.1, ← h2.1.1, ← h2.1.2]
  have e1 : cnK (σ 2) (σ 53 0) = cnK (σ 28) (σ 53 0) := sm_congr _ (fun x x0 x1 => by rw [(h1.2.1 x x0 (by omega)).1])
  have e2 : cn0 (σ 11) (σ 56 0 * σ 57 0) = cn0 (σ 35) (σ 56 0 * σ 57 0) := sm_congr _ (fun x x0 x1 => by rw [(h2.2 x x0 (by omega)).1])
  have e3 : cn2 (σ 11) (σ 12) (σ 56 0 * σ 57 0) = cn2 (σ 35) (σ 36) (σ 56 0 * σ 57 0) := sm_congr _ (fun x x0 x1 => by rw [(h2.2 x x0 (by omega)).1, (h2.2 x x0 (by omega)).2])
  rw [e1, e2, e3]
theorem PLm.uniq {σ : MM} {y z : Int} (h : PLm σ y) (g : PLm σ z) : y = z := PBx.uniq h g ((sm_bd _ (fun k _ _ => by
  show (if σ 28 k = 3 then (1 : Int) else 0) = 0 ∨ (if σ 28 k = 3 then (1 : Int) else 0) = 1
  split
  · exact Or.inr rfl
  · exact Or.inl rfl)).1)
theorem RR.rh {σ : MM} (h : RR σ) (n : Int) : RH (σ 2) (σ 5) (σ 6) (σ 53 0) n ↔ RHm σ n := by
  obtain ⟨h1, -⟩ := h
  unfold RHm RH
  rw [← h1.1.1]
  refine exists_congr fun M => and_congr ?_ Iff.rfl
  unfold Sol
  refine forall_congr' fun s => forall_congr' fun s0 => forall_congr' fun s1 => ?_
  have e := (h1.2.2 s s0 s1).1
  unfold enX gR
  rw [← e]
  constructor
  · intro q w
    rw [h1.dist s0 s1 (by omega), ← h1.len w.1 w.2]
    exact q w
  · intro q w
    rw [← h1.dist s0 s1 (by omega), h1.len w.1 w.2]
    exact q w
theorem RR.rb {σ : MM} (h : RR σ) {y z : Int} (hx : RBx σ y) (hm : RBm σ z) : y = z := by
  obtain ⟨a1, a2, a3⟩ := hx
  obtain ⟨b1, b2, b3⟩ := hm
  rcases Int.lt_trichotomy y z with q | q | q
  · exact absurd ((h.rh y).mp (a3 (by omega))) (b2 y a1.1 q)
  · exact q
  · exact absurd ((h.rh z).mpr b3) (a2 z b1.1 q)
