/-! PURE: plans -/
theorem pm {a A b B : Int} (ha : 0 ≤ a ∧ a ≤ A) (hb : 0 ≤ b ∧ b ≤ B) : 0 ≤ a * b ∧ a * b ≤ A * B := ⟨Int.mul_nonneg ha.1 hb.1, Int.mul_le_mul ha.2 hb.2 hb.1 (by omega)⟩
/-- the first of which P holds; none -/
def Fst (P : Int → Prop) (n a : Int) : Prop := 0 ≤ a ∧ a < n ∧ P a ∧ ∀ b, 0 ≤ b → b < a → ¬ P b
def Non (P : Int → Prop) (n : Int) : Prop := ∀ b, 0 ≤ b → b < n → ¬ P b
theorem Non.next {P : Int → Prop} {n n1 : Int} (h : Non P n) (hp : ¬ P n) (e : n1 = n + 1) : Non P n1 := fun b b0 b1 q => by
  by_cases e1 : b = n
  · rw [e1] at q
    exact hp q
  · exact h b b0 (by omega) q
theorem Non.fst {P : Int → Prop} {n m : Int} (h : Non P n) (h0 : 0 ≤ n) (h1 : n < m) (hp : P n) : Fst P m n := ⟨h0, h1, hp, h⟩
theorem Fst.uniq {P Q : Int → Prop} {n a b : Int} (h : Fst P n a) (g : Fst Q n b) (e : ∀ x, 0 ≤ x → x < n → (P x ↔ Q x)) : a = b := by
  obtain ⟨h0, h1, h2, h3⟩ := h
  obtain ⟨g0, g1, g2, g3⟩ := g
  rcases Int.lt_trichotomy a b with q | q | q
  · exact absurd ((e a h0 h1).mp h2) (g3 a h0 q)
  · exact q
  · exact absurd ((e b g0 g1).mpr g2) (h3 b g0 q)
theorem Fst.not {P Q : Int → Prop} {n a : Int} (h : Fst P n a) (g : Non Q n) (e : ∀ x, 0 ≤ x → x < n → (P x ↔ Q x)) : False := g a h.1 h.2.1 ((e a h.1 h.2.1).mp h.2.2.1)
def Meet (lc ls : Int → Int) (bt a : Int) : Prop := ∃ o, 0 ≤ o ∧ o < a ∧ lc o = lc a ∧ ls a % bt = ls o % bt
def Late (src dist lc ls kd W : Int → Int) (bt s : Int) : Prop :=
  src s ≠ -6 ∧ (1000 ≤ W (lc (src s) * 9 + lc (s / 2)) ∨ ls (s / 2) + bt * dist s < ls (src s) + lenF kd (src s) + W (lc (src s) * 9 + lc (s / 2)))
/-- what a plan lacks first -/
def FL (P1 P2 P3 P4 : Int → Prop) (c z : Int) : Prop :=
  (∃ a, Fst P1 c a ∧ z = 10 + a) ∨ (Non P1 c ∧ ∃ a, Fst P2 c a ∧ z = 20 + a) ∨ (Non P1 c ∧ Non P2 c ∧ ∃ a, Fst P3 c a ∧ z = 30 + a) ∨
  (Non P1 c ∧ Non P2 c ∧ Non P3 c ∧ ∃ s, Fst P4 (2 * c) s ∧ z = 40 + s) ∨ (Non P1 c ∧ Non P2 c ∧ Non P3 c ∧ Non P4 (2 * c) ∧ z = 0)
theorem FL.uniq {P1 P2 P3 P4 Q1 Q2 Q3 Q4 : Int → Prop} {c y z : Int} (h : FL P1 P2 P3 P4 c y) (g : FL Q1 Q2 Q3 Q4 c z) (e1 : ∀ x, 0 ≤ x → x < c → (P1 x ↔ Q1 x)) (e2 : ∀ x, 0 ≤ x → x < c → (P2 x ↔ Q2 x)) (e3 : ∀ x, 0 ≤ x → x < c → (P3 x ↔ Q3 x)) (e4 : ∀ x, 0 ≤ x → x < 2 * c → (P4 x ↔ Q4 x)) : y = z := by
  have s1 := fun x a b => (e1 x a b).symm
  have s2 := fun x a b => (e2 x a b).symm
  have s3 := fun x a b => (e3 x a b).symm
  have s4 := fun x a b => (e4 x a b).symm
  rcases h with ⟨a, h1, rfl⟩ | ⟨n1, a, h1, rfl⟩ | ⟨n1, n2, a, h1, rfl⟩ | ⟨n1, n2, n3, a, h1, rfl⟩ | ⟨n1, n2, n3, n4, rfl⟩ <;>
    rcases g with ⟨b, g1, rfl⟩ | ⟨k1, b, g1, rfl⟩ | ⟨k1, k2, b, g1, rfl⟩ | ⟨k1, k2, k3, b, g1, rfl⟩ | ⟨k1, k2, k3, k4, rfl⟩ <;>
    first
      | rfl
      | rw [h1.uniq g1 e1]
      | rw [h1.uniq g1 e2]
      | rw [h1.uniq g1 e3]
      | rw [h1.uniq g1 e4]
      | exact (h1.not k1 e1).elim
      | exact (g1.not n1 s1).elim
      | exact (h1.not k2 e2).elim
      | exact (g1.not n2 s2).elim
      | exact (h1.not k3 e3).elim
      | exact (g1.not n3 s3).elim
      | exact (h1.not k4 e4).elim
      | exact (g1.not n4 s4).elim
theorem FL.rng {P1 P2 P3 P4 : Int → Prop} {c z : Int} (h : FL P1 P2 P3 P4 c z) (hc : c ≤ 8) : 0 ≤ z ∧ z ≤ 60 ∧ (z = 0 ↔ Non P1 c ∧ Non P2 c ∧ Non P3 c ∧ Non P4 (2 * c)) := by
  rcases h with ⟨a, h1, rfl⟩ | ⟨n1, a, h1, rfl⟩ | ⟨n1, n2, a, h1, rfl⟩ | ⟨n1, n2, n3, a, h1, rfl⟩ | ⟨n1, n2, n3, n4, rfl⟩
  · have := h1.1
    have := h1.2.1
    exact ⟨by omega, by omega, ⟨fun q => by omega, fun q => absurd h1.2.2.1 (q.1 a h1.1 h1.2.1)⟩⟩
  · have := h1.1
    have := h1.2.1
    exact ⟨by omega, by omega, ⟨fun q => by omega, fun q => absurd h1.2.2.1 (q.2.1 a h1.1 h1.2.1)⟩⟩
  · have := h1.1
    have := h1.2.1
    exact ⟨by omega, by omega, ⟨fun q => by omega, fun q => absurd h1.2.2.1 (q.2.2.1 a h1.1 h1.2.1)⟩⟩
  · have := h1.1
    have := h1.2.1
    exact ⟨by omega, by omega, ⟨fun q => by omega, fun q => absurd h1.2.2.1 (q.2.2.2 a h1.1 h1.2.1)⟩⟩
  · exact ⟨by omega, by omega, ⟨fun _ => ⟨n1, n2, n3, n4⟩, fun _ => rfl⟩⟩
/-- all operands are acts that there are -/
def SrcOK (src : Int → Int) (c : Int) : Prop := ∀ s, 0 ≤ s → s < 2 * c → src s = -6 ∨ (0 ≤ src s ∧ src s < c)
theorem srcOK_of {σ : MM} (h : LoopOK σ) (e : σ 54 0 = σ 53 0) : SrcOK (σ 5) (σ 53 0) := by
  obtain ⟨⟨⟨h1, h2, h3⟩, h4, h5, h6, h7⟩, -⟩ := h
  intro s s0 s1
  have ha : σ 8 (s / 2) = 1 := sm_all (σ 53 0).toNat (fun k k0 k1 => h4 k k0 (by omega)) (by omega) (s / 2) (by omega) (by omega)
  obtain ⟨i, i0, i1, i2⟩ := h6 (s / 2) (by omega) (by omega) ha
  obtain ⟨-, -, -, d1, d2⟩ := h5 i i0 i1
  rw [i2] at d1 d2
  rcases (by omega : s = 2 * (s / 2) ∨ s = 2 * (s / 2) + 1) with q | q
  · rw [← q] at d1
    rcases d1 with d | d
    · exact Or.inl d
    · exact Or.inr ⟨d.1, d.2.1⟩
  · rw [← q] at d2
    rcases d2 with d | d
    · exact Or.inl d
    · exact Or.inr ⟨d.1, d.2.1⟩
/-- the cells of a plan are cells that there are -/
def LayOK (σ : MM) : Prop := 0 < σ 58 0 → ∀ a, 0 ≤ a → a < σ 53 0 → σ 15 a < σ 56 0 * σ 57 0
/-- the greatest of m0 and of f at those of which P holds -/
def IsMax (P : Int → Prop) (f : Int → Int) (n m0 m : Int) : Prop := m0 ≤ m ∧ (∀ s, 0 ≤ s → s < n → P s → f s ≤ m) ∧ (m = m0 ∨ ∃ s, 0 ≤ s ∧ s < n ∧ P s ∧ m = f s)
theorem IsMax.init {P : Int → Prop} {f : Int → Int} {n m0 : Int} (hn : n = 0) : IsMax P f n m0 m0 := ⟨Int.le_refl _, fun s s0 s1 => by omega, Or.inl rfl⟩
theorem IsMax.skip {P : Int → Prop} {f : Int → Int} {n n1 m0 m : Int} (h : IsMax P f n m0 m) (hp : ¬ P n) (e : n1 = n + 1) : IsMax P f n1 m0 m := by
  obtain ⟨h1, h2, h3⟩ := h
  refine ⟨h1, fun s s0 s1 q => ?_, ?_⟩
  · by_cases e1 : s = n
    · rw [e1] at q
      exact absurd q hp
    · exact h2 s s0 (by omega) q
  · rcases h3 with h3 | ⟨s, s0, s1, s2⟩
    · exact Or.inl h3
    · exact Or.inr ⟨s, s0, by omega, s2⟩
theorem IsMax.take {P : Int → Prop} {f : Int → Int} {n n1 m0 m m1 : Int} (h : IsMax P f n m0 m) (h0 : 0 ≤ n) (hp : P n) (hm : (m < f n ∧ m1 = f n) ∨ (f n ≤ m ∧ m1 = m)) (e : n1 = n + 1) : IsMax P f n1 m0 m1 := by
  obtain ⟨h1, h2, h3⟩ := h
  refine ⟨by omega, fun s s0 s1 q => ?_, ?_⟩
  · by_cases e1 : s = n
    · rw [e1]
      omega
    · have := h2 s s0 (by omega) q
      omega
  · rcases hm with ⟨g1, g2⟩ | ⟨g1, g2⟩
    · exact Or.inr ⟨n, h0, by omega, hp, g2⟩
    · rw [g2]
      rcases h3 with h3 | ⟨s, s0, s1, s2⟩
      · exact Or.inl h3
      · exact Or.inr ⟨s, s0, by omega, s2⟩
theorem IsMax.uniq {P Q : Int → Prop} {f g : Int → Int} {n m0 m k : Int} (h : IsMax P f n m0 m) (w : IsMax Q g n m0 k) (e : ∀ x, 0 ≤ x → x < n → (P x ↔ Q x)) (ef : ∀ x, 0 ≤ x → x < n → P x → f x = g x) : m = k := by
  obtain ⟨h1, h2, h3⟩ := h
  obtain ⟨w1, w2, w3⟩ := w
  have a1 : m ≤ k := by
    rcases h3 with h3 | ⟨s, s0, s1, s2, s3⟩
    · omega
    · rw [s3, ef s s0 s1 s2]
      exact w2 s s0 s1 ((e s s0 s1).mp s2)
  have a2 : k ≤ m := by
    rcases w3 with w3 | ⟨s, s0, s1, s2, s3⟩
    · omega
    · have q := (e s s0 s1).mpr s2
      rw [s3, ← ef s s0 s1 q]
      exact h2 s s0 s1 q
  omega
theorem tmod_same {x y b : Int} (hb : 0 < b) : (x - y).tmod b = 0 ↔ x % b = y % b := by
  rw [← Int.dvd_iff_tmod_eq_zero]
  constructor
  · exact Int.emod_eq_emod_iff_emod_sub_eq_zero.mpr ∘ Int.emod_eq_zero_of_dvd
  · exact fun h => Int.dvd_of_emod_eq_zero (Int.emod_eq_emod_iff_emod_sub_eq_zero.mp h)
def P1x (σ : MM) : Int → Prop := fun x => σ 11 (σ 15 x) = 1
def P2x (σ : MM) : Int → Prop := fun x => σ 2 x = 3 ∧ σ 12 (σ 15 x) = 0
def P3x (σ : MM) : Int → Prop := Meet (σ 15) (σ 16) (σ 58 0)
def P4x (σ : MM) : Int → Prop := Late (σ 5) (σ 6) (σ 15) (σ 16) (σ 2) (σ 13) (σ 58 0)
def FLx (σ : MM) (z : Int) : Prop := FL (P1x σ) (P2x σ) (P3x σ) (P4x σ) (σ 53 0) z
def useX (σ : MM) (s : Int) : Int := σ 16 (s / 2) + σ 58 0 * σ 6 s
def madeX (σ : MM) (a : Int) : Int := σ 16 a + lenF (σ 2) a
/-- the round in which an act with that start begins at a beat -/
def RS (st bt at1 z : Int) : Prop := (st ≤ at1 ∧ (at1 - st) % bt = 0 ∧ z = (at1 - st) / bt) ∨ ((at1 < st ∨ (at1 - st) % bt ≠ 0) ∧ z = -6)
theorem lenF_bd {kd : Int → Int} {a : Int} : 1 ≤ lenF kd a ∧ lenF kd a ≤ 2 := by
  unfold lenF
  split <;> omega
theorem late_iff {σ : MM} {s : Int} : P4x σ s ↔ (σ 5 s ≠ -6 ∧ (1000 ≤ σ 13 (σ 15 (σ 5 s) * 9 + σ 15 (s / 2)) ∨ useX σ s < madeX σ (σ 5 s) + σ 13 (σ 15 (σ 5 s) * 9 + σ 15 (s / 2)))) := Iff.rfl
