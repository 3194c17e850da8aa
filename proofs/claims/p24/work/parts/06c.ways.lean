/-! PURE: ways over a board of at most 9 cells -/
def Nbr (c a b : Int) : Prop := (a / c = b / c ∧ (a % c - b % c = 1 ∨ b % c - a % c = 1)) ∨ (a % c = b % c ∧ (a / c - b / c = 1 ∨ b / c - a / c = 1))
def Op (br : Int → Int) (n a : Int) : Prop := 0 ≤ a ∧ a < n ∧ br a = 0
def Stq (br : Int → Int) (n c a b : Int) : Prop := Op br n a ∧ Op br n b ∧ Nbr c a b
def Wk (br : Int → Int) (n c : Int) : Nat → Int → Int → Prop
  | 0, a, b => a = b
  | k + 1, a, b => ∃ m, Wk br n c k a m ∧ Stq br n c m b
theorem Wk.app {br : Int → Int} {n c : Int} {k : Nat} {a m : Int} (h : Wk br n c k a m) : ∀ (j : Nat) {b : Int}, Wk br n c j m b → Wk br n c (k + j) a b
  | 0, b, h1 => by
    have e : m = b := h1
    rw [← e]
    exact h
  | j + 1, b, ⟨x, h1, h2⟩ => ⟨x, Wk.app h j h1, h2⟩
def SSt (br : Int → Int) (n c a b z : Int) : Prop := (a = b ∧ z = 0) ∨ (a ≠ b ∧ Stq br n c a b ∧ z = 1) ∨ (a ≠ b ∧ ¬ Stq br n c a b ∧ z = 1000)
def FWI (br : Int → Int) (n c k : Int) (W : Int → Int) : Prop :=
  (∀ a b : Int, 0 ≤ a → a < 9 → 0 ≤ b → b < 9 → 0 ≤ W (a * 9 + b) ∧ W (a * 9 + b) ≤ 1000) ∧ (∀ a : Int, 0 ≤ a → a < 9 → W (a * 9 + a) = 0) ∧
  (∀ a b : Int, 0 ≤ a → a < 9 → 0 ≤ b → b < 9 → W (a * 9 + b) < 1000 → Wk br n c (W (a * 9 + b)).toNat a b) ∧
  (∀ a b : Int, 0 ≤ a → a < 9 → 0 ≤ b → b < 9 → Stq br n c a b → W (a * 9 + b) ≤ 1) ∧
  (∀ m : Int, 0 ≤ m → m < k → m < 9 → ∀ a b : Int, 0 ≤ a → a < 9 → 0 ≤ b → b < 9 → W (a * 9 + b) ≤ W (a * 9 + m) + W (m * 9 + b))
def Fw (W W1 : Int → Int) (m : Int) : Prop := ∀ a b : Int, 0 ≤ a → a < 9 → 0 ≤ b → b < 9 → W1 (a * 9 + b) = if W (a * 9 + m) + W (m * 9 + b) < W (a * 9 + b) then W (a * 9 + m) + W (m * 9 + b) else W (a * 9 + b)
theorem FWI.init {br : Int → Int} {n c : Int} {W : Int → Int} (h : ∀ a b : Int, 0 ≤ a → a < 9 → 0 ≤ b → b < 9 → SSt br n c a b (W (a * 9 + b))) : FWI br n c 0 W := by
  refine ⟨fun a b a0 a1 b0 b1 => ?_, fun a a0 a1 => ?_, fun a b a0 a1 b0 b1 hw => ?_, fun a b a0 a1 b0 b1 hs => ?_, fun m m0 m1 => by omega⟩
  · rcases h a b a0 a1 b0 b1 with q | q | q <;> omega
  · rcases h a a a0 a1 a0 a1 with q | q | q
    · exact q.2
    · exact absurd rfl q.1
    · exact absurd rfl q.1
  · rcases h a b a0 a1 b0 b1 with q | q | q
    · rw [q.2]
      exact q.1
    · rw [q.2.2]
      exact ⟨a, rfl, q.2.1⟩
    · omega
  · rcases h a b a0 a1 b0 b1 with q | q | q
    · omega
    · omega
    · exact absurd hs q.2.1
theorem FWI.next {br : Int → Int} {n c k : Int} {W W1 : Int → Int} (h : FWI br n c k W) (k0 : 0 ≤ k) (k1 : k < 9) (hf : Fw W W1 k) : FWI br n c (k + 1) W1 := by
  obtain ⟨h1, h2, h3, h4, h5⟩ := h
  have le : ∀ a b : Int, 0 ≤ a → a < 9 → 0 ≤ b → b < 9 → W1 (a * 9 + b) ≤ W (a * 9 + b) ∧ W1 (a * 9 + b) ≤ W (a * 9 + k) + W (k * 9 + b) := fun a b a0 a1 b0 b1 => by
    rw [hf a b a0 a1 b0 b1]
    split <;> omega
  have two : ∀ a b : Int, 0 ≤ a → a < 9 → 0 ≤ b → b < 9 → W1 (a * 9 + b) = W (a * 9 + b) ∨ W1 (a * 9 + b) = W (a * 9 + k) + W (k * 9 + b) := fun a b a0 a1 b0 b1 => by
    rw [hf a b a0 a1 b0 b1]
    split
    · exact Or.inr rfl
    · exact Or.inl rfl
  have pos := h1
  refine ⟨fun a b a0 a1 b0 b1 => ?_, fun a a0 a1 => ?_, fun a b a0 a1 b0 b1 hw => ?_, fun a b a0 a1 b0 b1 hs => ?_, fun m m0 m1 m2 a b a0 a1 b0 b1 => ?_⟩
  · have q1 := h1 a b a0 a1 b0 b1
    have q2 := h1 a k a0 a1 k0 k1
    have q3 := h1 k b k0 k1 b0 b1
    have q4 := le a b a0 a1 b0 b1
    rcases two a b a0 a1 b0 b1 with e | e <;> omega
  · have q1 := h2 a a0 a1
    have q2 := h1 a k a0 a1 k0 k1
    have q3 := h1 k a k0 k1 a0 a1
    have q4 := le a a a0 a1 a0 a1
    rcases two a a a0 a1 a0 a1 with e | e <;> omega
  · rcases two a b a0 a1 b0 b1 with e | e
    · rw [e] at hw ⊢
      exact h3 a b a0 a1 b0 b1 hw
    · rw [e] at hw ⊢
      have q2 := h1 a k a0 a1 k0 k1
      have q3 := h1 k b k0 k1 b0 b1
      rw [Int.toNat_add q2.1 q3.1]
      exact (h3 a k a0 a1 k0 k1 (by omega)).app _ (h3 k b k0 k1 b0 b1 (by omega))
  · have q1 := h4 a b a0 a1 b0 b1 hs
    have q4 := le a b a0 a1 b0 b1
    omega
  · have lab := le a b a0 a1 b0 b1
    by_cases e : m = k
    · subst e
      have e1 := two a m a0 a1 k0 k1
      have e2 := two m b k0 k1 b0 b1
      have z := h2 m k0 k1
      omega
    · have t := h5 m m0 (by omega) m2
      have e1 := two a m a0 a1 m0 m2
      have e2 := two m b m0 m2 b0 b1
      have t1 := t a b a0 a1 b0 b1
      have t2 := t k b k0 k1 b0 b1
      have t3 := t a k a0 a1 k0 k1
      have p1 := h1 k m k0 k1 m0 m2
      have p2 := h1 m k m0 m2 k0 k1
      omega
def WayOK (br : Int → Int) (n c : Int) (W : Int → Int) : Prop :=
  (∀ a b : Int, 0 ≤ a → a < 9 → 0 ≤ b → b < 9 → 0 ≤ W (a * 9 + b) ∧ W (a * 9 + b) ≤ 1000) ∧
  (∀ a b : Int, 0 ≤ a → a < 9 → 0 ≤ b → b < 9 → W (a * 9 + b) < 1000 → Wk br n c (W (a * 9 + b)).toNat a b) ∧
  (∀ a b : Int, 0 ≤ a → a < 9 → 0 ≤ b → b < 9 → ∀ L : Nat, Wk br n c L a b → W (a * 9 + b) ≤ L)
theorem FWI.fin {br : Int → Int} {n c k : Int} {W : Int → Int} (h : FWI br n c k W) (hn : n ≤ k ∨ 9 ≤ k) (hn9 : n ≤ 9) : WayOK br n c W := by
  obtain ⟨h1, h2, h3, h4, h5⟩ := h
  refine ⟨h1, h3, fun a b a0 a1 b0 b1 L => ?_⟩
  induction L generalizing b with
  | zero =>
    intro e
    have e1 : a = b := e
    subst e1
    rw [h2 a a0 a1]
    exact Int.le_refl _
  | succ L ih =>
    rintro ⟨m, q1, q2⟩
    have hm := q2.1
    have m0 := hm.1
    have m1 := hm.2.1
    have := ih m m0 (by omega) q1
    have := h4 m b m0 (by omega) b0 b1 q2
    have := h5 m m0 (by omega) (by omega) a b a0 a1 b0 b1
    omega
theorem mul_bd {r c : Int} (hr : 1 ≤ r ∧ r ≤ 3) (hc : 1 ≤ c ∧ c ≤ 3) : 1 ≤ r * c ∧ r * c ≤ 9 := by
  rcases (by omega : r = 1 ∨ r = 2 ∨ r = 3) with e | e | e <;> subst e <;> omega
def cn0 (br : Int → Int) (n : Int) : Int := sm (fun c => if br c = 0 then 1 else 0) n.toNat
def cn2 (br mu : Int → Int) (n : Int) : Int := sm (fun c => if br c = 0 ∧ mu c = 1 then 1 else 0) n.toNat
theorem sm_succ {f : Int → Int} {n : Int} (h : 0 ≤ n) : sm f (n + 1).toNat = sm f n.toNat + f n := by
  rw [show (n + 1).toNat = n.toNat + 1 by omega, sm, show ((n.toNat : Nat) : Int) = n by omega]
theorem fw_step {W0 cur cur1 : Int → Int} {f t t1 m x : Int} (hm : 0 ≤ m ∧ m < 9) (hf : 0 ≤ f ∧ f < 9) (ht : 0 ≤ t ∧ t < 9)
    (hW : ∀ a b : Int, 0 ≤ a → a < 9 → 0 ≤ b → b < 9 → cur (a * 9 + b) = if a < f ∨ (a = f ∧ b < t) then (if W0 (a * 9 + m) + W0 (m * 9 + b) < W0 (a * 9 + b) then W0 (a * 9 + m) + W0 (m * 9 + b) else W0 (a * 9 + b)) else W0 (a * 9 + b))
    (hz : ∀ a : Int, 0 ≤ a → a < 9 → W0 (a * 9 + a) = 0) (hx : x = cur (f * 9 + m) + cur (m * 9 + t))
    (hst : ((∀ b, cur1 b = if b = f * 9 + t then x else cur b) ∧ x < cur (f * 9 + t)) ∨ (cur1 = cur ∧ cur (f * 9 + t) ≤ x)) (e : t1 = t + 1) :
    ∀ a b : Int, 0 ≤ a → a < 9 → 0 ≤ b → b < 9 → cur1 (a * 9 + b) = if a < f ∨ (a = f ∧ b < t1) then (if W0 (a * 9 + m) + W0 (m * 9 + b) < W0 (a * 9 + b) then W0 (a * 9 + m) + W0 (m * 9 + b) else W0 (a * 9 + b)) else W0 (a * 9 + b) := by
  have hzm := hz m hm.1 hm.2
  have c1 : cur (f * 9 + m) = W0 (f * 9 + m) := by
    rw [hW f m hf.1 hf.2 hm.1 hm.2]
    split
    · rw [if_neg (by omega)]
    · rfl
  have c2 : cur (m * 9 + t) = W0 (m * 9 + t) := by
    rw [hW m t hm.1 hm.2 ht.1 ht.2]
    split
    · rw [if_neg (by omega)]
    · rfl
  have c3 : cur (f * 9 + t) = W0 (f * 9 + t) := by
    rw [hW f t hf.1 hf.2 ht.1 ht.2, if_neg (by omega)]
  rw [c1, c2] at hx
  rw [c3] at hst
  intro a b a0 a1 b0 b1
  by_cases q : a = f ∧ b = t
  · have hc : a < f ∨ (a = f ∧ b < t1) := by omega
    obtain ⟨qa, qb⟩ := q
    rw [if_pos hc, qa, qb]
    rcases hst with ⟨g1, g2⟩ | ⟨g1, g2⟩
    · rw [g1, if_pos rfl, if_pos (by omega), hx]
    · rw [g1, c3, if_neg (by omega)]
  · have e1 : cur1 (a * 9 + b) = cur (a * 9 + b) := by
      rcases hst with ⟨g1, g2⟩ | ⟨g1, g2⟩
      · rw [g1, if_neg (by omega)]
      · rw [g1]
    rw [e1, hW a b a0 a1 b0 b1]
    by_cases q2 : a < f ∨ (a = f ∧ b < t)
    · have q3 : a < f ∨ (a = f ∧ b < t1) := by omega
      rw [if_pos q2, if_pos q3]
    · have q3 : ¬ (a < f ∨ (a = f ∧ b < t1)) := by omega
      rw [if_neg q2, if_neg q3]
theorem if_iff {α : Type} {A B : Prop} {x y : α} (da : Decidable A) (db : Decidable B) (h : A ↔ B) : (@ite α A da x y) = @ite α B db x y := by
  by_cases q : A
  · rw [if_pos q, if_pos (h.mp q)]
  · rw [if_neg q, if_neg (fun z => q (h.mpr z))]
theorem pair_step {P : Int → Int → Int → Prop} {W W1 : Int → Int} {f t t1 z : Int} (h : ∀ a b : Int, 0 ≤ a → a < 9 → 0 ≤ b → b < 9 → (a < f ∨ (a = f ∧ b < t)) → P a b (W (a * 9 + b))) (hs : ∀ b, W1 b = if b = f * 9 + t then z else W b) (hz : P f t z) (e : t1 = t + 1) (hf : 0 ≤ f ∧ f < 9) (ht : 0 ≤ t ∧ t < 9) :
    ∀ a b : Int, 0 ≤ a → a < 9 → 0 ≤ b → b < 9 → (a < f ∨ (a = f ∧ b < t1)) → P a b (W1 (a * 9 + b)) := by
  intro a b a0 a1 b0 b1 q
  rw [hs]
  by_cases q2 : a * 9 + b = f * 9 + t
  · have ea : a = f := by omega
    have eb : b = t := by omega
    rw [if_pos q2, ea, eb]
    exact hz
  · rw [if_neg q2]
    exact h a b a0 a1 b0 b1 (by omega)
theorem two_step {A A1 B B1 : Int → Int} {i x y : Int} (h : ∀ b : Int, 0 ≤ b → b < i → A b = x ∧ B b = y) (hA : ∀ b, A1 b = if b = i then x else A b) (hB : ∀ b, B1 b = if b = i then y else B b) : ∀ b : Int, 0 ≤ b → b < i + 1 → A1 b = x ∧ B1 b = y := by
  intro b b0 b1
  rw [hA, hB]
  by_cases q : b = i
  · rw [if_pos q, if_pos q]
    exact ⟨rfl, rfl⟩
  · rw [if_neg q, if_neg q]
    exact h b b0 (by omega)
