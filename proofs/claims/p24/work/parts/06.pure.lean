/-! PURE: sums of flags; what comes of ordering acts -/
def sm (f : Int → Int) : Nat → Int
  | 0 => 0
  | n + 1 => sm f n + f n
theorem sm_congr {f g : Int → Int} : ∀ (n : Nat), (∀ k : Int, 0 ≤ k → k < n → f k = g k) → sm f n = sm g n
  | 0, _ => rfl
  | n + 1, h => by
    rw [sm, sm, sm_congr n (fun k h0 h1 => h k h0 (by omega)), h n (by omega) (by omega)]
theorem sm_bd {f : Int → Int} : ∀ (n : Nat), (∀ k : Int, 0 ≤ k → k < n → f k = 0 ∨ f k = 1) → 0 ≤ sm f n ∧ sm f n ≤ n
  | 0, _ => by simp [sm]
  | n + 1, h => by
    have h1 := sm_bd n (fun k h0 h1 => h k h0 (by omega))
    have h2 := h n (by omega) (by omega)
    rw [sm]
    omega
theorem sm_lt {f : Int → Int} : ∀ (n : Nat), (∀ k : Int, 0 ≤ k → k < n → f k = 0 ∨ f k = 1) → ∀ a : Int, 0 ≤ a → a < n → f a = 0 → sm f n < n
  | 0, _, a, h0, h1, _ => by omega
  | n + 1, h, a, h0, h1, ha => by
    have h2 := h n (by omega) (by omega)
    have h3 := sm_bd n (fun k h0 h1 => h k h0 (by omega))
    rw [sm]
    by_cases e : a = n
    · subst e
      omega
    · have := sm_lt n (fun k h0 h1 => h k h0 (by omega)) a h0 (by omega) ha
      omega
theorem sm_all {f : Int → Int} (n : Nat) (h : ∀ k : Int, 0 ≤ k → k < n → f k = 0 ∨ f k = 1) (hs : sm f n = n) (a : Int) (h0 : 0 ≤ a) (h1 : a < n) : f a = 1 := by
  rcases h a h0 h1 with q | q
  · have := sm_lt n h a h0 h1 q
    omega
  · exact q
theorem sm_one {f : Int → Int} : ∀ (n : Nat), (∀ k : Int, 0 ≤ k → k < n → f k = 1) → sm f n = n
  | 0, _ => by simp [sm]
  | n + 1, h => by
    rw [sm, sm_one n (fun k h0 h1 => h k h0 (by omega)), h n (by omega) (by omega)]
    omega
theorem sm_zero {f : Int → Int} : ∀ (n : Nat), (∀ k : Int, 0 ≤ k → k < n → f k = 0) → sm f n = 0
  | 0, _ => by simp [sm]
  | n + 1, h => by
    rw [sm, sm_zero n (fun k h0 h1 => h k h0 (by omega)), h n (by omega) (by omega)]
    omega
theorem sm_up {f g : Int → Int} {a : Int} (hg : ∀ b, g b = if b = a then 1 else f b) (ha : f a = 0) : ∀ (n : Nat), 0 ≤ a → sm g n = sm f n + (if a < n then 1 else 0)
  | 0, h0 => by
    simp only [sm]
    rw [if_neg (by omega)]
    rfl
  | n + 1, h0 => by
    rw [sm, sm, sm_up hg ha n h0, hg n]
    by_cases e : (n : Int) = a
    · rw [if_pos e, if_neg (by omega), if_pos (by omega)]
      rw [e, ha]
    · rw [if_neg e]
      by_cases q : a < (n : Int)
      · rw [if_pos q, if_pos (by omega)]
        omega
      · rw [if_neg q, if_neg (by omega)]
        omega
/-- an operand's value can be had behind the acts of flags o -/
def CF (src dist : Int → Int) (c : Int) (o : Int → Int) (s : Int) : Prop := src s = -6 ∨ (0 ≤ src s ∧ src s < c ∧ (0 < dist s ∨ o (src s) = 1))
def CF2 (src dist : Int → Int) (c : Int) (o : Int → Int) (a : Int) : Prop := CF src dist c o (2 * a) ∧ CF src dist c o (2 * a + 1)
theorem CF.mono {src dist : Int → Int} {c : Int} {o o1 : Int → Int} {s : Int} (h : CF src dist c o s) (hm : ∀ a, 0 ≤ a → a < c → o a = 1 → o1 a = 1) : CF src dist c o1 s := by
  rcases h with h | ⟨h1, h2, h3⟩
  · exact Or.inl h
  · refine Or.inr ⟨h1, h2, ?_⟩
    rcases h3 with h3 | h3
    · exact Or.inl h3
    · exact Or.inr (hm _ h1 h2 h3)
theorem CF2.mono {src dist : Int → Int} {c : Int} {o o1 : Int → Int} {a : Int} (h : CF2 src dist c o a) (hm : ∀ a, 0 ≤ a → a < c → o a = 1 → o1 a = 1) : CF2 src dist c o1 a := ⟨h.1.mono hm, h.2.mono hm⟩
def Dep (src dist : Int → Int) (c : Int) (ord : Int → Int) (i s : Int) : Prop := src s = -6 ∨ (0 ≤ src s ∧ src s < c ∧ (0 < dist s ∨ ∃ j, 0 ≤ j ∧ j < i ∧ ord j = src s))
theorem Dep.up {src dist : Int → Int} {c : Int} {ord ord1 : Int → Int} {i s : Int} (h : Dep src dist c ord i s) (he : ∀ j, 0 ≤ j → j < i → ord1 j = ord j) : Dep src dist c ord1 i s := by
  rcases h with h | ⟨h1, h2, h3⟩
  · exact Or.inl h
  · refine Or.inr ⟨h1, h2, ?_⟩
    rcases h3 with h3 | ⟨j, j1, j2, j3⟩
    · exact Or.inl h3
    · exact Or.inr ⟨j, j1, j2, by rw [he j j1 j2]; exact j3⟩
def AR (src dist : Int → Int) (c : Int) (ord o : Int → Int) (n : Int) : Prop :=
  (0 ≤ n ∧ n ≤ c ∧ n = sm o c.toNat) ∧ (∀ a, 0 ≤ a → a < c → o a = 0 ∨ o a = 1) ∧
  (∀ i, 0 ≤ i → i < n → 0 ≤ ord i ∧ ord i < c ∧ o (ord i) = 1 ∧ Dep src dist c ord i (2 * ord i) ∧ Dep src dist c ord i (2 * ord i + 1)) ∧
  (∀ a, 0 ≤ a → a < c → o a = 1 → ∃ i, 0 ≤ i ∧ i < n ∧ ord i = a) ∧ (∀ i j, 0 ≤ i → i < j → j < n → ord i ≠ ord j)
def Stuck (src dist : Int → Int) (c : Int) (o : Int → Int) : Prop := ∀ a, 0 ≤ a → a < c → o a = 0 → ¬ CF2 src dist c o a
theorem AR.init {src dist : Int → Int} {c : Int} {ord o : Int → Int} (hc : 0 ≤ c) (h : ∀ a, 0 ≤ a → a < c → o a = 0) : AR src dist c ord o 0 := by
  refine ⟨⟨by omega, hc, ?_⟩, fun a h0 h1 => Or.inl (h a h0 h1), fun i h0 h1 => by omega, fun a h0 h1 q => ?_, fun i j h0 h1 h2 => by omega⟩
  · rw [sm_zero c.toNat (fun k h0 h1 => h k h0 (by omega))]
  · rw [h a h0 h1] at q
    omega
theorem AR.lt {src dist : Int → Int} {c : Int} {ord o : Int → Int} {n a : Int} (h : AR src dist c ord o n) (h0 : 0 ≤ a) (h1 : a < c) (ha : o a = 0) : n < c := by
  obtain ⟨⟨h2, h3, h4⟩, h5, -⟩ := h
  have := sm_lt c.toNat (fun k k0 k1 => h5 k k0 (by omega)) a h0 (by omega) ha
  omega
theorem AR.add {src dist : Int → Int} {c : Int} {ord o ord1 o1 : Int → Int} {n a : Int} (h : AR src dist c ord o n) (h0 : 0 ≤ a) (h1 : a < c) (ha : o a = 0) (hf : CF2 src dist c o a)
    (ho : ∀ b, o1 b = if b = a then 1 else o b) (hr : ∀ b, ord1 b = if b = n then a else ord b) : AR src dist c ord1 o1 (n + 1) := by
  have hlt := h.lt h0 h1 ha
  obtain ⟨⟨h2, h3, h4⟩, h5, h6, h7, h8⟩ := h
  have dep : ∀ s, CF src dist c o s → Dep src dist c ord1 n s := by
    intro s hs
    rcases hs with hs | ⟨g1, g2, g3⟩
    · exact Or.inl hs
    · refine Or.inr ⟨g1, g2, ?_⟩
      rcases g3 with g3 | g3
      · exact Or.inl g3
      · obtain ⟨j, j1, j2, j3⟩ := h7 _ g1 g2 g3
        exact Or.inr ⟨j, j1, j2, by rw [hr, if_neg (by omega)]; exact j3⟩
  refine ⟨⟨by omega, by omega, ?_⟩, fun b b0 b1 => ?_, fun i i0 i1 => ?_, fun b b0 b1 hb => ?_, fun i j i0 ij j1 => ?_⟩
  · rw [sm_up ho ha c.toNat h0, if_pos (by omega)]
    omega
  · rw [ho]
    split
    · exact Or.inr rfl
    · exact h5 b b0 b1
  · by_cases e : i = n
    · subst e
      have e1 : ord1 i = a := by rw [hr, if_pos rfl]
      rw [e1]
      exact ⟨h0, h1, by rw [ho, if_pos rfl], dep _ hf.1, dep _ hf.2⟩
    · have e1 : ord1 i = ord i := by rw [hr, if_neg e]
      rw [e1]
      obtain ⟨g1, g2, g3, g4, g5⟩ := h6 i i0 (by omega)
      have he : ∀ j, 0 ≤ j → j < i → ord1 j = ord j := fun j j0 j1 => by rw [hr, if_neg (by omega)]
      refine ⟨g1, g2, ?_, g4.up he, g5.up he⟩
      rw [ho]
      split
      · rfl
      · exact g3
  · by_cases e : b = a
    · exact ⟨n, h2, by omega, by rw [hr, if_pos rfl, e]⟩
    · rw [ho, if_neg e] at hb
      obtain ⟨i, i0, i1, i2⟩ := h7 b b0 b1 hb
      exact ⟨i, i0, by omega, by rw [hr, if_neg (by omega)]; exact i2⟩
  · rw [hr i, hr j, if_neg (by omega)]
    by_cases e : j = n
    · rw [if_pos e]
      intro q
      have g := (h6 i i0 (by omega)).2.2.1
      rw [q, ha] at g
      omega
    · rw [if_neg e]
      exact h8 i j i0 ij (by omega)
/-- within a pass that began with flags o0 and n0 acts -/
def PS (src dist : Int → Int) (c : Int) (o0 : Int → Int) (n0 act : Int) (ord o : Int → Int) (n : Int) : Prop :=
  AR src dist c ord o n ∧ n0 ≤ n ∧ (∀ a, 0 ≤ a → a < c → o0 a = 1 → o a = 1) ∧ (n = n0 → ∀ a, 0 ≤ a → a < c → o a = o0 a) ∧
  (∀ a, 0 ≤ a → a < act → a < c → o a = 0 → ¬ CF2 src dist c o0 a) ∧ (n = n0 ∨ ¬ Stuck src dist c o0)
theorem PS.init {src dist : Int → Int} {c : Int} {ord o : Int → Int} {n : Int} (h : AR src dist c ord o n) : PS src dist c o n 0 ord o n :=
  ⟨h, Int.le_refl _, fun _ _ _ q => q, fun _ _ _ _ => rfl, fun a h0 h1 => by omega, Or.inl rfl⟩
theorem PS.skip {src dist : Int → Int} {c : Int} {o0 : Int → Int} {n0 act : Int} {ord o : Int → Int} {n : Int} (h : PS src dist c o0 n0 act ord o n) (hs : o act ≠ 0 ∨ ¬ CF2 src dist c o act) : PS src dist c o0 n0 (act + 1) ord o n := by
  obtain ⟨h1, h2, h3, h4, h5, h6⟩ := h
  refine ⟨h1, h2, h3, h4, fun a a0 a1 a2 ha hf => ?_, h6⟩
  by_cases e : a = act
  · subst e
    rcases hs with hs | hs
    · exact hs ha
    · exact hs (hf.mono h3)
  · exact h5 a a0 (by omega) a2 ha hf
theorem PS.take {src dist : Int → Int} {c : Int} {o0 : Int → Int} {n0 act : Int} {ord o ord1 o1 : Int → Int} {n : Int} (h : PS src dist c o0 n0 act ord o n) (h0 : 0 ≤ act) (hc : act < c) (ha : o act = 0) (hf : CF2 src dist c o act)
    (ho : ∀ b, o1 b = if b = act then 1 else o b) (hr : ∀ b, ord1 b = if b = n then act else ord b) : PS src dist c o0 n0 (act + 1) ord1 o1 (n + 1) := by
  obtain ⟨h1, h2, h3, h4, h5, h6⟩ := h
  refine ⟨h1.add h0 hc ha hf ho hr, by omega, fun a a0 a1 q => ?_, fun e => by omega, fun a a0 a1 a2 q hf2 => ?_, Or.inr fun hS => ?_⟩
  · rw [ho]
    split
    · rfl
    · exact h3 a a0 a1 q
  · by_cases e : a = act
    · rw [ho, if_pos e] at q
      omega
    · rw [ho, if_neg e] at q
      exact h5 a a0 (by omega) a2 q hf2
  · rcases h6 with h6 | h6
    · have e := h4 h6
      exact hS act h0 hc (by rw [← e act h0 hc]; exact ha) (hf.mono fun a a0 a1 q => by rw [← e a a0 a1]; exact q)
    · exact h6 hS
theorem PS.fin {src dist : Int → Int} {c p : Int} {o0 : Int → Int} {n0 act : Int} {ord o : Int → Int} {n : Int} (h : PS src dist c o0 n0 act ord o n) (hc : c ≤ act) (hp : p ≤ n0 ∨ Stuck src dist c o0) : AR src dist c ord o n ∧ (p + 1 ≤ n ∨ Stuck src dist c o) := by
  obtain ⟨h1, h2, h3, h4, h5, h6⟩ := h
  refine ⟨h1, ?_⟩
  have same : n = n0 → Stuck src dist c o := fun e a a0 a1 ha hf => by
    have e1 := h4 e
    exact h5 a a0 (by omega) a1 ha (hf.mono fun b b0 b1 q => by rw [← e1 b b0 b1]; exact q)
  by_cases e : n = n0
  · exact Or.inr (same e)
  · rcases hp with hp | hp
    · exact Or.inl (by omega)
    · rcases h6 with h6 | h6
      · exact absurd h6 e
      · exact absurd hp h6
theorem AR.stuck {src dist : Int → Int} {c : Int} {ord o : Int → Int} {n : Int} (h : AR src dist c ord o n) (hp : c ≤ n ∨ Stuck src dist c o) : Stuck src dist c o := by
  rcases hp with hp | hp
  · intro a a0 a1 ha
    have := h.lt a0 a1 ha
    omega
  · exact hp
theorem cf_no {z : Int} {A : Prop} (h : (z = 1 ∧ A) ∨ (z = 0 ∧ ¬ A)) (hz : z = 0) : ¬ A := by
  rcases h with h | h
  · omega
  · exact h.2
theorem cf_yes {z : Int} {A : Prop} (h : (z = 1 ∧ A) ∨ (z = 0 ∧ ¬ A)) (hz : z ≠ 0) : A := by
  rcases h with h | h
  · exact h.2
  · exact absurd h.1 hz
