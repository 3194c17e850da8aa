/-! PURE: values pushed up by constraints, slot by slot: t (u k) + g k ≤ t (k / 2) for each slot k that counts; rounds of pushes come to rest within as many as there are acts, if there is a solution at all -/
def Sol (K : Int) (en : Int → Prop) (u g M : Int → Int) : Prop := ∀ k : Int, 0 ≤ k → k < K → en k → M (u k) + g k ≤ M (k / 2)
/-- the slots speak of acts 0 to N - 1 -/
def Wf (N K : Int) (en : Int → Prop) (u : Int → Int) : Prop := 0 ≤ N ∧ K = 2 * N ∧ ∀ k : Int, 0 ≤ k → k < K → en k → 0 ≤ u k ∧ u k < N
def PassI (N K : Int) (en : Int → Prop) (u g ts : Int → Int) (k : Int) (t : Int → Int) (grew : Int) : Prop :=
  (∀ a, 0 ≤ a → a < N → ts a ≤ t a) ∧ (grew = 0 → (∀ a, 0 ≤ a → a < N → t a = ts a) ∧ ∀ j, 0 ≤ j → j < k → j < K → en j → ts (u j) + g j ≤ ts (j / 2)) ∧
  (grew ≠ 0 → ∃ a, 0 ≤ a ∧ a < N ∧ ts a < t a) ∧
  (∀ L : Int → Int, Sol K en u g L → (∀ a, 0 ≤ a → a < N → ts a ≤ L a) → (∀ a, 0 ≤ a → a < N → t a ≤ L a) ∧ ∀ j, 0 ≤ j → j < k → j < K → en j → ts (u j) = L (u j) → L (u j) + g j = L (j / 2) → t (j / 2) = L (j / 2))
theorem PassI.init {N K : Int} {en : Int → Prop} {u g ts : Int → Int} : PassI N K en u g ts 0 ts 0 :=
  ⟨fun _ _ _ => Int.le_refl _, fun _ => ⟨fun _ _ _ => rfl, fun j h0 h1 => by omega⟩, fun h => absurd rfl h, fun L _ h => ⟨h, fun j h0 h1 => by omega⟩⟩
theorem PassI.skip {N K : Int} {en : Int → Prop} {u g ts : Int → Int} {k : Int} {t : Int → Int} {grew : Int} (hw : Wf N K en u) (h : PassI N K en u g ts k t grew) (hk : 0 ≤ k ∧ k < K) (hs : ¬ en k ∨ t (u k) + g k ≤ t (k / 2)) : PassI N K en u g ts (k + 1) t grew := by
  obtain ⟨h1, h2, h3, h4⟩ := h
  refine ⟨h1, fun e => ⟨(h2 e).1, fun j j0 j1 j2 hj => ?_⟩, h3, fun L hL hl => ⟨(h4 L hL hl).1, fun j j0 j1 j2 hj q1 q2 => ?_⟩⟩
  · by_cases e1 : j = k
    · subst e1
      rcases hs with hs | hs
      · exact absurd hj hs
      · have w := hw.2.2 j j0 j2 hj
        have e2 := (h2 e).1 (u j) w.1 w.2
        have e3 := (h2 e).1 (j / 2) (by omega) (by have := hw.2.1; omega)
        omega
    · exact (h2 e).2 j j0 (by omega) j2 hj
  · by_cases e1 : j = k
    · subst e1
      rcases hs with hs | hs
      · exact absurd hj hs
      · have w := hw.2.2 j j0 j2 hj
        have l1 := (h4 L hL hl).1 (j / 2) (by omega) (by have := hw.2.1; omega)
        have l2 := h1 (u j) w.1 w.2
        omega
    · exact (h4 L hL hl).2 j j0 (by omega) j2 hj q1 q2
theorem PassI.push {N K : Int} {en : Int → Prop} {u g ts : Int → Int} {k : Int} {t t1 : Int → Int} {grew : Int} (hw : Wf N K en u) (h : PassI N K en u g ts k t grew) (hk : 0 ≤ k ∧ k < K) (hen : en k) (hlt : t (k / 2) < t (u k) + g k)
    (ht : ∀ b, t1 b = if b = k / 2 then t (u k) + g k else t b) : PassI N K en u g ts (k + 1) t1 1 := by
  obtain ⟨h1, h2, h3, h4⟩ := h
  have w := hw.2.2 k hk.1 hk.2 hen
  have hv0 : 0 ≤ k / 2 := by omega
  have hv1 : k / 2 < N := by have := hw.2.1; omega
  have up : ∀ a, t a ≤ t1 a := fun a => by
    rw [ht]
    split
    · rename_i e
      rw [e]
      omega
    · exact Int.le_refl _
  refine ⟨fun a a0 a1 => Int.le_trans (h1 a a0 a1) (up a), fun e => by omega, fun _ => ⟨k / 2, hv0, hv1, ?_⟩, fun L hL hl => ?_⟩
  · rw [ht, if_pos rfl]
    have := h1 (k / 2) hv0 hv1
    omega
  · obtain ⟨g1, g2⟩ := h4 L hL hl
    have le1 : ∀ a, 0 ≤ a → a < N → t1 a ≤ L a := fun a a0 a1 => by
      rw [ht]
      split
      · rename_i e
        rw [e]
        have q1 := hL k hk.1 hk.2 hen
        have q2 := g1 (u k) w.1 w.2
        omega
      · exact g1 a a0 a1
    refine ⟨le1, fun j j0 j1 j2 hj q1 q2 => ?_⟩
    have w2 := hw.2.2 j j0 j2 hj
    have hj0 : 0 ≤ j / 2 := by omega
    have hj1 : j / 2 < N := by have := hw.2.1; omega
    have l1 := le1 (j / 2) hj0 hj1
    by_cases e1 : j = k
    · subst e1
      rw [ht, if_pos rfl] at l1 ⊢
      have := h1 (u j) w2.1 w2.2
      omega
    · have l2 := g2 j j0 (by omega) j2 hj q1 q2
      have := up (j / 2)
      omega
theorem PassI.sol {N K : Int} {en : Int → Prop} {u g ts : Int → Int} {k : Int} {t : Int → Int} (hw : Wf N K en u) (h : PassI N K en u g ts k t 0) (hk : K ≤ k) : Sol K en u g t := by
  intro j j0 j1 hj
  have w := hw.2.2 j j0 j1 hj
  obtain ⟨h1, h2⟩ := h.2.1 rfl
  rw [h1 _ w.1 w.2, h1 (j / 2) (by omega) (by have := hw.2.1; omega)]
  exact h2 j j0 (by omega) j1 hj
/-- how many acts stand where L has them -/
def eqn (t L : Int → Int) (N : Nat) : Int := sm (fun a => if t a = L a then 1 else 0) N
theorem sm_le {f g : Int → Int} : ∀ (n : Nat), (∀ k : Int, 0 ≤ k → k < n → f k ≤ g k) → sm f n ≤ sm g n
  | 0, _ => by simp [sm]
  | n + 1, h => by
    have h1 := sm_le n (fun k h0 h1 => h k h0 (by omega))
    have h2 := h n (by omega) (by omega)
    rw [sm, sm]
    omega
theorem sm_lt2 {f g : Int → Int} : ∀ (n : Nat), (∀ k : Int, 0 ≤ k → k < n → f k ≤ g k) → ∀ a : Int, 0 ≤ a → a < n → f a < g a → sm f n < sm g n
  | 0, _, a, h0, h1, _ => by omega
  | n + 1, h, a, h0, h1, ha => by
    have h2 := sm_le n (fun k h0 h1 => h k h0 (by omega))
    have h3 := h n (by omega) (by omega)
    rw [sm, sm]
    by_cases e : a = n
    · subst e
      omega
    · have := sm_lt2 n (fun k h0 h1 => h k h0 (by omega)) a h0 (by omega) ha
      omega
/-- the solution above t0 whose numbers together are least -/
def MinS (N K : Int) (en : Int → Prop) (u g t0 L : Int → Int) : Prop := Sol K en u g L ∧ (∀ a, 0 ≤ a → a < N → t0 a ≤ L a) ∧ ∀ M, Sol K en u g M → (∀ a, 0 ≤ a → a < N → t0 a ≤ M a) → sm L N.toNat ≤ sm M N.toNat
theorem MinS.ex {N K : Int} {en : Int → Prop} {u g t0 M : Int → Int} (hS : Sol K en u g M) (hM : ∀ a, 0 ≤ a → a < N → t0 a ≤ M a) : ∃ L, MinS N K en u g t0 L := by
  obtain ⟨k, ⟨L, h1, h2, h3⟩, h4⟩ := pk_least (fun k : Nat => ∃ L, Sol K en u g L ∧ (∀ a, 0 ≤ a → a < N → t0 a ≤ L a) ∧ sm L N.toNat - sm t0 N.toNat = (k : Int))
    ⟨(sm M N.toNat - sm t0 N.toNat).toNat, M, hS, hM, by
      have := sm_le N.toNat (f := t0) (g := M) (fun a a0 a1 => hM a a0 (by omega))
      omega⟩
  refine ⟨L, h1, h2, fun M2 hS2 hM2 => ?_⟩
  have h5 := sm_le N.toNat (f := t0) (g := M2) (fun a a0 a1 => hM2 a a0 (by omega))
  by_cases q : sm L N.toNat ≤ sm M2 N.toNat
  · exact q
  · exact absurd ⟨M2, hS2, hM2, by omega⟩ (h4 (sm M2 N.toNat - sm t0 N.toNat).toNat (by omega))
/-- while not all stand where L has them, one that doesn't is held there by one that does -/
theorem MinS.tight {N K : Int} {en : Int → Prop} {u g t0 L t : Int → Int} (hw : Wf N K en u) (h : MinS N K en u g t0 L) (h0 : ∀ a, 0 ≤ a → a < N → t0 a ≤ t a) (h1 : ∀ a, 0 ≤ a → a < N → t a ≤ L a) {b : Int} (hb0 : 0 ≤ b) (hb1 : b < N) (hb : t b ≠ L b) :
    ∃ j, 0 ≤ j ∧ j < K ∧ en j ∧ t (u j) = L (u j) ∧ L (u j) + g j = L (j / 2) ∧ t (j / 2) ≠ L (j / 2) := by
  by_cases q : ∃ j, 0 ≤ j ∧ j < K ∧ en j ∧ t (u j) = L (u j) ∧ L (u j) + g j = L (j / 2) ∧ t (j / 2) ≠ L (j / 2)
  · exact q
  · exfalso
    obtain ⟨hS, hl, hmin⟩ := h
    have key := hmin (fun a => if t a = L a then L a else L a - 1) (fun j j0 j1 hj => ?_) (fun a a0 a1 => ?_)
    · have := sm_lt2 N.toNat (f := fun a => if t a = L a then L a else L a - 1) (g := L) (fun a _ _ => by
        show (if t a = L a then L a else L a - 1) ≤ L a
        split <;> omega) b hb0 (by omega) (by
        show (if t b = L b then L b else L b - 1) < L b
        rw [if_neg hb]
        omega)
      omega
    · have w := hw.2.2 j j0 j1 hj
      have h2 := hS j j0 j1 hj
      show (if t (u j) = L (u j) then L (u j) else L (u j) - 1) + g j ≤ if t (j / 2) = L (j / 2) then L (j / 2) else L (j / 2) - 1
      by_cases c1 : t (u j) = L (u j)
      · rw [if_pos c1]
        by_cases c2 : t (j / 2) = L (j / 2)
        · rw [if_pos c2]
          exact h2
        · rw [if_neg c2]
          have : L (u j) + g j ≠ L (j / 2) := fun e => q ⟨j, j0, j1, hj, c1, e, c2⟩
          omega
      · rw [if_neg c1]
        split <;> omega
    · show t0 a ≤ if t a = L a then L a else L a - 1
      have e0 := h0 a a0 a1
      have e1 := h1 a a0 a1
      split <;> omega
/-- behind p rounds with pushes -/
def Outer (N K : Int) (en : Int → Prop) (u g t0 : Int → Int) (p : Int) (t : Int → Int) : Prop :=
  (∀ a, 0 ≤ a → a < N → t0 a ≤ t a) ∧ (∀ M, Sol K en u g M → (∀ a, 0 ≤ a → a < N → t0 a ≤ M a) → ∀ a, 0 ≤ a → a < N → t a ≤ M a) ∧ ∀ L, MinS N K en u g t0 L → p ≤ eqn t L N.toNat
theorem eqn_bd {t L : Int → Int} {N : Nat} : 0 ≤ eqn t L N ∧ eqn t L N ≤ N := sm_bd N (fun k _ _ => by
  show (if t k = L k then (1 : Int) else 0) = 0 ∨ (if t k = L k then (1 : Int) else 0) = 1
  split
  · exact Or.inr rfl
  · exact Or.inl rfl)
theorem Outer.init {N K : Int} {en : Int → Prop} {u g t0 : Int → Int} : Outer N K en u g t0 0 t0 :=
  ⟨fun _ _ _ => Int.le_refl _, fun _ _ h => h, fun _ _ => eqn_bd.1⟩
theorem Outer.next {N K : Int} {en : Int → Prop} {u g t0 : Int → Int} {p : Int} {ts t : Int → Int} {grew k : Int} (hw : Wf N K en u) (h : Outer N K en u g t0 p ts) (hp : PassI N K en u g ts k t grew) (hk : K ≤ k) (hg : grew ≠ 0) : Outer N K en u g t0 (p + 1) t := by
  obtain ⟨h1, h2, h3⟩ := h
  obtain ⟨p1, p2, p3, p4⟩ := hp
  refine ⟨fun a a0 a1 => Int.le_trans (h1 a a0 a1) (p1 a a0 a1), fun M hS hM => (p4 M hS (h2 M hS hM)).1, fun L hL => ?_⟩
  have tsL := h2 L hL.1 hL.2.1
  obtain ⟨q1, q2⟩ := p4 L hL.1 tsL
  obtain ⟨b, b0, b1, b2⟩ := p3 hg
  have hbL : ts b ≠ L b := fun e => by
    have := q1 b b0 b1
    omega
  obtain ⟨j, j0, j1, hj, j2, j3, j4⟩ := hL.tight hw h1 tsL b0 b1 hbL
  have w := hw.2.1
  have e1 := q2 j j0 (by omega) j1 hj j2 j3
  have := h3 L hL
  have lt : eqn ts L N.toNat < eqn t L N.toNat := sm_lt2 N.toNat (fun a a0 a1 => by
    show (if ts a = L a then (1 : Int) else 0) ≤ if t a = L a then 1 else 0
    have x1 := p1 a a0 (by omega)
    have x2 := q1 a a0 (by omega)
    split <;> split <;> omega) (j / 2) (by omega) (by omega) (by
    show (if ts (j / 2) = L (j / 2) then (1 : Int) else 0) < if t (j / 2) = L (j / 2) then 1 else 0
    rw [if_neg j4, if_pos e1]
    omega)
  omega
theorem Outer.none {N K : Int} {en : Int → Prop} {u g t0 : Int → Int} {p : Int} {t : Int → Int} (hw : Wf N K en u) (h : Outer N K en u g t0 p t) (hp : N < p) : ¬ ∃ M, Sol K en u g M ∧ ∀ a, 0 ≤ a → a < N → t0 a ≤ M a := by
  rintro ⟨M, hS, hM⟩
  obtain ⟨L, hL⟩ := MinS.ex hS hM
  have h1 := h.2.2 L hL
  have h2 := (eqn_bd (t := t) (L := L) (N := N.toNat)).2
  have := hw.1
  omega
-- the loop's own words
def LoopOK (σ : MM) : Prop := AR (σ 5) (σ 6) (σ 53 0) (σ 7) (σ 8) (σ 54 0) ∧ Stuck (σ 5) (σ 6) (σ 53 0) (σ 8)
def Added (σ σ1 : MM) (k p q s1 d1 s2 d2 : Int) : Prop :=
  σ1 53 0 = σ 53 0 + 1 ∧ (∀ b, σ1 2 b = if b = σ 53 0 then k else σ 2 b) ∧ (∀ b, σ1 3 b = if b = σ 53 0 then p else σ 3 b) ∧ (∀ b, σ1 4 b = if b = σ 53 0 then q else σ 4 b) ∧
  (∀ b, σ1 5 b = if b = 2 * σ 53 0 then s1 else if b = 2 * σ 53 0 + 1 then s2 else σ 5 b) ∧ (∀ b, σ1 6 b = if b = 2 * σ 53 0 then d1 else if b = 2 * σ 53 0 + 1 then d2 else σ 6 b)
theorem added_of {σ a b c4 d e f t : MM} {c x k p q s1 d1 s2 d2 : Int} (hx : x = c ∧ c = σ 53 0) (ma : Mod [2] σ a) (mb : Mod [3] a b) (mc : Mod [4] b c4) (md : Mod [5, 6] c4 d) (me : Mod [5, 6] d e) (mf : Mod [53] e f) (mt : Mod [7, 8, 54] f t)
    (sa : ∀ z, a 2 z = if z = x then k else σ 2 z) (sb : ∀ z, b 3 z = if z = x then p else σ 3 z) (sc : ∀ z, c4 4 z = if z = x then q else σ 4 z)
    (h1 : ∀ z, d 5 z = if z = 2 * x then s1 else σ 5 z) (h2 : ∀ z, d 6 z = if z = 2 * x then d1 else σ 6 z)
    (h3 : ∀ z, e 5 z = if z = 2 * x + 1 then s2 else d 5 z) (h4 : ∀ z, e 6 z = if z = 2 * x + 1 then d2 else d 6 z) (hf : f 53 0 = σ 53 0 + 1) : Added σ t k p q s1 d1 s2 d2 := by
  obtain ⟨rfl, rfl⟩ := hx
  refine ⟨by rw [mt.at 53 rfl, hf], fun z => ?_, fun z => ?_, fun z => ?_, fun z => ?_, fun z => ?_⟩
  · rw [mt.at 2 rfl, mf.at 2 rfl, me.at 2 rfl, md.at 2 rfl, mc.at 2 rfl, mb.at 2 rfl, sa]
  · rw [mt.at 3 rfl, mf.at 3 rfl, me.at 3 rfl, md.at 3 rfl, mc.at 3 rfl, sb]
  · rw [mt.at 4 rfl, mf.at 4 rfl, me.at 4 rfl, md.at 4 rfl, sc]
  · rw [mt.at 5 rfl, mf.at 5 rfl, h3, h1]
    split <;> split <;> first | rfl | omega
  · rw [mt.at 6 rfl, mf.at 6 rfl, h4, h2]
    split <;> split <;> first | rfl | omega
theorem loopOK_of {a f t : MM} (mf : Mod [53] a f) (mt : Mod [7, 8, 54] f t) (h1 : AR (a 5) (a 6) (f 53 0) (t 7) (t 8) (t 54 0)) (h2 : Stuck (a 5) (a 6) (f 53 0) (t 8)) : LoopOK t := by
  unfold LoopOK
  rw [mt.at 5 rfl, mt.at 6 rfl, mt.at 53 rfl, mf.at 5 rfl, mf.at 6 rfl]
  exact ⟨h1, h2⟩
def lenF (kd : Int → Int) (a : Int) : Int := if kd a = 3 then 2 else 1
theorem lenF_of {kd : Int → Int} {z a c : Int} (h : (z = 2 ∧ 0 ≤ a ∧ a < c ∧ kd a = 3) ∨ (z = 1 ∧ (a < 0 ∨ c ≤ a ∨ kd a ≠ 3))) (h0 : 0 ≤ a) (h1 : a < c) : z = lenF kd a := by
  unfold lenF
  split <;> omega
def enX (src : Int → Int) (c : Int) : Int → Prop := fun s => 0 ≤ src s ∧ src s < c
def gR (kd src dist : Int → Int) (n : Int) : Int → Int := fun s => lenF kd (src s) - n * dist s
theorem wf_X {src : Int → Int} {c : Int} (h : 0 ≤ c := by omega) : Wf c (2 * c) (enX src c) src := ⟨h, rfl, fun _ _ _ q => q⟩
def RH (kd src dist : Int → Int) (c n : Int) : Prop := ∃ M : Int → Int, Sol (2 * c) (enX src c) src (gR kd src dist n) M ∧ ∀ a, 0 ≤ a → a < c → 0 ≤ M a
theorem cf_z {N K : Int} {en : Int → Prop} {u g ts t : Int → Int} {k z : Int} (h : PassI N K en u g ts k t z) (hz : z = 0) : PassI N K en u g ts k t 0 := hz ▸ h
/-- the rows that begin with 0 on the acts that there are -/
theorem Outer.row {N K : Int} {en : Int → Prop} {u g t : Int → Int} (h : ∀ a, 0 ≤ a → a < N → t a = 0) : Outer N K en u g (fun _ => 0) 0 t :=
  ⟨fun a a0 a1 => by rw [h a a0 a1]; exact Int.le_refl _, fun M _ hM a a0 a1 => by rw [h a a0 a1]; exact hM a a0 a1, fun _ _ => eqn_bd.1⟩
