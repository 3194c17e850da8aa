/-! PURE: what goes where in the search, and the search as a machine -/
def gapS (kd src dist W C O : Int → Int) (n s : Int) : Int := cdiv (lenF kd (src s) + W (C (src s) * 9 + C (s / 2)) - (O (s / 2) + n * dist s - O (src s))) n
def enS (src : Int → Int) (a s : Int) : Prop := 0 ≤ src s ∧ src s ≤ a
def FreeS (br mu kd C O : Int → Int) (a : Int) : Prop := br (C a) = 0 ∧ (kd a = 3 → mu (C a) = 1) ∧ ∀ o, 0 ≤ o → o < a → ¬ (C o = C a ∧ O o = O a)
def WaysS (src W C : Int → Int) (a : Int) : Prop := ∀ s, 0 ≤ s → s < 2 * (a + 1) → enS src a s → W (C (src s) * 9 + C (s / 2)) < 1000
def FeasS (src g : Int → Int) (a : Int) : Prop := ∃ M, Sol (2 * (a + 1)) (enS src a) src g M ∧ ∀ l, 0 ≤ l → l ≤ a → 0 ≤ M l
def GoesS (br mu kd src dist W : Int → Int) (n : Int) (C O : Int → Int) (a : Int) : Prop := FreeS br mu kd C O a ∧ WaysS src W C a ∧ FeasS src (gapS kd src dist W C O n) a
theorem wf_S {src : Int → Int} {a : Int} (h : 0 ≤ a + 1 := by omega) : Wf (a + 1) (2 * (a + 1)) (enS src a) src := ⟨h, rfl, fun _ _ _ q => ⟨q.1, by have := q.2; omega⟩⟩
/-- the least solution of those not below 0 -/
def LeastS (src g : Int → Int) (a : Int) (t : Int → Int) : Prop :=
  Sol (2 * (a + 1)) (enS src a) src g t ∧ (∀ l, 0 ≤ l → l ≤ a → 0 ≤ t l) ∧ ∀ M, Sol (2 * (a + 1)) (enS src a) src g M → (∀ l, 0 ≤ l → l ≤ a → 0 ≤ M l) → ∀ l, 0 ≤ l → l ≤ a → t l ≤ M l
theorem LeastS.congr {src g g1 : Int → Int} {a : Int} {t t1 : Int → Int} (h : LeastS src g a t) (hg : ∀ s, 0 ≤ s → s < 2 * (a + 1) → enS src a s → g1 s = g s) (ht : ∀ l, 0 ≤ l → l ≤ a → t1 l = t l) : LeastS src g1 a t1 := by
  obtain ⟨h1, h2, h3⟩ := h
  refine ⟨fun s s0 s1 hs => ?_, fun l l0 l1 => by rw [ht l l0 l1]; exact h2 l l0 l1, fun M hM hM0 l l0 l1 => ?_⟩
  · rw [hg s s0 s1 hs, ht (src s) hs.1 hs.2, ht (s / 2) (by omega) (by omega)]
    exact h1 s s0 s1 hs
  · rw [ht l l0 l1]
    exact h3 M (fun s s0 s1 hs => by rw [← hg s s0 s1 hs]; exact hM s s0 s1 hs) hM0 l l0 l1
theorem LeastS.uniq {src g g1 : Int → Int} {a : Int} {t t1 : Int → Int} (h : LeastS src g a t) (k : LeastS src g1 a t1) (hg : ∀ s, 0 ≤ s → s < 2 * (a + 1) → enS src a s → g1 s = g s) (l : Int) (l0 : 0 ≤ l) (l1 : l ≤ a) : t l = t1 l := by
  have k2 := k.congr (g1 := g) (t1 := t1) (fun s s0 s1 hs => (hg s s0 s1 hs).symm) (fun _ _ _ => rfl)
  have := h.2.2 t1 k2.1 k2.2.1 l l0 l1
  have := k2.2.2 t h.1 h.2.1 l l0 l1
  omega
/-- a new act a set beside a least solution of those ahead -/
def Row0 (src g : Int → Int) (a : Int) (t0 : Int → Int) : Prop :=
  (0 < a → LeastS src g (a - 1) t0) ∧ 0 ≤ t0 a ∧ (∀ s, (s = 2 * a ∨ s = 2 * a + 1) → 0 ≤ src s → src s < a → t0 (src s) + g s ≤ t0 a) ∧
  (t0 a = 0 ∨ ∃ s, (s = 2 * a ∨ s = 2 * a + 1) ∧ 0 ≤ src s ∧ src s < a ∧ t0 a = t0 (src s) + g s)
theorem Row0.pos {src g : Int → Int} {a : Int} {t0 : Int → Int} (ha : 0 ≤ a) (h : Row0 src g a t0) (l : Int) (l0 : 0 ≤ l) (l1 : l ≤ a) : 0 ≤ t0 l := by
  by_cases e : l = a
  · rw [e]
    exact h.2.1
  · exact (h.1 (by omega)).2.1 l l0 (by omega)
theorem Row0.below {src g : Int → Int} {a : Int} {t0 M : Int → Int} (ha : 0 ≤ a) (h : Row0 src g a t0) (hM : Sol (2 * (a + 1)) (enS src a) src g M) (hM0 : ∀ l, 0 ≤ l → l ≤ a → 0 ≤ M l) : ∀ l, 0 ≤ l → l < a + 1 → t0 l ≤ M l := by
  have pre : ∀ l, 0 ≤ l → l < a → t0 l ≤ M l := fun l l0 l1 => (h.1 (by omega)).2.2 M (fun s s0 s1 hs => hM s s0 (by omega) ⟨hs.1, by have := hs.2; omega⟩) (fun l l0 l1 => hM0 l l0 (by omega)) l l0 (by omega)
  intro l l0 l1
  by_cases e : l = a
  · rw [e]
    rcases h.2.2.2 with q | ⟨s, hs, s0, s1, s2⟩
    · rw [q]
      exact hM0 a ha (Int.le_refl a)
    · have q1 := pre (src s) s0 s1
      have q2 := hM s (by omega) (by omega) ⟨s0, by omega⟩
      have e2 : s / 2 = a := by omega
      rw [e2] at q2
      omega
  · exact pre l l0 (by omega)
theorem Row0.stable {src g : Int → Int} {a : Int} {t0 : Int → Int} (ha : 0 ≤ a) (h : Row0 src g a t0) {s : Int} (s0 : 0 ≤ s) (s1 : s < 2 * (a + 1)) (u0 : 0 ≤ src s) (u1 : src s < a) : t0 (src s) + g s ≤ t0 (s / 2) := by
  by_cases e : s < 2 * a
  · exact (h.1 (by omega)).1 s s0 (by omega) ⟨u0, by omega⟩
  · rw [show s / 2 = a by omega]
    exact h.2.2.1 s (by omega) u0 u1
/-- a solution nearest above leaves the new act where it began -/
theorem Row0.fix {src g : Int → Int} {a : Int} {t0 L : Int → Int} (ha : 0 ≤ a) (h : Row0 src g a t0) (hL : MinS (a + 1) (2 * (a + 1)) (enS src a) src g t0 L) : L a = t0 a := by
  obtain ⟨h1, h2, h3⟩ := hL
  by_cases q : L a = t0 a
  · exact q
  · exfalso
    have hgt : t0 a < L a := by
      have := h2 a ha (by omega)
      omega
    have key := h3 (fun l => if t0 l < L l then L l - 1 else L l) (fun s s0 s1 hs => ?_) (fun l l0 l1 => ?_)
    · have := sm_lt2 (a + 1).toNat (f := fun l => if t0 l < L l then L l - 1 else L l) (g := L) (fun l _ _ => by
        show (if t0 l < L l then L l - 1 else L l) ≤ L l
        split <;> omega) a ha (by omega) (by
        show (if t0 a < L a then L a - 1 else L a) < L a
        rw [if_pos hgt]
        omega)
      omega
    · have e1 := h1 s s0 s1 hs
      show (if t0 (src s) < L (src s) then L (src s) - 1 else L (src s)) + g s ≤ if t0 (s / 2) < L (s / 2) then L (s / 2) - 1 else L (s / 2)
      by_cases c1 : t0 (src s) < L (src s)
      · rw [if_pos c1]
        split <;> omega
      · rw [if_neg c1]
        by_cases c2 : t0 (s / 2) < L (s / 2)
        · rw [if_pos c2]
          have hne : src s ≠ a := fun e => by
            rw [e] at c1
            exact c1 hgt
          have := h.stable ha s0 s1 hs.1 (by have := hs.2; omega)
          have := h2 (src s) hs.1 (by have := hs.2; omega)
          omega
        · rw [if_neg c2]
          exact e1
    · show t0 l ≤ if t0 l < L l then L l - 1 else L l
      have := h2 l l0 l1
      split <;> omega
/-- if the new act itself is pushed, there is no solution -/
theorem Row0.cyc {src g : Int → Int} {a k p grew s : Int} {t0 ts t : Int → Int} (ha : 0 ≤ a) (h : Row0 src g a t0) (hO : Outer (a + 1) (2 * (a + 1)) (enS src a) src g t0 p ts) (hP : PassI (a + 1) (2 * (a + 1)) (enS src a) src g ts k t grew)
    (hta : t a = t0 a) (hs0 : 0 ≤ s) (hs1 : s < 2 * (a + 1)) (hen : enS src a s) (hsa : s / 2 = a) (hlt : t a < t (src s) + g s) : ¬ FeasS src g a := by
  rintro ⟨M, hM, hM0⟩
  have hb := h.below ha hM hM0
  obtain ⟨L, hL⟩ := MinS.ex (N := a + 1) hM hb
  have e := h.fix ha hL
  have q1 := (hP.2.2.2 L hL.1 (hO.2.1 L hL.1 hL.2.1)).1 (src s) hen.1 (by have := hen.2; omega)
  have q2 := hL.1 s hs0 hs1 hen
  rw [hsa] at q2
  omega
theorem Row0.no {src g : Int → Int} {a p : Int} {t0 t : Int → Int} (ha : 0 ≤ a) (h : Row0 src g a t0) (hO : Outer (a + 1) (2 * (a + 1)) (enS src a) src g t0 p t) (hp : a + 1 < p) : ¬ FeasS src g a := by
  rintro ⟨M, hM, hM0⟩
  exact hO.none wf_S hp ⟨M, hM, h.below ha hM hM0⟩
theorem Row0.yes {src g : Int → Int} {a p k : Int} {t0 ts t : Int → Int} (ha : 0 ≤ a) (h : Row0 src g a t0) (hO : Outer (a + 1) (2 * (a + 1)) (enS src a) src g t0 p ts) (hP : PassI (a + 1) (2 * (a + 1)) (enS src a) src g ts k t 0) (hk : 2 * (a + 1) ≤ k) : LeastS src g a t := by
  have hS := hP.sol wf_S hk
  have e := (hP.2.1 rfl).1
  refine ⟨hS, fun l l0 l1 => ?_, fun M hM hM0 l l0 l1 => ?_⟩
  · have := h.pos ha l l0 l1
    have := hO.1 l l0 (by omega)
    have := hP.1 l l0 (by omega)
    omega
  · rw [e l l0 (by omega)]
    exact hO.2.1 M hM (h.below ha hM hM0) l l0 (by omega)
theorem LeastS.feas {src g : Int → Int} {a : Int} {t : Int → Int} (h : LeastS src g a t) : FeasS src g a := ⟨t, h.1, h.2.1⟩
theorem FeasS.congr {src g g1 : Int → Int} {a : Int} (h : FeasS src g a) (hg : ∀ s, 0 ≤ s → s < 2 * (a + 1) → enS src a s → g1 s = g s) : FeasS src g1 a := by
  obtain ⟨M, h1, h2⟩ := h
  exact ⟨M, fun s s0 s1 hs => by rw [hg s s0 s1 hs]; exact h1 s s0 s1 hs, h2⟩
-- the machine: (how many acts are placed, their choices, the next choice, tries)
abbrev DS : Type := Int × (Int → Int) × Int × Int
noncomputable def stepD (c pl : Int) (Gs : Int → (Int → Int) → Prop) (s : DS) : DS :=
  if s.1 < 0 ∨ c ≤ s.1 then s else
  if pl ≤ s.2.2.1 then (s.1 - 1, (fun l => if l = s.1 - 1 then 0 else s.2.1 l), s.2.1 (s.1 - 1) + 1, s.2.2.2) else
  if 20000 ≤ s.2.2.2 then s else
  @ite DS (Gs s.1 (fun l => if l = s.1 then s.2.2.1 else s.2.1 l)) (Classical.propDecidable _) (s.1 + 1, (fun l => if l = s.1 then s.2.2.1 else s.2.1 l), 0, s.2.2.2 + 1) (s.1, s.2.1, s.2.2.1 + 1, s.2.2.2 + 1)
noncomputable def runD (c pl : Int) (Gs : Int → (Int → Int) → Prop) : Nat → DS
  | 0 => (0, fun _ => 0, 0, 0)
  | k + 1 => stepD c pl Gs (runD c pl Gs k)
def endD (c pl : Int) (s : DS) : Prop := s.1 < 0 ∨ c ≤ s.1 ∨ (s.2.2.1 < pl ∧ 20000 ≤ s.2.2.2)
theorem stepD_end {c pl : Int} {Gs : Int → (Int → Int) → Prop} {s : DS} (h : endD c pl s) : stepD c pl Gs s = s := by
  unfold stepD
  rcases h with h | h | ⟨h1, h2⟩
  · rw [if_pos (Or.inl h)]
  · rw [if_pos (Or.inr h)]
  · split
    · rfl
    · simp only [if_neg (show ¬ pl ≤ s.2.2.1 by omega), if_pos h2]
theorem runD_end {c pl : Int} {Gs : Int → (Int → Int) → Prop} {k : Nat} (h : endD c pl (runD c pl Gs k)) : ∀ j : Nat, runD c pl Gs (k + j) = runD c pl Gs k
  | 0 => rfl
  | j + 1 => by
    show stepD c pl Gs (runD c pl Gs (k + j)) = _
    rw [runD_end h j]
    exact stepD_end h
theorem runD_uniq {c pl : Int} {Gs : Int → (Int → Int) → Prop} {k j : Nat} (h : endD c pl (runD c pl Gs k)) (g : endD c pl (runD c pl Gs j)) : runD c pl Gs k = runD c pl Gs j := by
  rcases Nat.le_total k j with q | q
  · have := runD_end h (j - k)
    rw [show k + (j - k) = j by omega] at this
    exact this.symm
  · have := runD_end g (k - j)
    rw [show j + (k - j) = k by omega] at this
    exact this
theorem stepD_congr {c pl : Int} {Gs Hs : Int → (Int → Int) → Prop} (h : ∀ a cho, 0 ≤ a → a < c → (Gs a cho ↔ Hs a cho)) (s : DS) : stepD c pl Gs s = stepD c pl Hs s := by
  unfold stepD
  split
  · rfl
  · split
    · rfl
    · split
      · rfl
      · exact if_iff _ _ (h _ _ (by omega) (by omega))
theorem runD_congr {c pl : Int} {Gs Hs : Int → (Int → Int) → Prop} (h : ∀ a cho, 0 ≤ a → a < c → (Gs a cho ↔ Hs a cho)) : ∀ k, runD c pl Gs k = runD c pl Hs k
  | 0 => rfl
  | k + 1 => by
    show stepD c pl Gs (runD c pl Gs k) = stepD c pl Hs (runD c pl Hs k)
    rw [runD_congr h k, stepD_congr h]
theorem stepD_back {c pl : Int} {Gs : Int → (Int → Int) → Prop} {a ch u : Int} {cho : Int → Int} (h0 : 0 ≤ a) (h1 : a < c) (h2 : pl ≤ ch) : stepD c pl Gs (a, cho, ch, u) = (a - 1, (fun l => if l = a - 1 then 0 else cho l), cho (a - 1) + 1, u) := by
  unfold stepD
  rw [if_neg (show ¬ (a < 0 ∨ c ≤ a) by omega), if_pos h2]
theorem stepD_yes {c pl : Int} {Gs : Int → (Int → Int) → Prop} {a ch u : Int} {cho : Int → Int} (h0 : 0 ≤ a) (h1 : a < c) (h2 : ch < pl) (h3 : u < 20000) (h4 : Gs a (fun l => if l = a then ch else cho l)) : stepD c pl Gs (a, cho, ch, u) = (a + 1, (fun l => if l = a then ch else cho l), 0, u + 1) := by
  unfold stepD
  rw [if_neg (show ¬ (a < 0 ∨ c ≤ a) by omega), if_neg (show ¬ pl ≤ ch by omega), if_neg (show ¬ 20000 ≤ u by omega), if_pos h4]
theorem stepD_no {c pl : Int} {Gs : Int → (Int → Int) → Prop} {a ch u : Int} {cho : Int → Int} (h0 : 0 ≤ a) (h1 : a < c) (h2 : ch < pl) (h3 : u < 20000) (h4 : ¬ Gs a (fun l => if l = a then ch else cho l)) : stepD c pl Gs (a, cho, ch, u) = (a, cho, ch + 1, u + 1) := by
  unfold stepD
  rw [if_neg (show ¬ (a < 0 ∨ c ≤ a) by omega), if_neg (show ¬ pl ≤ ch by omega), if_neg (show ¬ 20000 ≤ u by omega), if_neg h4]
theorem GoesS.congr {br mu kd src dist W C O C1 O1 : Int → Int} {n a : Int} (h : GoesS br mu kd src dist W n C O a) (ha : 0 ≤ a) (hC : ∀ l, 0 ≤ l → l ≤ a → C1 l = C l) (hO : ∀ l, 0 ≤ l → l ≤ a → O1 l = O l) : GoesS br mu kd src dist W n C1 O1 a := by
  obtain ⟨⟨f1, f2, f3⟩, h2, h3⟩ := h
  have ea := hC a ha (Int.le_refl a)
  have eo := hO a ha (Int.le_refl a)
  refine ⟨⟨by rw [ea]; exact f1, by rw [ea]; exact f2, fun o o0 o1 => by rw [hC o o0 (by omega), hO o o0 (by omega), ea, eo]; exact f3 o o0 o1⟩, fun s s0 s1 hs => ?_, h3.congr fun s s0 s1 hs => ?_⟩
  · rw [hC (src s) hs.1 hs.2, hC (s / 2) (by omega) (by omega)]
    exact h2 s s0 s1 hs
  · unfold gapS
    rw [hC (src s) hs.1 hs.2, hC (s / 2) (by omega) (by omega), hO (src s) hs.1 hs.2, hO (s / 2) (by omega) (by omega)]
/-- of the class's memory: σ as the search began, τ now -/
def GoesX (σ : MM) (bt a : Int) (C O : Int → Int) : Prop := GoesS (σ 11) (σ 12) (σ 2) (σ 5) (σ 6) (σ 13) bt C O a
def GsX (σ : MM) (bt : Int) : Int → (Int → Int) → Prop := fun a cho => GoesX σ bt a (fun l => cho l / bt) (fun l => cho l % bt)
def gapX (σ τ : MM) (bt : Int) : Int → Int := gapS (σ 2) (σ 5) (σ 6) (σ 13) (τ 18) (τ 19) bt
def STab (σ τ : MM) (bt a : Int) : Prop := ∀ j, 0 ≤ j → j < a →
  LeastS (σ 5) (gapX σ τ bt) j (fun l => τ 22 (j * 8 + l)) ∧ WaysS (σ 5) (σ 13) (τ 18) j ∧ (∀ s, 0 ≤ s → s < 2 * (j + 1) → enS (σ 5) j s → τ 21 s = gapX σ τ bt s) ∧ (∀ l, 0 ≤ l → l ≤ j → τ 22 (j * 8 + l) ≤ 160000 * (j + 1))
def SRel (σ τ : MM) (bt a : Int) (cho : Int → Int) : Prop := ∀ l, 0 ≤ l → l < a → τ 18 l = cho l / bt ∧ τ 19 l = cho l % bt ∧ τ 20 l = cho l + 1 ∧ 0 ≤ cho l ∧ cho l < σ 56 0 * σ 57 0 * bt
def DInv (σ τ : MM) (bt act move : Int) : Prop := ∃ (k : Nat) (cho : Int → Int) (ch pu : Int), runD (σ 53 0) (σ 56 0 * σ 57 0 * bt) (GsX σ bt) k = (act, cho, ch, τ 60 0) ∧ (0 ≤ pu ∧ pu ≤ τ 60 0 ∧ move = τ 60 0 + pu - act) ∧
  (0 ≤ act → act < σ 53 0 → τ 20 act = ch ∧ 0 ≤ ch ∧ ch ≤ σ 56 0 * σ 57 0 * bt) ∧ SRel σ τ bt act cho ∧ STab σ τ bt act
def GN (σ τ τ1 : MM) (bt a z : Int) : Prop := τ1 60 0 = τ 60 0 + 1 ∧ (∀ b, τ1 18 b = if b = a then τ 20 a / bt else τ 18 b) ∧ (∀ b, τ1 19 b = if b = a then τ 20 a % bt else τ 19 b) ∧ (∀ b, τ1 20 b = if b = a then τ 20 a + 1 else τ 20 b) ∧
  ((z = 1 ∧ GoesX σ bt a (τ1 18) (τ1 19) ∧ STab σ τ1 bt (a + 1)) ∨ (z = 0 ∧ ¬ GoesX σ bt a (τ1 18) (τ1 19) ∧ STab σ τ1 bt a))
theorem DInv.init {σ τ : MM} {bt : Int} (h60 : τ 60 0 = 0) (h20 : τ 20 0 = 0) (hp : 0 ≤ σ 56 0 * σ 57 0 * bt) : DInv σ τ bt 0 0 :=
  ⟨0, fun _ => 0, 0, 0, by rw [h60]; rfl, ⟨by omega, by omega, by omega⟩, fun _ _ => ⟨h20, by omega, hp⟩, fun l l0 l1 => by omega, fun j j0 j1 => by omega⟩
theorem DInv.back {σ τ : MM} {bt act move a1 m1 : Int} (h : DInv σ τ bt act move) (h0 : 0 ≤ act) (h1 : act < σ 53 0) (hp : σ 56 0 * σ 57 0 * bt ≤ τ 20 act) (ea : a1 = act + -1) (em : m1 = move + 1) : DInv σ τ bt a1 m1 := by
  obtain ⟨k, cho, ch, pu, h2, h3, h4, h5, h6⟩ := h
  have h7 := h4 h0 h1
  have e : a1 = act - 1 := by omega
  refine ⟨k + 1, fun l => if l = act - 1 then 0 else cho l, cho (act - 1) + 1, pu, ?_, ⟨by omega, by omega, by omega⟩, fun q0 q1 => ?_, fun l l0 l1 => ?_, fun j j0 j1 => h6 j j0 (by omega)⟩
  · show stepD _ _ _ (runD _ _ _ k) = _
    rw [h2, stepD_back h0 h1 (by omega), e]
  · have := h5 (act - 1) (by omega) (by omega)
    rw [e]
    exact ⟨this.2.2.1, by omega, by omega⟩
  · simp only [if_neg (show ¬ l = act - 1 by omega)]
    exact h5 l l0 (by omega)
theorem DInv.goes {σ τ τ1 : MM} {bt act move z : Int} (h : DInv σ τ bt act move) (h0 : 0 ≤ act) (h1 : act < σ 53 0) (hp : τ 20 act < σ 56 0 * σ 57 0 * bt) (ht : τ 60 0 < 20000) (hg : GN σ τ τ1 bt act z) :
    (z = 1 → ∀ τ2 : MM, (∀ b, 0 ≤ b → b ≤ act → τ2 20 b = τ1 20 b) → (act + 1 < σ 53 0 → τ2 20 (act + 1) = 0) → τ2 18 = τ1 18 → τ2 19 = τ1 19 → τ2 21 = τ1 21 → τ2 22 = τ1 22 → τ2 60 = τ1 60 → DInv σ τ2 bt (act + 1) (move + 1)) ∧ (z = 0 → DInv σ τ1 bt act (move + 1)) := by
  obtain ⟨k, cho, ch, pu, h2, h3, h4, h5, h6⟩ := h
  have h7 := h4 h0 h1
  obtain ⟨g1, g2, g3, g4, g5⟩ := hg
  have eC : ∀ l, 0 ≤ l → l ≤ act → τ1 18 l = (if l = act then ch else cho l) / bt := fun l l0 l1 => by
    rw [g2]
    split
    · rw [h7.1]
    · exact (h5 l l0 (by omega)).1
  have eO : ∀ l, 0 ≤ l → l ≤ act → τ1 19 l = (if l = act then ch else cho l) % bt := fun l l0 l1 => by
    rw [g3]
    split
    · rw [h7.1]
    · exact (h5 l l0 (by omega)).2.1
  refine ⟨fun hz τ2 t20 t20a t18 t19 t21 t22 t60 => ?_, fun hz => ?_⟩
  · rcases g5 with ⟨-, q1, q2⟩ | ⟨q0, -⟩
    · refine ⟨k + 1, fun l => if l = act then ch else cho l, 0, pu + 1, ?_, ⟨by omega, by rw [t60]; omega, by rw [t60]; omega⟩, fun _ q4 => ⟨t20a q4, by omega, by omega⟩, fun l l0 l1 => ?_, ?_⟩
      · show stepD _ _ _ (runD _ _ _ k) = _
        rw [h2, stepD_yes h0 h1 (by omega) ht, t60, g1]
        exact q1.congr h0 (fun l l0 l1 => (eC l l0 l1).symm) (fun l l0 l1 => (eO l l0 l1).symm)
      · rw [t18, t19, t20 l l0 (by omega), eC l l0 (by omega), eO l l0 (by omega), g4]
        refine ⟨rfl, rfl, ?_⟩
        by_cases e : l = act
        · simp only [if_pos e]
          omega
        · simp only [if_neg e]
          exact (h5 l l0 (by omega)).2.2
      · intro j j0 j1
        unfold gapX
        rw [t18, t19, t21, t22]
        exact q2 j j0 j1
    · omega
  · rcases g5 with ⟨q0, -⟩ | ⟨-, q1, q2⟩
    · omega
    · refine ⟨k + 1, cho, ch + 1, pu, ?_, ⟨by omega, by omega, by omega⟩, fun _ _ => ⟨by rw [g4, if_pos rfl]; omega, by omega, by omega⟩, fun l l0 l1 => ?_, q2⟩
      · show stepD _ _ _ (runD _ _ _ k) = _
        rw [h2, stepD_no h0 h1 (by omega) ht, g1]
        exact fun q3 => q1 (q3.congr h0 eC eO)
      · rw [g2, g3, g4, if_neg (by omega), if_neg (by omega), if_neg (by omega)]
        exact h5 l l0 l1
theorem IsMax.none {P : Int → Prop} {f : Int → Int} {n m0 : Int} (h : ∀ s, 0 ≤ s → s < n → ¬ P s) : IsMax P f n m0 m0 := ⟨Int.le_refl _, fun s s0 s1 q => absurd q (h s s0 s1), Or.inl rfl⟩
/-- a new act's row, slots below p looked at -/
theorem Row0.of {src g : Int → Int} {a p : Int} {t : Int → Int} (ha : 0 ≤ a) (h1 : 0 < a → LeastS src g (a - 1) t) (hM : IsMax (fun s => 2 * a ≤ s ∧ 0 ≤ src s ∧ src s < a) (fun s => t (src s) + g s) p 0 (t a)) (hp : p = 2 * a + 2) : Row0 src g a t := by
  obtain ⟨m1, m2, m3⟩ := hM
  refine ⟨h1, m1, fun s hs u0 u1 => m2 s (by omega) (by omega) ⟨by omega, u0, u1⟩, ?_⟩
  rcases m3 with m3 | ⟨s, s0, s1, s2, s3⟩
  · exact Or.inl m3
  · exact Or.inr ⟨s, by omega, s2.2.1, s2.2.2, s3⟩
theorem IsMax.congrF {P : Int → Prop} {f g : Int → Int} {n m0 m : Int} (h : IsMax P f n m0 m) (e : ∀ s, 0 ≤ s → s < n → P s → g s = f s) : IsMax P g n m0 m := by
  obtain ⟨h1, h2, h3⟩ := h
  refine ⟨h1, fun s s0 s1 q => by rw [e s s0 s1 q]; exact h2 s s0 s1 q, ?_⟩
  rcases h3 with h3 | ⟨s, s0, s1, s2, s3⟩
  · exact Or.inl h3
  · exact Or.inr ⟨s, s0, s1, s2, by rw [e s s0 s1 s2]; exact s3⟩
theorem mg_skip {src W C g F : Int → Int} {a p p1 : Int} (h : ∀ s : Int, 0 ≤ s → s < p → 0 ≤ src s → src s ≤ a → (src s = a ∨ s / 2 = a) → W (C (src s) * 9 + C (s / 2)) < 1000 ∧ g s = F s) (e : p1 = p + 1) (hn : ¬ (0 ≤ src p ∧ src p ≤ a ∧ (src p = a ∨ p / 2 = a))) :
    ∀ s : Int, 0 ≤ s → s < p1 → 0 ≤ src s → src s ≤ a → (src s = a ∨ s / 2 = a) → W (C (src s) * 9 + C (s / 2)) < 1000 ∧ g s = F s := by
  intro s s0 s1 q1 q2 q3
  by_cases e1 : s = p
  · rw [e1] at q1 q2 q3
    exact absurd ⟨q1, q2, q3⟩ hn
  · exact h s s0 (by omega) q1 q2 q3
theorem mg_put {src W C g g1 F : Int → Int} {a p p1 z : Int} (h : ∀ s : Int, 0 ≤ s → s < p → 0 ≤ src s → src s ≤ a → (src s = a ∨ s / 2 = a) → W (C (src s) * 9 + C (s / 2)) < 1000 ∧ g s = F s) (e : p1 = p + 1) (hs : ∀ b, g1 b = if b = p then z else g b) (hz : z = F p) (hw : W (C (src p) * 9 + C (p / 2)) < 1000) :
    ∀ s : Int, 0 ≤ s → s < p1 → 0 ≤ src s → src s ≤ a → (src s = a ∨ s / 2 = a) → W (C (src s) * 9 + C (s / 2)) < 1000 ∧ g1 s = F s := by
  intro s s0 s1 q1 q2 q3
  rw [hs]
  by_cases e1 : s = p
  · rw [if_pos e1, e1]
    exact ⟨hw, hz⟩
  · rw [if_neg e1]
    exact h s s0 (by omega) q1 q2 q3
theorem row0_fin {src g r0 r1 T : Int → Int} {a p : Int} (ha : 0 ≤ a) (hL : 0 < a → LeastS src g (a - 1) (fun l => r0 ((a - 1) * 8 + l))) (hrow : ∀ l, 0 ≤ l → l < a → r1 (a * 8 + l) = r0 ((a - 1) * 8 + l)) (hk : ∀ b, b ≠ a * 8 + a → T b = r1 b)
    (hM : IsMax (fun s => 2 * a ≤ s ∧ 0 ≤ src s ∧ src s < a) (fun s => r1 (a * 8 + src s) + g s) p 0 (T (a * 8 + a))) (hp : p = 2 * a + 2) : Row0 src g a (fun l => T (a * 8 + l)) := by
  refine Row0.of ha (fun h0 => (hL h0).congr (fun _ _ _ _ => rfl) (fun l l0 l1 => ?_)) (hM.congrF fun s s0 s1 q => ?_) hp
  · show T (a * 8 + l) = r0 ((a - 1) * 8 + l)
    rw [hk _ (by omega), hrow l l0 (by omega)]
  · show T (a * 8 + src s) + g s = r1 (a * 8 + src s) + g s
    rw [hk _ (by have := q.2.2; omega)]
theorem pass_push {N K k a z : Int} {en : Int → Prop} {u g ts T T1 : Int → Int} {grew : Int} (hw : Wf N K en u) (h : PassI N K en u g ts k (fun l => T (a * 8 + l)) grew) (hk : 0 ≤ k ∧ k < K) (hen : en k) (hlt : T (a * 8 + k / 2) < T (a * 8 + u k) + g k) (hz : z = T (a * 8 + u k) + g k)
    (ht : ∀ b, T1 b = if b = a * 8 + k / 2 then z else T b) {k1 : Int} (e : k1 = k + 1) : PassI N K en u g ts k1 (fun l => T1 (a * 8 + l)) 1 := by
  rw [e]
  refine h.push hw hk hen hlt fun b => ?_
  show T1 (a * 8 + b) = _
  rw [ht, hz]
  exact if_iff _ _ (by omega)
theorem pass_skip {N K k k1 : Int} {en : Int → Prop} {u g ts t : Int → Int} {grew : Int} (hw : Wf N K en u) (h : PassI N K en u g ts k t grew) (hk : 0 ≤ k ∧ k < K) (hs : ¬ en k ∨ t (u k) + g k ≤ t (k / 2)) (e : k1 = k + 1) : PassI N K en u g ts k1 t grew := by
  rw [e]
  exact h.skip hw hk hs
