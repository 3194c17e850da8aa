/-! PURE: the model's plans, bounds, search -/
def P1m (σ : MM) : Int → Prop := fun x => σ 35 (σ 38 x) = 1
def P2m (σ : MM) : Int → Prop := fun x => σ 28 x = 3 ∧ σ 36 (σ 38 x) = 0
def P3m (σ : MM) : Int → Prop := Meet (σ 38) (σ 39) (σ 63 0)
def P4m (σ : MM) (W : Int → Int) : Int → Prop := Late (sM (σ 28) (σ 29)) (σ 30) (σ 38) (σ 39) (σ 28) W (σ 63 0)
def FLm (σ : MM) (W : Int → Int) (z : Int) : Prop := FL (P1m σ) (P2m σ) (P3m σ) (P4m σ W) (σ 61 0) z
def useM (σ : MM) (s : Int) : Int := σ 39 (s / 2) + σ 30 s * σ 63 0
def madeM (σ : MM) (a : Int) : Int := σ 39 a + lenF (σ 28) a
theorem late_m {σ : MM} {W : Int → Int} {s : Int} (hk : σ 28 (s / 2) ≠ 0) (hop : 0 ≤ σ 29 s) : P4m σ W s ↔ (1000 ≤ W (σ 38 (σ 29 s) * 9 + σ 38 (s / 2)) ∨ σ 39 (s / 2) + σ 30 s * σ 63 0 < σ 39 (σ 29 s) + lenF (σ 28) (σ 29 s) + W (σ 38 (σ 29 s) * 9 + σ 38 (s / 2))) := by
  unfold P4m Late
  rw [sM_1 hk, Int.mul_comm (σ 63 0)]
  exact ⟨fun q => q.2, fun q => ⟨by omega, q⟩⟩
theorem late_m0 {σ : MM} {W : Int → Int} {s : Int} (hk : σ 28 (s / 2) = 0) : ¬ P4m σ W s := by
  unfold P4m Late
  rw [sM_0 hk]
  exact fun q => q.1 rfl
def GoodM (σ : MM) (W : Int → Int) : Prop := 0 < σ 63 0 ∧ SndM σ ∧ FLm σ W 0
def BadM (σ : MM) (W : Int → Int) : Prop := ¬ SndM σ ∨ ∃ y, FLm σ W y ∧ y ≠ 0
def LayM (σ : MM) : Prop := 0 < σ 63 0 → ∀ a, 0 ≤ a → a < σ 61 0 → σ 38 a < σ 65 0 * σ 66 0
def SrcM (σ : MM) : Prop := ∀ s, 0 ≤ s → s < 2 * σ 61 0 → σ 28 (s / 2) ≠ 0 → σ 29 s < σ 61 0
theorem SndM.src {σ : MM} (h : SndM σ) (hop : ∀ s, 0 ≤ σ 29 s) : SrcM σ := fun s s0 s1 hk => by
  have := h.ops hop (s / 2) (by omega) (by omega)
  unfold OpA at this
  rcases (by omega : s = 2 * (s / 2) ∨ s = 2 * (s / 2) + 1) with e | e
  · rw [← e] at this
    omega
  · rw [← e] at this
    omega
theorem WayM.keep {σ τ : MM} {W : Int → Int} {L : List Nat} (h : WayM σ W) (m : Mod L σ τ) (hL : ([35, 65, 66] : List Nat).all (fun r => !(L.contains r)) = true) : WayM τ W := by
  have e : ∀ r ∈ ([35, 65, 66] : List Nat), τ r = σ r := fun r hr => m.at r (by have := List.all_eq_true.mp hL r hr; simpa using this)
  unfold WayM at *
  rw [e 35 (by decide), e 65 (by decide), e 66 (by decide)]
  exact h
theorem FLm_keep {σ τ : MM} {L : List Nat} (m : Mod L σ τ) (hL : ([28, 29, 30, 35, 36, 38, 39, 61, 63] : List Nat).all (fun r => !(L.contains r)) = true) (W : Int → Int) (z : Int) : FLm τ W z ↔ FLm σ W z := by
  have e : ∀ r ∈ ([28, 29, 30, 35, 36, 38, 39, 61, 63] : List Nat), τ r = σ r := fun r hr => m.at r (by have := List.all_eq_true.mp hL r hr; simpa using this)
  unfold FLm P1m P2m P3m P4m
  rw [e 28 (by decide), e 29 (by decide), e 30 (by decide), e 35 (by decide), e 36 (by decide), e 38 (by decide), e 39 (by decide), e 61 (by decide), e 63 (by decide)]
theorem SndM_keep {σ τ : MM} {L : List Nat} (m : Mod L σ τ) (hL : ([28, 29, 30, 61] : List Nat).all (fun r => !(L.contains r)) = true) : SndM τ ↔ SndM σ := by
  have e : ∀ r ∈ ([28, 29, 30, 61] : List Nat), τ r = σ r := fun r hr => m.at r (by have := List.all_eq_true.mp hL r hr; simpa using this)
  unfold SndM
  rw [e 28 (by decide), e 29 (by decide), e 30 (by decide), e 61 (by decide)]
/-- how a plan is asked for -/
def WhyM (σ : MM) (W : Int → Int) (z : Int) : Prop := (σ 63 0 = 0 ∧ z = -3) ∨ (0 < σ 63 0 ∧ BadM σ W ∧ z = -5) ∨ (GoodM σ W ∧ z = 0)
theorem WhyM.rng {σ : MM} {W : Int → Int} {z : Int} (h : WhyM σ W z) : z = -3 ∨ z = -5 ∨ z = 0 := by
  rcases h with h | h | h
  · exact Or.inl h.2
  · exact Or.inr (Or.inl h.2.2)
  · exact Or.inr (Or.inr h.2)
theorem WhyM.good {σ : MM} {W : Int → Int} {z : Int} (h : WhyM σ W z) (hz : 0 ≤ z) : GoodM σ W := by
  rcases h with h | h | h
  · have := h.2
    omega
  · have := h.2.2
    omega
  · exact h.1
def PlM (σ τ : MM) (a r z : Int) : Prop := ((a < 0 ∨ σ 61 0 ≤ a ∨ r < 0 ∨ 60 < r) ∧ z = -10000000001) ∨ ((0 ≤ a ∧ a < σ 61 0 ∧ 0 ≤ r ∧ r ≤ 60) ∧ ((¬ SndM σ ∧ z = -10000000005) ∨ (SndM σ ∧ EQm σ (τ 34) (r + 1) ∧ z = (iI (τ 34 (8 * r + a))).toInt)))
def PLm (σ : MM) (z : Int) : Prop := PBx (σ 61 0) (cnK (σ 28) (σ 61 0)) (cn0 (σ 35) (σ 65 0 * σ 66 0)) (cn2 (σ 35) (σ 36) (σ 65 0 * σ 66 0)) z
theorem ceil_eq {x u : Int} (hu : 0 < u) : (x + u - 1) / u = cdiv x u := by
  unfold cdiv
  have h1 := Int.mul_ediv_add_emod (x + u - 1) u
  have h2 := Int.emod_nonneg (x + u - 1) (show u ≠ 0 by omega)
  have h3 := Int.emod_lt_of_pos (x + u - 1) hu
  have f1 := Int.mul_ediv_add_emod (-x) u
  have f2 := Int.emod_nonneg (-x) (show u ≠ 0 by omega)
  have f3 := Int.emod_lt_of_pos (-x) hu
  have k : u * ((x + u - 1) / u + (-x) / u) = u - 1 - (x + u - 1) % u - (-x) % u := by
    rw [Int.mul_add]
    omega
  rcases Int.lt_trichotomy ((x + u - 1) / u + (-x) / u) 0 with w | w | w
  · have := Int.mul_le_mul_of_nonneg_left (show (x + u - 1) / u + (-x) / u ≤ -1 by omega) (show 0 ≤ u by omega)
    omega
  · omega
  · have := Int.mul_le_mul_of_nonneg_left (show 1 ≤ (x + u - 1) / u + (-x) / u by omega) (show 0 ≤ u by omega)
    omega
theorem up_eq {x n : Int} (hn : 0 < n) : (0 < x.tmod n → cdiv x n = x.tdiv n + 1) ∧ (x.tmod n ≤ 0 → cdiv x n = x.tdiv n) := by
  rcases Int.le_total 0 x with q | q
  · rw [Int.tmod_eq_emod_of_nonneg q, Int.tdiv_eq_ediv_of_nonneg q]
    have h1 := Int.mul_ediv_add_emod x n
    have h2 := Int.emod_nonneg x (show n ≠ 0 by omega)
    have h3 := Int.emod_lt_of_pos x hn
    have e := ceil_eq (x := x) hn
    constructor
    · intro z
      rw [← e, show x + n - 1 = (x % n - 1) + n * (x / n + 1) by rw [Int.mul_add, Int.mul_one]; omega, Int.add_mul_ediv_left _ _ (show n ≠ 0 by omega), Int.ediv_eq_zero_of_lt (by omega) (by omega)]
      omega
    · intro z
      rw [← e, show x + n - 1 = (n - 1) + n * (x / n) by omega, Int.add_mul_ediv_left _ _ (show n ≠ 0 by omega), Int.ediv_eq_zero_of_lt (by omega) (by omega)]
      omega
  · have hx : 0 ≤ -x := by omega
    have e1 : x.tdiv n = -((-x) / n) := by
      have h := Int.neg_tdiv (a := -x) (b := n)
      rw [Int.neg_neg] at h
      rw [h, Int.tdiv_eq_ediv_of_nonneg hx]
    have e2 : x.tmod n ≤ 0 := by
      have h := Int.neg_tmod (-x) n
      rw [Int.neg_neg] at h
      rw [h, Int.tmod_eq_emod_of_nonneg hx]
      have := Int.emod_nonneg (-x) (show n ≠ 0 by omega)
      omega
    exact ⟨fun z => by omega, fun _ => e1.symm⟩
def RHm (σ : MM) (n : Int) : Prop := RH (σ 28) (sM (σ 28) (σ 29)) (σ 30) (σ 61 0) n
/-- no ring of a sound loop asks for more than 16 -/
theorem RH.most {kd src di : Int → Int} {c : Int} (h : Snd src di c) (hdi : ∀ s, 0 ≤ di s) (hc : c ≤ 8) : RH kd src di c 16 := by
  obtain ⟨ord, o, h⟩ := h
  have hinj := h.2.2.2.2
  have hall := h.all
  have hdep := h.2.2.1
  have ex : ∀ a : Int, ∃ i : Int, 0 ≤ i ∧ (0 ≤ a → a < c → i < c ∧ ord i = a) := fun a => by
    by_cases q : 0 ≤ a ∧ a < c
    · obtain ⟨i, i0, i1, i2⟩ := hall a q.1 q.2
      exact ⟨i, i0, fun _ _ => ⟨i1, i2⟩⟩
    · exact ⟨0, by omega, fun q0 q1 => absurd ⟨q0, q1⟩ q⟩
  obtain ⟨pos, hpos⟩ := Classical.axiomOfChoice ex
  refine ⟨fun a => 2 * pos a, fun s s0 s1 hs => ?_, fun a a0 a1 => ?_⟩
  · show 2 * pos (src s) + gR kd src di 16 s ≤ 2 * pos (s / 2)
    have v0 := (hpos (s / 2)).1
    have cv := (hpos (s / 2)).2 (by omega) (by omega)
    have u0 := (hpos (src s)).1
    have cu := (hpos (src s)).2 hs.1 hs.2
    generalize pos (s / 2) = i at v0 cv
    generalize pos (src s) = j at u0 cu
    have hl := lenF_bd (kd := kd) (a := src s)
    have hd : Dep src di c ord i s := by
      obtain ⟨-, -, -, d1, d2⟩ := hdep i v0 cv.1
      rw [cv.2] at d1 d2
      rcases (by omega : s = 2 * (s / 2) ∨ s = 2 * (s / 2) + 1) with e | e
      · rw [← e] at d1
        exact d1
      · rw [← e] at d2
        exact d2
    have hp := hdi s
    unfold gR
    rcases hd with q | ⟨q1, q2, q3⟩
    · have := hs.1
      omega
    · rcases q3 with q3 | ⟨m, m0, m1, m2⟩
      · omega
      · have : m = j := by
          rcases Int.lt_trichotomy m j with w | w | w
          · exact absurd (m2.trans cu.2.symm) (hinj m j m0 w cu.1)
          · exact w
          · exact absurd (cu.2.trans m2.symm) (hinj j m u0 w (by omega))
        rw [show di s = di s from rfl]
        have hz := hpos
        omega
  · show 0 ≤ 2 * pos a
    have := (hpos a).1
    omega
def RBm (σ : MM) (z : Int) : Prop := (1 ≤ z ∧ z ≤ 16) ∧ (∀ n : Int, 1 ≤ n → n < z → ¬ RHm σ n) ∧ RHm σ z
theorem RHm_keep {σ τ : MM} {L : List Nat} (m : Mod L σ τ) (hL : ([28, 29, 30, 61] : List Nat).all (fun r => !(L.contains r)) = true) (n : Int) : RHm τ n ↔ RHm σ n := by
  have e : ∀ r ∈ ([28, 29, 30, 61] : List Nat), τ r = σ r := fun r hr => m.at r (by have := List.all_eq_true.mp hL r hr; simpa using this)
  unfold RHm
  rw [e 28 (by decide), e 29 (by decide), e 30 (by decide), e 61 (by decide)]
theorem RBm_keep {σ τ : MM} {L : List Nat} (m : Mod L σ τ) (hL : ([28, 29, 30, 61] : List Nat).all (fun r => !(L.contains r)) = true) (n : Int) : RBm τ n ↔ RBm σ n := by
  unfold RBm
  simp only [RHm_keep m hL]
theorem PLm_keep {σ τ : MM} {L : List Nat} (m : Mod L σ τ) (hL : ([28, 35, 36, 61, 65, 66] : List Nat).all (fun r => !(L.contains r)) = true) (z : Int) : PLm τ z ↔ PLm σ z := by
  have e : ∀ r ∈ ([28, 35, 36, 61, 65, 66] : List Nat), τ r = σ r := fun r hr => m.at r (by have := List.all_eq_true.mp hL r hr; simpa using this)
  unfold PLm
  rw [e 28 (by decide), e 35 (by decide), e 36 (by decide), e 61 (by decide), e 65 (by decide), e 66 (by decide)]
-- the search
def gapM (σ : MM) (W C O : Int → Int) (n : Int) : Int → Int := gapS (σ 28) (sM (σ 28) (σ 29)) (σ 30) W C O n
def GoesM (σ : MM) (W : Int → Int) (n : Int) (C O : Int → Int) (a : Int) : Prop := GoesS (σ 35) (σ 36) (σ 28) (sM (σ 28) (σ 29)) (σ 30) W n C O a
def GsM (σ : MM) (W : Int → Int) (bt : Int) : Int → (Int → Int) → Prop := fun a cho => GoesM σ W bt (fun l => cho l / bt) (fun l => cho l % bt) a
theorem GoesM.up {σ : MM} {W : Int → Int} {n : Int} {C O C1 O1 : Int → Int} {a : Int} (h : GoesM σ W n C O a) (ha : 0 ≤ a) (hC : ∀ l, 0 ≤ l → l ≤ a → C1 l = C l) (hO : ∀ l, 0 ≤ l → l ≤ a → O1 l = O l) : GoesM σ W n C1 O1 a := GoesS.congr h ha hC hO
/-- the search's state: acts placed, the next choice, tries -/
def DIm (σ τ : MM) (bt a ch used : Int) : Prop := ∃ (k : Nat) (cho : Int → Int) (c1 : Int), runD (σ 61 0) (σ 65 0 * σ 66 0 * bt) (GsM σ (σ 44) bt) k = (a, cho, c1, used) ∧ (0 ≤ a → ch = c1 ∧ 0 ≤ ch ∧ ch ≤ σ 65 0 * σ 66 0 * bt) ∧
  (∀ l, 0 ≤ l → l < a → τ 41 l = cho l / bt ∧ τ 42 l = cho l % bt ∧ 0 ≤ cho l ∧ cho l < σ 65 0 * σ 66 0 * bt) ∧ ∀ j, 0 ≤ j → j < a → GoesM σ (σ 44) bt (τ 41) (τ 42) j
theorem DIm.init {σ τ : MM} {bt a ch used : Int} (ha : a = 0) (hch : ch = 0) (hu : used = 0) (hp : 0 ≤ σ 65 0 * σ 66 0 * bt) : DIm σ τ bt a ch used := by
  subst ha hch hu
  exact ⟨0, fun _ => 0, 0, rfl, fun _ => ⟨rfl, by omega, hp⟩, fun l l0 l1 => by omega, fun j j0 j1 => by omega⟩
theorem DIm.back {σ τ : MM} {bt a a1 ch ch1 used : Int} (h : DIm σ τ bt a ch used) (hb : 0 < bt) (h0 : 0 ≤ a) (h1 : a < σ 61 0) (hp : ch = σ 65 0 * σ 66 0 * bt) (ea : a1 = a + -1) (e : 0 ≤ a1 → ch1 = τ 41 a1 * bt + τ 42 a1 + 1) : DIm σ τ bt a1 ch1 used := by
  obtain ⟨k, cho, c1, h2, h3, h4, h5⟩ := h
  obtain ⟨e1, e2, e3⟩ := h3 h0
  have ea1 : a1 = a - 1 := by omega
  refine ⟨k + 1, fun l => if l = a - 1 then 0 else cho l, cho (a - 1) + 1, ?_, fun q0 => ?_, fun l l0 l1 => ?_, fun j j0 j1 => h5 j j0 (by omega)⟩
  · show stepD _ _ _ (runD _ _ _ k) = _
    rw [h2, stepD_back h0 h1 (by omega), ea1]
  · obtain ⟨g1, g2, g3, g4⟩ := h4 a1 q0 (by omega)
    have := e q0
    have d := Int.mul_ediv_add_emod (cho a1) bt
    rw [g1, g2, Int.mul_comm] at this
    rw [← ea1]
    exact ⟨by omega, by omega, by omega⟩
  · simp only [if_neg (show ¬ l = a - 1 by omega)]
    exact h4 l l0 (by omega)
theorem DIm.go {σ τ τ1 : MM} {bt a a1 ch ch1 used u1 z : Int} (h : DIm σ τ bt a ch used) (h0 : 0 ≤ a) (h1 : a < σ 61 0) (hp : ch ≠ σ 65 0 * σ 66 0 * bt) (hu : used < 20000) (hb : 0 < bt)
    (t41 : ∀ b, τ1 41 b = if b = a then ch / bt else τ 41 b) (t42 : ∀ b, τ1 42 b = if b = a then ch % bt else τ 42 b) (hz : (z = 1 ∧ GoesM σ (σ 44) bt (τ1 41) (τ1 42) a) ∨ (z = 0 ∧ ¬ GoesM σ (σ 44) bt (τ1 41) (τ1 42) a))
    (ea : (z = 1 ∧ a1 = a + 1 ∧ ch1 = 0) ∨ (z = 0 ∧ a1 = a ∧ ch1 = ch + 1)) (eu : u1 = used + 1) : DIm σ τ1 bt a1 ch1 u1 := by
  obtain ⟨k, cho, c1, h2, h3, h4, h5⟩ := h
  obtain ⟨e1, e2, e3⟩ := h3 h0
  subst e1
  have eC : ∀ l, 0 ≤ l → l ≤ a → τ1 41 l = (if l = a then ch else cho l) / bt := fun l l0 l1 => by
    rw [t41]
    split
    · rfl
    · exact (h4 l l0 (by omega)).1
  have eO : ∀ l, 0 ≤ l → l ≤ a → τ1 42 l = (if l = a then ch else cho l) % bt := fun l l0 l1 => by
    rw [t42]
    split
    · rfl
    · exact (h4 l l0 (by omega)).2.1
  have old : ∀ j, 0 ≤ j → j < a → GoesM σ (σ 44) bt (τ1 41) (τ1 42) j := fun j j0 j1 => (h5 j j0 j1).up j0 (fun l l0 l1 => by rw [t41, if_neg (by omega)]) (fun l l0 l1 => by rw [t42, if_neg (by omega)])
  rcases ea with ⟨z1, rfl, rfl⟩ | ⟨z0, rfl, rfl⟩
  · have hg : GoesM σ (σ 44) bt (τ1 41) (τ1 42) a := cf_yes hz (by omega)
    refine ⟨k + 1, fun l => if l = a then ch else cho l, 0, ?_, fun _ => ⟨rfl, by omega, by omega⟩, fun l l0 l1 => ?_, fun j j0 j1 => ?_⟩
    · show stepD _ _ _ (runD _ _ _ k) = _
      rw [h2, stepD_yes h0 h1 (by omega) hu, eu]
      exact hg.up h0 (fun l l0 l1 => (eC l l0 l1).symm) (fun l l0 l1 => (eO l l0 l1).symm)
    · rw [eC l l0 (by omega), eO l l0 (by omega)]
      refine ⟨rfl, rfl, ?_⟩
      by_cases e : l = a
      · simp only [if_pos e]
        omega
      · simp only [if_neg e]
        exact (h4 l l0 (by omega)).2.2
    · by_cases e : j = a
      · rw [e]
        exact hg
      · exact old j j0 (by omega)
  · have hg : ¬ GoesM σ (σ 44) bt (τ1 41) (τ1 42) a1 := cf_no hz z0
    refine ⟨k + 1, cho, ch + 1, ?_, fun _ => ⟨rfl, by omega, by omega⟩, fun l l0 l1 => ?_, old⟩
    · show stepD _ _ _ (runD _ _ _ k) = _
      rw [h2, stepD_no h0 h1 (by omega) hu, eu]
      exact fun q => hg (q.up h0 eC eO)
    · rw [t41, t42, if_neg (by omega), if_neg (by omega)]
      exact h4 l l0 l1
/-- how the model's search ends -/
def DFm (σ υ : MM) (bt z : Int) : Prop := ∃ k : Nat, endD (σ 61 0) (σ 65 0 * σ 66 0 * bt) (runD (σ 61 0) (σ 65 0 * σ 66 0 * bt) (GsM σ (σ 44) bt) k) ∧
  (((runD (σ 61 0) (σ 65 0 * σ 66 0 * bt) (GsM σ (σ 44) bt) k).1 = σ 61 0 ∧ z = 1 ∧
      (∀ l, 0 ≤ l → l < σ 61 0 → υ 41 l = (runD (σ 61 0) (σ 65 0 * σ 66 0 * bt) (GsM σ (σ 44) bt) k).2.1 l / bt ∧ υ 42 l = (runD (σ 61 0) (σ 65 0 * σ 66 0 * bt) (GsM σ (σ 44) bt) k).2.1 l % bt ∧ 0 ≤ υ 41 l ∧ υ 41 l < σ 65 0 * σ 66 0) ∧
      GoesM σ (σ 44) bt (υ 41) (υ 42) (σ 61 0 - 1)) ∨
    ((runD (σ 61 0) (σ 65 0 * σ 66 0 * bt) (GsM σ (σ 44) bt) k).1 < 0 ∧ z = 0) ∨
    (0 ≤ (runD (σ 61 0) (σ 65 0 * σ 66 0 * bt) (GsM σ (σ 44) bt) k).1 ∧ (runD (σ 61 0) (σ 65 0 * σ 66 0 * bt) (GsM σ (σ 44) bt) k).1 < σ 61 0 ∧ z = -7))
theorem DIm.fin {σ τ : MM} {bt a ch used z : Int} (h : DIm σ τ bt a ch used) (hb : 0 < bt) (hc : 1 ≤ σ 61 0) (hz : (a = σ 61 0 ∧ z = 1) ∨ (a < 0 ∧ z = 0) ∨ (0 ≤ a ∧ a < σ 61 0 ∧ ch ≠ σ 65 0 * σ 66 0 * bt ∧ 20000 ≤ used ∧ z = -7)) : DFm σ τ bt z := by
  obtain ⟨k, cho, c1, h2, h3, h4, h5⟩ := h
  refine ⟨k, ?_, ?_⟩
  · rw [h2]
    unfold endD
    rcases hz with q | q | q
    · exact Or.inr (Or.inl (by show σ 61 0 ≤ a; omega))
    · exact Or.inl q.1
    · have := h3 q.1
      exact Or.inr (Or.inr ⟨by show c1 < _; omega, q.2.2.2.1⟩)
  · rw [h2]
    rcases hz with ⟨rfl, q2⟩ | q | q
    · refine Or.inl ⟨rfl, q2, fun l l0 l1 => ?_, h5 _ (by omega) (by omega)⟩
      obtain ⟨g1, g2, g4, g5⟩ := h4 l l0 l1
      exact ⟨g1, g2, by rw [g1]; exact Int.ediv_nonneg g4 (by omega), by rw [g1]; exact Int.ediv_lt_of_lt_mul hb g5⟩
    · exact Or.inr (Or.inl q)
    · exact Or.inr (Or.inr ⟨q.1, q.2.1, q.2.2.2.2⟩)
