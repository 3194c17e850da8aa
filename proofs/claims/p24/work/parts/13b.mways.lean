/-! PURE: the model's rounds of values; ways by rounds -/
def WAr (σ : MM) (o : Int → Int) (p : Int) : Prop := ∃ n, ARe (sM (σ 28) (σ 29)) (σ 30) (σ 61 0) o n ∧ (p ≤ n ∨ Stuck (sM (σ 28) (σ 29)) (σ 30) (σ 61 0) o)
def WPr (σ : MM) (o0 : Int → Int) (p a : Int) (o : Int → Int) : Prop := ∃ n0 n, PSe (sM (σ 28) (σ 29)) (σ 30) (σ 61 0) o0 n0 a o n ∧ (p ≤ n0 ∨ Stuck (sM (σ 28) (σ 29)) (σ 30) (σ 61 0) o0)
theorem WAr.init {σ : MM} {o : Int → Int} {p : Int} (hc : 0 ≤ σ 61 0) (hp : p = 0) (h : ∀ a, 0 ≤ a → a < σ 61 0 → o a = 0) : WAr σ o p := ⟨0, ARe.init hc h, Or.inl (by omega)⟩
theorem WPr.init {σ : MM} {o : Int → Int} {p a : Int} (h : WAr σ o p) (ha : a = 0) : WPr σ o p a o := by
  obtain ⟨n, h1, h2⟩ := h
  rw [ha]
  exact ⟨n, n, PSe.init h1, h2⟩
theorem WPr.skip {σ : MM} {o0 o : Int → Int} {p a a1 : Int} (h : WPr σ o0 p a o) (hs : o a ≠ 0 ∨ ¬ CF2 (sM (σ 28) (σ 29)) (σ 30) (σ 61 0) o a) (e : a1 = a + 1) : WPr σ o0 p a1 o := by
  obtain ⟨n0, n, h1, h2⟩ := h
  exact ⟨n0, n, h1.skip hs e, h2⟩
theorem WPr.take {σ : MM} {o0 o o1 : Int → Int} {p a a1 : Int} (h : WPr σ o0 p a o) (h0 : 0 ≤ a) (hc : a < σ 61 0) (ha : o a = 0) (hf : CF2 (sM (σ 28) (σ 29)) (σ 30) (σ 61 0) o a) (ho : ∀ b, o1 b = if b = a then 1 else o b) (e : a1 = a + 1) : WPr σ o0 p a1 o1 := by
  obtain ⟨n0, n, h1, h2⟩ := h
  exact ⟨n0, n + 1, h1.take h0 hc ha hf ho e rfl, h2⟩
theorem WPr.fin {σ : MM} {o0 o : Int → Int} {p p1 a : Int} (h : WPr σ o0 p a o) (hc : σ 61 0 ≤ a) (e : p1 = p + 1) : WAr σ o p1 := by
  obtain ⟨n0, n, h1, h2⟩ := h
  have := h1.fin hc h2
  exact ⟨n, this.1, e ▸ this.2⟩
theorem WPr.ar {σ : MM} {o0 o : Int → Int} {p a : Int} (h : WPr σ o0 p a o) : ∃ n, ARe (sM (σ 28) (σ 29)) (σ 30) (σ 61 0) o n := by
  obtain ⟨n0, n, h1, h2⟩ := h
  exact ⟨n, h1.ar.1⟩
theorem WAr.all {σ : MM} {o : Int → Int} {p : Int} (h : WAr σ o p) (hp : σ 61 0 ≤ p) (hS : SndM σ) (a : Int) (a0 : 0 ≤ a) (a1 : a < σ 61 0) : o a = 1 := by
  obtain ⟨n, h1, h2⟩ := h
  have hst := h1.stuck (h2.imp (fun q => by omega) id)
  have e := (h1.snd hst).mpr hS
  rw [e] at h1
  exact h1.one a a0 a1
theorem WKm.take {σ : MM} {W0 W W2 o0 o o2 : Int → Int} {p t a v : Int} (h : WKm σ W0 t W o) (hA : WPr σ o0 p a o) (hdi : ∀ s, 0 ≤ σ 30 s ∧ σ 30 s ≤ 3) (hop : ∀ s, 0 ≤ σ 29 s ∧ σ 29 s ≤ 7) (ht : 0 ≤ t ∧ t ≤ 60) (hc : σ 61 0 ≤ 8) (ha : 0 ≤ a ∧ a < σ 61 0) (hoa : o a = 0) (hf : CF2 (sM (σ 28) (σ 29)) (σ 30) (σ 61 0) o a)
    (hv : iI v = VALm σ W a t) (h2 : ∀ b, W2 b = if b = 8 * t + a then v else W b) (ho : ∀ b, o2 b = if b = a then 1 else o b) : WKm σ W0 t W2 o2 := by
  obtain ⟨n, hA⟩ := hA.ar
  exact h.make hA (fun s => (hdi s).1) hop ht hc ha hoa hf hv h2 ho
theorem VALm_of {σ σ1 : MM} {L : List Nat} (h : Mod L σ σ1) (hL : ([28, 29, 30, 31, 32, 62] : List Nat).all (fun r => !(L.contains r)) = true) (W : Int → Int) (a t : Int) : VALm σ1 W a t = VALm σ W a t := by
  have e : ∀ r ∈ ([28, 29, 30, 31, 32, 62] : List Nat), σ1 r = σ r := fun r hr => h.at r (by have := List.all_eq_true.mp hL r hr; simpa using this)
  unfold VALm
  rw [e 28 (by decide), e 29 (by decide), e 30 (by decide), e 31 (by decide), e 32 (by decide), e 62 (by decide)]
theorem EQm_keep {σ σ1 : MM} {L : List Nat} (h : Mod L σ σ1) (hL : ([28, 29, 30, 31, 32, 61, 62] : List Nat).all (fun r => !(L.contains r)) = true) (W : Int → Int) (T : Int) : EQm σ1 W T ↔ EQm σ W T := by
  have e : ∀ r ∈ ([28, 29, 30, 31, 32, 61, 62] : List Nat), σ1 r = σ r := fun r hr => h.at r (by have := List.all_eq_true.mp hL r hr; simpa using this)
  unfold EQm VALm
  rw [e 28 (by decide), e 29 (by decide), e 30 (by decide), e 31 (by decide), e 32 (by decide), e 61 (by decide), e 62 (by decide)]
def dM (kd di : Int → Int) : Int → Int := fun s => if kd (s / 2) = 0 then 0 else di s
def pM (kd p : Int → Int) : Int → Int := fun a => if kd a = 0 then p a else 0
theorem sq_bd {x : Int} (h : -8 ≤ x ∧ x ≤ 8) : 0 ≤ x * x ∧ x * x ≤ 64 := by
  rcases Int.le_total 0 x with q | q
  · exact pm (a := x) (A := 8) (b := x) (B := 8) (by omega) (by omega)
  · have := pm (a := -x) (A := 8) (b := -x) (B := 8) (by omega) (by omega)
    rw [Int.neg_mul_neg] at this
    exact this
theorem sq_big {x : Int} (h : x ≠ 0) (h1 : x ≠ 1) (h2 : x ≠ -1) : 2 ≤ x * x := by
  rcases Int.le_total 0 x with q | q
  · have := Int.mul_le_mul (show 2 ≤ x by omega) (show 1 ≤ x by omega) (by omega) (by omega)
    omega
  · have := Int.mul_le_mul (show 2 ≤ -x by omega) (show 1 ≤ -x by omega) (by omega) (by omega)
    rw [Int.neg_mul_neg] at this
    omega
theorem sq_one {r q : Int} : r * r + q * q = 1 ↔ (r = 0 ∧ (q = 1 ∨ q = -1)) ∨ (q = 0 ∧ (r = 1 ∨ r = -1)) := by
  have pos : ∀ x : Int, 0 ≤ x * x := fun x => by
    rcases Int.le_total 0 x with q | q
    · exact Int.mul_nonneg q q
    · rw [← Int.neg_mul_neg]
      exact Int.mul_nonneg (by omega) (by omega)
  have sm1 : ∀ x : Int, (x = 0 ∧ x * x = 0) ∨ (x = 1 ∧ x * x = 1) ∨ (x = -1 ∧ x * x = 1) ∨ (x ≠ 0 ∧ x ≠ 1 ∧ x ≠ -1 ∧ 2 ≤ x * x) := fun x => by
    by_cases a : x = 0
    · rw [a]
      exact Or.inl ⟨rfl, rfl⟩
    · by_cases b : x = 1
      · rw [b]
        exact Or.inr (Or.inl ⟨rfl, rfl⟩)
      · by_cases c : x = -1
        · rw [c]
          exact Or.inr (Or.inr (Or.inl ⟨rfl, rfl⟩))
        · exact Or.inr (Or.inr (Or.inr ⟨a, b, c, sq_big a b c⟩))
  have h1 := pos r
  have h2 := pos q
  have a := sm1 r
  have b := sm1 q
  omega
-- ways by rounds
def BFb (br : Int → Int) (n c a : Int) (F : Int → Int) : Prop := (∀ e, 0 ≤ e → e < 9 → 0 ≤ F e ∧ F e ≤ 1000) ∧ ∀ e, 0 ≤ e → e < 9 → F e < 1000 → Op br n e ∧ Wk br n c (F e).toNat a e
def BFI (br : Int → Int) (n c a k : Int) (F : Int → Int) : Prop := BFb br n c a F ∧ (Op br n a → ∀ L : Nat, (L : Int) ≤ k → ∀ e, Wk br n c L a e → F e ≤ L)
def BFP (br : Int → Int) (n c a : Int) (F0 F : Int → Int) (x y : Int) : Prop := BFb br n c a F ∧ (∀ e, 0 ≤ e → e < 9 → F e ≤ F0 e) ∧ ∀ u v, (u < x ∨ (u = x ∧ v < y)) → Stq br n c u v → F v ≤ F0 u + 1
theorem BFI.init {br : Int → Int} {n c a k : Int} {F : Int → Int} (ha : 0 ≤ a ∧ a < n) (hn : n ≤ 9) (hk : k = 0) (h : ∀ e, 0 ≤ e → e < 9 → F e = if e = a ∧ br e = 0 then 0 else 1000) : BFI br n c a k F := by
  refine ⟨⟨fun e e0 e1 => ?_, fun e e0 e1 q => ?_⟩, fun ho L hL e hw => ?_⟩
  · rw [h e e0 e1]
    split <;> omega
  · rw [h e e0 e1] at q ⊢
    by_cases w : e = a ∧ br e = 0
    · rw [if_pos w]
      exact ⟨⟨by omega, by omega, w.2⟩, w.1.symm⟩
    · rw [if_neg w] at q
      omega
  · have hL0 : L = 0 := by omega
    subst hL0
    have e1 : a = e := hw
    subst e1
    rw [h a ha.1 (by omega), if_pos ⟨rfl, ho.2.2⟩]
    exact Int.le_refl _
theorem BFP.init {br : Int → Int} {n c a k x y : Int} {F : Int → Int} (h : BFI br n c a k F) (hx : x = 0) (hy : y = 0) : BFP br n c a F F x y :=
  ⟨h.1, fun _ _ _ => Int.le_refl _, fun u v q hs => by have := hs.1.1; have := hs.2.1.1; omega⟩
theorem BFP.skip {br : Int → Int} {n c a x y y1 : Int} {F0 F : Int → Int} (h : BFP br n c a F0 F x y) (hx : 0 ≤ x ∧ x < 9) (hs : ¬ Stq br n c x y ∨ F y ≤ F x + 1) (e : y1 = y + 1) : BFP br n c a F0 F x y1 := by
  obtain ⟨h1, h2, h3⟩ := h
  refine ⟨h1, h2, fun u v q w => ?_⟩
  by_cases e1 : u = x ∧ v = y
  · obtain ⟨rfl, rfl⟩ := e1
    rcases hs with hs | hs
    · exact absurd w hs
    · have := h2 u hx.1 hx.2
      omega
  · exact h3 u v (by omega) w
theorem BFP.take {br : Int → Int} {n c a x y y1 z : Int} {F0 F F1 : Int → Int} (h : BFP br n c a F0 F x y) (hx : 0 ≤ x ∧ x < 9) (hy : 0 ≤ y ∧ y < n) (hn : n ≤ 9) (hlt : F x + 1 < F y) (hb : br y = 0) (hN : Nbr c x y) (hF : ∀ e, F1 e = if e = y then z else F e) (hz : z = F x + 1) (e : y1 = y + 1) : BFP br n c a F0 F1 x y1 := by
  subst hz
  obtain ⟨⟨h0, h1⟩, h2, h3⟩ := h
  have hy9 := h0 y hy.1 (by omega)
  have hx9 := h0 x hx.1 hx.2
  have ox := h1 x hx.1 hx.2 (by omega)
  have st : Stq br n c x y := ⟨ox.1, ⟨hy.1, hy.2, hb⟩, hN⟩
  have le : ∀ e, F1 e ≤ F e := fun e => by
    rw [hF]
    split
    · rename_i q
      rw [q]
      omega
    · exact Int.le_refl _
  refine ⟨⟨fun e e0 e1 => ?_, fun e e0 e1 q => ?_⟩, fun e e0 e1 => Int.le_trans (le e) (h2 e e0 e1), fun u v q w => ?_⟩
  · have := h0 e e0 e1
    rw [hF]
    split <;> omega
  · rw [hF] at q ⊢
    by_cases w : e = y
    · rw [if_pos w]
      rw [w]
      refine ⟨st.2.1, ?_⟩
      rw [show (F x + 1).toNat = (F x).toNat + 1 by omega]
      exact ⟨x, ox.2, st⟩
    · rw [if_neg w] at q ⊢
      exact h1 e e0 e1 q
  · by_cases e1 : u = x ∧ v = y
    · obtain ⟨rfl, rfl⟩ := e1
      have := h2 u hx.1 hx.2
      rw [hF, if_pos rfl]
      omega
    · exact Int.le_trans (le v) (h3 u v (by omega) w)
theorem BFP.row {br : Int → Int} {n c a x x1 y y1 : Int} {F0 F : Int → Int} (h : BFP br n c a F0 F x y) (hy : n ≤ y) (e : x1 = x + 1) (e1 : y1 = 0) : BFP br n c a F0 F x1 y1 := by
  obtain ⟨h1, h2, h3⟩ := h
  exact ⟨h1, h2, fun u v q w => h3 u v (by have := w.2.1.1; have := w.2.1.2.1; omega) w⟩
theorem BFP.fin {br : Int → Int} {n c a k k1 x y : Int} {F0 F : Int → Int} (h : BFP br n c a F0 F x y) (h0 : BFI br n c a k F0) (hk : 0 ≤ k) (hx : n ≤ x) (hn : n ≤ 9) (e : k1 = k + 1) : BFI br n c a k1 F := by
  obtain ⟨h1, h2, h3⟩ := h
  refine ⟨h1, fun ho L hL f hw => ?_⟩
  have g0 := h0.2 ho
  match L, hw with
  | 0, hw =>
    have := g0 0 (by omega) f hw
    have e1 : a = f := hw
    have := h2 f (by rw [← e1]; exact ho.1) (by rw [← e1]; have := ho.2.1; omega)
    omega
  | j + 1, ⟨m, hw1, hst⟩ =>
    have q1 := h3 m f (Or.inl (by have := hst.1.2.1; omega)) hst
    by_cases q : ((j : Int)) ≤ k
    · have := g0 j q m hw1
      omega
    · omega
theorem Wk.end {br : Int → Int} {n c : Int} : ∀ {k : Nat} {a b : Int}, Wk br n c (k + 1) a b → Op br n a ∧ Op br n b
  | 0, a, b, ⟨m, h, st⟩ => by
    have e : a = m := h
    rw [e]
    exact ⟨st.1, st.2.1⟩
  | k + 1, a, b, ⟨m, h, st⟩ => ⟨(Wk.end h).1, st.2.1⟩
theorem Wk.cut {br : Int → Int} {n c : Int} : ∀ (j : Nat) {k : Nat} {a b : Int}, Wk br n c (k + j) a b → ∃ m, Wk br n c k a m ∧ Wk br n c j m b
  | 0, k, a, b, h => ⟨b, h, rfl⟩
  | j + 1, k, a, b, ⟨x, h, st⟩ => by
    obtain ⟨m, h1, h2⟩ := Wk.cut j h
    exact ⟨m, h1, x, h2, st⟩
/-- a shortest way passes as many cells as it has steps, and one -/
theorem WayOK.short {br : Int → Int} {n c : Int} {W : Int → Int} (hW : WayOK br n c W) {a b : Int} (ha : 0 ≤ a ∧ a < n) (hb : 0 ≤ b ∧ b < n) (hn : n ≤ 9) (hlt : W (a * 9 + b) < 1000) : W (a * 9 + b) ≤ n := by
  obtain ⟨h1, h2, h3⟩ := hW
  have hr := h1 a b ha.1 (by omega) hb.1 (by omega)
  have hw := h2 a b ha.1 (by omega) hb.1 (by omega) hlt
  have key : ∀ d : Nat, (d : Int) ≤ W (a * 9 + b) → (d : Int) + 1 ≤ sm (fun e => if W (a * 9 + e) ≤ d then 1 else 0) n.toNat := by
    intro d
    induction d with
    | zero =>
      intro _
      have z : W (a * 9 + a) ≤ (0 : Nat) := h3 a a ha.1 (by omega) ha.1 (by omega) 0 rfl
      have := sm_lt2 n.toNat (f := fun _ => 0) (g := fun e => if W (a * 9 + e) ≤ ((0 : Nat) : Int) then 1 else 0) (fun k k0 k1 => by
        show (0 : Int) ≤ if W (a * 9 + k) ≤ ((0 : Nat) : Int) then 1 else 0
        split <;> omega) a ha.1 (by omega) (by
        show (0 : Int) < if W (a * 9 + a) ≤ ((0 : Nat) : Int) then 1 else 0
        rw [if_pos z]
        omega)
      have := sm_zero n.toNat (f := fun _ => 0) (fun _ _ _ => rfl)
      omega
    | succ d ih =>
      intro hd
      have h0 := ih (by omega)
      have e : (W (a * 9 + b)).toNat = (d + 1) + ((W (a * 9 + b)).toNat - (d + 1)) := by omega
      rw [e] at hw
      obtain ⟨m, w1, w2⟩ := Wk.cut _ hw
      have om := (Wk.end w1).2
      have g1 := h3 a m ha.1 (by omega) om.1 (by have := om.2.1; omega) (d + 1) w1
      have gm := h1 a m ha.1 (by omega) om.1 (by have := om.2.1; omega)
      have wm := h2 a m ha.1 (by omega) om.1 (by have := om.2.1; omega) (by omega)
      have g2 := h3 a b ha.1 (by omega) hb.1 (by omega) _ (wm.app _ w2)
      have := sm_lt2 n.toNat (f := fun e => if W (a * 9 + e) ≤ (d : Int) then 1 else 0) (g := fun e => if W (a * 9 + e) ≤ ((d + 1 : Nat) : Int) then 1 else 0) (fun k k0 k1 => by
        show (if W (a * 9 + k) ≤ (d : Int) then (1 : Int) else 0) ≤ if W (a * 9 + k) ≤ ((d + 1 : Nat) : Int) then 1 else 0
        split <;> split <;> omega) m om.1 (by have := om.2.1; omega) (by
        show (if W (a * 9 + m) ≤ (d : Int) then (1 : Int) else 0) < if W (a * 9 + m) ≤ ((d + 1 : Nat) : Int) then 1 else 0
        rw [if_neg (by omega), if_pos (by omega)]
        omega)
      omega
  have k1 := key (W (a * 9 + b)).toNat (by omega)
  have k2 := sm_bd (f := fun e => if W (a * 9 + e) ≤ (((W (a * 9 + b)).toNat : Nat) : Int) then 1 else 0) n.toNat (fun k _ _ => by
    show (if W (a * 9 + k) ≤ (((W (a * 9 + b)).toNat : Nat) : Int) then (1 : Int) else 0) = 0 ∨ _ = 1
    split
    · exact Or.inr rfl
    · exact Or.inl rfl)
  omega
theorem WayOK.self {br : Int → Int} {n c : Int} {W : Int → Int} (hW : WayOK br n c W) {a : Int} (ha : 0 ≤ a ∧ a < 9) : W (a * 9 + a) = 0 := by
  have h1 := hW.1 a a ha.1 ha.2 ha.1 ha.2
  have h2 := hW.2.2 a a ha.1 ha.2 ha.1 ha.2 0 rfl
  omega
theorem BFI.way {br : Int → Int} {n c a b k : Int} {W F : Int → Int} (h : BFI br n c a k F) (hW : WayOK br n c W) (ha : 0 ≤ a ∧ a < n) (hb : 0 ≤ b ∧ b < n) (hn : n ≤ 9) (hk : n ≤ k) (hne : a ≠ b) : F b = W (a * 9 + b) := by
  have f0 := h.1.1 b hb.1 (by omega)
  have w0 := hW.1 a b ha.1 (by omega) hb.1 (by omega)
  have l1 : W (a * 9 + b) ≤ F b := by
    by_cases q : F b < 1000
    · have := hW.2.2 a b ha.1 (by omega) hb.1 (by omega) _ (h.1.2 b hb.1 (by omega) q).2
      omega
    · omega
  have l2 : F b ≤ W (a * 9 + b) := by
    by_cases q : W (a * 9 + b) < 1000
    · have hs := hW.short ha hb hn q
      have hw := hW.2.1 a b ha.1 (by omega) hb.1 (by omega) q
      have oa : Op br n a := by
        cases e : (W (a * 9 + b)).toNat with
        | zero =>
          rw [e] at hw
          exact absurd hw hne
        | succ j =>
          rw [e] at hw
          exact (Wk.end hw).1
      have := h.2 oa _ (by omega) b hw
      omega
    · omega
  omega
def WayM (σ : MM) (W : Int → Int) : Prop := WayOK (σ 35) (σ 65 0 * σ 66 0) (σ 66 0) W
