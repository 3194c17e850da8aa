/-! PURE: the model's own words: what is sound, what is made -/
def sM (kd op : Int → Int) : Int → Int := fun s => if kd (s / 2) = 0 then -6 else op s
theorem sM_0 {kd op : Int → Int} {s : Int} (h : kd (s / 2) = 0) : sM kd op s = -6 := if_pos h
theorem sM_1 {kd op : Int → Int} {s : Int} (h : kd (s / 2) ≠ 0) : sM kd op s = op s := if_neg h
theorem hf0 (a : Int) : (2 * a) / 2 = a := by omega
theorem hf1 (a : Int) : (2 * a + 1) / 2 = a := by omega
def Snd (src di : Int → Int) (c : Int) : Prop := ∃ ord o : Int → Int, AR src di c ord o c
theorem AR.sub {src di : Int → Int} {c : Int} {ord o o1 : Int → Int} {n : Int} (h : AR src di c ord o n) (hS : Stuck src di c o1) (h1 : ∀ a, 0 ≤ a → a < c → o1 a = 0 ∨ o1 a = 1) : ∀ (i : Nat) (j : Int), 0 ≤ j → j < n → j < i → o1 (ord j) = 1
  | 0, j, j0, j1, j2 => by omega
  | i + 1, j, j0, j1, j2 => by
    by_cases e : j < i
    · exact AR.sub h hS h1 i j j0 j1 e
    · obtain ⟨g0, g1, g2, g3, g4⟩ := h.2.2.1 j j0 j1
      have dep : ∀ s, Dep src di c ord j s → CF src di c o1 s := fun s hs => by
        rcases hs with q | ⟨q1, q2, q3⟩
        · exact Or.inl q
        · refine Or.inr ⟨q1, q2, ?_⟩
          rcases q3 with q3 | ⟨m, m0, m1, m2⟩
          · exact Or.inl q3
          · exact Or.inr (by rw [← m2]; exact AR.sub h hS h1 i m m0 (by omega) (by omega))
      rcases h1 (ord j) g0 g1 with q | q
      · exact absurd ⟨dep _ g3, dep _ g4⟩ (hS (ord j) g0 g1 q)
      · exact q
theorem AR.all {src di : Int → Int} {c : Int} {ord o : Int → Int} (h : AR src di c ord o c) (a : Int) (a0 : 0 ≤ a) (a1 : a < c) : ∃ i, 0 ≤ i ∧ i < c ∧ ord i = a := by
  obtain ⟨⟨h1, h2, h3⟩, h4, h5, h6, h7⟩ := h
  exact h6 a a0 a1 (sm_all c.toNat (fun k k0 k1 => h4 k k0 (by omega)) (by omega) a a0 (by omega))
theorem snd_full {src di : Int → Int} {c : Int} {ord o ord1 o1 : Int → Int} {n1 : Int} (h : AR src di c ord o c) (h1 : AR src di c ord1 o1 n1) (hS : Stuck src di c o1) : n1 = c := by
  have h0 := h1.1
  have hall : ∀ k : Int, 0 ≤ k → k < c.toNat → o1 k = 1 := fun k k0 k1 => by
    obtain ⟨i, i0, i1, i2⟩ := h.all k k0 (by omega)
    rw [← i2]
    exact h.sub hS h1.2.1 (i.toNat + 1) i i0 i1 (by omega)
  have := sm_one c.toNat hall
  omega
theorem snd_iff {src di : Int → Int} {c : Int} {ord1 o1 : Int → Int} {n1 : Int} (h1 : AR src di c ord1 o1 n1) (hS : Stuck src di c o1) : n1 = c ↔ Snd src di c := by
  constructor
  · intro e
    rw [e] at h1
    exact ⟨ord1, o1, h1⟩
  · rintro ⟨ord, o, h⟩
    exact snd_full h h1 hS
theorem Dep.congr {src di src1 di1 : Int → Int} {c : Int} {ord : Int → Int} {i s : Int} (h : Dep src di c ord i s) (hs : src1 s = src s) (hd : src s ≠ -6 → di1 s = di s) : Dep src1 di1 c ord i s := by
  unfold Dep
  rw [hs]
  rcases h with h | ⟨h1, h2, h3⟩
  · exact Or.inl h
  · rw [hd (by omega)]
    exact Or.inr ⟨h1, h2, h3⟩
theorem Snd.congr {src di src1 di1 : Int → Int} {c : Int} (h : Snd src di c) (hs : ∀ s, 0 ≤ s → s < 2 * c → src1 s = src s) (hd : ∀ s, 0 ≤ s → s < 2 * c → src s ≠ -6 → di1 s = di s) : Snd src1 di1 c := by
  obtain ⟨ord, o, h1, h2, h3, h4, h5⟩ := h
  refine ⟨ord, o, h1, h2, fun i i0 i1 => ?_, h4, h5⟩
  obtain ⟨g0, g1, g2, g3, g4⟩ := h3 i i0 i1
  exact ⟨g0, g1, g2, g3.congr (hs _ (by omega) (by omega)) (hd _ (by omega) (by omega)), g4.congr (hs _ (by omega) (by omega)) (hd _ (by omega) (by omega))⟩
def OpA (kd op : Int → Int) (c a : Int) : Prop := kd a = 0 ∨ (0 ≤ op (2 * a) ∧ op (2 * a) < c ∧ 0 ≤ op (2 * a + 1) ∧ op (2 * a + 1) < c)
theorem Snd.ops {kd op di : Int → Int} {c : Int} (h : Snd (sM kd op) di c) (hop : ∀ s, 0 ≤ op s) (a : Int) (a0 : 0 ≤ a) (a1 : a < c) : OpA kd op c a := by
  obtain ⟨ord, o, h⟩ := h
  by_cases e : kd a = 0
  · exact Or.inl e
  · obtain ⟨i, i0, i1, i2⟩ := h.all a a0 a1
    obtain ⟨-, -, -, g3, g4⟩ := h.2.2.1 i i0 i1
    rw [i2] at g3 g4
    unfold Dep at g3 g4
    rw [sM_1 (by rw [hf0]; exact e)] at g3
    rw [sM_1 (by rw [hf1]; exact e)] at g4
    have := hop (2 * a)
    have := hop (2 * a + 1)
    exact Or.inr ⟨by omega, by omega, by omega, by omega⟩
def ARe (src di : Int → Int) (c : Int) (o : Int → Int) (n : Int) : Prop := ∃ ord, AR src di c ord o n
def PSe (src di : Int → Int) (c : Int) (o0 : Int → Int) (n0 act : Int) (o : Int → Int) (n : Int) : Prop := ∃ ord, PS src di c o0 n0 act ord o n
theorem ARe.init {src di : Int → Int} {c : Int} {o : Int → Int} (hc : 0 ≤ c) (h : ∀ a, 0 ≤ a → a < c → o a = 0) : ARe src di c o 0 := ⟨fun _ => 0, AR.init hc h⟩
theorem PSe.init {src di : Int → Int} {c : Int} {o : Int → Int} {n : Int} (h : ARe src di c o n) : PSe src di c o n 0 o n := by
  obtain ⟨ord, h⟩ := h
  exact ⟨ord, PS.init h⟩
theorem PSe.skip {src di : Int → Int} {c : Int} {o0 : Int → Int} {n0 act a1 : Int} {o : Int → Int} {n : Int} (h : PSe src di c o0 n0 act o n) (hs : o act ≠ 0 ∨ ¬ CF2 src di c o act) (e : a1 = act + 1) : PSe src di c o0 n0 a1 o n := by
  obtain ⟨ord, h⟩ := h
  exact ⟨ord, e ▸ h.skip hs⟩
theorem PSe.take {src di : Int → Int} {c : Int} {o0 : Int → Int} {n0 act a1 : Int} {o o1 : Int → Int} {n n1 : Int} (h : PSe src di c o0 n0 act o n) (h0 : 0 ≤ act) (hc : act < c) (ha : o act = 0) (hf : CF2 src di c o act) (ho : ∀ b, o1 b = if b = act then 1 else o b) (e : a1 = act + 1) (en : n1 = n + 1) : PSe src di c o0 n0 a1 o1 n1 := by
  obtain ⟨ord, h⟩ := h
  rw [e, en]
  exact ⟨fun b => if b = n then act else ord b, h.take h0 hc ha hf ho (fun _ => rfl)⟩
theorem PSe.fin {src di : Int → Int} {c p : Int} {o0 : Int → Int} {n0 act : Int} {o : Int → Int} {n : Int} (h : PSe src di c o0 n0 act o n) (hc : c ≤ act) (hp : p ≤ n0 ∨ Stuck src di c o0) : ARe src di c o n ∧ (p + 1 ≤ n ∨ Stuck src di c o) := by
  obtain ⟨ord, h⟩ := h
  have := h.fin hc hp
  exact ⟨⟨ord, this.1⟩, this.2⟩
theorem PSe.ar {src di : Int → Int} {c : Int} {o0 : Int → Int} {n0 act : Int} {o : Int → Int} {n : Int} (h : PSe src di c o0 n0 act o n) : ARe src di c o n ∧ n0 ≤ n := by
  obtain ⟨ord, h⟩ := h
  exact ⟨⟨ord, h.1⟩, h.2.1⟩
theorem ARe.rng {src di : Int → Int} {c : Int} {o : Int → Int} {n : Int} (h : ARe src di c o n) : 0 ≤ n ∧ n ≤ c := by
  obtain ⟨ord, h⟩ := h
  exact ⟨h.1.1, h.1.2.1⟩
theorem ARe.lt {src di : Int → Int} {c : Int} {o : Int → Int} {n a : Int} (h : ARe src di c o n) (h0 : 0 ≤ a) (h1 : a < c) (ha : o a = 0) : n < c := by
  obtain ⟨ord, h⟩ := h
  exact h.lt h0 h1 ha
theorem ARe.snd {src di : Int → Int} {c : Int} {o : Int → Int} {n : Int} (h : ARe src di c o n) (hS : Stuck src di c o) : n = c ↔ Snd src di c := by
  obtain ⟨ord, h⟩ := h
  exact snd_iff h hS
theorem ARe.stuck {src di : Int → Int} {c : Int} {o : Int → Int} {n : Int} (h : ARe src di c o n) (hp : c ≤ n ∨ Stuck src di c o) : Stuck src di c o := by
  obtain ⟨ord, h⟩ := h
  exact h.stuck hp
theorem ARe.one {src di : Int → Int} {c : Int} {o : Int → Int} (h : ARe src di c o c) (a : Int) (a0 : 0 ≤ a) (a1 : a < c) : o a = 1 := by
  obtain ⟨ord, ⟨h1, h2, h3⟩, h4, -⟩ := h
  exact sm_all c.toNat (fun k k0 k1 => h4 k k0 (by omega)) (by omega) a a0 (by omega)
theorem ARe.cf2 {src di : Int → Int} {c : Int} {o : Int → Int} {n a : Int} (h : ARe src di c o n) (a0 : 0 ≤ a) (a1 : a < c) (ha : o a = 1) : CF2 src di c o a := by
  obtain ⟨ord, h1, h2, h3, h4, h5⟩ := h
  obtain ⟨i, i0, i1, i2⟩ := h4 a a0 a1 ha
  obtain ⟨-, -, -, g3, g4⟩ := h3 i i0 i1
  rw [i2] at g3 g4
  have dep : ∀ s, Dep src di c ord i s → CF src di c o s := fun s hs => by
    rcases hs with q | ⟨q1, q2, q3⟩
    · exact Or.inl q
    · refine Or.inr ⟨q1, q2, ?_⟩
      rcases q3 with q3 | ⟨m, m0, m1, m2⟩
      · exact Or.inl q3
      · exact Or.inr (by rw [← m2]; exact (h3 m m0 (by omega)).2.2.1)
  exact ⟨dep _ g3, dep _ g4⟩
/-- an act's operands of its own round are done -/
def RdM (kd op di o : Int → Int) (a : Int) : Prop := kd a = 0 ∨ ((0 < di (2 * a) ∨ o (op (2 * a)) = 1) ∧ (0 < di (2 * a + 1) ∨ o (op (2 * a + 1)) = 1))
theorem rd_iff {kd op di o : Int → Int} {c a : Int} (h : OpA kd op c a) : RdM kd op di o a ↔ CF2 (sM kd op) di c o a := by
  unfold RdM CF2 CF
  by_cases e : kd a = 0
  · rw [sM_0 (by rw [hf0]; exact e), sM_0 (by rw [hf1]; exact e)]
    exact ⟨fun _ => ⟨Or.inl rfl, Or.inl rfl⟩, fun _ => Or.inl e⟩
  · rw [sM_1 (by rw [hf0]; exact e), sM_1 (by rw [hf1]; exact e)]
    rcases h with h | ⟨h1, h2, h3, h4⟩
    · exact absurd h e
    · constructor
      · rintro (q | ⟨q1, q2⟩)
        · exact absurd q e
        · exact ⟨Or.inr ⟨h1, h2, q1⟩, Or.inr ⟨h3, h4, q2⟩⟩
      · rintro ⟨q1, q2⟩
        refine Or.inr ⟨?_, ?_⟩
        · rcases q1 with q | q
          · omega
          · exact q.2.2
        · rcases q2 with q | q
          · omega
          · exact q.2.2
def RdI (Q : Int → Prop) (a k z : Int) : Prop := (z = 1 ∧ ∀ j, 2 * a ≤ j → j < k → Q j) ∨ (z = 0 ∧ ¬ ∀ j, 2 * a ≤ j → j < k → Q j)
theorem RdI.init {Q : Int → Prop} {a k z : Int} (hz : z = 1) (hk : k = 2 * a) : RdI Q a k z := Or.inl ⟨hz, fun j j0 j1 => by omega⟩
theorem RdI.yes {Q : Int → Prop} {a k k1 z z1 : Int} (h : RdI Q a k z) (hz : z ≠ 0) (hq : Q k) (e : k1 = k + 1) (ez : z1 = 1) : RdI Q a k1 z1 := by
  rcases h with ⟨-, h⟩ | ⟨h, -⟩
  · refine Or.inl ⟨ez, fun j j0 j1 => ?_⟩
    by_cases q : j = k
    · rw [q]
      exact hq
    · exact h j j0 (by omega)
  · exact absurd h hz
theorem RdI.no {Q : Int → Prop} {a k k1 z z1 : Int} (h : RdI Q a k z) (hk : 2 * a ≤ k) (hq : z = 0 ∨ ¬ Q k) (e : k1 = k + 1) (ez : z1 = 0) : RdI Q a k1 z1 := by
  refine Or.inr ⟨ez, fun g => ?_⟩
  rcases hq with hq | hq
  · rcases h with ⟨h, -⟩ | ⟨-, h⟩
    · omega
    · exact h fun j j0 j1 => g j j0 (by omega)
  · exact hq (g k hk (by omega))
theorem RdI.fin {kd op di o : Int → Int} {a k z : Int} (h : RdI (fun j => 0 < di j ∨ o (op j) = 1) a k z) (hk : (k = 2 * a ∧ kd a = 0) ∨ (k = 2 * a + 2 ∧ kd a ≠ 0)) : (z = 1 ∧ RdM kd op di o a) ∨ (z = 0 ∧ ¬ RdM kd op di o a) := by
  rcases hk with ⟨rfl, hk⟩ | ⟨rfl, hk⟩
  · rcases h with ⟨h, -⟩ | ⟨-, h⟩
    · exact Or.inl ⟨h, Or.inl hk⟩
    · exact absurd (fun j j0 j1 => by omega) h
  · rcases h with ⟨h, g⟩ | ⟨h, g⟩
    · exact Or.inl ⟨h, Or.inr ⟨g _ (by omega) (by omega), g _ (by omega) (by omega)⟩⟩
    · refine Or.inr ⟨h, fun q => g fun j j0 j1 => ?_⟩
      rcases q with q | ⟨q1, q2⟩
      · exact absurd q hk
      · rcases (by omega : j = 2 * a ∨ j = 2 * a + 1) with e | e <;> rw [e]
        · exact q1
        · exact q2
-- values
def trW (W : Int → Int) : Int → Int := fun i => W (8 * (i % 61) + i / 61)
theorem trW_at {W : Int → Int} {a t : Int} (ht : 0 ≤ t ∧ t ≤ 60) : trW W (a * 61 + t) = W (8 * t + a) := by
  unfold trW
  rw [show (a * 61 + t) % 61 = t by omega, show (a * 61 + t) / 61 = a by omega]
def VALm (σ : MM) (W : Int → Int) (a t : Int) : Int32 := VAL (σ 28) (σ 31) (σ 32) (σ 29) (σ 30) (trW W) (σ 62 0) a t
def EQm (σ : MM) (W : Int → Int) (T : Int) : Prop := ∀ t a, 0 ≤ t → t < T → 0 ≤ a → a < σ 61 0 → iI (W (8 * t + a)) = VALm σ W a t
def opM (op di W : Int → Int) (f s t : Int) : Int := if t - di s < 0 then f else W (8 * (t - di s) + op s)
theorem opM_eq {op di W : Int → Int} {f s t : Int} (hd : 0 ≤ di s) (ht : t ≤ 60) : opV op di (trW W) f s t = opM op di W f s t := by
  unfold opV opM
  split
  · rfl
  · exact trW_at ⟨by omega, by omega⟩
theorem i32_eq {x y : Int32} (h1 : ¬ x < y) (h2 : ¬ y < x) : x = y := by
  rw [Int32.lt_iff_toInt_lt] at h1 h2
  exact Int32.toInt_inj.mp (by omega)
def WKm (σ : MM) (W0 : Int → Int) (t : Int) (W o : Int → Int) : Prop := (∀ a t1, 0 ≤ a → a < 8 → 0 ≤ t1 → t1 ≤ 60 → t1 ≠ t → W (8 * t1 + a) = W0 (8 * t1 + a)) ∧ ∀ a, 0 ≤ a → a < σ 61 0 → o a = 1 → iI (W (8 * t + a)) = VALm σ W a t
theorem WKm.init {σ : MM} {W o : Int → Int} {t : Int} (h : ∀ a, 0 ≤ a → a < σ 61 0 → o a = 0) : WKm σ W t W o := ⟨fun _ _ _ _ _ _ _ => rfl, fun a a0 a1 q => by rw [h a a0 a1] at q; omega⟩
theorem VALm_congr {σ : MM} {W W1 : Int → Int} {a t : Int} (hdi : ∀ s, 0 ≤ σ 30 s) (ht : t ≤ 60) (h : σ 28 a = 0 ∨ ∀ s, (s = 2 * a ∨ s = 2 * a + 1) → 0 ≤ t - σ 30 s → W1 (8 * (t - σ 30 s) + σ 29 s) = W (8 * (t - σ 30 s) + σ 29 s)) : VALm σ W1 a t = VALm σ W a t := by
  refine VAL_congr ?_
  rcases h with h | h
  · exact Or.inl h
  · refine Or.inr fun s hs hts => ?_
    have := hdi s
    rw [trW_at ⟨hts, by omega⟩, trW_at ⟨hts, by omega⟩]
    exact h s hs hts
theorem WKm.make {σ : MM} {W0 W W2 o o2 : Int → Int} {t n a v : Int} (h : WKm σ W0 t W o) (hA : ARe (sM (σ 28) (σ 29)) (σ 30) (σ 61 0) o n) (hdi : ∀ s, 0 ≤ σ 30 s) (hop : ∀ s, 0 ≤ σ 29 s ∧ σ 29 s ≤ 7) (ht : 0 ≤ t ∧ t ≤ 60) (hc : σ 61 0 ≤ 8) (ha : 0 ≤ a ∧ a < σ 61 0) (hoa : o a = 0) (hf : CF2 (sM (σ 28) (σ 29)) (σ 30) (σ 61 0) o a)
    (hv : iI v = VALm σ W a t) (h2 : ∀ b, W2 b = if b = 8 * t + a then v else W b) (ho : ∀ b, o2 b = if b = a then 1 else o b) : WKm σ W0 t W2 o2 := by
  obtain ⟨h1, h3⟩ := h
  have key : ∀ b, 0 ≤ b → b < σ 61 0 → CF2 (sM (σ 28) (σ 29)) (σ 30) (σ 61 0) o b → VALm σ W2 b t = VALm σ W b t := by
    intro b b0 b1 hb
    refine VALm_congr hdi ht.2 ?_
    by_cases e : σ 28 b = 0
    · exact Or.inl e
    · refine Or.inr fun s hs hts => ?_
      have hsb : s / 2 = b := by omega
      have hcf : CF (sM (σ 28) (σ 29)) (σ 30) (σ 61 0) o s := by
        rcases hs with rfl | rfl
        · exact hb.1
        · exact hb.2
      unfold CF at hcf
      rw [sM_1 (by rw [hsb]; exact e)] at hcf
      have := hop s
      rw [h2, if_neg]
      intro q
      have e1 : σ 29 s = a := by omega
      rw [e1, hoa] at hcf
      omega
  refine ⟨fun b t1 b0 b1 t0 t2 tn => ?_, fun b b0 b1 hb => ?_⟩
  · rw [h2, if_neg (by omega)]
    exact h1 b t1 b0 b1 t0 t2 tn
  · by_cases e : b = a
    · subst e
      rw [key b b0 b1 hf, h2, if_pos rfl]
      exact hv
    · rw [ho, if_neg e] at hb
      rw [key b b0 b1 (hA.cf2 b0 b1 hb), h2, if_neg (by omega)]
      exact h3 b b0 b1 hb
theorem WKm.fin {σ : MM} {W0 W o : Int → Int} {t : Int} (h : WKm σ W0 t W o) (hE : EQm σ W0 t) (hdi : ∀ s, 0 ≤ σ 30 s) (hop : ∀ s, 0 ≤ σ 29 s ∧ σ 29 s ≤ 7) (ht : 0 ≤ t ∧ t ≤ 60) (hc : σ 61 0 ≤ 8) (ho : ∀ a, 0 ≤ a → a < σ 61 0 → o a = 1) : EQm σ W (t + 1) := by
  intro t1 a t0 t2 a0 a1
  by_cases e : t1 = t
  · subst e
    exact h.2 a a0 a1 (ho a a0 a1)
  · rw [h.1 a t1 a0 (by omega) t0 (by omega) e, hE t1 a t0 (by omega) a0 a1]
    refine (VALm_congr hdi (by omega) (Or.inr fun s hs hts => ?_)).symm
    have := hop s
    have := hdi s
    exact h.1 _ _ (by omega) (by omega) hts (by omega) (by omega)
def SndM (σ : MM) : Prop := Snd (sM (σ 28) (σ 29)) (σ 30) (σ 61 0)
theorem SndM.keep {σ τ : MM} {L : List Nat} (h : SndM σ) (m : Mod L σ τ) (hL : ([28, 29, 30, 61] : List Nat).all (fun r => !(L.contains r)) = true) : SndM τ := by
  have e : ∀ r ∈ ([28, 29, 30, 61] : List Nat), τ r = σ r := fun r hr => m.at r (by have := List.all_eq_true.mp hL r hr; simpa using this)
  unfold SndM at *
  rw [e 28 (by decide), e 29 (by decide), e 30 (by decide), e 61 (by decide)]
  exact h
def AddI (σ σ1 : MM) (p q : Int) : Prop := σ1 61 0 = σ 61 0 + 1 ∧ (∀ b : Int, σ1 28 b = if b = σ 61 0 then 0 else σ 28 b) ∧ σ1 63 0 = 0 ∧ σ1 64 0 = 0 ∧ (∀ b : Int, σ1 31 b = if b = σ 61 0 then p else σ 31 b) ∧ ∀ b : Int, σ1 32 b = if b = σ 61 0 then q else σ 32 b
def AddA (σ σ1 : MM) (kd a da b db : Int) : Prop := σ1 61 0 = σ 61 0 + 1 ∧ (∀ e : Int, σ1 28 e = if e = σ 61 0 then kd else σ 28 e) ∧ σ1 63 0 = 0 ∧ σ1 64 0 = 0 ∧ (∀ e : Int, σ1 29 e = if e = 2 * σ 61 0 then a else if e = 2 * σ 61 0 + 1 then b else σ 29 e) ∧ ∀ e : Int, σ1 30 e = if e = 2 * σ 61 0 then da else if e = 2 * σ 61 0 + 1 then db else σ 30 e
