/-! PURE: rounds stepped beat by beat; places -/
def cnK (ki : Int → Int) (n : Int) : Int := sm (fun c => if ki c = 3 then 1 else 0) n.toNat
/-- least beat for the places of a board with u unbroken cells, m of them multiplying, c acts, p products -/
def PBx (c p u m z : Int) : Prop := ((u = 0 ∨ (0 < p ∧ m = 0)) ∧ z = -6) ∨ (u ≠ 0 ∧ p = 0 ∧ z = cdiv c u) ∨ (u ≠ 0 ∧ 0 < p ∧ m ≠ 0 ∧ cdiv c u ≤ z ∧ cdiv p m ≤ z ∧ (z = cdiv c u ∨ z = cdiv p m))
def PBX (σ : MM) (z : Int) : Prop := PBx (σ 53 0) (cnK (σ 2) (σ 53 0)) (cn0 (σ 11) (σ 56 0 * σ 57 0)) (cn2 (σ 11) (σ 12) (σ 56 0 * σ 57 0)) z
/-- all that begins before a beat, and what begins at it of the acts before one, stands in V -/
def SBx (σ : MM) (V : Int → Int) (R bt act : Int) : Prop := ∀ a r, 0 ≤ a → a < σ 53 0 → 0 ≤ r → r < R → (σ 16 a + σ 58 0 * r < bt ∨ (σ 16 a + σ 58 0 * r = bt ∧ a < act)) → iI (V (a * 61 + r)) = VALx σ V a r
theorem mul_inj {b x y : Int} (hb : 0 < b) (h : b * x = b * y) : x = y := Int.eq_of_mul_eq_mul_left (by omega) h
theorem SBx.make {σ : MM} {V V2 : Int → Int} {R bt act r v : Int} (h : SBx σ V R bt act) (hc : σ 53 0 ≤ 8) (hR : R ≤ 61) (hb : 0 < σ 58 0) (hD : DatOK σ) (hsrc : SrcOK (σ 5) (σ 53 0)) (hdist : ∀ s, 0 ≤ σ 6 s ∧ σ 6 s ≤ 3) (hway : ∀ x, 0 ≤ σ 13 x)
    (hL : ∀ s, 0 ≤ s → s < 2 * σ 53 0 → ¬ P4x σ s) (ha : 0 ≤ act ∧ act < σ 53 0) (hr : 0 ≤ r ∧ r < R) (hT : σ 16 act + σ 58 0 * r = bt) (hv : iI v = VALx σ V act r) (h2 : ∀ b, V2 b = if b = act * 61 + r then v else V b) : SBx σ V2 R bt (act + 1) := by
  have key : ∀ a r1, 0 ≤ a → a < σ 53 0 → 0 ≤ r1 → r1 < R → σ 16 a + σ 58 0 * r1 ≤ bt → VALx σ V2 a r1 = VALx σ V a r1 := by
    intro a r1 a0 a1 r0 r2 ht
    refine VAL_congr ?_
    rcases hD a a0 a1 with k | k
    · exact Or.inl k.1
    · refine Or.inr fun s hs hts => ?_
      rw [h2, if_neg]
      intro q
      have hds := hdist s
      have s2 : s / 2 = a := by omega
      have s0 : 0 ≤ s := by omega
      have s1 : s < 2 * σ 53 0 := by omega
      have hu : 0 ≤ σ 5 s ∧ σ 5 s < σ 53 0 := by
        rcases hsrc s s0 s1 with e | e
        · rcases hs with rfl | rfl <;> omega
        · exact e
      have e1 : σ 5 s = act := by omega
      have e2 : r1 - σ 6 s = r := by omega
      have hl := hL s s0 s1
      rw [late_iff] at hl
      have hw := hway (σ 15 (σ 5 s) * 9 + σ 15 (s / 2))
      have hu2 : madeX σ (σ 5 s) ≤ useX σ s := by
        by_cases g : useX σ s < madeX σ (σ 5 s) + σ 13 (σ 15 (σ 5 s) * 9 + σ 15 (s / 2))
        · exact absurd ⟨by omega, Or.inr g⟩ hl
        · omega
      unfold madeX useX at hu2
      have hlen := lenF_bd (kd := σ 2) (a := σ 5 s)
      rw [s2] at hu2
      rw [e1] at hu2 hlen
      rw [← e2, Int.mul_sub] at hT
      omega
  intro a r1 a0 a1 r0 r2 ht
  by_cases q : a = act ∧ r1 = r
  · obtain ⟨rfl, rfl⟩ := q
    rw [key a r1 a0 a1 r0 r2 (by omega), h2, if_pos rfl]
    exact hv
  · rw [key a r1 a0 a1 r0 r2 (by omega), h2, if_neg (by omega)]
    refine h a r1 a0 a1 r0 r2 ?_
    rcases ht with ht | ⟨t1, t2⟩
    · exact Or.inl ht
    · refine Or.inr ⟨t1, ?_⟩
      by_cases e : a = act
      · subst e
        exact absurd ⟨rfl, mul_inj hb (by omega)⟩ q
      · omega
theorem SBx.skip {σ : MM} {V : Int → Int} {R bt act : Int} (h : SBx σ V R bt act) (hn : ∀ r, 0 ≤ r → r < R → σ 16 act + σ 58 0 * r ≠ bt) : SBx σ V R bt (act + 1) := by
  intro a r a0 a1 r0 r1 ht
  refine h a r a0 a1 r0 r1 ?_
  rcases ht with ht | ⟨t1, t2⟩
  · exact Or.inl ht
  · refine Or.inr ⟨t1, ?_⟩
    by_cases e : a = act
    · subst e
      exact absurd t1 (hn r r0 r1)
    · omega
theorem SBx.init {σ : MM} {V : Int → Int} {R : Int} (h : ∀ a, 0 ≤ σ 16 a) (hb : 0 ≤ σ 58 0) : SBx σ V R 0 0 := by
  intro a r a0 a1 r0 r1 ht
  have := h a
  have := Int.mul_nonneg hb r0
  omega
theorem SBx.beat {σ : MM} {V : Int → Int} {R bt act : Int} (h : SBx σ V R bt act) (ha : σ 53 0 ≤ act) : SBx σ V R (bt + 1) 0 := by
  intro a r a0 a1 r0 r1 ht
  exact h a r a0 a1 r0 r1 (by omega)
theorem SBx.fin {σ : MM} {V : Int → Int} {R bt act : Int} (h : SBx σ V R bt act) (hb : 0 ≤ σ 58 0) (he : ∀ a, 0 ≤ a → a < σ 53 0 → madeX σ a + (R - 1) * σ 58 0 ≤ bt) : EQs σ V R := by
  intro r a r0 r1 a0 a1
  refine h a r a0 a1 r0 r1 (Or.inl ?_)
  have h1 := he a a0 a1
  have h2 := Int.mul_le_mul_of_nonneg_left (show r ≤ R - 1 by omega) hb
  have hlen := lenF_bd (kd := σ 2) (a := a)
  unfold madeX at h1
  rw [Int.mul_comm (R - 1)] at h1
  omega
theorem rs_hit {st b t z : Int} (h : RS st b t z) (hz : 0 ≤ z) : st + b * z = t := by
  rcases h with ⟨h1, h2, rfl⟩ | ⟨-, h2⟩
  · have := Int.mul_ediv_add_emod (t - st) b
    omega
  · omega
theorem rs_miss {st b t z R : Int} (h : RS st b t z) (hb : 0 < b) (hz : z < 0 ∨ R ≤ z) (r : Int) (r0 : 0 ≤ r) (r1 : r < R) : st + b * r ≠ t := by
  intro q
  have e1 : t - st = b * r := by omega
  have e2 := Int.mul_nonneg (show 0 ≤ b by omega) r0
  rcases h with ⟨h1, h2, h3⟩ | ⟨h1, -⟩
  · rw [e1, Int.mul_ediv_cancel_left r (by omega)] at h3
    omega
  · rcases h1 with h1 | h1
    · omega
    · exact h1 (by rw [e1]; exact Int.mul_emod_right b r)
