/-! PURE: the search of a beat -/
def cdiv (x n : Int) : Int := -((-x) / n)
theorem xor_sign {a b : Int} (ha : inr a) (hb : 0 ≤ b ∧ b ≤ 2147483647) : 0 ≤ (iI a ^^^ iI b).toInt ↔ 0 ≤ a := by
  have e1 : (iI a ^^^ iI b).toInt < 0 ↔ a < 0 := by
    have h1 : ∀ x : Int32, x.toInt < 0 ↔ x.toBitVec.msb = true := fun x => by
      rw [BitVec.msb_eq_toInt, decide_eq_true_iff]
      exact Iff.rfl
    rw [h1, Int32.toBitVec_xor, BitVec.msb_xor]
    have h2 := h1 (iI a)
    have h3 := h1 (iI b)
    rw [iI_toInt ha] at h2
    rw [iI_toInt ⟨by omega, by omega⟩] at h3
    have h4 : (iI b).toBitVec.msb = false := by
      cases q : (iI b).toBitVec.msb with
      | false => rfl
      | true =>
        have := h3.mpr q
        omega
    rw [h4, Bool.xor_false]
    exact h2.symm
  omega
theorem tdiv_neg {x y : Int} (hx : x < 0) (hy : 0 < y) : x.tdiv y = -((-x) / y) := by
  have h := Int.neg_tdiv (a := -x) (b := y)
  rw [Int.neg_neg] at h
  rw [h, Int.tdiv_eq_ediv_of_nonneg (by omega)]
theorem fd_of {x y : Int} (hx : x < 0) (hy : 0 < y) : (x.tdiv y * y = x → x / y = x.tdiv y) ∧ (x.tdiv y * y ≠ x → x / y = x.tdiv y - 1) ∧ x ≤ x.tdiv y * y ∧ x.tdiv y * y ≤ 0 ∧ x ≤ x.tdiv y ∧ x.tdiv y ≤ 0 := by
  have e := tdiv_neg hx hy
  have h1 := Int.mul_ediv_add_emod (-x) y
  have h2 := Int.emod_nonneg (-x) (show y ≠ 0 by omega)
  have h3 := Int.emod_lt_of_pos (-x) hy
  have h4 := Int.ediv_nonneg (show 0 ≤ -x by omega) (show 0 ≤ y by omega)
  have h5 := Int.ediv_le_self (b := y) (show 0 ≤ -x by omega)
  have f1 := Int.mul_ediv_add_emod x y
  have f2 := Int.emod_nonneg x (show y ≠ 0 by omega)
  have f3 := Int.emod_lt_of_pos x hy
  rw [e]
  have m1 : -((-x) / y) * y = -(y * ((-x) / y)) := by rw [Int.neg_mul, Int.mul_comm]
  rw [m1]
  have p1 : 0 ≤ y * ((-x) / y) := Int.mul_nonneg (by omega) h4
  refine ⟨fun q => ?_, fun q => ?_, by omega, by omega, by omega, by omega⟩
  · have : y * (x / y) + x % y = y * (-((-x) / y)) := by rw [f1, Int.mul_neg]; exact q.symm
    have k : y * (x / y + ((-x) / y)) = -(x % y) := by
      rw [Int.mul_add]
      rw [Int.mul_neg] at this
      omega
    have k2 : x / y + ((-x) / y) = 0 := by
      rcases Int.lt_trichotomy (x / y + ((-x) / y)) 0 with w | w | w
      · have := Int.mul_le_mul_of_nonneg_left (show x / y + ((-x) / y) ≤ -1 by omega) (show 0 ≤ y by omega)
        omega
      · exact w
      · have := Int.mul_le_mul_of_nonneg_left (show 1 ≤ x / y + ((-x) / y) by omega) (show 0 ≤ y by omega)
        omega
    omega
  · have hr : (-x) % y ≠ 0 := fun z => q (by omega)
    have k : y * (x / y + ((-x) / y) + 1) = y - (-x) % y - x % y := by
      rw [Int.mul_add, Int.mul_add, Int.mul_one]
      omega
    have k2 : x / y + ((-x) / y) + 1 = 0 := by
      rcases Int.lt_trichotomy (x / y + ((-x) / y) + 1) 0 with w | w | w
      · have := Int.mul_le_mul_of_nonneg_left (show x / y + ((-x) / y) + 1 ≤ -1 by omega) (show 0 ≤ y by omega)
        omega
      · exact w
      · have := Int.mul_le_mul_of_nonneg_left (show 1 ≤ x / y + ((-x) / y) + 1 by omega) (show 0 ≤ y by omega)
        omega
    omega
theorem cdiv_bd {x n B : Int} (hn : 0 < n) (hx : -B ≤ x ∧ x ≤ B) (hB : 0 ≤ B) : -B ≤ cdiv x n ∧ cdiv x n ≤ B := by
  unfold cdiv
  have h1 := Int.ediv_le_ediv hn (show -x ≤ B by omega)
  have h2 := Int.ediv_le_ediv hn (show -B ≤ -x by omega)
  have h3 := Int.ediv_le_self (b := n) hB
  have h4 : -B ≤ -B / n := by
    have := Int.mul_ediv_add_emod (-B) n
    have := Int.emod_nonneg (-B) (show n ≠ 0 by omega)
    have := Int.emod_lt_of_pos (-B) hn
    rcases Int.le_total (-B / n) (-B) with q | q
    · by_cases e : -B / n = -B
      · omega
      · have w := Int.mul_le_mul_of_nonneg_left (show -B / n ≤ -B - 1 by omega) (show 0 ≤ n by omega)
        have w2 := Int.mul_le_mul_of_nonneg_right (show 1 ≤ n by omega) (show 0 ≤ B by omega)
        rw [Int.one_mul] at w2
        rw [show n * (-B - 1) = -(n * (B + 1)) by rw [← Int.mul_neg]; congr 1; omega, Int.mul_add, Int.mul_one] at w
        omega
    · exact q
  omega
section XOR
variable {S : ST} {l : Launch} {w : WT} {cc : ByteArray} {nL : Nat} {ret : Option FieldType} {own : String} {R : Room} {P : Option Value → MM → Prop} {G : GT} {pc : Nat} {lv : List (Option Value)} {st : List Value} {σ : MM}
theorem r_ixor (hX : Cx S l w cc nL ret own R P G) {a b : Int} (hd : decode cc pc = .ok (.ixor, 1)) (ha : inr a) (hb0 : 0 ≤ b) (hb1 : b ≤ 2147483647) (k : ∀ z : Int, inr z → (0 ≤ z ↔ 0 ≤ a) → G (pc + 1) lv (.int (iI z) :: st) σ) : G pc lv (.int (iI b) :: .int (iI a) :: st) σ := by
  obtain ⟨p, e, s, m, args, below, meth, c, A, cells, slots, Q, ⟨hx, hb, -⟩, rfl, -⟩ := hX
  intro hB H locs ls hP hS h
  refine lv_ixor hx hb hd ?_
  have h1 := Int32.le_toInt (iI a ^^^ iI b)
  have h2 := Int32.toInt_lt (iI a ^^^ iI b)
  have := k (iI a ^^^ iI b).toInt ⟨by omega, by omega⟩ (xor_sign ha ⟨hb0, hb1⟩) hB H locs ls hP hS h
  rw [iI_self] at this
  exact this
end XOR
