/-! THE RULES: one an instruction, over the judgement G of Cx -/
section RULES
variable {S : ST} {l : Launch} {w : WT} {cc : ByteArray} {nL : Nat} {ret : Option FieldType} {own : String} {R : Room} {P : Option Value → MM → Prop} {G : GT} {pc : Nat} {lv : List (Option Value)} {st : List Value} {σ : MM}
theorem r_bd (hX : Cx S l w cc nL ret own R P G) (k : Bd S.2.2 σ → G pc lv st σ) : G pc lv st σ := by
  obtain ⟨p, e, s, m, args, below, meth, c, A, cells, slots, Q, -, rfl, -⟩ := hX
  exact fun hB => k hB hB
theorem r_wk (hX : Cx S l w cc nL ret own R P G) {lv1 : List (Option Value)} (hl : leL lv1 lv) (k : G pc lv1 st σ) : G pc lv st σ := by
  obtain ⟨p, e, s, m, args, below, meth, c, A, cells, slots, Q, -, rfl, -⟩ := hX
  exact fun hB H locs ls hP hS h => k hB H locs ls hP hS (h.wk hl)
theorem r_iconst (hX : Cx S l w cc nL ret own R P G) {n : Int} (hd : decode cc pc = .ok (.iconst n, 1)) (k : G (pc + 1) lv (.int (iI n) :: st) σ) : G pc lv st σ := by
  obtain ⟨p, e, s, m, args, below, meth, c, A, cells, slots, Q, ⟨hx, hb, -⟩, rfl, -⟩ := hX
  exact fun hB H locs ls hP hS h => lv_iconst hx hb hd rfl (k hB H locs ls hP hS h)
theorem r_bipush (hX : Cx S l w cc nL ret own R P G) {n : Int} (hd : decode cc pc = .ok (.bipush n, 2)) (hv : (Int8.ofInt n).toInt32 = iI n) (k : G (pc + 2) lv (.int (iI n) :: st) σ) : G pc lv st σ := by
  obtain ⟨p, e, s, m, args, below, meth, c, A, cells, slots, Q, ⟨hx, hb, -⟩, rfl, -⟩ := hX
  exact fun hB H locs ls hP hS h => lv_bipush hx hb hd hv (k hB H locs ls hP hS h)
theorem r_sipush (hX : Cx S l w cc nL ret own R P G) {n : Int} (hd : decode cc pc = .ok (.sipush n, 3)) (hv : (Int16.ofInt n).toInt32 = iI n) (k : G (pc + 3) lv (.int (iI n) :: st) σ) : G pc lv st σ := by
  obtain ⟨p, e, s, m, args, below, meth, c, A, cells, slots, Q, ⟨hx, hb, -⟩, rfl, -⟩ := hX
  exact fun hB H locs ls hP hS h => lv_sipush hx hb hd hv (k hB H locs ls hP hS h)
theorem r_ldc (hX : Cx S l w cc nL ret own R P G) {idx : Nat} {n : Int} (hd : decode cc pc = .ok (.ldc idx, 2)) (hc : Cond.constant own idx (iI n) ∈ gtb) (k : G (pc + 2) lv (.int (iI n) :: st) σ) : G pc lv st σ := by
  obtain ⟨p, e, s, m, args, below, meth, c, A, cells, slots, Q, ⟨hx, hb, hml, hown, hts, -⟩, rfl, -⟩ := hX
  exact fun hB H locs ls hP hS h => lv_ldc hx hb hown (hts _ hc) hd (k hB H locs ls hP hS h)
theorem r_ldc2 (hX : Cx S l w cc nL ret own R P G) {idx : Nat} {n : Int} (hd : decode cc pc = .ok (.ldc2_w idx, 3)) (hc : Cond.constantLong own idx (lI n) ∈ gtb) (k : G (pc + 3) lv (.long (lI n) :: st) σ) : G pc lv st σ := by
  obtain ⟨p, e, s, m, args, below, meth, c, A, cells, slots, Q, ⟨hx, hb, hml, hown, hts, -⟩, rfl, -⟩ := hX
  exact fun hB H locs ls hP hS h => lv_ldc2 hx hb hown (hts _ hc) hd (k hB H locs ls hP hS h)
theorem r_lconst (hX : Cx S l w cc nL ret own R P G) {n : Fin 2} {z : Int} (hd : decode cc pc = .ok (.lconst n, 1)) (hz : Int64.ofNat (n : Nat) = lI z) (k : G (pc + 1) lv (.long (lI z) :: st) σ) : G pc lv st σ := by
  obtain ⟨p, e, s, m, args, below, meth, c, A, cells, slots, Q, ⟨hx, hb, -⟩, rfl, -⟩ := hX
  exact fun hB H locs ls hP hS h => lv_lconst hx hb hd hz (k hB H locs ls hP hS h)
theorem r_iload_n (hX : Cx S l w cc nL ret own R P G) {i : Fin 4} {x : Int32} (hd : decode cc pc = .ok (.iload_n i, 1)) (hl : lv[(i : Nat)]? = some (some (.int x))) (k : G (pc + 1) lv (.int x :: st) σ) : G pc lv st σ := by
  obtain ⟨p, e, s, m, args, below, meth, c, A, cells, slots, Q, ⟨hx, hb, -⟩, rfl, -⟩ := hX
  exact fun hB H locs ls hP hS h => lv_iload_n hx hb hd rfl (h.2.2 _ _ hl) (k hB H locs ls hP hS h)
theorem r_iload (hX : Cx S l w cc nL ret own R P G) {i : Nat} {x : Int32} (hd : decode cc pc = .ok (.iload i, 2)) (hl : lv[i]? = some (some (.int x))) (k : G (pc + 2) lv (.int x :: st) σ) : G pc lv st σ := by
  obtain ⟨p, e, s, m, args, below, meth, c, A, cells, slots, Q, ⟨hx, hb, -⟩, rfl, -⟩ := hX
  exact fun hB H locs ls hP hS h => lv_iload hx hb hd (h.2.2 _ _ hl) (k hB H locs ls hP hS h)
theorem r_aload_n (hX : Cx S l w cc nL ret own R P G) {i : Fin 4} {x : Nat} (hd : decode cc pc = .ok (.aload_n i, 1)) (hl : lv[(i : Nat)]? = some (some (.ref x))) (k : G (pc + 1) lv (.ref x :: st) σ) : G pc lv st σ := by
  obtain ⟨p, e, s, m, args, below, meth, c, A, cells, slots, Q, ⟨hx, hb, -⟩, rfl, -⟩ := hX
  exact fun hB H locs ls hP hS h => lv_aload_n hx hb hd rfl (h.2.2 _ _ hl) (k hB H locs ls hP hS h)
theorem r_aload (hX : Cx S l w cc nL ret own R P G) {i x : Nat} (hd : decode cc pc = .ok (.aload i, 2)) (hl : lv[i]? = some (some (.ref x))) (k : G (pc + 2) lv (.ref x :: st) σ) : G pc lv st σ := by
  obtain ⟨p, e, s, m, args, below, meth, c, A, cells, slots, Q, ⟨hx, hb, -⟩, rfl, -⟩ := hX
  exact fun hB H locs ls hP hS h => lv_aload hx hb hd (h.2.2 _ _ hl) (k hB H locs ls hP hS h)
theorem r_lload_n (hX : Cx S l w cc nL ret own R P G) {i : Fin 4} {x : Int64} (hd : decode cc pc = .ok (.lload_n i, 1)) (hl : lv[(i : Nat)]? = some (some (.long x))) (k : G (pc + 1) lv (.long x :: st) σ) : G pc lv st σ := by
  obtain ⟨p, e, s, m, args, below, meth, c, A, cells, slots, Q, ⟨hx, hb, -⟩, rfl, -⟩ := hX
  exact fun hB H locs ls hP hS h => lv_lload_n hx hb hd rfl (h.2.2 _ _ hl) (k hB H locs ls hP hS h)
theorem r_lload (hX : Cx S l w cc nL ret own R P G) {i : Nat} {x : Int64} (hd : decode cc pc = .ok (.lload i, 2)) (hl : lv[i]? = some (some (.long x))) (k : G (pc + 2) lv (.long x :: st) σ) : G pc lv st σ := by
  obtain ⟨p, e, s, m, args, below, meth, c, A, cells, slots, Q, ⟨hx, hb, -⟩, rfl, -⟩ := hX
  exact fun hB H locs ls hP hS h => lv_lload hx hb hd (h.2.2 _ _ hl) (k hB H locs ls hP hS h)
/-- a store names what it stores -/
theorem r_istore_n (hX : Cx S l w cc nL ret own R P G) {i : Fin 4} {z : Int} (lv1 : Int → List (Option Value)) (hd : decode cc pc = .ok (.istore_n i, 1)) (hi : (i : Nat) < lv.length) (hln : lv.length = nL) (hc : cat1 lv = true) (hl : ∀ x : Int, lv.set (i : Nat) (some (.int (iI x))) = lv1 x) (k : ∀ x : Int, x = z → G (pc + 1) (lv1 x) st σ) : G pc lv (.int (iI z) :: st) σ := by
  obtain ⟨p, e, s, m, args, below, meth, c, A, cells, slots, Q, ⟨hx, hb, -⟩, rfl, -⟩ := hX
  exact fun hB H locs ls hP hS h => lv_istore_n hx hb hd rfl h.has (by omega) rfl fun ls1 h1 => k z rfl hB H locs ls1 hP hS (by rw [← hl]; exact LH.set hi hc h1)
theorem r_istore (hX : Cx S l w cc nL ret own R P G) {i : Nat} {z : Int} (lv1 : Int → List (Option Value)) (hd : decode cc pc = .ok (.istore i, 2)) (hi : i < lv.length) (hln : lv.length = nL) (hc : cat1 lv = true) (hl : ∀ x : Int, lv.set i (some (.int (iI x))) = lv1 x) (k : ∀ x : Int, x = z → G (pc + 2) (lv1 x) st σ) : G pc lv (.int (iI z) :: st) σ := by
  obtain ⟨p, e, s, m, args, below, meth, c, A, cells, slots, Q, ⟨hx, hb, -⟩, rfl, -⟩ := hX
  exact fun hB H locs ls hP hS h => lv_istore hx hb hd h.has (by omega) rfl fun ls1 h1 => k z rfl hB H locs ls1 hP hS (by rw [← hl]; exact LH.set hi hc h1)
theorem r_iinc (hX : Cx S l w cc nL ret own R P G) {i : Nat} {n z : Int} (lv1 : Int → List (Option Value)) (hd : decode cc pc = .ok (.iinc i n, 3)) (hz : lv[i]? = some (some (.int (iI z)))) (hln : lv.length = nL) (hc : cat1 lv = true) (hl : ∀ x : Int, lv.set i (some (.int (iI x))) = lv1 x) (k : ∀ x : Int, x = z + n → G (pc + 3) (lv1 x) st σ) : G pc lv st σ := by
  obtain ⟨p, e, s, m, args, below, meth, c, A, cells, slots, Q, ⟨hx, hb, -⟩, rfl, -⟩ := hX
  intro hB H locs ls hP hS h
  have hi : i < lv.length := (List.getElem?_eq_some_iff.mp hz).1
  obtain ⟨j, hj⟩ := List.getElem?_of_mem (toA_mem.mpr hz)
  exact lv_iinc hx hb hd h.has hj (show iI z + Int32.ofInt n = iI (z + n) from iI_add z n) (by omega) rfl fun ls1 h1 => k (z + n) rfl hB H locs ls1 hP hS (by rw [← hl]; exact LH.set hi hc h1)
theorem r_iadd (hX : Cx S l w cc nL ret own R P G) {a b : Int} (hd : decode cc pc = .ok (.iadd, 1)) (k : G (pc + 1) lv (.int (iI (a + b)) :: st) σ) : G pc lv (.int (iI b) :: .int (iI a) :: st) σ := by
  obtain ⟨p, e, s, m, args, below, meth, c, A, cells, slots, Q, ⟨hx, hb, -⟩, rfl, -⟩ := hX
  exact fun hB H locs ls hP hS h => lv_iadd hx hb hd (by rw [iI_add]; exact k hB H locs ls hP hS h)
theorem r_isub (hX : Cx S l w cc nL ret own R P G) {a b : Int} (hd : decode cc pc = .ok (.isub, 1)) (k : G (pc + 1) lv (.int (iI (a - b)) :: st) σ) : G pc lv (.int (iI b) :: .int (iI a) :: st) σ := by
  obtain ⟨p, e, s, m, args, below, meth, c, A, cells, slots, Q, ⟨hx, hb, -⟩, rfl, -⟩ := hX
  exact fun hB H locs ls hP hS h => lv_isub hx hb hd (by rw [iI_sub]; exact k hB H locs ls hP hS h)
theorem r_imul (hX : Cx S l w cc nL ret own R P G) {a b : Int} (hd : decode cc pc = .ok (.imul, 1)) (k : G (pc + 1) lv (.int (iI (a * b)) :: st) σ) : G pc lv (.int (iI b) :: .int (iI a) :: st) σ := by
  obtain ⟨p, e, s, m, args, below, meth, c, A, cells, slots, Q, ⟨hx, hb, -⟩, rfl, -⟩ := hX
  exact fun hB H locs ls hP hS h => lv_imul hx hb hd (by rw [iI_mul]; exact k hB H locs ls hP hS h)
theorem r_ineg (hX : Cx S l w cc nL ret own R P G) {a : Int} (hd : decode cc pc = .ok (.ineg, 1)) (k : G (pc + 1) lv (.int (iI (-a)) :: st) σ) : G pc lv (.int (iI a) :: st) σ := by
  obtain ⟨p, e, s, m, args, below, meth, c, A, cells, slots, Q, ⟨hx, hb, -⟩, rfl, -⟩ := hX
  exact fun hB H locs ls hP hS h => lv_ineg hx hb hd (by rw [iI_neg]; exact k hB H locs ls hP hS h)
theorem iI_div {a b : Int} (ha : inr a) (hb : inr b) (hn : a ≠ -2147483648 ∨ b ≠ -1) : iI a / iI b = iI (a.tdiv b) :=
  (Int32.ofInt_tdiv (show Int32.minValue.toInt ≤ a by have : Int32.minValue.toInt = -2147483648 := by decide
                                                      omega) (show a ≤ Int32.maxValue.toInt by have : Int32.maxValue.toInt = 2147483647 := by decide
                                                                                               omega) (show Int32.minValue.toInt ≤ b by have : Int32.minValue.toInt = -2147483648 := by decide
                                                                                                                                        omega) (show b ≤ Int32.maxValue.toInt by have : Int32.maxValue.toInt = 2147483647 := by decide
                                                                                                                                                                                 omega)).symm
/-- division of what isn't below 0 by what is above 0 -/
theorem r_idiv (hX : Cx S l w cc nL ret own R P G) {a b : Int} (hd : decode cc pc = .ok (.idiv, 1)) (h0 : 0 ≤ a) (h1 : a ≤ 2147483647) (h2 : 0 < b) (h3 : b ≤ 2147483647) (k : G (pc + 1) lv (.int (iI (a / b)) :: st) σ) : G pc lv (.int (iI b) :: .int (iI a) :: st) σ := by
  obtain ⟨p, e, s, m, args, below, meth, c, A, cells, slots, Q, ⟨hx, hb, -⟩, rfl, -⟩ := hX
  intro hB H locs ls hP hS h
  refine lv_idiv hx hb hd (fun hz => ?_) ?_
  · have := (iI_eq (a := b) (b := 0) ⟨by omega, by omega⟩ ⟨by omega, by omega⟩).mp (by rw [hz]; exact iI_zero.symm)
    omega
  · rw [iI_div ⟨by omega, by omega⟩ ⟨by omega, by omega⟩ (Or.inl (by omega)), Int.tdiv_eq_ediv_of_nonneg h0]
    exact k hB H locs ls hP hS h
/-- division of any number by what is above 0: cut towards 0 -/
theorem r_idivT (hX : Cx S l w cc nL ret own R P G) {a b : Int} (hd : decode cc pc = .ok (.idiv, 1)) (h0 : inr a) (h2 : 0 < b) (h3 : b ≤ 2147483647) (k : G (pc + 1) lv (.int (iI (a.tdiv b)) :: st) σ) : G pc lv (.int (iI b) :: .int (iI a) :: st) σ := by
  obtain ⟨p, e, s, m, args, below, meth, c, A, cells, slots, Q, ⟨hx, hb, -⟩, rfl, -⟩ := hX
  intro hB H locs ls hP hS h
  refine lv_idiv hx hb hd (fun hz => ?_) ?_
  · have := (iI_eq (a := b) (b := 0) ⟨by omega, by omega⟩ ⟨by omega, by omega⟩).mp (by rw [hz]; exact iI_zero.symm)
    omega
  · rw [iI_div h0 ⟨by omega, by omega⟩ (Or.inr (by omega))]
    exact k hB H locs ls hP hS h
theorem iI_rem {a b : Int} (ha : inr a) (hb : 0 < b) (hb2 : b ≤ 2147483647) : iI a - iI a / iI b * iI b = iI (a.tmod b) := by
  rw [iI_div ha ⟨by omega, by omega⟩ (Or.inr (by omega)), iI_mul, iI_sub]
  congr 1
  have := Int.mul_tdiv_add_tmod a b
  rw [Int.mul_comm] at this
  omega
theorem r_irem (hX : Cx S l w cc nL ret own R P G) {a b : Int} (hd : decode cc pc = .ok (.irem, 1)) (h0 : 0 ≤ a) (h1 : a ≤ 2147483647) (h2 : 0 < b) (h3 : b ≤ 2147483647) (k : G (pc + 1) lv (.int (iI (a % b)) :: st) σ) : G pc lv (.int (iI b) :: .int (iI a) :: st) σ := by
  obtain ⟨p, e, s, m, args, below, meth, c, A, cells, slots, Q, ⟨hx, hb, -⟩, rfl, -⟩ := hX
  intro hB H locs ls hP hS h
  refine lv_irem hx hb hd (fun hz => ?_) ?_
  · have := (iI_eq (a := b) (b := 0) ⟨by omega, by omega⟩ ⟨by omega, by omega⟩).mp (by rw [hz]; exact iI_zero.symm)
    omega
  · rw [iI_rem ⟨by omega, by omega⟩ h2 h3, Int.tmod_eq_emod_of_nonneg h0]
    exact k hB H locs ls hP hS h
theorem r_iremT (hX : Cx S l w cc nL ret own R P G) {a b : Int} (hd : decode cc pc = .ok (.irem, 1)) (h0 : inr a) (h2 : 0 < b) (h3 : b ≤ 2147483647) (k : G (pc + 1) lv (.int (iI (a.tmod b)) :: st) σ) : G pc lv (.int (iI b) :: .int (iI a) :: st) σ := by
  obtain ⟨p, e, s, m, args, below, meth, c, A, cells, slots, Q, ⟨hx, hb, -⟩, rfl, -⟩ := hX
  intro hB H locs ls hP hS h
  refine lv_irem hx hb hd (fun hz => ?_) ?_
  · have := (iI_eq (a := b) (b := 0) ⟨by omega, by omega⟩ ⟨by omega, by omega⟩).mp (by rw [hz]; exact iI_zero.symm)
    omega
  · rw [iI_rem h0 h2 h3]
    exact k hB H locs ls hP hS h
theorem r_i2l (hX : Cx S l w cc nL ret own R P G) {a : Int} (hd : decode cc pc = .ok (.i2l, 1)) (ha : inr a) (k : G (pc + 1) lv (.long (lI a) :: st) σ) : G pc lv (.int (iI a) :: st) σ := by
  obtain ⟨p, e, s, m, args, below, meth, c, A, cells, slots, Q, ⟨hx, hb, -⟩, rfl, -⟩ := hX
  exact fun hB H locs ls hP hS h => lv_i2l hx hb hd (by rw [← Int64.toInt_inj, Int32.toInt_toInt64, iI_toInt ha, lI_toInt ⟨by omega, by omega⟩]) (k hB H locs ls hP hS h)
theorem r_lcmp (hX : Cx S l w cc nL ret own R P G) {a b : Int} (hd : decode cc pc = .ok (.lcmp, 1)) (ha : inr8 a) (hb8 : inr8 b) (k : ∀ z : Int, (z = -1 ∧ a < b) ∨ (z = 0 ∧ a = b) ∨ (z = 1 ∧ b < a) → G (pc + 1) lv (.int (iI z) :: st) σ) : G pc lv (.long (lI b) :: .long (lI a) :: st) σ := by
  obtain ⟨p, e, s, m, args, below, meth, c, A, cells, slots, Q, ⟨hx, hb, -⟩, rfl, -⟩ := hX
  intro hB H locs ls hP hS h
  refine W.lcmp hx hb hd ?_
  have e1 : ∃ z : Int, lg_cmp (lI a) (lI b) = iI z ∧ ((z = -1 ∧ a < b) ∨ (z = 0 ∧ a = b) ∨ (z = 1 ∧ b < a)) := by
    rcases Int.lt_trichotomy a b with q | q | q
    · exact ⟨-1, by simp only [lg_cmp, lI_lt hb8 ha, lI_eq ha hb8]; rw [if_neg (by omega), if_neg (by omega)]; decide, Or.inl ⟨rfl, q⟩⟩
    · exact ⟨0, by simp only [lg_cmp, lI_lt hb8 ha, lI_eq ha hb8]; rw [if_neg (by omega), if_pos (by omega)]; decide, Or.inr (Or.inl ⟨rfl, q⟩)⟩
    · exact ⟨1, by simp only [lg_cmp, lI_lt hb8 ha, lI_eq ha hb8]; rw [if_pos (by omega)]; decide, Or.inr (Or.inr ⟨rfl, q⟩)⟩
  obtain ⟨z, e2, e3⟩ := e1
  rw [e2]
  exact k z e3 hB H locs ls hP hS h
theorem r_dup (hX : Cx S l w cc nL ret own R P G) {v : Value} (hd : decode cc pc = .ok (.dup, 1)) (hv : v.category = 1) (k : G (pc + 1) lv (v :: v :: st) σ) : G pc lv (v :: st) σ := by
  obtain ⟨p, e, s, m, args, below, meth, c, A, cells, slots, Q, ⟨hx, hb, -⟩, rfl, -⟩ := hX
  exact fun hB H locs ls hP hS h => lv_dup hx hb hd hv (k hB H locs ls hP hS h)
theorem r_dup2 (hX : Cx S l w cc nL ret own R P G) {v u : Value} (hd : decode cc pc = .ok (.dup2, 1)) (hv : v.category = 1) (hu : u.category = 1) (k : G (pc + 1) lv (v :: u :: v :: u :: st) σ) : G pc lv (v :: u :: st) σ := by
  obtain ⟨p, e, s, m, args, below, meth, c, A, cells, slots, Q, ⟨hx, hb, -⟩, rfl, -⟩ := hX
  exact fun hB H locs ls hP hS h => lv_dup2_11 hx hb hd hv hu (k hB H locs ls hP hS h)
theorem r_goto (hX : Cx S l w cc nL ret own R P G) {off : Int} {tgt : Nat} (hd : decode cc pc = .ok (.goto off, 3)) (ht : (pc : Int) + off = (tgt : Int)) (k : G tgt lv st σ) : G pc lv st σ := by
  obtain ⟨p, e, s, m, args, below, meth, c, A, cells, slots, Q, ⟨hx, hb, -⟩, rfl, -⟩ := hX
  exact fun hB H locs ls hP hS h => lv_goto hx hb hd ht (k hB H locs ls hP hS h)
theorem r_tblOut (hX : Cx S l w cc nL ret own R P G) {dflt lo hi : Int} {offs : Array Int} {len : Nat} {a : Int} {tgt : Nat} (hd : decode cc pc = .ok (.tableswitch dflt lo hi offs, len)) (ha : inr a) (hq : a < lo ∨ hi < a) (ht : (pc : Int) + dflt = (tgt : Int)) (k : G tgt lv st σ) : G pc lv (.int (iI a) :: st) σ := by
  obtain ⟨p, e, s, m, args, below, meth, c, A, cells, slots, Q, ⟨hx, hb, -⟩, rfl, -⟩ := hX
  exact fun hB H locs ls hP hS h => lv_tableOut hx hb hd (by rw [iI_toInt ha]; exact hq) ht (k hB H locs ls hP hS h)
theorem r_tblIn (hX : Cx S l w cc nL ret own R P G) {dflt lo hi : Int} {offs : Array Int} {len : Nat} {a off : Int} {tgt : Nat} (z : Int) (hd : decode cc pc = .ok (.tableswitch dflt lo hi offs, len)) (ha : a = z) (hz : inr z ∧ lo ≤ z ∧ z ≤ hi) (ho : offs[(z - lo).toNat]? = some off) (ht : (pc : Int) + off = (tgt : Int)) (k : G tgt lv st σ) : G pc lv (.int (iI a) :: st) σ := by
  obtain ⟨p, e, s, m, args, below, meth, c, A, cells, slots, Q, ⟨hx, hb, -⟩, rfl, -⟩ := hX
  subst ha
  exact fun hB H locs ls hP hS h => lv_tableIn hx hb hd (by rw [iI_toInt hz.1]; omega) (by rw [iI_toInt hz.1]; omega) (by rw [iI_toInt hz.1]; exact ho) ht (k hB H locs ls hP hS h)
theorem r_icmp_eq (hX : Cx S l w cc nL ret own R P G) {a b off : Int} {tgt : Nat} (hd : decode cc pc = .ok (.if_icmp .eq off, 3)) (ht : (pc : Int) + off = (tgt : Int)) (ha : inr a) (hb2 : inr b) (kt : a = b → G tgt lv st σ) (kf : ¬ a = b → G (pc + 3) lv st σ) : G pc lv (.int (iI b) :: .int (iI a) :: st) σ := by
  obtain ⟨p, e, s, m, args, below, meth, c, A, cells, slots, Q, ⟨hx, hb, -⟩, rfl, -⟩ := hX
  exact fun hB H locs ls hP hS h => lv_icmp_eq hx hb hd ht (fun q => kt (by rw [iI_eq ha hb2] at q; omega) hB H locs ls hP hS h) (fun q => kf (by rw [iI_eq ha hb2] at q; omega) hB H locs ls hP hS h)
theorem r_if_eq (hX : Cx S l w cc nL ret own R P G) {a off : Int} {tgt : Nat} (hd : decode cc pc = .ok (.ifCond .eq off, 3)) (ht : (pc : Int) + off = (tgt : Int)) (ha : inr a) (kt : a = 0 → G tgt lv st σ) (kf : ¬ a = 0 → G (pc + 3) lv st σ) : G pc lv (.int (iI a) :: st) σ := by
  obtain ⟨p, e, s, m, args, below, meth, c, A, cells, slots, Q, ⟨hx, hb, -⟩, rfl, -⟩ := hX
  have hb2 : inr 0 := ⟨by omega, by omega⟩
  exact fun hB H locs ls hP hS h => lv_if_eq hx hb hd ht (fun q => kt (by rw [← iI_zero, iI_eq ha hb2] at q; omega) hB H locs ls hP hS h) (fun q => kf (by rw [← iI_zero, iI_eq ha hb2] at q; omega) hB H locs ls hP hS h)
theorem r_icmpR_eq (hX : Cx S l w cc nL ret own R P G) {a b off : Int} {tgt : Nat} (hd : decode cc pc = .ok (.if_icmp .eq off, 3)) (ht : (pc : Int) + off = (tgt : Int)) (kt : iI a = iI b → G tgt lv st σ) (kf : ¬ iI a = iI b → G (pc + 3) lv st σ) : G pc lv (.int (iI b) :: .int (iI a) :: st) σ := by
  obtain ⟨p, e, s, m, args, below, meth, c, A, cells, slots, Q, ⟨hx, hb, -⟩, rfl, -⟩ := hX
  exact fun hB H locs ls hP hS h => lv_icmp_eq hx hb hd ht (fun q => kt q hB H locs ls hP hS h) (fun q => kf q hB H locs ls hP hS h)
theorem r_icmp_ne (hX : Cx S l w cc nL ret own R P G) {a b off : Int} {tgt : Nat} (hd : decode cc pc = .ok (.if_icmp .ne off, 3)) (ht : (pc : Int) + off = (tgt : Int)) (ha : inr a) (hb2 : inr b) (kt : ¬ a = b → G tgt lv st σ) (kf : a = b → G (pc + 3) lv st σ) : G pc lv (.int (iI b) :: .int (iI a) :: st) σ := by
  obtain ⟨p, e, s, m, args, below, meth, c, A, cells, slots, Q, ⟨hx, hb, -⟩, rfl, -⟩ := hX
  exact fun hB H locs ls hP hS h => lv_icmp_ne hx hb hd ht (fun q => kt (by rw [iI_eq ha hb2] at q; omega) hB H locs ls hP hS h) (fun q => kf (by rw [iI_eq ha hb2] at q; omega) hB H locs ls hP hS h)
theorem r_if_ne (hX : Cx S l w cc nL ret own R P G) {a off : Int} {tgt : Nat} (hd : decode cc pc = .ok (.ifCond .ne off, 3)) (ht : (pc : Int) + off = (tgt : Int)) (ha : inr a) (kt : ¬ a = 0 → G tgt lv st σ) (kf : a = 0 → G (pc + 3) lv st σ) : G pc lv (.int (iI a) :: st) σ := by
  obtain ⟨p, e, s, m, args, below, meth, c, A, cells, slots, Q, ⟨hx, hb, -⟩, rfl, -⟩ := hX
  have hb2 : inr 0 := ⟨by omega, by omega⟩
  exact fun hB H locs ls hP hS h => lv_if_ne hx hb hd ht (fun q => kt (by rw [← iI_zero, iI_eq ha hb2] at q; omega) hB H locs ls hP hS h) (fun q => kf (by rw [← iI_zero, iI_eq ha hb2] at q; omega) hB H locs ls hP hS h)
theorem r_icmpR_ne (hX : Cx S l w cc nL ret own R P G) {a b off : Int} {tgt : Nat} (hd : decode cc pc = .ok (.if_icmp .ne off, 3)) (ht : (pc : Int) + off = (tgt : Int)) (kt : ¬ iI a = iI b → G tgt lv st σ) (kf : iI a = iI b → G (pc + 3) lv st σ) : G pc lv (.int (iI b) :: .int (iI a) :: st) σ := by
  obtain ⟨p, e, s, m, args, below, meth, c, A, cells, slots, Q, ⟨hx, hb, -⟩, rfl, -⟩ := hX
  exact fun hB H locs ls hP hS h => lv_icmp_ne hx hb hd ht (fun q => kt q hB H locs ls hP hS h) (fun q => kf q hB H locs ls hP hS h)
theorem r_icmp_lt (hX : Cx S l w cc nL ret own R P G) {a b off : Int} {tgt : Nat} (hd : decode cc pc = .ok (.if_icmp .lt off, 3)) (ht : (pc : Int) + off = (tgt : Int)) (ha : inr a) (hb2 : inr b) (kt : a < b → G tgt lv st σ) (kf : b ≤ a → G (pc + 3) lv st σ) : G pc lv (.int (iI b) :: .int (iI a) :: st) σ := by
  obtain ⟨p, e, s, m, args, below, meth, c, A, cells, slots, Q, ⟨hx, hb, -⟩, rfl, -⟩ := hX
  exact fun hB H locs ls hP hS h => lv_icmp_lt hx hb hd ht (fun q => kt (by rw [iI_lt ha hb2] at q; omega) hB H locs ls hP hS h) (fun q => kf (by rw [iI_lt ha hb2] at q; omega) hB H locs ls hP hS h)
theorem r_if_lt (hX : Cx S l w cc nL ret own R P G) {a off : Int} {tgt : Nat} (hd : decode cc pc = .ok (.ifCond .lt off, 3)) (ht : (pc : Int) + off = (tgt : Int)) (ha : inr a) (kt : a < 0 → G tgt lv st σ) (kf : 0 ≤ a → G (pc + 3) lv st σ) : G pc lv (.int (iI a) :: st) σ := by
  obtain ⟨p, e, s, m, args, below, meth, c, A, cells, slots, Q, ⟨hx, hb, -⟩, rfl, -⟩ := hX
  have hb2 : inr 0 := ⟨by omega, by omega⟩
  exact fun hB H locs ls hP hS h => lv_if_lt hx hb hd ht (fun q => kt (by rw [← iI_zero, iI_lt ha hb2] at q; omega) hB H locs ls hP hS h) (fun q => kf (by rw [← iI_zero, iI_lt ha hb2] at q; omega) hB H locs ls hP hS h)
theorem r_icmpR_lt (hX : Cx S l w cc nL ret own R P G) {a b off : Int} {tgt : Nat} (hd : decode cc pc = .ok (.if_icmp .lt off, 3)) (ht : (pc : Int) + off = (tgt : Int)) (kt : iI a < iI b → G tgt lv st σ) (kf : ¬ iI a < iI b → G (pc + 3) lv st σ) : G pc lv (.int (iI b) :: .int (iI a) :: st) σ := by
  obtain ⟨p, e, s, m, args, below, meth, c, A, cells, slots, Q, ⟨hx, hb, -⟩, rfl, -⟩ := hX
  exact fun hB H locs ls hP hS h => lv_icmp_lt hx hb hd ht (fun q => kt q hB H locs ls hP hS h) (fun q => kf q hB H locs ls hP hS h)
theorem r_icmp_ge (hX : Cx S l w cc nL ret own R P G) {a b off : Int} {tgt : Nat} (hd : decode cc pc = .ok (.if_icmp .ge off, 3)) (ht : (pc : Int) + off = (tgt : Int)) (ha : inr a) (hb2 : inr b) (kt : b ≤ a → G tgt lv st σ) (kf : a < b → G (pc + 3) lv st σ) : G pc lv (.int (iI b) :: .int (iI a) :: st) σ := by
  obtain ⟨p, e, s, m, args, below, meth, c, A, cells, slots, Q, ⟨hx, hb, -⟩, rfl, -⟩ := hX
  exact fun hB H locs ls hP hS h => lv_icmp_ge hx hb hd ht (fun q => kt (by rw [iI_le hb2 ha] at q; omega) hB H locs ls hP hS h) (fun q => kf (by rw [iI_le hb2 ha] at q; omega) hB H locs ls hP hS h)
theorem r_if_ge (hX : Cx S l w cc nL ret own R P G) {a off : Int} {tgt : Nat} (hd : decode cc pc = .ok (.ifCond .ge off, 3)) (ht : (pc : Int) + off = (tgt : Int)) (ha : inr a) (kt : 0 ≤ a → G tgt lv st σ) (kf : a < 0 → G (pc + 3) lv st σ) : G pc lv (.int (iI a) :: st) σ := by
  obtain ⟨p, e, s, m, args, below, meth, c, A, cells, slots, Q, ⟨hx, hb, -⟩, rfl, -⟩ := hX
  have hb2 : inr 0 := ⟨by omega, by omega⟩
  exact fun hB H locs ls hP hS h => lv_if_ge hx hb hd ht (fun q => kt (by rw [← iI_zero, iI_le hb2 ha] at q; omega) hB H locs ls hP hS h) (fun q => kf (by rw [← iI_zero, iI_le hb2 ha] at q; omega) hB H locs ls hP hS h)
theorem r_icmpR_ge (hX : Cx S l w cc nL ret own R P G) {a b off : Int} {tgt : Nat} (hd : decode cc pc = .ok (.if_icmp .ge off, 3)) (ht : (pc : Int) + off = (tgt : Int)) (kt : iI b ≤ iI a → G tgt lv st σ) (kf : ¬ iI b ≤ iI a → G (pc + 3) lv st σ) : G pc lv (.int (iI b) :: .int (iI a) :: st) σ := by
  obtain ⟨p, e, s, m, args, below, meth, c, A, cells, slots, Q, ⟨hx, hb, -⟩, rfl, -⟩ := hX
  exact fun hB H locs ls hP hS h => lv_icmp_ge hx hb hd ht (fun q => kt q hB H locs ls hP hS h) (fun q => kf q hB H locs ls hP hS h)
theorem r_icmp_gt (hX : Cx S l w cc nL ret own R P G) {a b off : Int} {tgt : Nat} (hd : decode cc pc = .ok (.if_icmp .gt off, 3)) (ht : (pc : Int) + off = (tgt : Int)) (ha : inr a) (hb2 : inr b) (kt : b < a → G tgt lv st σ) (kf : a ≤ b → G (pc + 3) lv st σ) : G pc lv (.int (iI b) :: .int (iI a) :: st) σ := by
  obtain ⟨p, e, s, m, args, below, meth, c, A, cells, slots, Q, ⟨hx, hb, -⟩, rfl, -⟩ := hX
  exact fun hB H locs ls hP hS h => lv_icmp_gt hx hb hd ht (fun q => kt (by rw [iI_lt hb2 ha] at q; omega) hB H locs ls hP hS h) (fun q => kf (by rw [iI_lt hb2 ha] at q; omega) hB H locs ls hP hS h)
theorem r_if_gt (hX : Cx S l w cc nL ret own R P G) {a off : Int} {tgt : Nat} (hd : decode cc pc = .ok (.ifCond .gt off, 3)) (ht : (pc : Int) + off = (tgt : Int)) (ha : inr a) (kt : 0 < a → G tgt lv st σ) (kf : a ≤ 0 → G (pc + 3) lv st σ) : G pc lv (.int (iI a) :: st) σ := by
  obtain ⟨p, e, s, m, args, below, meth, c, A, cells, slots, Q, ⟨hx, hb, -⟩, rfl, -⟩ := hX
  have hb2 : inr 0 := ⟨by omega, by omega⟩
  exact fun hB H locs ls hP hS h => lv_if_gt hx hb hd ht (fun q => kt (by rw [← iI_zero, iI_lt hb2 ha] at q; omega) hB H locs ls hP hS h) (fun q => kf (by rw [← iI_zero, iI_lt hb2 ha] at q; omega) hB H locs ls hP hS h)
theorem r_icmpR_gt (hX : Cx S l w cc nL ret own R P G) {a b off : Int} {tgt : Nat} (hd : decode cc pc = .ok (.if_icmp .gt off, 3)) (ht : (pc : Int) + off = (tgt : Int)) (kt : iI b < iI a → G tgt lv st σ) (kf : ¬ iI b < iI a → G (pc + 3) lv st σ) : G pc lv (.int (iI b) :: .int (iI a) :: st) σ := by
  obtain ⟨p, e, s, m, args, below, meth, c, A, cells, slots, Q, ⟨hx, hb, -⟩, rfl, -⟩ := hX
  exact fun hB H locs ls hP hS h => lv_icmp_gt hx hb hd ht (fun q => kt q hB H locs ls hP hS h) (fun q => kf q hB H locs ls hP hS h)
theorem r_icmp_le (hX : Cx S l w cc nL ret own R P G) {a b off : Int} {tgt : Nat} (hd : decode cc pc = .ok (.if_icmp .le off, 3)) (ht : (pc : Int) + off = (tgt : Int)) (ha : inr a) (hb2 : inr b) (kt : a ≤ b → G tgt lv st σ) (kf : b < a → G (pc + 3) lv st σ) : G pc lv (.int (iI b) :: .int (iI a) :: st) σ := by
  obtain ⟨p, e, s, m, args, below, meth, c, A, cells, slots, Q, ⟨hx, hb, -⟩, rfl, -⟩ := hX
  exact fun hB H locs ls hP hS h => lv_icmp_le hx hb hd ht (fun q => kt (by rw [iI_le ha hb2] at q; omega) hB H locs ls hP hS h) (fun q => kf (by rw [iI_le ha hb2] at q; omega) hB H locs ls hP hS h)
theorem r_if_le (hX : Cx S l w cc nL ret own R P G) {a off : Int} {tgt : Nat} (hd : decode cc pc = .ok (.ifCond .le off, 3)) (ht : (pc : Int) + off = (tgt : Int)) (ha : inr a) (kt : a ≤ 0 → G tgt lv st σ) (kf : 0 < a → G (pc + 3) lv st σ) : G pc lv (.int (iI a) :: st) σ := by
  obtain ⟨p, e, s, m, args, below, meth, c, A, cells, slots, Q, ⟨hx, hb, -⟩, rfl, -⟩ := hX
  have hb2 : inr 0 := ⟨by omega, by omega⟩
  exact fun hB H locs ls hP hS h => lv_if_le hx hb hd ht (fun q => kt (by rw [← iI_zero, iI_le ha hb2] at q; omega) hB H locs ls hP hS h) (fun q => kf (by rw [← iI_zero, iI_le ha hb2] at q; omega) hB H locs ls hP hS h)
theorem r_icmpR_le (hX : Cx S l w cc nL ret own R P G) {a b off : Int} {tgt : Nat} (hd : decode cc pc = .ok (.if_icmp .le off, 3)) (ht : (pc : Int) + off = (tgt : Int)) (kt : iI a ≤ iI b → G tgt lv st σ) (kf : ¬ iI a ≤ iI b → G (pc + 3) lv st σ) : G pc lv (.int (iI b) :: .int (iI a) :: st) σ := by
  obtain ⟨p, e, s, m, args, below, meth, c, A, cells, slots, Q, ⟨hx, hb, -⟩, rfl, -⟩ := hX
  exact fun hB H locs ls hP hS h => lv_icmp_le hx hb hd ht (fun q => kt q hB H locs ls hP hS h) (fun q => kf q hB H locs ls hP hS h)
theorem r_getI (hX : Cx S l w cc nL ret own R P G) {C : String} {T : u_T} {N ci i k r idx : Nat} {fs : List FS} (hd : decode cc pc = .ok (.getfield idx, 3)) (hs : S.2.1[i]? = some (.inl (ci, fs))) (hc : S.1[ci]? = some (C, T, N)) (hin : ∀ x ∈ u_ws C T N, x ∈ gtb) (hk : k < N) (hf : fs[k]? = some (.inl r)) (hl : Cond.fieldLink own idx (T k).1 (T k).2.1 (T k).2.2.1 ∈ gtb) (kk : G (pc + 3) lv (.int (iI (σ r 0)) :: st) σ) : G pc lv (.ref (w.2.2 i) :: st) σ := by
  obtain ⟨p, e, s, m, args, below, meth, c, A, cells, slots, Q, ⟨hx, hb, hml, hown, hts, hK, -⟩, rfl, -⟩ := hX
  exact fun hB H locs ls hP hS h => va_get (fs := fs.map (fv w.2.2 σ)) hx hb hts hin hown hK hP i (wd_get hs) hc k hk (hts _ hl) (fun _ z => z) (by rw [List.getElem?_map, hf]; rfl) hd (kk hB H locs ls hP hS h)
theorem r_getR (hX : Cx S l w cc nL ret own R P G) {C : String} {T : u_T} {N ci i k j idx : Nat} {fs : List FS} (hd : decode cc pc = .ok (.getfield idx, 3)) (hs : S.2.1[i]? = some (.inl (ci, fs))) (hc : S.1[ci]? = some (C, T, N)) (hin : ∀ x ∈ u_ws C T N, x ∈ gtb) (hk : k < N) (hf : fs[k]? = some (.inr j)) (hl : Cond.fieldLink own idx (T k).1 (T k).2.1 (T k).2.2.1 ∈ gtb) (kk : G (pc + 3) lv (.ref (w.2.2 j) :: st) σ) : G pc lv (.ref (w.2.2 i) :: st) σ := by
  obtain ⟨p, e, s, m, args, below, meth, c, A, cells, slots, Q, ⟨hx, hb, hml, hown, hts, hK, -⟩, rfl, -⟩ := hX
  exact fun hB H locs ls hP hS h => va_get (fs := fs.map (fv w.2.2 σ)) hx hb hts hin hown hK hP i (wd_get hs) hc k hk (hts _ hl) (fun _ z => z) (by rw [List.getElem?_map, hf]; rfl) hd (kk hB H locs ls hP hS h)
theorem r_putI (hX : Cx S l w cc nL ret own R P G) {C : String} {T : u_T} {N ci i k r idx : Nat} {fs : List FS} {z : Int} (hd : decode cc pc = .ok (.putfield idx, 3)) (hs : S.2.1[i]? = some (.inl (ci, fs))) (hc : S.1[ci]? = some (C, T, N)) (hin : ∀ x ∈ u_ws C T N, x ∈ gtb) (ty0 : Nat → FieldType) (hty : ∀ k, k < N → parseFieldDescriptor (T k).2.2.1 = some (ty0 k)) (hnm : ∀ a, a < N → ∀ b, b < N → a ≠ b → (T a).2.1 ≠ (T b).2.1) (hk : k < N) (hf : fs[k]? = some (.inl r)) (hl : Cond.fieldLink own idx (T k).1 (T k).2.1 (T k).2.2.1 ∈ gtb) (hfin : (T k).2.2.2 = false) (hpd : parseFieldDescriptor (T k).2.2.1 = some .int) (ho : sepR S.2.1 i r = true) (ho2 : fsep fs k r = true)
    (hbd : ∀ lo hi, S.2.2[r]? = some (some (lo, hi)) → lo ≤ z ∧ z ≤ hi) (kk : G (pc + 3) lv st (up σ r 0 z)) : G pc lv (.int (iI z) :: .ref (w.2.2 i) :: st) σ := by
  obtain ⟨p, e, s, m, args, below, meth, c, A, cells, slots, Q, ⟨hx, hb, hml, hown, hts, hK, hI, hA, -⟩, rfl, -⟩ := hX
  intro hB H locs ls hP hS h
  refine va_put (fs := fs.map (fv w.2.2 σ)) (ty := .int) hx hb hts hin ty0 hty hnm hown hK hP (wd_D hI hA σ) hS i (wd_get hs) hc k hk (hts _ hl) (fun _ z => z) hfin hpd rfl rfl (by rw [List.length_map]; exact (List.getElem?_eq_some_iff.mp hf).1) hd fun H1 locs1 hP1 hD1 hS1 => kk (hB.up hbd) H1 locs1 ls ?_ hS1 h
  rw [wd_up (e := 0) (v := z) hs ho (show ce w (up σ r 0 z) (.inl (ci, fs)) = _ by simp only [ce]; rw [fs_set hf ho2])] at hP1
  exact hP1
theorem sh_len {sh : List SH} {i r n : Nat} {b : Bool} (h : sh.all shOK = true) (hs : sh[i]? = some (.inr (b, r, n))) : n ≤ 1000000 := by
  have h1 := List.all_eq_true.mp h _ (List.mem_of_getElem? hs)
  exact Nat.le_of_ble_eq_true h1
theorem r_iald (hX : Cx S l w cc nL ret own R P G) {i r n : Nat} {a : Int} (hd : decode cc pc = .ok (.iaload, 1)) (hs : S.2.1[i]? = some (.inr (false, r, n))) (h0 : 0 ≤ a) (h1 : a < (n : Int)) (kk : G (pc + 1) lv (.int (iI (σ r a)) :: st) σ) : G pc lv (.int (iI a) :: .ref (w.2.2 i) :: st) σ := by
  obtain ⟨p, e, s, m, args, below, meth, c, A, cells, slots, Q, ⟨hx, hb, hml, hown, hts, hK, hI, hA, -, -, hsh, -⟩, rfl, -⟩ := hX
  intro hB H locs ls hP hS h
  have hn := sh_len hsh hs
  refine va_iald hx hb hK hP i 0 (wd_get hs) rfl (iI_in h0 h1 hn) hd ?_
  rw [iI_clamp h0 (by omega)]
  exact kk hB H locs ls hP hS h
theorem r_zald (hX : Cx S l w cc nL ret own R P G) {i r n : Nat} {a : Int} (hd : decode cc pc = .ok (.baload, 1)) (hs : S.2.1[i]? = some (.inr (true, r, n))) (h0 : 0 ≤ a) (h1 : a < (n : Int)) (kk : G (pc + 1) lv (.int (iI (σ r a)) :: st) σ) : G pc lv (.int (iI a) :: .ref (w.2.2 i) :: st) σ := by
  obtain ⟨p, e, s, m, args, below, meth, c, A, cells, slots, Q, ⟨hx, hb, hml, hown, hts, hK, hI, hA, -, -, hsh, -⟩, rfl, -⟩ := hX
  intro hB H locs ls hP hS h
  have hn := sh_len hsh hs
  refine va_zald hx hb hK hP i 1 (wd_get hs) rfl (iI_in h0 h1 hn) hd ?_
  rw [iI_clamp h0 (by omega)]
  exact kk hB H locs ls hP hS h
theorem upd_up {σ : MM} {r : Nat} {a z : Int} (h0 : 0 ≤ a) (h1 : a ≤ 2147483647) : upd (fun k => iI (σ r (k : Int))) (iI a).toNatClampNeg (iI z) = fun k : Nat => iI (up σ r a z r (k : Int)) := by
  funext k
  have h2 := iI_clamp h0 h1
  simp only [upd, up_at]
  by_cases hk : k = (iI a).toNatClampNeg
  · rw [if_pos hk, if_pos (by omega)]
  · rw [if_neg hk, if_neg (by omega)]
theorem r_iast (hX : Cx S l w cc nL ret own R P G) {i r n : Nat} {a z : Int} (hd : decode cc pc = .ok (.iastore, 1)) (hs : S.2.1[i]? = some (.inr (false, r, n))) (ho : sepR S.2.1 i r = true) (h0 : 0 ≤ a) (h1 : a < (n : Int)) (hbd : ∀ lo hi, S.2.2[r]? = some (some (lo, hi)) → lo ≤ z ∧ z ≤ hi) (kk : G (pc + 1) lv st (up σ r a z)) : G pc lv (.int (iI z) :: .int (iI a) :: .ref (w.2.2 i) :: st) σ := by
  obtain ⟨p, e, s, m, args, below, meth, c, A, cells, slots, Q, ⟨hx, hb, hml, hown, hts, hK, hI, hA, -, -, hsh, -⟩, rfl, -⟩ := hX
  intro hB H locs ls hP hS h
  have hn := sh_len hsh hs
  refine va_iast hx hb hK hP (wd_D hI hA σ) hS i 0 (wd_get hs) rfl (iI_in h0 h1 hn) hd fun H1 locs1 hP1 hD1 hS1 => kk (hB.up hbd) H1 locs1 ls ?_ hS1 h
  rw [wd_up (e := a) (v := z) hs ho (show ce w (up σ r a z) (.inr (false, r, n)) = _ by simp only [ce]; rw [← upd_up h0 (by omega)])] at hP1
  exact hP1
theorem zn (z : Int) (hz : z = 0 ∨ z = 1) : vp_nar .boolean (iI z) = iI z := by
  rcases hz with rfl | rfl <;> decide
theorem r_zast (hX : Cx S l w cc nL ret own R P G) {i r n : Nat} {a z : Int} (hd : decode cc pc = .ok (.bastore, 1)) (hs : S.2.1[i]? = some (.inr (true, r, n))) (ho : sepR S.2.1 i r = true) (h0 : 0 ≤ a) (h1 : a < (n : Int)) (hz : z = 0 ∨ z = 1) (hbd : ∀ lo hi, S.2.2[r]? = some (some (lo, hi)) → lo ≤ z ∧ z ≤ hi) (kk : G (pc + 1) lv st (up σ r a z)) : G pc lv (.int (iI z) :: .int (iI a) :: .ref (w.2.2 i) :: st) σ := by
  obtain ⟨p, e, s, m, args, below, meth, c, A, cells, slots, Q, ⟨hx, hb, hml, hown, hts, hK, hI, hA, -, -, hsh, -⟩, rfl, -⟩ := hX
  intro hB H locs ls hP hS h
  have hn := sh_len hsh hs
  refine va_zast hx hb hK hP (wd_D hI hA σ) hS i 1 (wd_get hs) rfl (iI_in h0 h1 hn) hd fun H1 locs1 hP1 hD1 hS1 => kk (hB.up hbd) H1 locs1 ls ?_ hS1 h
  rw [zn z hz] at hP1
  rw [wd_up (e := a) (v := z) hs ho (show ce w (up σ r a z) (.inr (true, r, n)) = _ by simp only [ce]; rw [← upd_up h0 (by omega)])] at hP1
  exact hP1
theorem r_alen (hX : Cx S l w cc nL ret own R P G) {i r n : Nat} (hd : decode cc pc = .ok (.arraylength, 1)) (hs : S.2.1[i]? = some (.inr (false, r, n))) (kk : G (pc + 1) lv (.int (iI (n : Int)) :: st) σ) : G pc lv (.ref (w.2.2 i) :: st) σ := by
  obtain ⟨p, e, s, m, args, below, meth, c, A, cells, slots, Q, ⟨hx, hb, hml, hown, hts, hK, hI, hA, -, -, hsh, -⟩, rfl, -⟩ := hX
  intro hB H locs ls hP hS h
  exact va_alen hx hb hK hP i 0 (wd_get hs) rfl (show Int32.ofNat n = iI (n : Int) from Int32.ofInt_eq_ofNat.symm) hd (kk hB H locs ls hP hS h)
theorem r_ret (hX : Cx S l w cc nL ret own R P G) (hd : decode cc pc = .ok (.return_, 1)) (hr : ret = none) (hp : P none σ) : G pc lv [] σ := by
  obtain ⟨p, e, s, m, args, below, meth, c, A, cells, slots, Q, -, -, hR⟩ := hX
  exact hR pc lv none σ ⟨hd, hr⟩ hp
theorem r_iret (hX : Cx S l w cc nL ret own R P G) {z : Int} (hd : decode cc pc = .ok (.ireturn, 1)) (hr : ret = some .int) (hp : P (some (.int (iI z))) σ) : G pc lv [.int (iI z)] σ := by
  obtain ⟨p, e, s, m, args, below, meth, c, A, cells, slots, Q, -, -, hR⟩ := hX
  exact hR pc lv (some (.int (iI z))) σ ⟨hd, .int, hr, Or.inl rfl, rfl⟩ hp
theorem nar_z (z : Int) (hz : z = 0 ∨ z = 1) : narrow .boolean (.int (iI z)) = .int (iI z) := by
  rcases hz with rfl | rfl <;> decide
theorem r_zret (hX : Cx S l w cc nL ret own R P G) {z : Int} (hd : decode cc pc = .ok (.ireturn, 1)) (hr : ret = some .boolean) (hz : z = 0 ∨ z = 1) (hp : P (some (.int (iI z))) σ) : G pc lv [.int (iI z)] σ := by
  obtain ⟨p, e, s, m, args, below, meth, c, A, cells, slots, Q, -, -, hR⟩ := hX
  exact hR pc lv (some (.int (iI z))) σ ⟨hd, .boolean, hr, Or.inr rfl, nar_z z hz⟩ hp
theorem r_lret (hX : Cx S l w cc nL ret own R P G) {z : Int} (hd : decode cc pc = .ok (.lreturn, 1)) (hr : ret = some .long) (hp : P (some (.long (lI z))) σ) : G pc lv [.long (lI z)] σ := by
  obtain ⟨p, e, s, m, args, below, meth, c, A, cells, slots, Q, -, -, hR⟩ := hX
  exact hR pc lv (some (.long (lI z))) σ ⟨hd, hr⟩ hp
end RULES
