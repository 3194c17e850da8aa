/-! CALLS, Math, arraycopy -/
abbrev MFs (y : MethodName) (cc : ByteArray) (nL : Nat) (ret : Option FieldType) (n : Nat) : Prop := Cond.code y cc nL ret ∈ gtb ∧ Cond.initialized y.cls ∈ gtb ∧ (y.cls ≠ "java/lang/invoke/MethodHandle" ∧ y.cls ≠ "java/lang/invoke/VarHandle") ∧ (parseMethodDescriptor y.desc).map (fun d => d.parameters.length) = some n
abbrev MFv (y : MethodName) : Prop := Cond.instanceMethod y ∈ gtb ∧ Cond.selects y.cls y y ∈ gtb
section RUN
variable {p : Program} {l : Launch} {e : Env} {R : Room} {s : State} {m : MethodId} {args : Array Value} {below : List Frame} {meth : Method} {c : Code} {H : Heap} {locs : List Loc} {cells slots : Nat} {Q : State → Prop} {S : ST} {w : WT} {PC : Option Value → MM → Prop} {pc : Nat} {ls : Array Slot} {st st0 : List Value} {a : Array Value} {A : Nat → Prop} {H0 : Heap} {σ : MM}
theorem run_go (hr : va_Run p l e R s m args below meth c H locs cells slots 0 0 (F0 m pc ls st0) st (QQ S w PC a) (Aw S w)) (hS : va_S A H0 H locs) (hA : ∀ i, i < S.2.1.length → A (w.2.2 i))
    (kk : ∀ (r : Option Value) (σ1 : MM) (H1 : Heap) (locs1 : List Loc), PC r σ1 → Bd S.2.2 σ1 → va_P w.1 S.1 (wd w S.2.1 σ1) H1 → va_S A H0 H1 locs1 → W p l e R s m args below meth c H1 locs1 cells slots Q (F0 m (pc + 3) ls (r.toList ++ st))) : W p l e R s m args below meth c H locs cells slots Q (F0 m pc ls st0) := by
  intro T hT X
  obtain ⟨v, st₀, t, T', L, h0, X', hL, e1, e2, ⟨⟨r, σ1, hv, hp, hP, hK, hI, hB, -⟩, hz, hk⟩, stp⟩ := hr T hT X
  cases hv
  rw [h0] at hz hk
  rw [← e1] at hP hz hk
  have hAw : ∀ q, Aw S w q → A q := fun q hq => by
    obtain ⟨i, h1, h2⟩ := hq
    rw [h2]
    exact hA i h1
  obtain ⟨t2, a1, b1⟩ := kk v σ1 T'.heap (locs ++ L) hp hB hP
    ⟨Nat.le_trans hS.1 hz, fun q h1 h2 => by rw [hk q (Nat.lt_of_lt_of_le h1 hS.1) (fun z => h2 (hAw q z))]; exact hS.2.1 q h1 h2, fun q hq => by
      rcases List.mem_append.mp hq with h | h
      · exact hS.2.2 q h
      · exact hAw _ (hL q h)⟩ T' rfl X'
  exact ⟨t2, stp t2 a1, b1⟩
end RUN
section CALLS
variable {S : ST} {l : Launch} {w : WT} {cc : ByteArray} {nL : Nat} {ret : Option FieldType} {own : String} {R : Room} {P : Option Value → MM → Prop} {G : GT} {pc : Nat} {lv : List (Option Value)} {stk st as : List Value} {σ : MM} {y : MethodName} {cc1 : ByteArray} {nL1 : Nat} {ret1 : Option FieldType} {fr lo n idx : Nat} {PC : Option Value → MM → Prop}
theorem r_callV (hX : Cx S l w cc nL ret own R P G) {i ci N : Nat} {C : String} {T : u_T} {fs : List FS} (hd : decode cc pc = .ok (.invokevirtual idx, 3)) (hC : CT S l w y cc1 nL1 ret1 fr lo (.ref (w.2.2 i) :: as) σ PC) (hm : MFs y cc1 nL1 ret1 n) (hm2 : MFv y) (hl : Cond.methodLink own idx y ∈ gtb) (hs : S.2.1[i]? = some (.inl (ci, fs))) (hc : S.1[ci]? = some (C, T, N)) (hyc : y.cls = C) (hn : as.length = n) (hstk : stk = as.reverse ++ .ref (w.2.2 i) :: st) (hR : fr + 1 ≤ R.frames ∧ 8 + (nL1 + 11) + lo ≤ R.locals) (hst : (st.map fun v => v.category).sum ≤ 8) (k : ∀ (r : Option Value) (σ1 : MM), PC r σ1 → G (pc + 3) lv (r.toList ++ st) σ1) : G pc lv stk σ := by
  obtain ⟨p, e, s, m, args, below, meth, c, A, cells, slots, Q, ⟨hx, hb, hml, hown, hts, hK, hI, hA, hc0, hs0, hsh, hN⟩, rfl, -⟩ := hX
  obtain ⟨m1, m2, m3, m4⟩ := hm
  intro hB H locs ls hP hS h
  subst hstk
  subst hyc
  have hlen : ∀ sig, parseMethodDescriptor y.desc = some sig → n = sig.parameters.length := fun sig h => by
    rw [h] at m4
    exact (Option.some.inj m4).symm
  refine run_go (va_runV (As := as) (rest := st) (Ts := gtb) (own := own) (nL := nL) (n := n) ⟨hx, hb, hml, hown, hts⟩ hC ⟨⟨rfl, rfl, hR.1, hR.2, pay_in hts (good_tbl m1), List.mem_cons_self, hts _ m1, hts _ m2, m3, hlen, hts _ hl⟩, hts _ hm2.1, hts _ hm2.2⟩ ⟨WDs.blind, va_recv hK hP hc (wd_get hs), fun U hU hW => ⟨rfl, by rw [hU]; exact hP, va_K.moved hW.alike hK, hI, hB, va_Nw.warmM hW hN⟩⟩ rfl hn h.1 rfl (lv_room hst) hd ⟨hc0, hs0⟩) hS hA (fun r σ1 H1 locs1 hp hB1 hP1 hS1 => k r σ1 hp hB1 H1 locs1 ls hP1 hS1 h)
theorem r_callS (hX : Cx S l w cc nL ret own R P G) (hd : decode cc pc = .ok (.invokestatic idx, 3)) (hC : CT S l w y cc1 nL1 ret1 fr lo as σ PC) (hm : MFs y cc1 nL1 ret1 n) (hm2 : Cond.static y ∈ gtb) (hl : Cond.methodLink own idx y ∈ gtb) (hn : as.length = n) (hstk : stk = as.reverse ++ st) (hR : fr + 1 ≤ R.frames ∧ 8 + (nL1 + 11) + lo ≤ R.locals) (hst : (st.map fun v => v.category).sum ≤ 8) (k : ∀ (r : Option Value) (σ1 : MM), PC r σ1 → G (pc + 3) lv (r.toList ++ st) σ1) : G pc lv stk σ := by
  obtain ⟨p, e, s, m, args, below, meth, c, A, cells, slots, Q, ⟨hx, hb, hml, hown, hts, hK, hI, hA, hc0, hs0, hsh, hN⟩, rfl, -⟩ := hX
  obtain ⟨m1, m2, m3, m4⟩ := hm
  intro hB H locs ls hP hS h
  subst hstk
  have hlen : ∀ sig, parseMethodDescriptor y.desc = some sig → n = sig.parameters.length := fun sig h => by
    rw [h] at m4
    exact (Option.some.inj m4).symm
  refine run_go (va_runS (As := as) (rest := st) (Ts := gtb) (own := own) (nL := nL) (n := n) ⟨hx, hb, hml, hown, hts⟩ hC ⟨⟨rfl, rfl, hR.1, hR.2, pay_in hts (good_tbl m1), List.mem_cons_self, hts _ m1, hts _ m2, m3, hlen, hts _ hl⟩, hts _ hm2⟩ ⟨WDs.blind, fun U hU hW => ⟨rfl, by rw [hU]; exact hP, va_K.moved hW.alike hK, hI, hB, va_Nw.warmM hW hN⟩⟩ rfl hn h.1 rfl (lv_room hst) hd ⟨hc0, hs0⟩) hS hA (fun r σ1 H1 locs1 hp hB1 hP1 hS1 => k r σ1 hp hB1 H1 locs1 ls hP1 hS1 h)
theorem r_callSN (hX : Cx S l w cc nL ret own R P G) (hd : decode cc pc = .ok (.invokestatic idx, 3)) (hC : CT S l w y cc1 nL1 ret1 fr lo as σ PC) (hm : MFs y cc1 nL1 ret1 n) (hm2 : Cond.static y ∈ gtb) {host : String} (hl : nestW = Cond.methodLinkNest own idx y host) (hn : as.length = n) (hstk : stk = as.reverse ++ st) (hR : fr + 1 ≤ R.frames ∧ 8 + (nL1 + 11) + lo ≤ R.locals) (hst : (st.map fun v => v.category).sum ≤ 8) (k : ∀ (r : Option Value) (σ1 : MM), PC r σ1 → G (pc + 3) lv (r.toList ++ st) σ1) : G pc lv stk σ := by
  obtain ⟨p, e, s, m, args, below, meth, c, A, cells, slots, Q, ⟨hx, hb, hml, hown, hts, hK, hI, hA, hc0, hs0, hsh, hN⟩, rfl, -⟩ := hX
  obtain ⟨m1, m2, m3, m4⟩ := hm
  intro hB H locs ls hP hS h
  subst hstk
  have hlen : ∀ sig, parseMethodDescriptor y.desc = some sig → n = sig.parameters.length := fun sig h => by
    rw [h] at m4
    exact (Option.some.inj m4).symm
  refine run_go (va_runSN (As := as) (rest := st) (Ts := gtb) (own := own) (nL := nL) (n := n) ⟨hx, hb, hml, hown, hts⟩ hC ⟨⟨⟨rfl, rfl, hR.1, hR.2, pay_in hts (good_tbl m1), List.mem_cons_self⟩, hts _ m1, hts _ m2, m3, hlen, va_Nw.use rfl (hl ▸ hN)⟩, hts _ hm2, trivial⟩ ⟨WDs.blind, fun U hU hW => ⟨rfl, by rw [hU]; exact hP, va_K.moved hW.alike hK, hI, hB, va_Nw.warmM hW hN⟩⟩ rfl hn h.1 rfl (lv_room hst) hd ⟨hc0, hs0⟩) hS hA (fun r σ1 H1 locs1 hp hB1 hP1 hS1 => k r σ1 hp hB1 H1 locs1 ls hP1 hS1 h)
/-- the forms of what comes back -/
abbrev PI (p : Int → MM → Prop) : Option Value → MM → Prop := fun r σ1 => ∃ z : Int, r = some (.int (iI z)) ∧ p z σ1
abbrev PL (p : Int → MM → Prop) : Option Value → MM → Prop := fun r σ1 => ∃ z : Int, r = some (.long (lI z)) ∧ p z σ1
abbrev PV (p : MM → Prop) : Option Value → MM → Prop := fun r σ1 => r = none ∧ p σ1
theorem kI {p : Int → MM → Prop} (k : ∀ (z : Int) (σ1 : MM), p z σ1 → G pc lv (.int (iI z) :: st) σ1) : ∀ (r : Option Value) (σ1 : MM), PI p r σ1 → G pc lv (r.toList ++ st) σ1 := fun r σ1 h => by
  obtain ⟨z, rfl, hz⟩ := h
  exact k z σ1 hz
theorem kL {p : Int → MM → Prop} (k : ∀ (z : Int) (σ1 : MM), p z σ1 → G pc lv (.long (lI z) :: st) σ1) : ∀ (r : Option Value) (σ1 : MM), PL p r σ1 → G pc lv (r.toList ++ st) σ1 := fun r σ1 h => by
  obtain ⟨z, rfl, hz⟩ := h
  exact k z σ1 hz
theorem kV {p : MM → Prop} (k : ∀ (σ1 : MM), p σ1 → G pc lv st σ1) : ∀ (r : Option Value) (σ1 : MM), PV p r σ1 → G pc lv (r.toList ++ st) σ1 := fun r σ1 h => by
  obtain ⟨rfl, hz⟩ := h
  exact k σ1 hz
theorem r_max (hX : Cx S l w cc nL ret own R P G) {a b : Int} (hd : decode cc pc = .ok (.invokestatic idx, 3)) (hl : Cond.methodLink own idx Lib.Math.max.name ∈ gtb) (h1 : Cond.static Lib.Math.max.name ∈ gtb) (h2 : Cond.initialized "java/lang/Math" ∈ gtb) (h3 : Cond.code Lib.Math.max.name Lib.Math.max.code 2 (some .int) ∈ gtb) (hR : 1 ≤ R.frames) (hR2 : (st.map fun v => v.category).sum + 13 ≤ R.locals) (k : ∀ z : Int, (iI a < iI b ∧ z = b) ∨ (¬ iI a < iI b ∧ z = a) → G (pc + 3) lv (.int (iI z) :: st) σ) : G pc lv (.int (iI b) :: .int (iI a) :: st) σ := by
  obtain ⟨p, e, s, m, args, below, meth, c, A, cells, slots, Q, ⟨hx, hb, hml, hown, hts, hK, hI, hA, hc0, hs0, hsh, hN⟩, rfl, -⟩ := hX
  intro hB H locs ls hP hS h
  refine va_mmax hx hb (hml.trans h.1.symm) hown (hts _ hl) (hts _ h1) (hts _ h2) (hts _ h3) hR hR2 hc0 hs0 hd ?_
  by_cases q : iI a < iI b
  · rw [if_pos q]
    exact k b (Or.inl ⟨q, rfl⟩) hB H locs ls hP hS h
  · rw [if_neg q]
    exact k a (Or.inr ⟨q, rfl⟩) hB H locs ls hP hS h
theorem r_min (hX : Cx S l w cc nL ret own R P G) {a b : Int} (hd : decode cc pc = .ok (.invokestatic idx, 3)) (hl : Cond.methodLink own idx Lib.Math.min.name ∈ gtb) (h1 : Cond.static Lib.Math.min.name ∈ gtb) (h2 : Cond.initialized "java/lang/Math" ∈ gtb) (h3 : Cond.code Lib.Math.min.name Lib.Math.min.code 2 (some .int) ∈ gtb) (hR : 1 ≤ R.frames) (hR2 : (st.map fun v => v.category).sum + 13 ≤ R.locals) (k : ∀ z : Int, (iI b < iI a ∧ z = b) ∨ (¬ iI b < iI a ∧ z = a) → G (pc + 3) lv (.int (iI z) :: st) σ) : G pc lv (.int (iI b) :: .int (iI a) :: st) σ := by
  obtain ⟨p, e, s, m, args, below, meth, c, A, cells, slots, Q, ⟨hx, hb, hml, hown, hts, hK, hI, hA, hc0, hs0, hsh, hN⟩, rfl, -⟩ := hX
  intro hB H locs ls hP hS h
  refine va_mmin hx hb (hml.trans h.1.symm) hown (hts _ hl) (hts _ h1) (hts _ h2) (hts _ h3) hR hR2 hc0 hs0 hd ?_
  by_cases q : iI b < iI a
  · rw [if_pos q]
    exact k b (Or.inl ⟨q, rfl⟩) hB H locs ls hP hS h
  · rw [if_neg q]
    exact k a (Or.inr ⟨q, rfl⟩) hB H locs ls hP hS h
theorem r_abs (hX : Cx S l w cc nL ret own R P G) {a : Int} (hd : decode cc pc = .ok (.invokestatic idx, 3)) (hl : Cond.methodLink own idx Lib.Math.abs.name ∈ gtb) (h1 : Cond.static Lib.Math.abs.name ∈ gtb) (h2 : Cond.initialized "java/lang/Math" ∈ gtb) (h3 : Cond.code Lib.Math.abs.name Lib.Math.abs.code 1 (some .int) ∈ gtb) (hR : 1 ≤ R.frames) (hR2 : (st.map fun v => v.category).sum + 13 ≤ R.locals) (ha : inr a) (k : ∀ z : Int, (0 ≤ a ∧ z = a) ∨ (a < 0 ∧ z = -a) → G (pc + 3) lv (.int (iI z) :: st) σ) : G pc lv (.int (iI a) :: st) σ := by
  obtain ⟨p, e, s, m, args, below, meth, c, A, cells, slots, Q, ⟨hx, hb, hml, hown, hts, hK, hI, hA, hc0, hs0, hsh, hN⟩, rfl, -⟩ := hX
  intro hB H locs ls hP hS h
  refine va_mabs hx hb (hml.trans h.1.symm) hown (hts _ hl) (hts _ h1) (hts _ h2) (hts _ h3) hR hR2 hc0 hs0 hd ?_
  have h0 : (0 : Int32) = iI 0 := iI_zero.symm
  have i0 : inr 0 := ⟨by omega, by omega⟩
  by_cases q : 0 ≤ a
  · rw [if_pos (by rw [h0, iI_le i0 ha]; exact q)]
    exact k a (Or.inl ⟨q, rfl⟩) hB H locs ls hP hS h
  · rw [if_neg (by rw [h0, iI_le i0 ha]; exact q), h0, iI_sub, Int.zero_sub]
    exact k (-a) (Or.inr ⟨by omega, rfl⟩) hB H locs ls hP hS h
-- arraycopy within one array
theorem wd_upG {sh : List SH} {σ σ1 : MM} {i r : Nat} {s : SH} {x : va_E} (hs : sh[i]? = some s) (ho : sepR sh i r = true) (hne : ∀ a, a ≠ r → σ1 a = σ a) (hx : ce w σ1 s = x) : (wd w sh σ).set i (w.2.2 i, x) = wd w sh σ1 := by
  have hl : i < (wd w sh σ).length := (List.getElem?_eq_some_iff.mp (wd_get (w := w) (σ := σ) hs)).1
  have hfv : ∀ f : FS, hasF r f = false → fv w.2.2 σ1 f = fv w.2.2 σ f := by
    intro f h
    cases f with
    | inr j => rfl
    | inl q =>
      have h1 : q ≠ r := by simpa [hasF] using h
      simp [fv, hne q h1]
  have hce : ∀ t : SH, hasR r t = false → ce w σ1 t = ce w σ t := by
    intro t h
    cases t with
    | inr a =>
      have h1 : a.2.1 ≠ r := by simpa [hasR] using h
      simp [ce, hne _ h1]
    | inl o =>
      have h1 : ∀ f ∈ o.2, hasF r f = false := by simpa [hasR] using h
      have h2 : o.2.map (fv w.2.2 σ1) = o.2.map (fv w.2.2 σ) := List.map_congr_left fun f hf => hfv f (h1 f hf)
      simp [ce, h2]
  apply List.ext_getElem?
  intro j
  by_cases hj : j = i
  · subst hj
    rw [List.getElem?_set_self hl, wd_get hs, hx]
  · rw [List.getElem?_set_ne (Ne.symm hj), wd_at, wd_at]
    cases hsj : sh[j]? with
    | none => rfl
    | some t => simp [hce t (sepR_ne ho hsj hj)]
def cpy (σ : MM) (r : Nat) (sp dp n : Int) : MM := fun a b => if a = r ∧ dp ≤ b ∧ b < dp + n then σ r (sp + (b - dp)) else σ a b
theorem cpy_mod {r : Nat} {sp dp n : Int} : Mod [r] σ (cpy σ r sp dp n) := fun q h => by
  have h1 : q ≠ r := by simpa using h
  funext b
  simp [cpy, h1]
theorem cpy_at {r : Nat} {sp dp n b : Int} : cpy σ r sp dp n r b = if dp ≤ b ∧ b < dp + n then σ r (sp + (b - dp)) else σ r b := by simp [cpy]
theorem Bd.cpy {bd : List (Option (Int × Int))} {r : Nat} {sp dp n : Int} (h : Bd bd σ) : Bd bd (cpy σ r sp dp n) := by
  intro q lo hi hq k
  by_cases h1 : q = r
  · subst h1
    rw [cpy_at]
    split
    · exact h q lo hi hq _
    · exact h q lo hi hq k
  · rw [cpy_mod.at q (by simpa using h1)]
    exact h q lo hi hq k
theorem r_copy (hX : Cx S l w cc nL ret own R P G) {i r len : Nat} {sp dp k : Int} (hd : decode cc pc = .ok (.invokestatic idx, 3)) (hl : Cond.methodLink own idx arraycopyName ∈ gtb) (h1 : Cond.native arraycopyName ∈ gtb) (h2 : Cond.static arraycopyName ∈ gtb) (h3 : Cond.initialized "java/lang/System" ∈ gtb) (hs : S.2.1[i]? = some (.inr (false, r, len))) (ho : sepR S.2.1 i r = true) (g1 : 0 ≤ sp) (g2 : 0 ≤ dp) (g3 : 0 ≤ k) (g4 : sp + k ≤ (len : Int)) (g5 : dp + k ≤ (len : Int)) (hR : 1 ≤ R.frames) (hR2 : (st.map fun v => v.category).sum + (nativeFrameWords "java/lang/System" "arraycopy" 5 + 11) ≤ R.locals) (kk : ∀ σ1 : MM, Mod [r] σ σ1 → (∀ b : Int, σ1 r b = if dp ≤ b ∧ b < dp + k then σ r (sp + (b - dp)) else σ r b) → G (pc + 3) lv st σ1) : G pc lv (.int (iI k) :: .int (iI dp) :: .ref (w.2.2 i) :: .int (iI sp) :: .ref (w.2.2 i) :: st) σ := by
  obtain ⟨p, e, s, m, args, below, meth, c, A, cells, slots, Q, ⟨hx, hb, hml, hown, hts, hK, hI, hA, hc0, hs0, hsh, hN⟩, rfl, -⟩ := hX
  intro hB H locs ls hP hS h
  have hn := sh_len hsh hs
  have e1 := iI_clamp g1 (by omega)
  have e2 := iI_clamp g2 (by omega)
  have e3 := iI_clamp g3 (by omega)
  have neg : ∀ z : Int, 0 ≤ z → z ≤ 2147483647 → ¬ iI z < 0 := fun z z0 z1 q => by
    rw [← iI_zero, iI_lt ⟨by omega, by omega⟩ ⟨by omega, by omega⟩] at q
    omega
  refine va_copyi hx hb (hml.trans h.1.symm) hown (hts _ hl) (hts _ h1) (hts _ h2) (hts _ h3) hK hP (wd_D hI hA σ) hS i i 0 0 (wd_get hs) (wd_get hs) rfl rfl rfl (neg sp g1 (by omega)) (neg dp g2 (by omega)) (neg k g3 (by omega)) (show (iI sp).toNatClampNeg + (iI k).toNatClampNeg ≤ len by omega) (show (iI dp).toNatClampNeg + (iI k).toNatClampNeg ≤ len by omega) (fun _ _ => rfl) hR hR2 hd fun H1 locs1 hP1 hD1 hS1 => kk _ cpy_mod (fun b => cpy_at) hB.cpy H1 locs1 ls ?_ hS1 h
  rw [wd_upG (σ1 := cpy σ r sp dp k) hs ho (fun a ha => cpy_mod.at a (by simpa using ha)) ?_] at hP1
  · exact hP1
  · simp only [ce]
    refine congrArg (fun z => (Sum.inl (w.2.1 false, len, Sum.inl z) : va_E)) ?_
    funext q
    simp only [va_cpy, cpy_at]
    by_cases c1 : (iI dp).toNatClampNeg ≤ q ∧ q < (iI dp).toNatClampNeg + (iI k).toNatClampNeg
    · rw [if_pos c1, if_pos (by omega)]
      congr 2
      omega
    · rw [if_neg c1, if_neg (by omega)]
end CALLS
section NAMING
variable {S : ST} {l : Launch} {w : WT} {cc : ByteArray} {nL : Nat} {ret : Option FieldType} {own : String} {R : Room} {P : Option Value → MM → Prop} {G : GT} {pc : Nat} {lv : List (Option Value)} {st : List Value} {σ : MM}
theorem r_nm (hX : Cx S l w cc nL ret own R P G) {a : Int} (k : ∀ x : Int, x = a → G pc lv (.int (iI x) :: st) σ) : G pc lv (.int (iI a) :: st) σ := k a rfl
end NAMING
