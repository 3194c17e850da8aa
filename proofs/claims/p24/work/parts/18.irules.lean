/-! THE RULES of what makes cells: a world of cells told one by one -/
abbrev GIT : Type := Nat → List (Option Value) → List Value → va_W → Nat → Nat → Prop
def zA (w : WT) (b : Bool) (n : Nat) : va_E := .inl (w.2.1 b, n, .inl (fun _ => iI 0))
def CxI (l : Launch) (w : WT) (cc : ByteArray) (nL : Nat) (own : String) (R : Room) (isI : Bool) (Fin : va_W → Prop) (GI : GIT) : Prop :=
  ∃ (p : Program) (e : Env) (s : State) (m : MethodId) (args : Array Value) (below : List Frame) (meth : Method) (c : Code) (A : Nat → Prop) (Q : State → Prop),
    (p.tables.exec = Jvm.exec ∧ c.code = cc ∧ c.maxLocals = nL ∧ s.vm.findClass own = some m.cls ∧ (∀ x ∈ gtb, x.before args s = true) ∧ va_K w.1 vwCl (tysW w) s ∧ (∀ q : Nat, s.heap.size ≤ q → A q) ∧ (isI = true → meth.name = "<init>") ∧ va_Nw nestW s ∧ va_Nw nestI s) ∧
    (GI = fun pc lv st ws mc ms => ∀ (H : Heap) (locs : List Loc) (ls : Array Slot), va_P w.1 vwCl ws H → va_D A ws → va_S A s.heap H locs → LH ls nL lv → W p l e R s m args below meth c H locs mc ms Q (F0 m pc ls st)) ∧
    (∀ (pc : Nat) (lv : List (Option Value)) (ws : va_W), decode cc pc = .ok (.return_, 1) → Fin ws → GI pc lv [] ws R.cells R.slots)
def IPre (w : WT) (ws0 : va_W) (sz : Nat) (U : State) : Prop := U.heap.size = sz ∧ va_P w.1 vwCl ws0 U.heap ∧ va_K w.1 vwCl (tysW w) U ∧ va_D (fun _ => True) ws0 ∧ va_Nw nestW U ∧ va_Nw nestI U
def IQ (w : WT) (ws0 : va_W) (sz : Nat) (B : va_W → Prop) : Array Value → State → Outcome → State → Prop := va_Qv (fun _ : Unit => True) (fun _ t => ∃ ws1, B ws1 ∧ va_P w.1 vwCl ws1 t.heap ∧ va_D (va_A ws0 sz) ws1) (va_A ws0 sz)
def CI (l : Launch) (w : WT) (y : MethodName) (cc : ByteArray) (nL fr lo mc ms : Nat) (as : List Value) (ws0 : va_W) (B : va_W → Prop) : Prop :=
  ∀ sz : Nat, Met l y (.code y cc nL none :: gtb) ({ frames := fr, cells := mc, slots := ms, locals := lo }) (va_Pc as (IPre w ws0 sz)) (IQ w ws0 sz B) mc ms (va_A ws0 sz)
theorem IPre.blind {w : WT} {ws0 : va_W} {sz : Nat} {as : List Value} : FrameBlind (va_Pc as (IPre w ws0 sz)) := fun a U g mk q => by
  obtain ⟨q0, q1, qP, qK, qD, qN, qI⟩ := q
  exact ⟨q0, q1, qP, va_K.moved (u := U) (U := U.calling g mk a) (Vm.Alike.refl U.vm) qK, qD, va_Nw.same rfl (rfl : U.vm = (U.calling g mk a).vm) qN, va_Nw.same rfl (rfl : U.vm = (U.calling g mk a).vm) qI⟩
set_option maxHeartbeats 4000000 in
theorem CI.of {l : Launch} {w : WT} {y : MethodName} {cc : ByteArray} {nL fr lo mc ms : Nat} {as : List Value} {ws0 : va_W} {B : va_W → Prop} (n : Nat) (lv0 : List (Option Value)) (hy : plainFor y = true) (hyn : y.name = "<init>") (hn : (lg_sl as).length ≤ nL) (h0 : lvE as ++ List.replicate n none = lv0)
    (body : ∀ GI : GIT, CxI l w cc nL y.cls ({ frames := fr, cells := mc, slots := ms, locals := lo }) true B GI → GI 0 lv0 [] ws0 0 0) : CI l w y cc nL fr lo mc ms as ws0 B := by
  intro sz
  refine met_ofF (cc := cc) (maxL := nL) (ret := none) hy rfl ?_
  intro p e s m args below meth c s₁ B0 hml hv
  obtain ⟨rfl, hsz, hP, hK, hD0, hN, hNI⟩ := hv
  subst hsz
  have hx := B0.exec
  have hb := B0.bytes
  have hr := B0.returns
  have hts : ∀ x ∈ gtb, x.before as.toArray s = true := fun x hx => atoms_spec (ws := .code y cc nL none :: gtb) B0.pre x (List.mem_cons_of_mem _ hx)
  have hown : s.vm.findClass y.cls = some m.cls := findClass_of_methodNamed B0.named
  have hin : meth.name = "<init>" := (name_of_methodNamed B0.named B0.method).1.trans hyn
  have hD := hD0.self (sz := s.heap.size)
  have hS : va_S (va_A ws0 s.heap.size) s.heap s.heap [] := va_S.rf
  have hl := lv_entry as (n := nL) hn
  rw [lg_entry_eq]
  generalize (lg_sl as ++ List.replicate (nL - (lg_sl as).length) Slot.unset).toArray = ls at hl ⊢
  have hl : LH ls nL lv0 := by rw [← h0]; exact LH.entry hl
  refine body (fun pc lv st ws mc1 ms1 => ∀ (H : Heap) (locs : List Loc) (ls : Array Slot), va_P w.1 vwCl ws H → va_D (va_A ws0 s.heap.size) ws → va_S (va_A ws0 s.heap.size) s.heap H locs → LH ls nL lv → W p l e ({ frames := fr, cells := mc, slots := ms, locals := lo }) s m as.toArray below meth c H locs mc1 ms1 (MQ below (IQ w ws0 s.heap.size B) as.toArray s mc ms (va_A ws0 s.heap.size)) (F0 m pc ls st)) ?_ s.heap [] ls hP hD hS hl
  refine ⟨p, e, s, m, as.toArray, below, meth, c, va_A ws0 s.heap.size, _, ⟨hx, hb, hml, hown, hts, hK, fun q h => Or.inr h, fun _ => hin, hN, hNI⟩, rfl, ?_⟩
  intro pc lv ws hd hf H locs ls hP1 hD1 hS1 _
  exact W.vret hx hb hr (fun t ht hW => ⟨⟨(), rfl, trivial, ws, hf, by rw [ht]; exact hP1, hD1⟩, hS1.F ht⟩) hS1.2.2 hd
section IRULES
variable {l : Launch} {w : WT} {cc : ByteArray} {nL : Nat} {own : String} {R : Room} {isI : Bool} {Fin : va_W → Prop} {GI : GIT} {pc : Nat} {lv : List (Option Value)} {st : List Value} {ws ws1 : va_W} {mc ms : Nat}
theorem i_aload_n (hX : CxI l w cc nL own R isI Fin GI) {i : _root_.Fin 4} {x : Nat} (hd : decode cc pc = .ok (.aload_n i, 1)) (hl : lv[(i : Nat)]? = some (some (.ref x))) (k : GI (pc + 1) lv (.ref x :: st) ws mc ms) : GI pc lv st ws mc ms := by
  obtain ⟨p, e, s, m, args, below, meth, c, A, Q, ⟨hx, hb, -⟩, rfl, -⟩ := hX
  exact fun H locs ls hP hD hS h => lv_aload_n hx hb hd rfl (h.2.2 _ _ hl) (k H locs ls hP hD hS h)
theorem i_iconst (hX : CxI l w cc nL own R isI Fin GI) {n : Int} (hd : decode cc pc = .ok (.iconst n, 1)) (k : GI (pc + 1) lv (.int (iI n) :: st) ws mc ms) : GI pc lv st ws mc ms := by
  obtain ⟨p, e, s, m, args, below, meth, c, A, Q, ⟨hx, hb, -⟩, rfl, -⟩ := hX
  exact fun H locs ls hP hD hS h => lv_iconst hx hb hd rfl (k H locs ls hP hD hS h)
theorem i_bipush (hX : CxI l w cc nL own R isI Fin GI) {n : Int} (hd : decode cc pc = .ok (.bipush n, 2)) (hv : (Int8.ofInt n).toInt32 = iI n) (k : GI (pc + 2) lv (.int (iI n) :: st) ws mc ms) : GI pc lv st ws mc ms := by
  obtain ⟨p, e, s, m, args, below, meth, c, A, Q, ⟨hx, hb, -⟩, rfl, -⟩ := hX
  exact fun H locs ls hP hD hS h => lv_bipush hx hb hd hv (k H locs ls hP hD hS h)
theorem i_sipush (hX : CxI l w cc nL own R isI Fin GI) {n : Int} (hd : decode cc pc = .ok (.sipush n, 3)) (hv : (Int16.ofInt n).toInt32 = iI n) (k : GI (pc + 3) lv (.int (iI n) :: st) ws mc ms) : GI pc lv st ws mc ms := by
  obtain ⟨p, e, s, m, args, below, meth, c, A, Q, ⟨hx, hb, -⟩, rfl, -⟩ := hX
  exact fun H locs ls hP hD hS h => lv_sipush hx hb hd hv (k H locs ls hP hD hS h)
theorem i_dup (hX : CxI l w cc nL own R isI Fin GI) {x : Nat} (hd : decode cc pc = .ok (.dup, 1)) (k : GI (pc + 1) lv (.ref x :: .ref x :: st) ws mc ms) : GI pc lv (.ref x :: st) ws mc ms := by
  obtain ⟨p, e, s, m, args, below, meth, c, A, Q, ⟨hx, hb, -⟩, rfl, -⟩ := hX
  exact fun H locs ls hP hD hS h => lv_dup hx hb hd rfl (k H locs ls hP hD hS h)
theorem i_obj (hX : CxI l w cc nL own R isI Fin GI) {idx a : Nat} (hd : decode cc pc = .ok (.invokespecial idx, 3)) (hl : Cond.methodLink own idx Lib.objectInit ∈ gtb) (h1 : Cond.instanceMethod Lib.objectInit ∈ gtb) (h2 : Cond.code Lib.objectInit ⟨#[0xb1]⟩ 1 none ∈ gtb) (hR : 1 ≤ R.frames) (hR2 : (st.map fun v => v.category).sum + 12 ≤ R.locals) (k : GI (pc + 3) lv st ws mc ms) : GI pc lv (.ref a :: st) ws mc ms := by
  obtain ⟨p, e, s, m, args, below, meth, c, A, Q, ⟨hx, hb, hml, hown, hts, -⟩, rfl, -⟩ := hX
  intro H locs ls hP hD hS h
  refine W.objInit hx hb hown (hts _ hl) (hts _ h1) (hts _ h2) rfl (by rw [hml]; exact h.1) rfl hd hR (by simpa using hR2) ?_
  exact W.eq (g2 := F0 m (pc + 3) ls st) rfl (k H locs ls hP hD hS h)
theorem arr_id {w : WT} {s : State} {b : Bool} {ty : FieldType} {cA : ClassId} (hb : ty = if b then .boolean else .int) (hK : va_K w.1 vwCl (tysW w) s) (hK2 : va_K w.1 vwCl (tysW w ++ [(cA, ty)]) s) : cA = w.2.1 b := by
  have h2 : va_RA s cA ty := (hK2.2 2 (cA, ty) rfl).2
  cases b with
  | false =>
    subst hb
    have h1 : va_RA s (w.2.1 false) .int := (hK.2 0 (w.2.1 false, .int) rfl).2
    exact Option.some.inj (Eq.trans (Eq.symm h2) h1)
  | true =>
    subst hb
    have h1 : va_RA s (w.2.1 true) .boolean := (hK.2 1 (w.2.1 true, .boolean) rfl).2
    exact Option.some.inj (Eq.trans (Eq.symm h2) h1)
theorem i_newI (hX : CxI l w cc nL own R isI Fin GI) {n : Nat} {z : Int} (hz : z = (n : Int)) (hd : decode cc pc = .ok (.newarray .int, 2)) (hn : n ≤ 1000) (ha : Cond.arrayClass .int ∈ gtb) (hc : mc + 1 ≤ R.cells) (hs : ms + n ≤ R.slots) (k : ∀ q : Nat, GI (pc + 2) lv (.ref q :: st) (ws ++ [(q, zA w false n)]) (mc + 1) (ms + n)) : GI pc lv (.int (iI z) :: st) ws mc ms := by
  obtain ⟨p, e, s, m, args, below, meth, c, A, Q, ⟨hx, hb, hml, hown, hts, hK, hA, -⟩, rfl, -⟩ := hX
  intro H locs ls hP hD hS h
  subst hz
  refine va_newa (atype := .int) (ty := .int) hx hb (hts _ ha) rfl hK hP hD hS hA (n := iI n) (N' := n) (a0 := (n, .inl fun _ => iI 0)) (fun cA => by show arrV cA n (fun _ => .int (iI 0)) = _; rw [iI_zero]; rfl) (fun q => by
    rw [← iI_zero, iI_lt ⟨by omega, by omega⟩ ⟨by omega, by omega⟩] at q
    omega) (by have := iI_clamp (z := (n : Int)) (by omega) (by omega); omega) (by rw [show componentBytes FieldType.int = 4 from rfl]; omega) hc hs hd (fun q cA H1 hK1 hP1 hD1 hS1 => ?_)
  have e := arr_id (b := false) rfl hK hK1
  subst e
  exact k q H1 locs ls hP1 hD1 hS1 h
theorem i_newZ (hX : CxI l w cc nL own R isI Fin GI) {n : Nat} {z : Int} (hz : z = (n : Int)) (hd : decode cc pc = .ok (.newarray .boolean, 2)) (hn : n ≤ 1000) (ha : Cond.arrayClass .boolean ∈ gtb) (hc : mc + 1 ≤ R.cells) (hs : ms + n ≤ R.slots) (k : ∀ q : Nat, GI (pc + 2) lv (.ref q :: st) (ws ++ [(q, zA w true n)]) (mc + 1) (ms + n)) : GI pc lv (.int (iI z) :: st) ws mc ms := by
  obtain ⟨p, e, s, m, args, below, meth, c, A, Q, ⟨hx, hb, hml, hown, hts, hK, hA, -⟩, rfl, -⟩ := hX
  intro H locs ls hP hD hS h
  subst hz
  refine va_newa (atype := .boolean) (ty := .boolean) hx hb (hts _ ha) rfl hK hP hD hS hA (n := iI n) (N' := n) (a0 := (n, .inl fun _ => iI 0)) (fun cA => by show arrV cA n (fun _ => .int (iI 0)) = _; rw [iI_zero]; rfl) (fun q => by
    rw [← iI_zero, iI_lt ⟨by omega, by omega⟩ ⟨by omega, by omega⟩] at q
    omega) (by have := iI_clamp (z := (n : Int)) (by omega) (by omega); omega) (by rw [show componentBytes FieldType.boolean = 1 from rfl]; omega) hc hs hd (fun q cA H1 hK1 hP1 hD1 hS1 => ?_)
  have e := arr_id (b := true) rfl hK hK1
  subst e
  exact k q H1 locs ls hP1 hD1 hS1 h
theorem i_putF (hX : CxI l w cc nL own R true Fin GI) {C : String} {T : u_T} {N ci k idx q0 a : Nat} {fs : List Value} {v : Value} {ty : FieldType} (hd : decode cc pc = .ok (.putfield idx, 3)) (he : ws[q0]? = some (a, .inr (ci, fs))) (hc : vwCl[ci]? = some (C, T, N)) (hin : ∀ x ∈ u_ws C T N, x ∈ gtb) (ty0 : Nat → FieldType) (hty : ∀ k, k < N → parseFieldDescriptor (T k).2.2.1 = some (ty0 k)) (hnm : ∀ a, a < N → ∀ b, b < N → a ≠ b → (T a).2.1 ≠ (T b).2.1) (hk : k < N) (hl : Cond.fieldLink own idx (T k).1 (T k).2.1 (T k).2.2.1 ∈ gtb) (hfin : (T k).2.2.2 = true) (hdecl : (T k).1 = own) (hpd : parseFieldDescriptor (T k).2.2.1 = some ty) (hn : narrow ty v = v) (hfit : fits ty v = true) (hlen : k < fs.length) (hws : ws.set q0 (a, .inr (ci, fs.set k v)) = ws1) (kk : GI (pc + 3) lv st ws1 mc ms) : GI pc lv (v :: .ref a :: st) ws mc ms := by
  obtain ⟨p, e, s, m, args, below, meth, c, A, Q, ⟨hx, hb, hml, hown, hts, hK, hA, hi, -⟩, rfl, -⟩ := hX
  intro H locs ls hP hD hS h
  subst hws
  exact va_putF hx hb hts hin ty0 hty hnm hown hK hP hD hS q0 he hc k hk (hts _ hl) (fun _ z => z) hfin (hi rfl) hdecl hpd hn hfit hlen hd fun H1 locs1 hP1 hD1 hS1 => kk H1 locs1 ls hP1 hD1 hS1 h
theorem i_put (hX : CxI l w cc nL own R isI Fin GI) {C : String} {T : u_T} {N ci k idx q0 a : Nat} {fs : List Value} {v : Value} {ty : FieldType} (hd : decode cc pc = .ok (.putfield idx, 3)) (he : ws[q0]? = some (a, .inr (ci, fs))) (hc : vwCl[ci]? = some (C, T, N)) (hin : ∀ x ∈ u_ws C T N, x ∈ gtb) (ty0 : Nat → FieldType) (hty : ∀ k, k < N → parseFieldDescriptor (T k).2.2.1 = some (ty0 k)) (hnm : ∀ a, a < N → ∀ b, b < N → a ≠ b → (T a).2.1 ≠ (T b).2.1) (hk : k < N) (hl : Cond.fieldLink own idx (T k).1 (T k).2.1 (T k).2.2.1 ∈ gtb) (hfin : (T k).2.2.2 = false) (hpd : parseFieldDescriptor (T k).2.2.1 = some ty) (hn : narrow ty v = v) (hfit : fits ty v = true) (hlen : k < fs.length) (hws : ws.set q0 (a, .inr (ci, fs.set k v)) = ws1) (kk : GI (pc + 3) lv st ws1 mc ms) : GI pc lv (v :: .ref a :: st) ws mc ms := by
  obtain ⟨p, e, s, m, args, below, meth, c, A, Q, ⟨hx, hb, hml, hown, hts, hK, hA, -⟩, rfl, -⟩ := hX
  intro H locs ls hP hD hS h
  subst hws
  exact va_put hx hb hts hin ty0 hty hnm hown hK hP hD hS q0 he hc k hk (hts _ hl) (fun _ z => z) hfin hpd hn hfit hlen hd fun H1 locs1 hP1 hD1 hS1 => kk H1 locs1 ls hP1 hD1 hS1 h
theorem i_get (hX : CxI l w cc nL own R isI Fin GI) {C : String} {T : u_T} {N ci k idx q0 a : Nat} {fs : List Value} {v : Value} (hd : decode cc pc = .ok (.getfield idx, 3)) (he : ws[q0]? = some (a, .inr (ci, fs))) (hc : vwCl[ci]? = some (C, T, N)) (hin : ∀ x ∈ u_ws C T N, x ∈ gtb) (hk : k < N) (hf : fs[k]? = some v) (hl : Cond.fieldLink own idx (T k).1 (T k).2.1 (T k).2.2.1 ∈ gtb) (kk : GI (pc + 3) lv (v :: st) ws mc ms) : GI pc lv (.ref a :: st) ws mc ms := by
  obtain ⟨p, e, s, m, args, below, meth, c, A, Q, ⟨hx, hb, hml, hown, hts, hK, -⟩, rfl, -⟩ := hX
  exact fun H locs ls hP hD hS h => va_get (fs := fs) hx hb hts hin hown hK hP q0 he hc k hk (hts _ hl) (fun _ z => z) hf hd (kk H locs ls hP hD hS h)
theorem i_new (hX : CxI l w cc nL own R isI Fin GI) {C : String} {T : u_T} {N ci idx : Nat} {fs : List Value} (hd : decode cc pc = .ok (.new idx, 3)) (hc : vwCl[ci]? = some (C, T, N)) (hin : ∀ x ∈ u_ws C T N, x ∈ gtb) (ty0 : Nat → FieldType) (hty : ∀ k, k < N → parseFieldDescriptor (T k).2.2.1 = some (ty0 k)) (hcl : Cond.classLink own idx C ∈ gtb) (hinst : Cond.instantiable C N ∈ gtb) (hini : Cond.initialized C ∈ gtb) (hfs : ∀ j, j < N → defaultValue (ty0 j) = vp_V fs j) (hcc : mc + 1 ≤ R.cells) (hss : ms + N ≤ R.slots) (k : ∀ q : Nat, GI (pc + 3) lv (.ref q :: st) (ws ++ [(q, .inr (ci, fs))]) (mc + 1) (ms + N)) : GI pc lv st ws mc ms := by
  obtain ⟨p, e, s, m, args, below, meth, c, A, Q, ⟨hx, hb, hml, hown, hts, hK, hA, -⟩, rfl, -⟩ := hX
  exact fun H locs ls hP hD hS h => va_new hx hb hts hin ty0 hty hown (hts _ hcl) (hts _ hinst) (hts _ hini) hK hP hD hS hA hc hfs hcc hss hd fun q H1 hP1 hD1 hS1 => k q H1 locs ls hP1 hD1 hS1 h
theorem i_ret (hX : CxI l w cc nL own R isI Fin GI) (hd : decode cc pc = .ok (.return_, 1)) (hf : Fin ws) (hc : mc = R.cells) (hs : ms = R.slots) : GI pc lv [] ws mc ms := by
  obtain ⟨p, e, s, m, args, below, meth, c, A, Q, -, -, h⟩ := hX
  subst hc hs
  exact h pc lv ws hd hf
theorem i_call (hX : CxI l w cc nL own R isI Fin GI) {y : MethodName} {cc1 : ByteArray} {nL1 fr lo mc1 ms1 idx n b : Nat} {as stk : List Value} {wc wr : va_W} {B : va_W → Prop} (hd : decode cc pc = .ok (.invokespecial idx, 3)) (hC : CI l w y cc1 nL1 fr lo mc1 ms1 (.ref b :: as) wc B) (hm : MFs y cc1 nL1 none n) (hi : Cond.instanceMethod y ∈ gtb) (hyn : y.name = "<init>") (hl : Cond.methodLink own idx y ∈ gtb) (hn : as.length = n) (hstk : stk = as.reverse ++ .ref b :: st)
    (isC isR : List Nat) (hc1 : isC.map (fun i => ws[i]?) = wc.map some) (hc2 : isC.filterMap (fun i => ws[i]?) = wc) (hr1 : isR.map (fun i => ws[i]?) = wr.map some) (hnC : va_nd isC = true) (hnd : va_nd isR = true) (hdis : ∀ i ∈ isR, i ∉ isC) (hR : fr + 1 ≤ R.frames ∧ 8 + (nL1 + 11) + lo ≤ R.locals) (hst : (st.map fun v => v.category).sum ≤ 8) (hcs : mc + mc1 ≤ R.cells ∧ ms + ms1 ≤ R.slots) (k : ∀ w1 : va_W, B w1 → GI (pc + 3) lv st (wr ++ w1) (mc + mc1) (ms + ms1)) : GI pc lv stk ws mc ms := by
  obtain ⟨p, e, s, m, args, below, meth, c, A, Q, ⟨hx, hb, hml, hown, hts, hK, hA, -, hN, hNI⟩, rfl, -⟩ := hX
  obtain ⟨m1, m2, m3, m4⟩ := hm
  intro H locs ls hP hD hS h
  subst hstk
  have hlen : ∀ sig, parseMethodDescriptor y.desc = some sig → n = sig.parameters.length := fun sig h => by
    rw [h] at m4
    exact (Option.some.inj m4).symm
  have hPc := hP.sub (ws' := wc) isC hc2
  have hDc := hD.sub (ws' := wc) isC hnC hc1
  have hFc := va_free (wc := wc) hD hS hA isC hc1
  refine va_callv (va_runI (As := as) (rest := st) (Ts := gtb) (own := own) (nL := nL) (n := n) ⟨hx, hb, hml, hown, hts⟩ (hC H.size) ⟨⟨rfl, rfl, hR.1, hR.2, pay_in hts (good_tbl m1), List.mem_cons_self, hts _ m1, hts _ m2, m3, hlen, hts _ hl⟩, hyn, hts _ hi⟩ ⟨IPre.blind, fun U hU hW => ⟨rfl, by rw [hU], by rw [hU]; exact hPc, va_K.moved hW.alike hK, hDc.weaken (fun _ _ _ _ => trivial), va_Nw.warmM hW hN, va_Nw.warmM hW hNI⟩⟩ rfl hn h.1 rfl (lv_room hst) hd hcs) hS (fun q _ h => hFc q h) hFc (fun u t H1 locs1 ht hvm hw hB hz1 hk1 hS1 => ?_)
  obtain ⟨w1, hb1, hP1, hD1⟩ := hB
  rw [ht] at hP1
  obtain ⟨hP2, hD2⟩ := va_join (wr := wr) (w1 := w1) hP hD isC isR hc1 hr1 hnd hdis hk1 hFc hP1 hD1
  exact k w1 hb1 H1 locs1 ls hP2 hD2 hS1 h
theorem i_callN (hX : CxI l w cc nL own R isI Fin GI) {y : MethodName} {cc1 : ByteArray} {nL1 fr lo mc1 ms1 idx n b : Nat} {host : String} {as stk : List Value} {wc wr : va_W} {B : va_W → Prop} (hd : decode cc pc = .ok (.invokespecial idx, 3)) (hC : CI l w y cc1 nL1 fr lo mc1 ms1 (.ref b :: as) wc B) (hm : MFs y cc1 nL1 none n) (hi : Cond.instanceMethod y ∈ gtb) (hyn : y.name = "<init>") (hl : nestI = Cond.methodLinkNest own idx y host) (hn : as.length = n) (hstk : stk = as.reverse ++ .ref b :: st)
    (isC isR : List Nat) (hc1 : isC.map (fun i => ws[i]?) = wc.map some) (hc2 : isC.filterMap (fun i => ws[i]?) = wc) (hr1 : isR.map (fun i => ws[i]?) = wr.map some) (hnC : va_nd isC = true) (hnd : va_nd isR = true) (hdis : ∀ i ∈ isR, i ∉ isC) (hR : fr + 1 ≤ R.frames ∧ 8 + (nL1 + 11) + lo ≤ R.locals) (hst : (st.map fun v => v.category).sum ≤ 8) (hcs : mc + mc1 ≤ R.cells ∧ ms + ms1 ≤ R.slots) (k : ∀ w1 : va_W, B w1 → GI (pc + 3) lv st (wr ++ w1) (mc + mc1) (ms + ms1)) : GI pc lv stk ws mc ms := by
  obtain ⟨p, e, s, m, args, below, meth, c, A, Q, ⟨hx, hb, hml, hown, hts, hK, hA, -, hN, hNI⟩, rfl, -⟩ := hX
  obtain ⟨m1, m2, m3, m4⟩ := hm
  intro H locs ls hP hD hS h
  subst hstk
  have hlen : ∀ sig, parseMethodDescriptor y.desc = some sig → n = sig.parameters.length := fun sig h => by
    rw [h] at m4
    exact (Option.some.inj m4).symm
  have hPc := hP.sub (ws' := wc) isC hc2
  have hDc := hD.sub (ws' := wc) isC hnC hc1
  have hFc := va_free (wc := wc) hD hS hA isC hc1
  refine va_callv (va_runIN (As := as) (rest := st) (Ts := gtb) (own := own) (nL := nL) (n := n) (host := host) ⟨hx, hb, hml, hown, hts⟩ (hC H.size) ⟨⟨⟨rfl, rfl, hR.1, hR.2, pay_in hts (good_tbl m1), List.mem_cons_self⟩, hts _ m1, hts _ m2, m3, hlen, va_Nw.use rfl (hl ▸ hNI)⟩, hyn, hts _ hi⟩ ⟨IPre.blind, fun U hU hW => ⟨rfl, by rw [hU], by rw [hU]; exact hPc, va_K.moved hW.alike hK, hDc.weaken (fun _ _ _ _ => trivial), va_Nw.warmM hW hN, va_Nw.warmM hW hNI⟩⟩ rfl hn h.1 rfl (lv_room hst) hd hcs) hS (fun q _ h => hFc q h) hFc (fun u t H1 locs1 ht hvm hw hB hz1 hk1 hS1 => ?_)
  obtain ⟨w1, hb1, hP1, hD1⟩ := hB
  rw [ht] at hP1
  obtain ⟨hP2, hD2⟩ := va_join (wr := wr) (w1 := w1) hP hD isC isR hc1 hr1 hnd hdis hk1 hFc hP1 hD1
  exact k w1 hb1 H1 locs1 ls hP2 hD2 hS1 h
theorem inj_of {A : Nat → Prop} {S : ST} {w1 : WT} {σ : MM} (h : va_D A (wd w1 S.2.1 σ)) : InjW S.2.1 w1 := by
  intro i j hi hj e
  exact h.1 i j _ _ (wd_get (List.getElem?_eq_getElem hi)) (wd_get (List.getElem?_eq_getElem hj)) e
/-- a method of the small world, within a constructor -/
theorem i_callV (hX : CxI l w cc nL own R isI Fin GI) {S : ST} {w1 : WT} {σ : MM} {y : MethodName} {cc1 : ByteArray} {nL1 fr lo n idx i ci N : Nat} {as stk : List Value} {P : MM → Prop} {C : String} {T : u_T} {fs : List FS} (hd : decode cc pc = .ok (.invokevirtual idx, 3)) (hC : CT S l w1 y cc1 nL1 none fr lo (.ref (w1.2.2 i) :: as) σ (PV P)) (hw : w1.1 = w.1 ∧ w1.2.1 = w.2.1) (hcl : S.1 = vwCl) (hws : ws = wd w1 S.2.1 σ) (hB : Bd S.2.2 σ) (hm : MFs y cc1 nL1 none n) (hm2 : MFv y) (hl : Cond.methodLink own idx y ∈ gtb) (hs : S.2.1[i]? = some (.inl (ci, fs))) (hc : S.1[ci]? = some (C, T, N)) (hyc : y.cls = C) (hn : as.length = n) (hstk : stk = as.reverse ++ .ref (w1.2.2 i) :: st) (hR : fr + 1 ≤ R.frames ∧ 8 + (nL1 + 11) + lo ≤ R.locals) (hst : (st.map fun v => v.category).sum ≤ 8) (hcs : mc ≤ R.cells ∧ ms ≤ R.slots)
    (k : ∀ σ1 : MM, P σ1 → Bd S.2.2 σ1 → GI (pc + 3) lv st (wd w1 S.2.1 σ1) mc ms) : GI pc lv stk ws mc ms := by
  obtain ⟨p, e, s, m, args, below, meth, c, A, Q, ⟨hx, hb, hml, hown, hts, hK, hA, -, hN, hNI⟩, rfl, -⟩ := hX
  obtain ⟨m1, m2, m3, m4⟩ := hm
  intro H locs ls hP hD hS h
  subst hstk
  subst hyc
  subst hws
  have hlen : ∀ sig, parseMethodDescriptor y.desc = some sig → n = sig.parameters.length := fun sig h => by
    rw [h] at m4
    exact (Option.some.inj m4).symm
  have hI : InjW S.2.1 w1 := inj_of hD
  have hP0 : va_P w1.1 S.1 (wd w1 S.2.1 σ) H := by rw [hw.1, hcl]; exact hP
  have hK0 : va_K w1.1 S.1 (tysW w1) s := by unfold tysW; rw [hw.1, hw.2, hcl]; exact hK
  have hA0 : ∀ i, i < S.2.1.length → A (w1.2.2 i) := fun i hi => hD.2 i _ (wd_get (List.getElem?_eq_getElem hi))
  refine run_go (S := S) (w := w1) (PC := PV P) (a := (Value.ref (w1.2.2 i) :: as).toArray) (va_runV (As := as) (rest := st) (Ts := gtb) (own := own) (nL := nL) (n := n) ⟨hx, hb, hml, hown, hts⟩ hC ⟨⟨rfl, rfl, hR.1, hR.2, pay_in hts (good_tbl m1), List.mem_cons_self, hts _ m1, hts _ m2, m3, hlen, hts _ hl⟩, hts _ hm2.1, hts _ hm2.2⟩ ⟨WDs.blind, va_recv hK0 hP0 hc (wd_get hs), fun U hU hW => ⟨rfl, by rw [hU]; exact hP0, va_K.moved hW.alike hK0, hI, hB, va_Nw.warmM hW hN⟩⟩ rfl hn h.1 rfl (lv_room hst) hd hcs) hS hA0 (fun r σ1 H1 locs1 hp hB1 hP1 hS1 => ?_)
  obtain ⟨rfl, hp⟩ := hp
  refine k σ1 hp hB1 H1 locs1 ls (by rw [← hw.1, ← hcl]; exact hP1) (wd_D hI hA0 σ1) hS1 h
end IRULES
