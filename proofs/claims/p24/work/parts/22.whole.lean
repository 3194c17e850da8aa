/-! THE CLAIM OUT OF ONE WALK OF THE LAW'S BODY. Your part is whole_start (and what it stands on); all else here is the same for every law, but numbers. -/
def R_law : String := "LoopBoardLaw"
def lw_P (b : Addr) (xs : List Int32) (args : Array Value) (s : State) : Prop := args = #[.ref b] ∧ s.IntsAt b xs ∧ xs.length ≤ 3072 ∧ (Jvm.Cond.and given_1 narrow_1).before args s = true
def lw_Q (_ : Array Value) (s : State) (o : Outcome) (t : State) : Prop := o = .returned (some (.int 1)) ∧ Framed s o t [] 45 2050
def lw_Z (below : List Frame) (a : Array Value) (s : State) : State → Prop := fun t => ∃ o, t.status = .running ∧ Ended t below o ∧ lw_Q a s o t
/-- the law's own end, with 1 on the stack, nothing written that was there before, its room as the claim has it -/
theorem lw_ret {p : Program} {l : Launch} {e : Env} {s : State} {m : MethodId} {below : List Frame} {meth : Method} {c : Code} {b : Nat} (hx : p.tables.exec = Jvm.exec) (hb : c.code = code) (hr : meth.sig.returnType = ret) (hlocks : meth.locks = false) {pc : Nat} {H : Heap} {ls : Array Slot} (hdg : decode code pc = .ok (.ireturn, 1)) : W p l e room_1 s m #[Value.ref b] below meth c H [] 45 2050 (lw_Z below #[Value.ref b] s) (F0 m pc ls [.int 1]) := by
  intro T hT X
  obtain ⟨fs, hret, hrun, hended, hW, hframe⟩ := X.leave (v := some (.int 1)) (hlocks := hlocks) (fun h => by rw [hr] at h; cases h)
  have hmeth' : T.vm.method? m = some meth := X.method'
  refine ⟨T.setFrames fs, ?_, .returned (some (.int 1)), hrun, hended, rfl, ⟨_, rfl⟩, hW, hframe⟩
  jvm_step X.here [X.here.top, hx, hb, hdg, hmeth', hr, ret, narrow_b1]
  (try refine ⟨rfl, ?_⟩); (try refine ⟨rfl, ?_⟩)
  first | (intro acts; rw [hret _ acts rfl rfl rfl]) | rw [hret _ _ rfl rfl rfl]
  exact Steps.refl _
/-- what holds at the law's entry: the machine, the code, the tables' words (any of lw_tbl by 'hts w (by decide +kernel)'), the script of L ints xs at the cell b, what the Statement gives of the start (any of its parts by flat_of_before) -/
def lw_At (p : Program) (s : State) (m : MethodId) (meth : Method) (c : Code) (b L : Nat) (xs : Nat → Int32) : Prop :=
  p.tables.exec = Jvm.exec ∧ c.code = code ∧ meth.sig.returnType = ret ∧ c.maxLocals = 4 ∧ s.vm.findClass R_law = some m.cls ∧ (∀ w ∈ lw_tbl, w.before #[Value.ref b] s = true) ∧ va_X b L xs s s.heap ∧ b < s.heap.size ∧ meth.locks = false ∧ (Jvm.Cond.and given_1 narrow_1).before #[Value.ref b] s = true
theorem Bd.start {σg σm : MM} (h : StF σg σm) : Bd bdL (σS σg σm) := by
  obtain ⟨⟨⟨g1, g2, -⟩, hg⟩, -, hm⟩ := h
  intro r lo hi hr k
  unfold σS
  by_cases c1 : r = 11 ∨ r = 12 ∨ r = 13
  · rw [if_pos c1]
    have e : bdG[r]? = bdL[r]? := by rcases c1 with rfl | rfl | rfl <;> rfl
    exact hg r lo hi (by rw [e]; exact hr) k
  · rw [if_neg c1]
    by_cases c2 : r = 56 ∨ r = 57
    · rw [if_pos c2]
      have e : bdL[r]? = some (some (1, 3)) := by rcases c2 with rfl | rfl <;> rfl
      rw [e] at hr
      cases hr
      rcases c2 with rfl | rfl
      · show 1 ≤ σg 56 0 ∧ σg 56 0 ≤ 3
        omega
      · show 1 ≤ σg 57 0 ∧ σg 57 0 ≤ 3
        omega
    · rw [if_neg c2]
      by_cases c3 : (28 ≤ r ∧ r ≤ 44) ∨ (61 ≤ r ∧ r ≤ 67)
      · rw [if_pos c3]
        exact hm r lo hi hr k
      · rw [if_neg c3]
        have z := Bd.row (bd := bdL) (fun r => if r = 65 ∨ r = 66 then 2 else if r = 56 ∨ r = 57 then 2 else 0) (by decide +kernel) r lo hi hr k
        simp only at z
        rw [if_neg (by omega), if_neg c2] at z
        exact z
theorem RR.start {σg σm : MM} (h : StF σg σm) : RR (σS σg σm) := by
  obtain ⟨⟨⟨g1, g2, g3, g4⟩, hg⟩, ⟨hf, hm⟩, hb⟩ := h
  have z : ∀ r, r ≠ 35 → r ≠ 36 → σm r = σM0 r := fun r q1 q2 => hm r (by simp; exact ⟨q1, q2⟩)
  have e61 : σS σg σm 61 0 = 0 := by show σm 61 0 = 0; rw [z 61 (by decide) (by decide)]; rfl
  have e62 : σS σg σm 62 0 = 0 := by show σm 62 0 = 0; rw [z 62 (by decide) (by decide)]; rfl
  have e63 : σS σg σm 63 0 = 0 := by show σm 63 0 = 0; rw [z 63 (by decide) (by decide)]; rfl
  have e64 : σS σg σm 64 0 = 0 := by show σm 64 0 = 0; rw [z 64 (by decide) (by decide)]; rfl
  have e65 : σS σg σm 65 0 = 2 := by show σm 65 0 = 2; rw [z 65 (by decide) (by decide)]; rfl
  have e66 : σS σg σm 66 0 = 2 := by show σm 66 0 = 2; rw [z 66 (by decide) (by decide)]; rfl
  have e53 : σS σg σm 53 0 = 0 := rfl
  have e54 : σS σg σm 54 0 = 0 := rfl
  have e55 : σS σg σm 55 0 = 0 := rfl
  have e56 : σS σg σm 56 0 = σg 56 0 := rfl
  have e57 : σS σg σm 57 0 = σg 57 0 := rfl
  refine ⟨⟨⟨by omega, by omega⟩, fun a a0 a1 => by omega, fun s s0 s1 => by omega⟩, ⟨⟨by omega, by omega⟩, fun b b0 b1 => ?_⟩, RPn.nil rfl e63, ReS.nil rfl e64, ?_, LayOK.nil rfl, ?_, EQ24.nil rfl⟩
  · have q1 := g3 b b0 b1
    have q2 := hf b b0 b1
    show σg 11 b = σm 35 b ∧ σg 12 b = σm 36 b
    omega
  · unfold LoopOK
    rw [e53, e54]
    exact ⟨AR.init (Int.le_refl 0) (fun a a0 a1 => by omega), fun a a0 a1 => by omega⟩
  · exact g4
set_option maxRecDepth 20000 in
set_option maxHeartbeats 8000000 in
theorem whole_start {p : Program} {e : Env} {s : State} {m : MethodId} {below : List Frame} {meth : Method} {c : Code} (l : Launch) (hflags : l.flags = flags0) {b L : Nat} {xs : Nat → Int32} (hL : L ≤ 3072) (C0 : lw_At p s m meth c b L xs) : W p l e room_1 s m #[Value.ref b] below meth c s.heap [] 0 0 (lw_Z below #[Value.ref b] s) (entryFrame m ([Value.ref b] : List Value).toArray 4) := by
  obtain ⟨hx, hb, hr, hml, hown, hts, hXs, hbl, hlocks, hgv⟩ := id C0
  have htg : ∀ x ∈ gtb, x.before #[Value.ref b] s = true := fun x hx => hts x (List.mem_filter.mp hx).1
  have hbA : ¬ (fun q : Nat => s.heap.size ≤ q) b := Nat.not_le.mpr hbl
  obtain ⟨c0, i0, k0⟩ := u_known (C := RX0) (T := TX0) (N := 5) (n := 5) htg in_X0 (htg _ nw_X0)
  obtain ⟨c1, i1, k1⟩ := u_known (C := RX1) (T := TX1) (N := 5) (n := 5) htg in_X1 (htg _ nw_X1)
  obtain ⟨c2, i2, k2⟩ := u_known (C := RX2) (T := TX2) (N := 11) (n := 11) htg in_X2 (htg _ nw_X2)
  obtain ⟨c3, i3, k3⟩ := u_known (C := RX3) (T := TX3) (N := 9) (n := 9) htg in_X3 (htg _ nw_X3)
  obtain ⟨c4, i4, k4⟩ := u_known (C := RX4) (T := TX4) (N := 2) (n := 2) htg in_X4 (htg _ nw_X4)
  obtain ⟨c5, i5, k5⟩ := u_known (C := RX5) (T := TX5) (N := 9) (n := 9) htg in_X5 (htg _ nw_X5)
  obtain ⟨c6, i6, k6⟩ := u_known (C := RX6) (T := TX6) (N := 24) (n := 24) htg in_X6 (htg _ nw_X6)
  obtain ⟨cI, kI, pI, eI, fI, gI⟩ := Cond.arrayClass_spec (htg _ ar_I)
  obtain ⟨cZ, kZ, pZ, eZ, fZ, gZ⟩ := Cond.arrayClass_spec (htg _ ar_Z)
  obtain ⟨dC, dI, hKc⟩ : ∃ (dC : Nat → ClassId) (dI : Nat → Nat → Nat), ∀ (k : Nat) (q : vw_C), vwCl[k]? = some q → u_Kn s q.1 q.2.1 q.2.2 (dC k) (dI k) := by
    refine ⟨fun k => match k with
      | 0 => c0
      | 1 => c1
      | 2 => c2
      | 3 => c3
      | 4 => c4
      | 5 => c5
      | _ => c6, fun k => match k with
      | 0 => i0
      | 1 => i1
      | 2 => i2
      | 3 => i3
      | 4 => i4
      | 5 => i5
      | _ => i6, ?_⟩
    intro k q hq
    match k, hq with
    | 0, hq => cases hq; exact k0
    | 1, hq => cases hq; exact k1
    | 2, hq => cases hq; exact k2
    | 3, hq => cases hq; exact k3
    | 4, hq => cases hq; exact k4
    | 5, hq => cases hq; exact k5
    | 6, hq => cases hq; exact k6
    | k + 7, hq => simp [vwCl] at hq
  have hK : va_K (dC, dI) vwCl [((fun b : Bool => if b then cZ else cI) false, FieldType.int), ((fun b : Bool => if b then cZ else cI) true, FieldType.boolean)] s := by
    refine ⟨hKc, fun k q hq => ?_⟩
    match k, hq with
    | 0, hq =>
      cases hq
      exact ⟨fun n z => ⟨fun k h => (by cases h), kI, fI, pI, gI⟩, eI⟩
    | 1, hq =>
      cases hq
      exact ⟨fun n z => ⟨fun k h => (by cases h), kZ, fZ, pZ, gZ⟩, eZ⟩
    | k + 2, hq => simp at hq
  generalize hw2 : (fun b : Bool => if b then cZ else cI) = aC at hK
  have hN : va_Nw nestW s := va_Nw.of rfl (hts nestW (tb3 (List.mem_of_getElem? (i := 126) rfl)))
  have hNI : va_Nw nestI s := va_Nw.of rfl (hts nestI (tb1 (List.mem_of_getElem? (i := 21) rfl)))
  have hP0 : va_P (dC, dI) vwCl [] s.heap := fun k q h => by simp at h
  have hD0 : va_D (fun q : Nat => s.heap.size ≤ q) [] := ⟨fun i j p q h => by simp at h, fun k q h => by simp at h⟩
  have hl := lv_entry ([.ref b]) (n := 4) (Nat.le_of_ble_eq_true rfl)
  rw [lg_entry_eq]
  generalize (lg_sl ([.ref b]) ++ List.replicate (4 - (lg_sl ([.ref b])).length) Slot.unset).toArray = ls at hl ⊢
  have hl : LH ls 4 [some (.ref b), none, none, none] := LH.entry (as := [.ref b]) (m := 3) hl
  refine law_pre (l := l) (w := ((dC, dI), aC, fun _ => 0)) (b := b) (GI := fun pc lv st ws mc ms => ∀ (H : Heap) (locs : List Loc) (ls : Array Slot), va_P (dC, dI) vwCl ws H → va_D (fun q : Nat => s.heap.size ≤ q) ws → va_S (fun q : Nat => s.heap.size ≤ q) s.heap H locs → LH ls 4 lv → W p l e room_1 s m #[Value.ref b] below meth c H locs mc ms (lw_Z below #[Value.ref b] s) (F0 m pc ls st)) ⟨p, e, s, m, #[Value.ref b], below, meth, c, fun q : Nat => s.heap.size ≤ q, lw_Z below #[Value.ref b] s, ⟨hx, hb, hml, hown, htg, hK, fun _ h => h, (fun h => by cases h), hN, hNI⟩, rfl, fun _ _ _ _ h => h.elim⟩ ?_ s.heap [] ls hP0 hD0 va_S.rf hl
  intro ad σg σm hf H locs ls hP hD hS hl
  have hI : InjW SX.2.1 ((dC, dI), aC, ad) := inj_of hD
  have hA' : ∀ i, i < SX.2.1.length → s.heap.size ≤ ad i := fun i hi => hD.2 i _ (wd_get (List.getElem?_eq_getElem hi))
  have h31 : (L : Int) ≤ 3072 := by omega
  refine law_loop (l := l) (w := ((dC, dI), aC, ad)) (b := b) (L := L) (sv := fun i => (xs i.toNat).toInt) (G := fun pc lv st σ => Bd SX.2.2 σ → ∀ (H : Heap) (locs : List Loc) (ls : Array Slot), va_P (dC, dI) SX.1 (wd ((dC, dI), aC, ad) SX.2.1 σ) H → va_S (fun q : Nat => s.heap.size ≤ q) s.heap H locs → LH ls 4 lv → W p l e room_1 s m #[Value.ref b] below meth c H locs 45 2050 (lw_Z below #[Value.ref b] s) (F0 m pc ls st)) ⟨p, e, s, m, #[Value.ref b], below, meth, c, fun q : Nat => s.heap.size ≤ q, 45, 2050, lw_Z below #[Value.ref b] s, ⟨hx, hb, hml, hown, htg, hK, hI, hA', Nat.le_of_ble_eq_true rfl, Nat.le_of_ble_eq_true rfl, sh_X, hN⟩, rfl, ?_⟩ ⟨?_, ?_⟩ (fun i => ⟨Int32.le_toInt _, by have := Int32.toInt_lt (xs i.toNat); omega⟩) hL (L + 1) 0 (σS σg σm) (by omega) (by omega) (RR.start hf) (Bd.start hf) H locs ls hP hS hl
  · intro pc lv v σ hret hp hB H locs ls hP hS hl
    cases hp
    refine va_forget (fun q hq => hS.2.2 q hq) ?_
    exact lw_ret hx hb hr hlocks hret.1
  · intro pc lv st σ i hd i0 i1 k hB H locs ls hP hS hl
    refine va_sld hx hb hXs hbl hbA hS (iI_in i0 i1 (by omega)) hd ?_
    have e1 := iI_clamp i0 (by omega)
    have e2 : (iI i).toNatClampNeg = i.toNat := by omega
    have e3 := k hB H locs ls hP hS hl
    rw [iI_self] at e3
    rw [e2]
    exact e3
  · intro pc lv st σ hd k hB H locs ls hP hS hl
    refine va_slen hx hb hXs hbl hbA hS hd ?_
    have e3 := k hB H locs ls hP hS hl
    exact e3
-- ===== YOUR PART ENDS =====
set_option maxHeartbeats 4000000 in
theorem lw_walk (l : Launch) (hflags : l.flags = flags0) (b : Addr) (xs : List Int32) : MetFree l x (headSpec (Jvm.Cond.code x code maxLocals ret :: tables_1) room_1) (lw_P b xs) (fun _ _ _ _ _ => True) lw_Q := by
  refine MetFree.of_bodyS (code := code) (maxLocals := maxLocals) (ret := ret) (by decide) ?_ ?_
  · intro args s m h hn
    obtain ⟨meth, c, h1, h2, h3, h4, h5, h6, -, -⟩ := Cond.code_spec hn (atoms_spec (ws := Jvm.Cond.code x code maxLocals ret :: tables_1) h _ List.mem_cons_self)
    exact ⟨meth, c, h1, h2, h3, h4, h5, h6⟩
  · intro p e s m args below meth c s₁ B hml0 hP _
    obtain ⟨rfl, hx, hbd, hgv⟩ := hP
    obtain ⟨scr, harrAt, hlist, hof, hsmall⟩ := hx
    obtain ⟨hcb, hkn, -, -⟩ := State.arrayAt?_spec harrAt
    have hown : s.vm.findClass R_law = some m.cls := findClass_of_methodNamed B.named
    have hts0 : ∀ c ∈ (Jvm.Cond.code x code maxLocals ret :: tables_1), c.before #[Value.ref b] s = true := atoms_spec (ws := Jvm.Cond.code x code maxLocals ret :: tables_1) B.pre
    have hts : ∀ w ∈ lw_tbl, w.before #[Value.ref b] s = true := k2_hts_sels lw_privs (fun w hw => hts0 w (List.mem_cons_of_mem _ hw)) lw_privs_ok
    have hml : c.maxLocals = 4 := B.maxLocals_eq (hts0 _ List.mem_cons_self)
    have X₀ : Stand p l e room_1 s m #[Value.ref b] below meth c s₁ [] 0 0 := Stand.of_body B
    have hh0 : s₁.heap = s.heap := by rw [B.state]; rfl
    have hsz : scr.slots.size = xs.length := by rw [← Array.length_toList, hlist, List.length_map]
    have hval : ∀ j : Nat, j < xs.length → scr.slots[j]? = some (.int (xs.getD j 0)) := fun j hj => by
      rw [← Array.getElem?_toList, hlist]
      simp [hj]
    have hbl : b < s.heap.size := (Array.getElem?_eq_some_iff.mp hcb).1
    have hX : va_X b xs.length (fun j => xs.getD j 0) s s.heap := ⟨scr, hcb, hof, hkn, hsz, hval⟩
    have K : W p l e room_1 s m #[Value.ref b] below meth c s₁.heap [] 0 0 (lw_Z below #[Value.ref b] s) (entryFrame m ([Value.ref b] : List Value).toArray 4) := by
      rw [hh0]
      exact whole_start l hflags hbd ⟨B.exec, B.bytes, B.returns, hml, hown, hts, hX, hbl, B.notSynchronized, hgv⟩
    obtain ⟨t, a1, o, b1, b2, b3⟩ := K s₁ rfl X₀
    exact ⟨t, o, a1, b1, b2, b3⟩
theorem lw_pre_spec {args : Array Value} {s : State} (h : (Jvm.Cond.and given_1 narrow_1).before args s = true) (hr : rest_1_c.before args s = true) : ∃ (b : Addr) (xs : List Int32), lw_P b xs args s := by
  have hs := flat_of_before _ h
  have hq := flat_of_before _ hr
  have hc : (Cond.count 1).before args s = true := hs _ (by decide +kernel)
  have harr : (Cond.arrayOf (.arg 0) .int).before args s = true := hs _ (by decide +kernel)
  have hle : (Cond.le (.length (.arg 0)) (.int 3072)).before args s = true := hs _ (by decide +kernel)
  have hlen : (Cond.isInt (.length (.arg 0))).before args s = true := hq _ (by decide +kernel)
  have hall : (Cond.all (.arg 0) (.isInt (.elem (.arg 0) (.index 0)))).before args s = true := hq _ (by decide +kernel)
  obtain ⟨b, xs, hb, hx⟩ := State.ints_of_pre rfl harr hlen hall
  have hsm : xs.length < 2 ^ 31 := hx.choose_spec.2.2.2
  have hev : (Term.length (.arg 0)).eval args s none [] s = some (.int xs.length.toInt32) := hx.length_eval hb
  have hv := Cond.le_ints hev (show (Term.int 3072).eval args s none [] s = some (.int 3072) from rfl)
  have hd : xs.length.toInt32 ≤ 3072 := by
    simpa [Cond.before, Cond.holds, hv] using hle
  have hN : xs.length ≤ 3072 := (Int32.ofNat_le_ofNat hsm (by decide)).mp (show Int32.ofNat xs.length ≤ Int32.ofNat 3072 from hd)
  exact ⟨b, xs, Cond.one_arg hc (show args[0]? = some (.ref b) from hb), hx, hN, h⟩
theorem lw_comes (l : Launch) (hflags : l.flags = flags0) : Comes l x (Jvm.Cond.code x code maxLocals ret :: tables_1) room_1 (fun tb e args s => Calls_1 tb e args s ∧ rest_1 tb e args s ∧ Pre_1 tb e args s)
    (fun _ _ args s o t => lw_Q args s o t) := by
  intro p e ha hc hk s m args below hf hfit hheap happ hpre
  obtain ⟨b, xs, hP⟩ := lw_pre_spec hpre.2.2 hpre.2.1
  obtain ⟨k, o, h1, h2, h3, hQ⟩ := lw_walk l hflags b xs p e ha hc hk s m args below hf ((Spec.applies_iff_loose hf).mp happ).1 hP trivial
  exact ⟨k, o, h1, h2, h3, hQ⟩
theorem lw_frame {s t : State} {o : Outcome} {args : Array Value} (h : Framed s o t [] 45 2050) :
    Framed s o t (fieldLocs frame_1_writes args s ++ arrayLocs frame_1_arrays args s ++ staticLocs frame_1_statics s) 45 2050 := h
theorem lw_limb (L : Cond) (hL : ∀ (args : Array Value) (s t : State), L.after args s (.returned (some (.int 1))) t = true) :
    ArmFor flags0 classFile x code maxLocals ret World_1 tables_1 room_1 Calls_1 rest_1 Pre_1
      (fun tb e a s o t => postC L tb e a s o t ∧ Framed s o t (fieldLocs frame_1_writes a s ++ arrayLocs frame_1_arrays a s ++ staticLocs frame_1_statics s) 45 2050) := by
  intro l hflags _ _ p e ha hc hk s m args below hf hfit hheap happ hpre
  obtain ⟨k, o, h1, h2, h3, rfl, hF⟩ := lw_comes l hflags p e ha hc hk s m args below hf hfit hheap happ hpre
  exact ⟨k, _, h1, h2, h3, hL args s _, lw_frame hF⟩
theorem i_vc : Claimed_1_1 ∧ Claimed_1_2 := ⟨lw_limb limb_1_1 (fun args s t => by simp [limb_1_1, Cond.after, Cond.holds, Cond.value]), lw_limb limb_1_2 (fun args s t => Cond.after_iff.mpr (by
  first | (rw [show limb_1_2 = Cond.eq .result (.int 1) from rfl, Cond.eq_ints (x := 1) (y := 1) rfl rfl]; simp; done) | (simp [limb_1_2, Cond.value, Term.eval]; done)))⟩
