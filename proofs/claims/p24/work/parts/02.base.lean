/-! THE BASE: a judgement G over (pc, locals, stack, memory) for one method's walk, with all of the machine hidden in Cx; a memory of whole numbers by rows; a contract CT over one world. -/
def iI (z : Int) : Int32 := Int32.ofInt z
def lI (z : Int) : Int64 := Int64.ofInt z
abbrev inr (z : Int) : Prop := -2147483648 ≤ z ∧ z ≤ 2147483647
abbrev inr8 (z : Int) : Prop := -9223372036854775808 ≤ z ∧ z ≤ 9223372036854775807
theorem iI_toInt {z : Int} (h : inr z) : (iI z).toInt = z := Int32.toInt_ofInt_of_le (by omega) (by omega)
theorem lI_toInt {z : Int} (h : inr8 z) : (lI z).toInt = z := Int64.toInt_ofInt_of_le (by omega) (by omega)
theorem iI_lt {a b : Int} (ha : inr a) (hb : inr b) : iI a < iI b ↔ a < b := by rw [Int32.lt_iff_toInt_lt, iI_toInt ha, iI_toInt hb]
theorem iI_le {a b : Int} (ha : inr a) (hb : inr b) : iI a ≤ iI b ↔ a ≤ b := by rw [Int32.le_iff_toInt_le, iI_toInt ha, iI_toInt hb]
theorem iI_eq {a b : Int} (ha : inr a) (hb : inr b) : iI a = iI b ↔ a = b := by rw [← Int32.toInt_inj, iI_toInt ha, iI_toInt hb]
theorem lI_lt {a b : Int} (ha : inr8 a) (hb : inr8 b) : lI a < lI b ↔ a < b := by rw [Int64.lt_iff_toInt_lt, lI_toInt ha, lI_toInt hb]
theorem lI_eq {a b : Int} (ha : inr8 a) (hb : inr8 b) : lI a = lI b ↔ a = b := by rw [← Int64.toInt_inj, lI_toInt ha, lI_toInt hb]
theorem iI_self (x : Int32) : iI x.toInt = x := Int32.ofInt_toInt x
theorem iI_add (a b : Int) : iI a + iI b = iI (a + b) := (Int32.ofInt_add a b).symm
theorem iI_sub (a b : Int) : iI a - iI b = iI (a - b) := (Int32.ofInt_sub a b).symm
theorem iI_mul (a b : Int) : iI a * iI b = iI (a * b) := (Int32.ofInt_mul a b).symm
theorem iI_neg (a : Int) : -iI a = iI (-a) := (Int32.ofInt_neg a).symm
theorem iI_clamp {z : Int} (h0 : 0 ≤ z) (h1 : z ≤ 2147483647) : ((iI z).toNatClampNeg : Int) = z := by
  show (((iI z).toInt.toNat : Nat) : Int) = z
  rw [iI_toInt ⟨by omega, h1⟩]
  omega
theorem iI_in {z : Int} {n : Nat} (h0 : 0 ≤ z) (h1 : z < (n : Int)) (hn : n ≤ 1000000) : vp_in (iI z) n := by
  rw [vp_in_iff, iI_toInt ⟨by omega, by omega⟩]
  exact ⟨h0, h1⟩
theorem iI_zero : iI 0 = 0 := by decide
-- memory
abbrev MM : Type := Nat → Int → Int
def up (σ : MM) (r : Nat) (e v : Int) : MM := fun a b => if a = r ∧ b = e then v else σ a b
theorem up_ne {σ : MM} {r a : Nat} {e v : Int} (h : a ≠ r) : up σ r e v a = σ a := by
  funext b
  simp [up, h]
theorem up_at {σ : MM} {r : Nat} {e v b : Int} : up σ r e v r b = if b = e then v else σ r b := by simp [up]
abbrev FS : Type := Nat ⊕ Nat
abbrev SH : Type := (Nat × List FS) ⊕ (Bool × Nat × Nat)
abbrev ST : Type := List vw_C × List SH × List (Option (Int × Int))
abbrev WT : Type := va_G × (Bool → ClassId) × (Nat → Nat)
abbrev GT : Type := Nat → List (Option Value) → List Value → MM → Prop
def fv (ad : Nat → Nat) (σ : MM) (f : FS) : Value := match f with
  | .inl r => .int (iI (σ r 0))
  | .inr j => .ref (ad j)
def ce (w : WT) (σ : MM) (s : SH) : va_E := match s with
  | .inl o => .inr (o.1, o.2.map (fv w.2.2 σ))
  | .inr a => .inl (w.2.1 a.1, a.2.2, .inl (fun k => iI (σ a.2.1 (k : Int))))
def wd (w : WT) (sh : List SH) (σ : MM) : va_W := sh.zipIdx.map (fun q => (w.2.2 q.2, ce w σ q.1))
theorem wd_at (w : WT) (sh : List SH) (σ : MM) (i : Nat) : (wd w sh σ)[i]? = (sh[i]?).map (fun s => (w.2.2 i, ce w σ s)) := by
  simp only [wd, List.getElem?_map, List.getElem?_zipIdx, Option.map_map, Nat.zero_add]
  rfl
theorem wd_get {w : WT} {sh : List SH} {σ : MM} {i : Nat} {s : SH} (h : sh[i]? = some s) : (wd w sh σ)[i]? = some (w.2.2 i, ce w σ s) := by rw [wd_at, h]; rfl
def hasF (r : Nat) (f : FS) : Bool := match f with
  | .inl q => q == r
  | .inr _ => false
def hasR (r : Nat) (s : SH) : Bool := match s with
  | .inl o => o.2.any (hasF r)
  | .inr a => a.2.1 == r
theorem fv_up {ad : Nat → Nat} {σ : MM} {f : FS} {r : Nat} {e v : Int} (h : hasF r f = false) : fv ad (up σ r e v) f = fv ad σ f := by
  cases f with
  | inr j => rfl
  | inl q =>
    have h1 : q ≠ r := by simpa [hasF] using h
    simp [fv, up_ne h1]
theorem ce_up {w : WT} {σ : MM} {s : SH} {r : Nat} {e v : Int} (h : hasR r s = false) : ce w (up σ r e v) s = ce w σ s := by
  cases s with
  | inr a =>
    have h1 : a.2.1 ≠ r := by simpa [hasR] using h
    simp [ce, up_ne h1]
  | inl o =>
    have h1 : ∀ f ∈ o.2, hasF r f = false := by simpa [hasR] using h
    have h2 : o.2.map (fv w.2.2 (up σ r e v)) = o.2.map (fv w.2.2 σ) := List.map_congr_left fun f hf => fv_up (h1 f hf)
    simp [ce, h2]
/-- row r stands in cell i alone -/
def sepR (sh : List SH) (i r : Nat) : Bool := sh.zipIdx.all (fun q => q.2 == i || !(hasR r q.1))
theorem sepR_ne {sh : List SH} {i r j : Nat} {s : SH} (h : sepR sh i r = true) (hj : sh[j]? = some s) (hne : j ≠ i) : hasR r s = false := by
  have h1 := List.all_eq_true.mp h (s, j) (by rw [List.mem_zipIdx_iff_getElem?]; exact hj)
  simpa [hne] using h1
theorem wd_up {w : WT} {sh : List SH} {σ : MM} {i r : Nat} {s : SH} {e v : Int} {x : va_E} (hs : sh[i]? = some s) (ho : sepR sh i r = true) (hx : ce w (up σ r e v) s = x) : (wd w sh σ).set i (w.2.2 i, x) = wd w sh (up σ r e v) := by
  have hl : i < (wd w sh σ).length := (List.getElem?_eq_some_iff.mp (wd_get (w := w) (σ := σ) hs)).1
  apply List.ext_getElem?
  intro j
  by_cases hj : j = i
  · subst hj
    rw [List.getElem?_set_self hl, wd_get hs, hx]
  · rw [List.getElem?_set_ne (Ne.symm hj), wd_at, wd_at]
    cases hsj : sh[j]? with
    | none => rfl
    | some t => simp [ce_up (w := w) (σ := σ) (e := e) (v := v) (sepR_ne ho hsj hj)]
def fsep (fs : List FS) (k r : Nat) : Bool := fs.zipIdx.all (fun q => q.2 == k || !(hasF r q.1))
theorem fs_set {ad : Nat → Nat} {σ : MM} {fs : List FS} {k r : Nat} {v : Int} (hk : fs[k]? = some (.inl r)) (ho : fsep fs k r = true) : fs.map (fv ad (up σ r 0 v)) = (fs.map (fv ad σ)).set k (.int (iI v)) := by
  have hl : k < (fs.map (fv ad σ)).length := by rw [List.length_map]; exact (List.getElem?_eq_some_iff.mp hk).1
  apply List.ext_getElem?
  intro j
  by_cases hj : j = k
  · subst hj
    rw [List.getElem?_set_self hl, List.getElem?_map, hk]
    simp [fv, up_at]
  · rw [List.getElem?_set_ne (Ne.symm hj), List.getElem?_map, List.getElem?_map]
    cases hsj : fs[j]? with
    | none => rfl
    | some t =>
      have h1 := List.all_eq_true.mp ho (t, j) (by rw [List.mem_zipIdx_iff_getElem?]; exact hsj)
      have h2 : hasF r t = false := by simpa [hj] using h1
      simp [fv_up h2]
/-- the range of each row's numbers -/
def Bd (bd : List (Option (Int × Int))) (σ : MM) : Prop := ∀ (r : Nat) (lo hi : Int), bd[r]? = some (some (lo, hi)) → ∀ k : Int, lo ≤ σ r k ∧ σ r k ≤ hi
theorem Bd.up {bd : List (Option (Int × Int))} {σ : MM} {r : Nat} {e v : Int} (h : Bd bd σ) (hv : ∀ lo hi, bd[r]? = some (some (lo, hi)) → lo ≤ v ∧ v ≤ hi) : Bd bd (up σ r e v) := by
  intro q lo hi hq k
  by_cases h1 : q = r
  · subst h1
    rw [up_at]
    split
    · exact hv lo hi hq
    · exact h q lo hi hq k
  · rw [up_ne h1]
    exact h q lo hi hq k
def Mod (L : List Nat) (σ σ1 : MM) : Prop := ∀ r : Nat, r ∉ L → σ1 r = σ r
theorem Mod.rf {σ : MM} {L : List Nat} : Mod L σ σ := fun _ _ => rfl
theorem Mod.up {σ : MM} {r : Nat} {e v : Int} : Mod [r] σ (up σ r e v) := fun q h => up_ne (by simpa using h)
theorem Mod.tr {L1 L2 L : List Nat} {σ σ1 σ2 : MM} (h1 : Mod L1 σ σ1) (h2 : Mod L2 σ1 σ2) (e1 : L1.all (L.contains ·) = true) (e2 : L2.all (L.contains ·) = true) : Mod L σ σ2 := by
  intro r hr
  have f : ∀ K : List Nat, K.all (L.contains ·) = true → r ∉ K := fun K hK hm => hr (by have := List.all_eq_true.mp hK r hm; simpa using this)
  rw [h2 r (f L2 e2), h1 r (f L1 e1)]
theorem Mod.w {L1 L : List Nat} {σ σ1 : MM} (h1 : Mod L1 σ σ1) (e1 : L1.all (L.contains ·) = true) : Mod L σ σ1 := Mod.tr h1 Mod.rf e1 (by rfl : ([] : List Nat).all (L.contains ·) = true)
theorem Mod.at {L : List Nat} {σ σ1 : MM} (h : Mod L σ σ1) (r : Nat) (hr : L.contains r = false) : σ1 r = σ r := h r (by simpa using hr)
-- the words that stay
def gtb : List Cond := lw_tbl.filter goodWord
-- the world
def tysW (w : WT) : List (ClassId × FieldType) := [(w.2.1 false, .int), (w.2.1 true, .boolean)]
def InjW (sh : List SH) (w : WT) : Prop := ∀ i j, i < sh.length → j < sh.length → w.2.2 i = w.2.2 j → i = j
def Aw (S : ST) (w : WT) : Nat → Prop := fun q => ∃ i, i < S.2.1.length ∧ q = w.2.2 i
def WDs (S : ST) (w : WT) (σ : MM) (U : State) : Prop := va_P w.1 S.1 (wd w S.2.1 σ) U.heap ∧ va_K w.1 S.1 (tysW w) U ∧ InjW S.2.1 w ∧ Bd S.2.2 σ ∧ va_Nw nestW U
def QQ (S : ST) (w : WT) (P : Option Value → MM → Prop) : Array Value → State → Outcome → State → Prop := fun _ st o t => (∃ (r : Option Value) (σ1 : MM), o = .returned r ∧ P r σ1 ∧ WDs S w σ1 t) ∧ va_F (Aw S w) st t
def CT (S : ST) (l : Launch) (w : WT) (y : MethodName) (cc : ByteArray) (nL : Nat) (ret : Option FieldType) (fr lo : Nat) (as : List Value) (σ : MM) (P : Option Value → MM → Prop) : Prop :=
  Met l y (.code y cc nL ret :: gtb) ({ frames := fr, cells := 0, slots := 0, locals := lo }) (va_Pc as (WDs S w σ)) (QQ S w P) 0 0 (Aw S w)
theorem wd_D {sh : List SH} {w : WT} {A : Nat → Prop} (hI : InjW sh w) (hA : ∀ i, i < sh.length → A (w.2.2 i)) (σ : MM) : va_D A (wd w sh σ) := by
  have key : ∀ (i : Nat) (p : Nat × va_E), (wd w sh σ)[i]? = some p → i < sh.length ∧ p.1 = w.2.2 i := by
    intro i p h
    rw [wd_at] at h
    cases hs : sh[i]? with
    | none => rw [hs] at h; cases h
    | some t => rw [hs] at h; cases h; exact ⟨(List.getElem?_eq_some_iff.mp hs).1, rfl⟩
  refine ⟨fun i j p q hi hj hpq => ?_, fun k q hk => ?_⟩
  · obtain ⟨h1, h2⟩ := key i p hi
    obtain ⟨h3, h4⟩ := key j q hj
    exact hI i j h1 h3 (by rw [← h2, ← h4, hpq])
  · obtain ⟨h1, h2⟩ := key k q hk
    rw [h2]
    exact hA k h1
-- locals
def LH (ls : Array Slot) (nL : Nat) (lv : List (Option Value)) : Prop := ls.size = nL ∧ lv_wf ls ∧ ∀ (i : Nat) (v : Value), lv[i]? = some (some v) → ls[i]? = some (.val v)
def lvE (as : List Value) : List (Option Value) := as.flatMap (fun v => if v.category = 2 then [some v, none] else [some v])
def toA (lv : List (Option Value)) : List (Nat × Value) := lv.zipIdx.filterMap (fun q => q.1.map (fun v => (q.2, v)))
theorem toA_mem {lv : List (Option Value)} {i : Nat} {v : Value} : (i, v) ∈ toA lv ↔ lv[i]? = some (some v) := by
  simp only [toA, List.mem_filterMap, Prod.exists, List.mem_zipIdx_iff_getElem?]
  constructor
  · rintro ⟨o, j, h1, h2⟩
    cases o with
    | none => simp at h2
    | some u =>
      simp at h2
      obtain ⟨rfl, rfl⟩ := h2
      exact h1
  · intro h
    exact ⟨some v, i, h, rfl⟩
theorem LH.has {ls : Array Slot} {nL : Nat} {lv : List (Option Value)} (h : LH ls nL lv) : lv_has ls nL (toA lv) := ⟨h.1, h.2.1, fun q hq => h.2.2 q.1 q.2 (toA_mem.mp hq)⟩
theorem lvE_get (as : List Value) : ∀ (k i : Nat) (v : Value), (lvE as)[i]? = some (some v) → (k + i, v) ∈ lv_args k as := by
  induction as with
  | nil => intro k i v h; simp [lvE] at h
  | cons a t ih =>
    intro k i v h
    have e : lvE (a :: t) = (if a.category = 2 then [some a, none] else [some a]) ++ lvE t := by simp [lvE]
    rw [e] at h
    rw [lv_args]
    by_cases hc : a.category = 2
    · rw [if_pos hc] at h ⊢
      match i, h with
      | 0, h => simp at h; subst h; simp
      | 1, h => simp at h
      | j + 2, h =>
        have h1 := ih (k + 2) j v (by simpa using h)
        rw [show k + (j + 2) = k + 2 + j by omega]
        exact List.mem_cons_of_mem _ h1
    · rw [if_neg hc] at h ⊢
      match i, h with
      | 0, h => simp at h; subst h; simp
      | j + 1, h =>
        have h1 := ih (k + 1) j v (by simpa using h)
        rw [show k + (j + 1) = k + 1 + j by omega]
        exact List.mem_cons_of_mem _ h1
theorem LH.entry {ls : Array Slot} {nL : Nat} {as : List Value} {m : Nat} (h : lv_has ls nL (lv_args 0 as)) : LH ls nL (lvE as ++ List.replicate m none) := by
  refine ⟨h.1, h.2.1, fun i v hi => ?_⟩
  by_cases hl : i < (lvE as).length
  · rw [List.getElem?_append_left hl] at hi
    have h1 := lvE_get as 0 i v hi
    rw [Nat.zero_add] at h1
    exact h.2.2 (i, v) h1
  · rw [List.getElem?_append_right (by omega)] at hi
    have := List.mem_of_getElem? hi
    simp at this
def leL : List (Option Value) → List (Option Value) → Prop
  | [], _ => True
  | none :: t, [] => leL t []
  | none :: t, _ :: u => leL t u
  | some _ :: _, [] => False
  | some v :: t, o :: u => o = some v ∧ leL t u
theorem leL_get : ∀ (a b : List (Option Value)), leL a b → ∀ (i : Nat) (v : Value), a[i]? = some (some v) → b[i]? = some (some v)
  | [], _, _, i, v, h => by simp at h
  | none :: t, [], hl, i, v, h => by
    match i, h with
    | 0, h => simp at h
    | j + 1, h =>
      have h1 := leL_get t [] hl j v (by simpa using h)
      simp at h1
  | none :: t, _ :: u, hl, i, v, h => by
    match i, h with
    | 0, h => simp at h
    | j + 1, h => simpa using leL_get t u hl j v (by simpa using h)
  | some a :: t, o :: u, hl, i, v, h => by
    match i, h with
    | 0, h =>
      simp at h
      subst h
      simp [hl.1]
    | j + 1, h => simpa using leL_get t u hl.2 j v (by simpa using h)
theorem LH.wk {ls : Array Slot} {nL : Nat} {lv lv1 : List (Option Value)} (h : LH ls nL lv) (hl : leL lv1 lv) : LH ls nL lv1 := ⟨h.1, h.2.1, fun i v hi => h.2.2 i v (leL_get _ _ hl i v hi)⟩
def cat1 (lv : List (Option Value)) : Bool := lv.all (fun o => match o with
  | some v => v.category == 1
  | none => true)
theorem LH.set {ls1 : Array Slot} {nL i : Nat} {lv : List (Option Value)} {v : Value} (hi : i < lv.length) (h1 : cat1 lv = true) (h : lv_has ls1 nL ((i, v) :: (toA lv).filter (fun q => !(q.1 == i) && !(q.1 + 1 == i && q.2.category == 2)))) : LH ls1 nL (lv.set i (some v)) := by
  refine ⟨h.1, h.2.1, fun j u hj => ?_⟩
  by_cases hji : j = i
  · subst hji
    rw [List.getElem?_set_self hi] at hj
    cases hj
    exact h.2.2 (j, v) List.mem_cons_self
  · rw [List.getElem?_set_ne (Ne.symm hji)] at hj
    have hc : u.category = 1 := by
      have := List.all_eq_true.mp h1 (some u) (List.mem_of_getElem? hj)
      simpa using this
    refine h.2.2 (j, u) (List.mem_cons_of_mem _ (List.mem_filter.mpr ⟨toA_mem.mpr hj, ?_⟩))
    simp [hji, hc]
-- the judgement
def retOK (cc : ByteArray) (pc : Nat) (ret : Option FieldType) (v : Option Value) : Prop := match v with
  | some (.int x) => decode cc pc = .ok (.ireturn, 1) ∧ ∃ ty, ret = some ty ∧ (ty = .int ∨ ty = .boolean) ∧ narrow ty (.int x) = .int x
  | some (.long _) => decode cc pc = .ok (.lreturn, 1) ∧ ret = some .long
  | none => decode cc pc = .ok (.return_, 1) ∧ ret = none
  | _ => False
def shOK (s : SH) : Bool := match s with
  | .inl _ => true
  | .inr a => Nat.ble a.2.2 1000000
def Cx (S : ST) (l : Launch) (w : WT) (cc : ByteArray) (nL : Nat) (ret : Option FieldType) (own : String) (R : Room) (P : Option Value → MM → Prop) (G : GT) : Prop :=
  ∃ (p : Program) (e : Env) (s : State) (m : MethodId) (args : Array Value) (below : List Frame) (meth : Method) (c : Code) (A : Nat → Prop) (cells slots : Nat) (Q : State → Prop),
    (p.tables.exec = Jvm.exec ∧ c.code = cc ∧ c.maxLocals = nL ∧ s.vm.findClass own = some m.cls ∧ (∀ x ∈ gtb, x.before args s = true) ∧ va_K w.1 S.1 (tysW w) s ∧ InjW S.2.1 w ∧ (∀ i, i < S.2.1.length → A (w.2.2 i)) ∧ cells ≤ R.cells ∧ slots ≤ R.slots ∧ S.2.1.all shOK = true ∧ va_Nw nestW s) ∧
    (G = fun pc lv st σ => Bd S.2.2 σ → ∀ (H : Heap) (locs : List Loc) (ls : Array Slot), va_P w.1 S.1 (wd w S.2.1 σ) H → va_S A s.heap H locs → LH ls nL lv → W p l e R s m args below meth c H locs cells slots Q (F0 m pc ls st)) ∧
    (∀ (pc : Nat) (lv : List (Option Value)) (v : Option Value) (σ : MM), retOK cc pc ret v → P v σ → G pc lv v.toList σ)
theorem gtb_in {c : Cond} (h : c ∈ lw_tbl) (hg : goodWord c = true) : c ∈ gtb := List.mem_filter.mpr ⟨h, hg⟩
theorem good_tbl {c : Cond} (hc : c ∈ gtb) : GoodIn gtb (c :: gtb) := by
  have h : ∀ w ∈ gtb, w ∈ gtb ∧ ((w.onTables && w.keeps) = true ∨ ∃ ty, w = .arrayClass ty) := fun w hw => ⟨hw, good_of_word (List.mem_filter.mp hw).2⟩
  intro w hw
  rcases List.mem_cons.mp hw with rfl | hw
  · exact h _ hc
  · exact h w hw
theorem WDs.blind {S : ST} {w : WT} {σ : MM} {as : List Value} : FrameBlind (va_Pc as (WDs S w σ)) := fun a U g mk q => by
  obtain ⟨q0, qP, qK, qI, qB, qN⟩ := q
  exact ⟨q0, qP, va_K.moved (u := U) (U := U.calling g mk a) (Vm.Alike.refl U.vm) qK, qI, qB, va_Nw.same rfl (rfl : U.vm = (U.calling g mk a).vm) qN⟩
theorem met_ofF {l : Launch} {y : MethodName} {ws ws' : List Cond} {rm : Room} {Pc : Array Value → State → Prop} {Qc : Array Value → State → Outcome → State → Prop} {mc ms : Nat} {free : Addr → Prop} {cc : ByteArray} {maxL : Nat} {ret : Option FieldType}
    (hy : plainFor y = true) (hw : ws = Cond.code y cc maxL ret :: ws')
    (body : ∀ p e s m args below meth c s₁, BodyLoose p l y (headSpec ws rm) cc maxL ret e s m args below meth c s₁ → c.maxLocals = maxL → Pc args s →
      W p l e (headSpec ws rm).room s m args below meth c s.heap [] 0 0 (MQ below Qc args s mc ms free) (entryFrame m args maxL)) : Met l y ws rm Pc Qc mc ms free := by
  refine MetFree.of_bodySF (code := cc) (maxLocals := maxL) (ret := ret) hy ?_ ?_
  · intro args s m h hn
    obtain ⟨meth, c, h1, h2, h3, h4, h5, h6, -, -⟩ := Cond.code_spec hn (atoms_spec (ws := ws) h _ (by rw [hw]; exact List.mem_cons_self))
    exact ⟨meth, c, h1, h2, h3, h4, h5, h6⟩
  · intro p e s m args below meth c s₁ B hml hP _
    have hh0 : s₁.heap = s.heap := by rw [B.state]; rfl
    obtain ⟨t, a1, o, b1, b2, b3⟩ := body p e s m args below meth c s₁ B hml hP s₁ hh0 (Stand.of_body B)
    exact ⟨t, o, a1, b1, b2, ⟨b3.1, b3.2⟩⟩
set_option maxHeartbeats 4000000 in
theorem CT.of {S : ST} {l : Launch} {w : WT} {y : MethodName} {cc : ByteArray} {nL : Nat} {ret : Option FieldType} {fr lo : Nat} {as : List Value} {σ : MM} {P : Option Value → MM → Prop} (n : Nat) (lv0 : List (Option Value)) (hy : plainFor y = true) (hn : (lg_sl as).length ≤ nL) (h0 : lvE as ++ List.replicate n none = lv0) (hsh : S.2.1.all shOK = true)
    (body : ∀ G : GT, Cx S l w cc nL ret y.cls ({ frames := fr, cells := 0, slots := 0, locals := lo }) P G → G 0 lv0 [] σ) : CT S l w y cc nL ret fr lo as σ P := by
  refine met_ofF (cc := cc) (maxL := nL) (ret := ret) hy rfl ?_
  intro p e s m args below meth c s₁ B hml hv
  obtain ⟨rfl, hP, hK, hI, hB, hN⟩ := hv
  have hx := B.exec
  have hb := B.bytes
  have hr := B.returns
  have hts : ∀ x ∈ gtb, x.before as.toArray s = true := fun x hx => atoms_spec (ws := .code y cc nL ret :: gtb) B.pre x (List.mem_cons_of_mem _ hx)
  have hown : s.vm.findClass y.cls = some m.cls := findClass_of_methodNamed B.named
  have hlocks : meth.locks = false := B.notSynchronized
  have hAw : ∀ i, i < S.2.1.length → Aw S w (w.2.2 i) := fun i hi => ⟨i, hi, rfl⟩
  have hS : va_S (Aw S w) s.heap s.heap [] := va_S.rf
  have hl := lv_entry as (n := nL) hn
  rw [lg_entry_eq]
  generalize (lg_sl as ++ List.replicate (nL - (lg_sl as).length) Slot.unset).toArray = ls at hl ⊢
  have hl : LH ls nL lv0 := by rw [← h0]; exact LH.entry hl
  refine body (fun pc lv st σ1 => Bd S.2.2 σ1 → ∀ (H : Heap) (locs : List Loc) (ls : Array Slot), va_P w.1 S.1 (wd w S.2.1 σ1) H → va_S (Aw S w) s.heap H locs → LH ls nL lv → W p l e ({ frames := fr, cells := 0, slots := 0, locals := lo }) s m as.toArray below meth c H locs 0 0 (MQ below (QQ S w P) as.toArray s 0 0 (Aw S w)) (F0 m pc ls st)) ?_ hB s.heap [] ls hP hS hl
  refine ⟨p, e, s, m, as.toArray, below, meth, c, Aw S w, 0, 0, _, ⟨hx, hb, hml, hown, hts, hK, hI, hAw, Nat.le_refl 0, Nat.le_refl 0, hsh, hN⟩, rfl, ?_⟩
  intro pc lv v σ1 hret hp hB1 H locs ls hP1 hS1 _
  have fin : ∀ t : State, t.heap = H → s.WarmedH t.vm → QQ S w P as.toArray s (.returned v) t := fun t ht hW => ⟨⟨v, σ1, rfl, hp, by rw [ht]; exact hP1, va_K.moved hW.alike hK, hI, hB1, va_Nw.warmM hW hN⟩, hS1.F ht⟩
  match v, hret, fin with
  | none, hret, fin => exact W.vret hx hb (hr.trans hret.2) fin hS1.2.2 hret.1
  | some (.long x), hret, fin => exact W.lret hx hb (hr.trans hret.2) fin hS1.2.2 hret.1
  | some (.int x), hret, fin =>
    obtain ⟨hd, ty, h1, h2, h3⟩ := hret
    exact W.zret hx hb (hr.trans h1) h3 fin hS1.2.2 hd
