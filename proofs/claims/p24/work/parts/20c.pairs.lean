/-! THE PAIRS: both sides of each call -/
theorem ReL.add {σ σ2 : MM} {c k p q s1 s2 d1 d2 : Int} (h : ReL σ) (hc : σ 53 0 = c) (c0 : 0 ≤ c) (c1 : σ2 53 0 = c + 1) (c2 : σ2 61 0 = c + 1) (f : σ2 55 0 = σ2 62 0) (k2 : ∀ b, σ2 2 b = if b = c then k else σ 2 b) (k28 : ∀ b, σ2 28 b = if b = c then k else σ 28 b) (p3 : ∀ b, σ2 3 b = if b = c then p else σ 3 b) (q4 : ∀ b, σ2 4 b = if b = c then q else σ 4 b)
    (p31 : ∀ b, b ≠ c → σ2 31 b = σ 31 b) (q32 : ∀ b, b ≠ c → σ2 32 b = σ 32 b) (pn : p = pM (σ2 28) (σ2 31) c) (qn : q = pM (σ2 28) (σ2 32) c) (s5 : ∀ b, σ2 5 b = if b = 2 * c then s1 else if b = 2 * c + 1 then s2 else σ 5 b) (d6 : ∀ b, σ2 6 b = if b = 2 * c then d1 else if b = 2 * c + 1 then d2 else σ 6 b)
    (op : ∀ b, b ≠ 2 * c → b ≠ 2 * c + 1 → σ2 29 b = σ 29 b) (di : ∀ b, b ≠ 2 * c → b ≠ 2 * c + 1 → σ2 30 b = σ 30 b) (s1n : s1 = sM (σ2 28) (σ2 29) (2 * c)) (s2n : s2 = sM (σ2 28) (σ2 29) (2 * c + 1)) (d1n : d1 = dM (σ2 28) (σ2 30) (2 * c)) (d2n : d2 = dM (σ2 28) (σ2 30) (2 * c + 1)) : ReL σ2 := by
  obtain ⟨⟨h1, h2⟩, h3, h4⟩ := h
  refine ⟨⟨by omega, f⟩, fun a a0 a1 => ?_, fun s s0 s1' => ?_⟩
  · by_cases e : a = c
    · rw [e, k2, if_pos rfl, k28, if_pos rfl, p3, if_pos rfl, q4, if_pos rfl]
      exact ⟨rfl, pn, qn⟩
    · have o := h3 a a0 (by omega)
      unfold pM at *
      rw [k2, if_neg e, k28, if_neg e, p3, if_neg e, q4, if_neg e, p31 a e, q32 a e]
      exact o
  · by_cases e : s = 2 * c
    · rw [e, s5, if_pos rfl, d6, if_pos rfl]
      exact ⟨s1n, d1n⟩
    · by_cases e1 : s = 2 * c + 1
      · rw [e1, s5, if_neg (by omega), if_pos rfl, d6, if_neg (by omega), if_pos rfl]
        exact ⟨s2n, d2n⟩
      · have o := h4 s s0 (by omega)
        unfold sM dM at *
        rw [s5, if_neg e, if_neg e1, d6, if_neg e, if_neg e1, k28, if_neg (show s / 2 ≠ c by omega), op s e e1, di s e e1]
        exact o
theorem ReL.fst {σ τ : MM} {L : List Nat} (h : ReL σ) (m : Mod L σ τ) (hL : ([2, 3, 4, 5, 6, 28, 29, 30, 31, 32, 53, 61] : List Nat).all (fun r => !(L.contains r)) = true) (hf : τ 55 0 = τ 62 0) : ReL τ := by
  have e : ∀ r ∈ ([2, 3, 4, 5, 6, 28, 29, 30, 31, 32, 53, 61] : List Nat), τ r = σ r := fun r hr => m.at r (by have := List.all_eq_true.mp hL r hr; simpa using this)
  obtain ⟨⟨h1, h2⟩, h3⟩ := h
  unfold ReL
  rw [e 2 (by decide), e 3 (by decide), e 4 (by decide), e 5 (by decide), e 6 (by decide), e 28 (by decide), e 29 (by decide), e 30 (by decide), e 31 (by decide), e 32 (by decide), e 53 (by decide), e 61 (by decide)]
  exact ⟨⟨h1, hf⟩, h3⟩
theorem PlM_keep {σ τ υ : MM} {L : List Nat} (m : Mod L σ τ) (hL : ([28, 29, 30, 31, 32, 61, 62] : List Nat).all (fun r => !(L.contains r)) = true) (a r z : Int) : PlM τ υ a r z ↔ PlM σ υ a r z := by
  have e : ∀ r ∈ ([28, 29, 30, 31, 32, 61, 62] : List Nat), τ r = σ r := fun r hr => m.at r (by have := List.all_eq_true.mp hL r hr; simpa using this)
  unfold PlM SndM EQm VALm
  rw [e 28 (by decide), e 29 (by decide), e 30 (by decide), e 31 (by decide), e 32 (by decide), e 61 (by decide), e 62 (by decide)]
/-- the model's step, told of the memory before the class's -/
theorem WhyK {σ τ υ : MM} {L : List Nat} (m : Mod L σ τ) (hL : ([28, 29, 30, 35, 36, 38, 39, 61, 63, 64, 65, 66] : List Nat).all (fun r => !(L.contains r)) = true) {W : Int → Int} {R y : Int} : (((R < 1 ∨ 60 < R) ∧ y = -2 ∧ υ 64 = τ 64) ∨ ((1 ≤ R ∧ R ≤ 60) ∧ ((τ 63 0 = 0 ∧ y = -3 ∧ υ 64 = τ 64) ∨ (0 < τ 63 0 ∧ BadM τ W ∧ y = -5 ∧ υ 64 = τ 64) ∨ (GoodM τ W ∧ IsMax (fun _ => True) (fun a => madeM τ a + (R - 1) * τ 63 0) (τ 61 0) 0 y ∧ υ 64 0 = R)))) ↔
    (((R < 1 ∨ 60 < R) ∧ y = -2 ∧ υ 64 = σ 64) ∨ ((1 ≤ R ∧ R ≤ 60) ∧ ((σ 63 0 = 0 ∧ y = -3 ∧ υ 64 = σ 64) ∨ (0 < σ 63 0 ∧ BadM σ W ∧ y = -5 ∧ υ 64 = σ 64) ∨ (GoodM σ W ∧ IsMax (fun _ => True) (fun a => madeM σ a + (R - 1) * σ 63 0) (σ 61 0) 0 y ∧ υ 64 0 = R)))) := by
  have e : ∀ r ∈ ([28, 29, 30, 35, 36, 38, 39, 61, 63, 64, 65, 66] : List Nat), τ r = σ r := fun r hr => m.at r (by have := List.all_eq_true.mp hL r hr; simpa using this)
  unfold GoodM BadM SndM FLm P1m P2m P3m P4m madeM
  rw [e 28 (by decide), e 29 (by decide), e 30 (by decide), e 35 (by decide), e 36 (by decide), e 38 (by decide), e 39 (by decide), e 61 (by decide), e 63 (by decide), e 64 (by decide)]
theorem RR.keep64 {σ τ : MM} {L : List Nat} (h : RR σ) (m : Mod L σ τ) (hL : ([2, 3, 4, 5, 6, 7, 8, 11, 12, 13, 15, 16, 24, 26, 28, 29, 30, 31, 32, 35, 36, 38, 39, 50, 51, 53, 54, 55, 56, 57, 58, 61, 62, 63, 65, 66] : List Nat).all (fun r => !(L.contains r)) = true) (h64 : τ 64 0 = σ 64 0) : RR τ := by
  have sub : ∀ K : List Nat, K.all (([2, 3, 4, 5, 6, 7, 8, 11, 12, 13, 15, 16, 24, 26, 28, 29, 30, 31, 32, 35, 36, 38, 39, 50, 51, 53, 54, 55, 56, 57, 58, 61, 62, 63, 65, 66] : List Nat).contains ·) = true → K.all (fun r => !(L.contains r)) = true := fun K hK => by
    refine List.all_eq_true.mpr fun r hr => ?_
    have := List.all_eq_true.mp hK r hr
    exact List.all_eq_true.mp hL r (by simpa using this)
  have e : ∀ r ∈ ([2, 3, 4, 5, 6, 26, 51, 53, 54, 55] : List Nat), τ r = σ r := fun r hr => m.at r (by have := List.all_eq_true.mp (sub [2, 3, 4, 5, 6, 26, 51, 53, 54, 55] rfl) r hr; simpa using this)
  obtain ⟨h1, h2, h3, h4, h5, h6, h7, h8⟩ := h
  refine ⟨h1.keep m (sub _ rfl), h2.keep m (sub _ rfl), h3.keep m (sub _ rfl), ?_, h5.keep m (sub _ rfl), h6.keep m (sub _ rfl), h7.keep m (sub _ rfl), h8.keep m (sub _ rfl)⟩
  unfold ReS EQs VALx at *
  rw [e 2 (by decide), e 3 (by decide), e 4 (by decide), e 5 (by decide), e 6 (by decide), e 26 (by decide), e 51 (by decide), e 53 (by decide), e 54 (by decide), e 55 (by decide), h64]
  exact h4
set_option maxHeartbeats 4000000 in
theorem pr_input {σ σ1 σ2 : MM} {p q : Int} {z z2 : Int} (hR : RR σ) (hB : Bd bdL σ) (mx : Mod [2, 3, 4, 5, 6, 7, 8, 53, 54, 50, 51, 58] σ σ1) (hx : ((p < -1000 ∨ 1000 < p ∨ q < -1000 ∨ 1000 < q) ∧ z = -2 ∧ σ1 = σ) ∨ ((-1000 ≤ p ∧ p ≤ 1000 ∧ -1000 ≤ q ∧ q ≤ 1000) ∧ σ 53 0 = 8 ∧ z = -4 ∧ σ1 = σ) ∨ ((-1000 ≤ p ∧ p ≤ 1000 ∧ -1000 ≤ q ∧ q ≤ 1000) ∧ σ 53 0 < 8 ∧ z = σ 53 0 ∧ Added σ σ1 0 p q (-6) 0 (-6) 0 ∧ LoopOK σ1 ∧ σ1 50 0 = 0 ∧ σ1 51 0 = 0 ∧ σ1 58 0 = 0)) (mm : Mod [28, 31, 32, 61, 63, 64] σ1 σ2) (hm : ((p < -1000 ∨ 1000 < p ∨ q < -1000 ∨ 1000 < q) ∧ z2 = -2 ∧ σ2 = σ1) ∨ ((-1000 ≤ p ∧ p ≤ 1000 ∧ -1000 ≤ q ∧ q ≤ 1000) ∧ σ1 61 0 = 8 ∧ z2 = -4 ∧ σ2 = σ1) ∨ ((-1000 ≤ p ∧ p ≤ 1000 ∧ -1000 ≤ q ∧ q ≤ 1000) ∧ σ1 61 0 < 8 ∧ z2 = σ1 61 0 ∧ AddI σ1 σ2 p q)) : RR σ2 ∧ z = z2 := by
  obtain ⟨h1, h2, h3, h4, h5, h6, h7, h8⟩ := id hR
  have hc53 := h1.1.1
  have hc55 := h1.1.2
  have hc58 := h3.1
  have hc51 := h4.1
  have hc56 := h2.1.1
  have hc57 := h2.1.2
  have hk53 := (bdk hB).1
  have hk58 := (bdk hB).2.2.2.1
  have x55 := congrFun (mx.at 55 rfl) 0
  have x56 := congrFun (mx.at 56 rfl) 0
  have x57 := congrFun (mx.at 57 rfl) 0
  have x61 := congrFun (mx.at 61 rfl) 0
  have x62 := congrFun (mx.at 62 rfl) 0
  have x63 := congrFun (mx.at 63 rfl) 0
  have x64 := congrFun (mx.at 64 rfl) 0
  have x65 := congrFun (mx.at 65 rfl) 0
  have x66 := congrFun (mx.at 66 rfl) 0
  have m50 := congrFun (mm.at 50 rfl) 0
  have m51 := congrFun (mm.at 51 rfl) 0
  have m53 := congrFun (mm.at 53 rfl) 0
  have m54 := congrFun (mm.at 54 rfl) 0
  have m55 := congrFun (mm.at 55 rfl) 0
  have m56 := congrFun (mm.at 56 rfl) 0
  have m57 := congrFun (mm.at 57 rfl) 0
  have m58 := congrFun (mm.at 58 rfl) 0
  have m62 := congrFun (mm.at 62 rfl) 0
  have m65 := congrFun (mm.at 65 rfl) 0
  have m66 := congrFun (mm.at 66 rfl) 0
  have M : Mod [2, 3, 4, 5, 6, 7, 8, 28, 31, 32, 50, 51, 53, 54, 58, 61, 63, 64] σ σ2 := Mod.tr (L := [2, 3, 4, 5, 6, 7, 8, 28, 31, 32, 50, 51, 53, 54, 58, 61, 63, 64]) mx mm rfl rfl
  rcases hx with ⟨a1, a2, rfl⟩ | ⟨a1, a2, a3, rfl⟩ | ⟨a1, a2, a3, a4, a5, a6, a7, a8⟩
  · rcases hm with ⟨b1, b2, rfl⟩ | ⟨b1, -⟩ | ⟨b1, -⟩
    · exact ⟨hR, by omega⟩
    · omega
    · omega
  · rcases hm with ⟨b1, b2, rfl⟩ | ⟨b1, b2, b3, rfl⟩ | ⟨b1, b2, -⟩
    · omega
    · exact ⟨hR, by omega⟩
    · omega
  · rcases hm with ⟨b1, b2, rfl⟩ | ⟨b1, b2, b3, rfl⟩ | ⟨b1, b2, b3, b4⟩
    · omega
    · omega
    · obtain ⟨n1, n2, n3, n4, n5, n6⟩ := a4
      obtain ⟨e1, e2, e3, e4, e5, e6⟩ := b4
      have c61 : σ1 61 0 = σ 53 0 := by omega
      rw [c61] at e1 e2 e5 e6
      refine ⟨⟨?_, h2.keep M rfl, RPn.nil (by omega) (by omega), ReS.nil (by omega) (by omega), a5.keep mm rfl, LayOK.nil (by omega), h7.keep M rfl, EQ24.nil (by omega)⟩, by omega⟩
      refine h1.add rfl (by omega) (k := 0) (p := p) (q := q) (s1 := -6) (s2 := -6) (d1 := 0) (d2 := 0) (by omega) (by omega) (by omega) (fun b => by rw [mm.at 2 rfl]; exact n2 b) (fun b => by rw [e2, mx.at 28 rfl]) (fun b => by rw [mm.at 3 rfl]; exact n3 b) (fun b => by rw [mm.at 4 rfl]; exact n4 b) (fun b hb => by rw [e5, if_neg hb, mx.at 31 rfl]) (fun b hb => by rw [e6, if_neg hb, mx.at 32 rfl]) (by unfold pM; rw [e2, if_pos rfl, if_pos rfl, e5, if_pos rfl]) (by unfold pM; rw [e2, if_pos rfl, if_pos rfl, e6, if_pos rfl]) (fun b => by rw [mm.at 5 rfl]; exact n5 b) (fun b => by rw [mm.at 6 rfl]; exact n6 b) (fun b _ _ => by rw [mm.at 29 rfl, mx.at 29 rfl]) (fun b _ _ => by rw [mm.at 30 rfl, mx.at 30 rfl]) ?_ ?_ ?_ ?_
      · rw [sM_0 (by rw [hf0, e2, if_pos rfl])]
      · rw [sM_0 (by rw [hf1, e2, if_pos rfl])]
      · unfold dM; rw [hf0, e2, if_pos rfl, if_pos rfl]
      · unfold dM; rw [hf1, e2, if_pos rfl, if_pos rfl]
set_option maxHeartbeats 4000000 in
theorem pr_act {σ σ1 σ2 : MM} {kd a da b db : Int} {z z2 : Int} (hR : RR σ) (hB : Bd bdL σ) (mx : Mod [2, 3, 4, 5, 6, 7, 8, 53, 54, 50, 51, 58] σ σ1) (hx : ((kd < 1 ∨ 5 < kd ∨ a < 0 ∨ 7 < a ∨ da < 0 ∨ 3 < da ∨ b < 0 ∨ 7 < b ∨ db < 0 ∨ 3 < db) ∧ z = -2 ∧ σ1 = σ) ∨ ((1 ≤ kd ∧ kd ≤ 5 ∧ 0 ≤ a ∧ a ≤ 7 ∧ 0 ≤ da ∧ da ≤ 3 ∧ 0 ≤ b ∧ b ≤ 7 ∧ 0 ≤ db ∧ db ≤ 3) ∧ σ 53 0 = 8 ∧ z = -4 ∧ σ1 = σ) ∨ ((1 ≤ kd ∧ kd ≤ 5 ∧ 0 ≤ a ∧ a ≤ 7 ∧ 0 ≤ da ∧ da ≤ 3 ∧ 0 ≤ b ∧ b ≤ 7 ∧ 0 ≤ db ∧ db ≤ 3) ∧ σ 53 0 < 8 ∧ z = σ 53 0 ∧ Added σ σ1 kd 0 0 a da b db ∧ LoopOK σ1 ∧ σ1 50 0 = 0 ∧ σ1 51 0 = 0 ∧ σ1 58 0 = 0)) (mm : Mod [28, 29, 30, 61, 63, 64] σ1 σ2) (hm : ((kd < 1 ∨ 5 < kd ∨ a < 0 ∨ 7 < a ∨ da < 0 ∨ 3 < da ∨ b < 0 ∨ 7 < b ∨ db < 0 ∨ 3 < db) ∧ z2 = -2 ∧ σ2 = σ1) ∨ ((1 ≤ kd ∧ kd ≤ 5 ∧ 0 ≤ a ∧ a ≤ 7 ∧ 0 ≤ da ∧ da ≤ 3 ∧ 0 ≤ b ∧ b ≤ 7 ∧ 0 ≤ db ∧ db ≤ 3) ∧ σ1 61 0 = 8 ∧ z2 = -4 ∧ σ2 = σ1) ∨ ((1 ≤ kd ∧ kd ≤ 5 ∧ 0 ≤ a ∧ a ≤ 7 ∧ 0 ≤ da ∧ da ≤ 3 ∧ 0 ≤ b ∧ b ≤ 7 ∧ 0 ≤ db ∧ db ≤ 3) ∧ σ1 61 0 < 8 ∧ z2 = σ1 61 0 ∧ AddA σ1 σ2 kd a da b db)) : RR σ2 ∧ z = z2 := by
  obtain ⟨h1, h2, h3, h4, h5, h6, h7, h8⟩ := id hR
  have hc53 := h1.1.1
  have hc55 := h1.1.2
  have hc58 := h3.1
  have hc51 := h4.1
  have hc56 := h2.1.1
  have hc57 := h2.1.2
  have hk53 := (bdk hB).1
  have hk58 := (bdk hB).2.2.2.1
  have x55 := congrFun (mx.at 55 rfl) 0
  have x56 := congrFun (mx.at 56 rfl) 0
  have x57 := congrFun (mx.at 57 rfl) 0
  have x61 := congrFun (mx.at 61 rfl) 0
  have x62 := congrFun (mx.at 62 rfl) 0
  have x63 := congrFun (mx.at 63 rfl) 0
  have x64 := congrFun (mx.at 64 rfl) 0
  have x65 := congrFun (mx.at 65 rfl) 0
  have x66 := congrFun (mx.at 66 rfl) 0
  have m50 := congrFun (mm.at 50 rfl) 0
  have m51 := congrFun (mm.at 51 rfl) 0
  have m53 := congrFun (mm.at 53 rfl) 0
  have m54 := congrFun (mm.at 54 rfl) 0
  have m55 := congrFun (mm.at 55 rfl) 0
  have m56 := congrFun (mm.at 56 rfl) 0
  have m57 := congrFun (mm.at 57 rfl) 0
  have m58 := congrFun (mm.at 58 rfl) 0
  have m62 := congrFun (mm.at 62 rfl) 0
  have m65 := congrFun (mm.at 65 rfl) 0
  have m66 := congrFun (mm.at 66 rfl) 0
  have M : Mod [2, 3, 4, 5, 6, 7, 8, 28, 29, 30, 50, 51, 53, 54, 58, 61, 63, 64] σ σ2 := Mod.tr (L := [2, 3, 4, 5, 6, 7, 8, 28, 29, 30, 50, 51, 53, 54, 58, 61, 63, 64]) mx mm rfl rfl
  rcases hx with ⟨a1, a2, rfl⟩ | ⟨a1, a2, a3, rfl⟩ | ⟨a1, a2, a3, a4, a5, a6, a7, a8⟩
  · rcases hm with ⟨b1, b2, rfl⟩ | ⟨b1, -⟩ | ⟨b1, -⟩
    · exact ⟨hR, by omega⟩
    · omega
    · omega
  · rcases hm with ⟨b1, b2, rfl⟩ | ⟨b1, b2, b3, rfl⟩ | ⟨b1, b2, -⟩
    · omega
    · exact ⟨hR, by omega⟩
    · omega
  · rcases hm with ⟨b1, b2, rfl⟩ | ⟨b1, b2, b3, rfl⟩ | ⟨b1, b2, b3, b4⟩
    · omega
    · omega
    · obtain ⟨n1, n2, n3, n4, n5, n6⟩ := a4
      obtain ⟨e1, e2, e3, e4, e5, e6⟩ := b4
      have c61 : σ1 61 0 = σ 53 0 := by omega
      rw [c61] at e1 e2 e5 e6
      have kn : σ2 28 (σ 53 0) ≠ 0 := by rw [e2, if_pos rfl]; omega
      refine ⟨⟨?_, h2.keep M rfl, RPn.nil (by omega) (by omega), ReS.nil (by omega) (by omega), a5.keep mm rfl, LayOK.nil (by omega), h7.keep M rfl, EQ24.nil (by omega)⟩, by omega⟩
      refine h1.add rfl (by omega) (k := kd) (p := 0) (q := 0) (s1 := a) (s2 := b) (d1 := da) (d2 := db) (by omega) (by omega) (by omega) (fun b => by rw [mm.at 2 rfl]; exact n2 b) (fun b => by rw [e2, mx.at 28 rfl]) (fun b => by rw [mm.at 3 rfl]; exact n3 b) (fun b => by rw [mm.at 4 rfl]; exact n4 b) (fun b _ => by rw [mm.at 31 rfl, mx.at 31 rfl]) (fun b _ => by rw [mm.at 32 rfl, mx.at 32 rfl]) (by unfold pM; rw [if_neg kn]) (by unfold pM; rw [if_neg kn]) (fun b => by rw [mm.at 5 rfl]; exact n5 b) (fun b => by rw [mm.at 6 rfl]; exact n6 b) (fun b w1 w2 => by rw [e5, if_neg w1, if_neg w2, mx.at 29 rfl]) (fun b w1 w2 => by rw [e6, if_neg w1, if_neg w2, mx.at 30 rfl]) ?_ ?_ ?_ ?_
      · rw [sM_1 (by rw [hf0]; exact kn), e5, if_pos rfl]
      · rw [sM_1 (by rw [hf1]; exact kn), e5, if_neg (by omega), if_pos rfl]
      · unfold dM; rw [hf0, if_neg kn, e6, if_pos rfl]
      · unfold dM; rw [hf1, if_neg kn, e6, if_neg (by omega), if_pos rfl]
set_option maxHeartbeats 4000000 in
theorem pr_first {σ σ1 σ2 : MM} {v : Int} {z z2 : Int} (hR : RR σ) (hB : Bd bdL σ) (mx : Mod [50, 51, 55] σ σ1) (hx : z = σ 55 0 ∧ σ1 55 0 = v ∧ σ1 50 0 = 0 ∧ σ1 51 0 = 0) (mm : Mod [62, 64] σ1 σ2) (hm : z2 = σ1 62 0 ∧ σ2 62 0 = v ∧ σ2 64 0 = 0) : RR σ2 ∧ z = z2 := by
  obtain ⟨h1, h2, h3, h4, h5, h6, h7, h8⟩ := id hR
  have hc53 := h1.1.1
  have hc55 := h1.1.2
  have hc58 := h3.1
  have hc51 := h4.1
  have hc56 := h2.1.1
  have hc57 := h2.1.2
  have hk53 := (bdk hB).1
  have hk58 := (bdk hB).2.2.2.1
  have x53 := congrFun (mx.at 53 rfl) 0
  have x54 := congrFun (mx.at 54 rfl) 0
  have x56 := congrFun (mx.at 56 rfl) 0
  have x57 := congrFun (mx.at 57 rfl) 0
  have x58 := congrFun (mx.at 58 rfl) 0
  have x61 := congrFun (mx.at 61 rfl) 0
  have x62 := congrFun (mx.at 62 rfl) 0
  have x63 := congrFun (mx.at 63 rfl) 0
  have x64 := congrFun (mx.at 64 rfl) 0
  have x65 := congrFun (mx.at 65 rfl) 0
  have x66 := congrFun (mx.at 66 rfl) 0
  have m50 := congrFun (mm.at 50 rfl) 0
  have m51 := congrFun (mm.at 51 rfl) 0
  have m53 := congrFun (mm.at 53 rfl) 0
  have m54 := congrFun (mm.at 54 rfl) 0
  have m55 := congrFun (mm.at 55 rfl) 0
  have m56 := congrFun (mm.at 56 rfl) 0
  have m57 := congrFun (mm.at 57 rfl) 0
  have m58 := congrFun (mm.at 58 rfl) 0
  have m61 := congrFun (mm.at 61 rfl) 0
  have m63 := congrFun (mm.at 63 rfl) 0
  have m65 := congrFun (mm.at 65 rfl) 0
  have m66 := congrFun (mm.at 66 rfl) 0
  have M : Mod [50, 51, 55, 62, 64] σ σ2 := Mod.tr (L := [50, 51, 55, 62, 64]) mx mm rfl rfl
  exact ⟨⟨h1.fst M rfl (by omega), h2.keep M rfl, h3.keep M rfl, ReS.nil (by omega) (by omega), h5.keep M rfl, h6.keep M rfl, h7.keep M rfl, EQ24.nil (by omega)⟩, by omega⟩
set_option maxHeartbeats 4000000 in
theorem pr_clear {σ σ1 σ2 : MM} {z z2 : Int} (hR : RR σ) (hB : Bd bdL σ) (mx : Mod [7, 8, 50, 51, 53, 54, 58] σ σ1) (hx : z = σ 53 0 ∧ σ1 53 0 = 0 ∧ LoopOK σ1 ∧ σ1 50 0 = 0 ∧ σ1 51 0 = 0 ∧ σ1 58 0 = 0) (mm : Mod [61, 63, 64] σ1 σ2) (hm : z2 = σ1 61 0 ∧ σ2 61 0 = 0 ∧ σ2 63 0 = 0 ∧ σ2 64 0 = 0) : RR σ2 ∧ z = z2 := by
  obtain ⟨h1, h2, h3, h4, h5, h6, h7, h8⟩ := id hR
  have hc53 := h1.1.1
  have hc55 := h1.1.2
  have hc58 := h3.1
  have hc51 := h4.1
  have hc56 := h2.1.1
  have hc57 := h2.1.2
  have hk53 := (bdk hB).1
  have hk58 := (bdk hB).2.2.2.1
  have x55 := congrFun (mx.at 55 rfl) 0
  have x56 := congrFun (mx.at 56 rfl) 0
  have x57 := congrFun (mx.at 57 rfl) 0
  have x61 := congrFun (mx.at 61 rfl) 0
  have x62 := congrFun (mx.at 62 rfl) 0
  have x63 := congrFun (mx.at 63 rfl) 0
  have x64 := congrFun (mx.at 64 rfl) 0
  have x65 := congrFun (mx.at 65 rfl) 0
  have x66 := congrFun (mx.at 66 rfl) 0
  have m50 := congrFun (mm.at 50 rfl) 0
  have m51 := congrFun (mm.at 51 rfl) 0
  have m53 := congrFun (mm.at 53 rfl) 0
  have m54 := congrFun (mm.at 54 rfl) 0
  have m55 := congrFun (mm.at 55 rfl) 0
  have m56 := congrFun (mm.at 56 rfl) 0
  have m57 := congrFun (mm.at 57 rfl) 0
  have m58 := congrFun (mm.at 58 rfl) 0
  have m62 := congrFun (mm.at 62 rfl) 0
  have m65 := congrFun (mm.at 65 rfl) 0
  have m66 := congrFun (mm.at 66 rfl) 0
  have M : Mod [7, 8, 50, 51, 53, 54, 58, 61, 63, 64] σ σ2 := Mod.tr (L := [7, 8, 50, 51, 53, 54, 58, 61, 63, 64]) mx mm rfl rfl
  obtain ⟨a1, a2, a3, a4, a5, a6⟩ := hx
  exact ⟨⟨⟨⟨by omega, by omega⟩, fun a a0 a1 => by omega, fun s s0 s1 => by omega⟩, h2.keep M rfl, RPn.nil (by omega) (by omega), ReS.nil (by omega) (by omega), a3.keep mm rfl, LayOK.nil (by omega), h7.keep M rfl, EQ24.nil (by omega)⟩, by omega⟩
set_option maxHeartbeats 4000000 in
theorem pr_sound {σ σ2 : MM} {z z2 : Int} (hR : RR σ) (hB : Bd bdL σ) (hx : (z = 1 ∧ σ 54 0 = σ 53 0) ∨ (z = 0 ∧ σ 54 0 ≠ σ 53 0)) (mm : Mod [33] σ σ2) (hm : (z2 = 1 ∧ SndM σ) ∨ (z2 = 0 ∧ ¬ SndM σ)) : RR σ2 ∧ z = z2 := by
  obtain ⟨h1, h2, h3, h4, h5, h6, h7, h8⟩ := id hR
  have hc53 := h1.1.1
  have hc55 := h1.1.2
  have hc58 := h3.1
  have hc51 := h4.1
  have hc56 := h2.1.1
  have hc57 := h2.1.2
  have hk53 := (bdk hB).1
  have hk58 := (bdk hB).2.2.2.1
  have m50 := congrFun (mm.at 50 rfl) 0
  have m51 := congrFun (mm.at 51 rfl) 0
  have m53 := congrFun (mm.at 53 rfl) 0
  have m54 := congrFun (mm.at 54 rfl) 0
  have m55 := congrFun (mm.at 55 rfl) 0
  have m56 := congrFun (mm.at 56 rfl) 0
  have m57 := congrFun (mm.at 57 rfl) 0
  have m58 := congrFun (mm.at 58 rfl) 0
  have m61 := congrFun (mm.at 61 rfl) 0
  have m62 := congrFun (mm.at 62 rfl) 0
  have m63 := congrFun (mm.at 63 rfl) 0
  have m64 := congrFun (mm.at 64 rfl) 0
  have m65 := congrFun (mm.at 65 rfl) 0
  have m66 := congrFun (mm.at 66 rfl) 0
  have M := mm
  refine ⟨hR.keep M rfl, ?_⟩
  rcases hx with ⟨a1, a2⟩ | ⟨a1, a2⟩ <;> rcases hm with ⟨b1, b2⟩ | ⟨b1, b2⟩
  · omega
  · exact absurd (hR.snd.mp a2) b2
  · exact absurd (hR.snd.mpr b2) a2
  · omega
set_option maxHeartbeats 4000000 in
theorem pr_plain {σ σ1 σ2 : MM} {a r : Int} {z z2 : Int} (hR : RR σ) (hB : Bd bdL σ) (mx : Mod [24, 50] σ σ1) (hx : ((a < 0 ∨ σ 53 0 ≤ a ∨ r < 0 ∨ 60 < r) ∧ z = -10000000001 ∧ σ1 = σ) ∨ ((0 ≤ a ∧ a < σ 53 0 ∧ 0 ≤ r ∧ r ≤ 60) ∧ ((σ 54 0 ≠ σ 53 0 ∧ z = -10000000005 ∧ σ1 = σ) ∨ (σ 54 0 = σ 53 0 ∧ EQs σ (σ1 24) (σ1 50 0) ∧ r < σ1 50 0 ∧ z = (iI (σ1 24 (a * 61 + r))).toInt)))) (mm : Mod [33, 34] σ1 σ2) (hm : PlM σ1 σ2 a r z2) : RR σ2 ∧ z = z2 := by
  obtain ⟨h1, h2, h3, h4, h5, h6, h7, h8⟩ := id hR
  have hc53 := h1.1.1
  have hc55 := h1.1.2
  have hc58 := h3.1
  have hc51 := h4.1
  have hc56 := h2.1.1
  have hc57 := h2.1.2
  have hk53 := (bdk hB).1
  have hk58 := (bdk hB).2.2.2.1
  have x51 := congrFun (mx.at 51 rfl) 0
  have x53 := congrFun (mx.at 53 rfl) 0
  have x54 := congrFun (mx.at 54 rfl) 0
  have x55 := congrFun (mx.at 55 rfl) 0
  have x56 := congrFun (mx.at 56 rfl) 0
  have x57 := congrFun (mx.at 57 rfl) 0
  have x58 := congrFun (mx.at 58 rfl) 0
  have x61 := congrFun (mx.at 61 rfl) 0
  have x62 := congrFun (mx.at 62 rfl) 0
  have x63 := congrFun (mx.at 63 rfl) 0
  have x64 := congrFun (mx.at 64 rfl) 0
  have x65 := congrFun (mx.at 65 rfl) 0
  have x66 := congrFun (mx.at 66 rfl) 0
  have m50 := congrFun (mm.at 50 rfl) 0
  have m51 := congrFun (mm.at 51 rfl) 0
  have m53 := congrFun (mm.at 53 rfl) 0
  have m54 := congrFun (mm.at 54 rfl) 0
  have m55 := congrFun (mm.at 55 rfl) 0
  have m56 := congrFun (mm.at 56 rfl) 0
  have m57 := congrFun (mm.at 57 rfl) 0
  have m58 := congrFun (mm.at 58 rfl) 0
  have m61 := congrFun (mm.at 61 rfl) 0
  have m62 := congrFun (mm.at 62 rfl) 0
  have m63 := congrFun (mm.at 63 rfl) 0
  have m64 := congrFun (mm.at 64 rfl) 0
  have m65 := congrFun (mm.at 65 rfl) 0
  have m66 := congrFun (mm.at 66 rfl) 0
  have M : Mod [24, 33, 34, 50] σ σ2 := Mod.tr (L := [24, 33, 34, 50]) mx mm rfl rfl
  rw [PlM_keep mx rfl] at hm
  rcases hx with ⟨a1, a2, rfl⟩ | ⟨a1, ⟨a2, a3, rfl⟩ | ⟨a2, a3, a4, a5⟩⟩
  · rcases hm with ⟨b1, b2⟩ | ⟨b1, -⟩
    · exact ⟨hR.keep mm rfl, by omega⟩
    · omega
  · rcases hm with ⟨b1, b2⟩ | ⟨b1, ⟨b2, b3⟩ | ⟨b2, b3, b4⟩⟩
    · omega
    · exact ⟨hR.keep mm rfl, by omega⟩
    · exact absurd (hR.snd.mpr b2) a2
  · rcases hm with ⟨b1, b2⟩ | ⟨b1, ⟨b2, b3⟩ | ⟨b2, b3, b4⟩⟩
    · omega
    · exact absurd (hR.snd.mp a2) b2
    · refine ⟨⟨h1.keep M rfl, h2.keep M rfl, h3.keep M rfl, h4.keep M rfl, h5.keep M rfl, h6.keep M rfl, h7.keep M rfl, ?_⟩, ?_⟩
      · unfold EQ24
        rw [mm.at 24 rfl, m50]
        exact (EQs_keep M rfl _ _).mpr a3
      · rw [a5, b4, hR.val hB a2 (T := r + 1) (by omega) (fun t b t0 t1 b0 b1 => a3 t b t0 (by omega) b0 b1) b3 a1.2.2.1 (by omega) (by omega) a1.1 a1.2.1]
set_option maxHeartbeats 4000000 in
theorem pr_about {σ : MM} {a h : Int} {z z2 : Int} (hR : RR σ) (hB : Bd bdL σ) (hx : ((a < 0 ∨ σ 53 0 ≤ a) ∧ z = -2001) ∨ ((0 ≤ a ∧ a < σ 53 0) ∧ ((h = 0 ∧ z = σ 2 a) ∨ (h = 1 ∧ z = lenF (σ 2) a) ∨ (h = 2 ∧ z = σ 5 (2 * a)) ∨ (h = 3 ∧ z = σ 6 (2 * a)) ∨ (h = 4 ∧ z = σ 5 (2 * a + 1)) ∨ (h = 5 ∧ z = σ 6 (2 * a + 1)) ∨ (h = 6 ∧ z = σ 3 a) ∨ (h = 7 ∧ z = σ 4 a) ∨ ((h < 0 ∨ 7 < h) ∧ z = -2002)))) (hm : ((a < 0 ∨ σ 61 0 ≤ a) ∧ z2 = -2001) ∨ ((0 ≤ a ∧ a < σ 61 0) ∧ ((h = 0 ∧ z2 = σ 28 a) ∨ (h = 1 ∧ z2 = lenF (σ 28) a) ∨ (h = 2 ∧ z2 = sM (σ 28) (σ 29) (2 * a)) ∨ (h = 3 ∧ z2 = dM (σ 28) (σ 30) (2 * a)) ∨ (h = 4 ∧ z2 = sM (σ 28) (σ 29) (2 * a + 1)) ∨ (h = 5 ∧ z2 = dM (σ 28) (σ 30) (2 * a + 1)) ∨ (h = 6 ∧ z2 = pM (σ 28) (σ 31) a) ∨ (h = 7 ∧ z2 = pM (σ 28) (σ 32) a) ∨ ((h < 0 ∨ 7 < h) ∧ z2 = -2002)))) : RR σ ∧ z = z2 := by
  obtain ⟨h1, h2, h3, h4, h5, h6, h7, h8⟩ := id hR
  have hc53 := h1.1.1
  have hc55 := h1.1.2
  have hc58 := h3.1
  have hc51 := h4.1
  have hc56 := h2.1.1
  have hc57 := h2.1.2
  have hk53 := (bdk hB).1
  have hk58 := (bdk hB).2.2.2.1
  refine ⟨hR, ?_⟩
  rcases hx with ⟨a1, a2⟩ | ⟨a1, a2⟩
  · rcases hm with ⟨b1, b2⟩ | ⟨b1, b2⟩
    · omega
    · omega
  · rcases hm with ⟨b1, b2⟩ | ⟨b1, b2⟩
    · omega
    · have k := h1.2.1 a a1.1 a1.2
      have s1 := h1.2.2 (2 * a) (by omega) (by omega)
      have s2 := h1.2.2 (2 * a + 1) (by omega) (by omega)
      have le := h1.len a1.1 a1.2
      rcases a2 with ⟨u, v⟩ | ⟨u, v⟩ | ⟨u, v⟩ | ⟨u, v⟩ | ⟨u, v⟩ | ⟨u, v⟩ | ⟨u, v⟩ | ⟨u, v⟩ | ⟨u, v⟩ <;> rw [v] <;> rcases b2 with ⟨u1, v1⟩ | ⟨u1, v1⟩ | ⟨u1, v1⟩ | ⟨u1, v1⟩ | ⟨u1, v1⟩ | ⟨u1, v1⟩ | ⟨u1, v1⟩ | ⟨u1, v1⟩ | ⟨u1, v1⟩ <;> first | (exfalso; clear k s1 s2 le v v1; omega) | (rw [v1]; try first | rfl | exact k.1 | exact le | exact s1.1 | exact s1.2 | exact s2.1 | exact s2.2 | exact k.2.1 | exact k.2.2)
set_option maxHeartbeats 4000000 in
theorem pr_board {σ σ1 σ2 : MM} {r c : Int} {z z2 : Int} (hR : RR σ) (hB : Bd bdL σ) (mx : Mod [11, 12, 13, 51, 56, 57, 58] σ σ1) (hx : ((r < 1 ∨ 3 < r ∨ c < 1 ∨ 3 < c) ∧ z = -2 ∧ σ1 = σ) ∨ ((1 ≤ r ∧ r ≤ 3 ∧ 1 ≤ c ∧ c ≤ 3) ∧ z = r * c ∧ σ1 56 0 = r ∧ σ1 57 0 = c ∧ (∀ b : Int, 0 ≤ b → b < 9 → σ1 11 b = 0 ∧ σ1 12 b = 1) ∧ WayOK (σ1 11) (r * c) c (σ1 13) ∧ σ1 58 0 = 0 ∧ σ1 51 0 = 0)) (mm : Mod [35, 36, 63, 64, 65, 66] σ1 σ2) (hm : ((r < 1 ∨ 3 < r ∨ c < 1 ∨ 3 < c) ∧ z2 = -2 ∧ σ2 = σ1) ∨ ((1 ≤ r ∧ r ≤ 3 ∧ 1 ≤ c ∧ c ≤ 3) ∧ z2 = r * c ∧ σ2 65 0 = r ∧ σ2 66 0 = c ∧ (∀ b : Int, 0 ≤ b → b < 9 → σ2 35 b = 0 ∧ σ2 36 b = 1) ∧ σ2 63 0 = 0 ∧ σ2 64 0 = 0)) : RR σ2 ∧ z = z2 := by
  obtain ⟨h1, h2, h3, h4, h5, h6, h7, h8⟩ := id hR
  have hc53 := h1.1.1
  have hc55 := h1.1.2
  have hc58 := h3.1
  have hc51 := h4.1
  have hc56 := h2.1.1
  have hc57 := h2.1.2
  have hk53 := (bdk hB).1
  have hk58 := (bdk hB).2.2.2.1
  have x50 := congrFun (mx.at 50 rfl) 0
  have x53 := congrFun (mx.at 53 rfl) 0
  have x54 := congrFun (mx.at 54 rfl) 0
  have x55 := congrFun (mx.at 55 rfl) 0
  have x61 := congrFun (mx.at 61 rfl) 0
  have x62 := congrFun (mx.at 62 rfl) 0
  have x63 := congrFun (mx.at 63 rfl) 0
  have x64 := congrFun (mx.at 64 rfl) 0
  have x65 := congrFun (mx.at 65 rfl) 0
  have x66 := congrFun (mx.at 66 rfl) 0
  have m50 := congrFun (mm.at 50 rfl) 0
  have m51 := congrFun (mm.at 51 rfl) 0
  have m53 := congrFun (mm.at 53 rfl) 0
  have m54 := congrFun (mm.at 54 rfl) 0
  have m55 := congrFun (mm.at 55 rfl) 0
  have m56 := congrFun (mm.at 56 rfl) 0
  have m57 := congrFun (mm.at 57 rfl) 0
  have m58 := congrFun (mm.at 58 rfl) 0
  have m61 := congrFun (mm.at 61 rfl) 0
  have m62 := congrFun (mm.at 62 rfl) 0
  have M : Mod [11, 12, 13, 35, 36, 51, 56, 57, 58, 63, 64, 65, 66] σ σ2 := Mod.tr (L := [11, 12, 13, 35, 36, 51, 56, 57, 58, 63, 64, 65, 66]) mx mm rfl rfl
  rcases hx with ⟨a1, a2, rfl⟩ | ⟨a1, a2, a3, a4, a5, a6, a7, a8⟩
  · rcases hm with ⟨b1, b2, rfl⟩ | ⟨b1, -⟩
    · exact ⟨hR, by omega⟩
    · omega
  · rcases hm with ⟨b1, b2, rfl⟩ | ⟨b1, b2, b3, b4, b5, b6, b7⟩
    · omega
    · refine ⟨⟨h1.keep M rfl, ⟨⟨by omega, by omega⟩, fun b b0 b1 => ?_⟩, RPn.nil (by omega) (by omega), ReS.nil (by omega) (by omega), h5.keep M rfl, LayOK.nil (by omega), ?_, h8.keep M rfl⟩, by rw [a2, b2]⟩
      · have q1 := a5 b b0 b1
        have q2 := b5 b b0 b1
        rw [mm.at 11 rfl, mm.at 12 rfl]
        omega
      · unfold WayX
        rw [mm.at 11 rfl, mm.at 13 rfl, m56, m57, a3, a4]
        exact a6
set_option maxHeartbeats 4000000 in
theorem pr_breaks {σ σ1 σ2 : MM} {a v : Int} {z z2 : Int} (hR : RR σ) (hB : Bd bdL σ) (mx : Mod [11, 13, 51] σ σ1) (hx : ((a < 0 ∨ σ 56 0 * σ 57 0 ≤ a) ∧ z = -1 ∧ σ1 = σ) ∨ ((0 ≤ a ∧ a < σ 56 0 * σ 57 0) ∧ z = σ 11 a ∧ (∀ b : Int, σ1 11 b = if b = a then v else σ 11 b) ∧ WayOK (σ1 11) (σ 56 0 * σ 57 0) (σ 57 0) (σ1 13) ∧ σ1 51 0 = 0)) (mm : Mod [35, 64] σ1 σ2) (hm : ((a < 0 ∨ σ1 65 0 * σ1 66 0 ≤ a) ∧ z2 = -1 ∧ σ2 = σ1) ∨ ((0 ≤ a ∧ a < σ1 65 0 * σ1 66 0) ∧ z2 = σ1 35 a ∧ (∀ b : Int, σ2 35 b = if b = a then v else σ1 35 b) ∧ σ2 64 0 = 0)) : RR σ2 ∧ z = z2 := by
  obtain ⟨h1, h2, h3, h4, h5, h6, h7, h8⟩ := id hR
  have hc53 := h1.1.1
  have hc55 := h1.1.2
  have hc58 := h3.1
  have hc51 := h4.1
  have hc56 := h2.1.1
  have hc57 := h2.1.2
  have hk53 := (bdk hB).1
  have hk58 := (bdk hB).2.2.2.1
  have x50 := congrFun (mx.at 50 rfl) 0
  have x53 := congrFun (mx.at 53 rfl) 0
  have x54 := congrFun (mx.at 54 rfl) 0
  have x55 := congrFun (mx.at 55 rfl) 0
  have x56 := congrFun (mx.at 56 rfl) 0
  have x57 := congrFun (mx.at 57 rfl) 0
  have x58 := congrFun (mx.at 58 rfl) 0
  have x61 := congrFun (mx.at 61 rfl) 0
  have x62 := congrFun (mx.at 62 rfl) 0
  have x63 := congrFun (mx.at 63 rfl) 0
  have x64 := congrFun (mx.at 64 rfl) 0
  have x65 := congrFun (mx.at 65 rfl) 0
  have x66 := congrFun (mx.at 66 rfl) 0
  have m50 := congrFun (mm.at 50 rfl) 0
  have m51 := congrFun (mm.at 51 rfl) 0
  have m53 := congrFun (mm.at 53 rfl) 0
  have m54 := congrFun (mm.at 54 rfl) 0
  have m55 := congrFun (mm.at 55 rfl) 0
  have m56 := congrFun (mm.at 56 rfl) 0
  have m57 := congrFun (mm.at 57 rfl) 0
  have m58 := congrFun (mm.at 58 rfl) 0
  have m61 := congrFun (mm.at 61 rfl) 0
  have m62 := congrFun (mm.at 62 rfl) 0
  have m63 := congrFun (mm.at 63 rfl) 0
  have m65 := congrFun (mm.at 65 rfl) 0
  have m66 := congrFun (mm.at 66 rfl) 0
  have M : Mod [11, 13, 35, 51, 64] σ σ2 := Mod.tr (L := [11, 13, 35, 51, 64]) mx mm rfl rfl
  have mxn : σ 56 0 * σ 57 0 = σ1 65 0 * σ1 66 0 := by rw [x65, x66, h2.1.1, h2.1.2]
  rw [← mxn] at hm
  rcases hx with ⟨a1, a2, rfl⟩ | ⟨a1, a2, a3, a4, a5⟩
  · rcases hm with ⟨b1, b2, rfl⟩ | ⟨b1, -⟩
    · exact ⟨hR, by omega⟩
    · omega
  · rcases hm with ⟨b1, b2, rfl⟩ | ⟨b1, b2, b3, b4⟩
    · omega
    · have ha9 : a < 9 := by have := (bdk hB).2.2.2.2.2; omega
      refine ⟨⟨h1.keep M rfl, ⟨⟨by omega, by omega⟩, fun b b0 b1 => ?_⟩, h3.keep M rfl, ReS.nil (by omega) (by omega), h5.keep M rfl, h6.keep M rfl, ?_, h8.keep M rfl⟩, by rw [a2, b2, mx.at 35 rfl]; exact (h2.2 a a1.1 ha9).1⟩
      · rw [mm.at 11 rfl, mm.at 12 rfl, mm.at 36 rfl, mx.at 36 rfl, mx.at 12 rfl, a3, b3, mx.at 35 rfl]
        have q := h2.2 b b0 b1
        refine ⟨?_, q.2⟩
        split
        · rfl
        · exact q.1
      · unfold WayX
        rw [mm.at 11 rfl, mm.at 13 rfl, m56, m57, x56, x57]
        exact a4
set_option maxHeartbeats 4000000 in
theorem pr_multiplies {σ σ1 σ2 : MM} {a v : Int} {z z2 : Int} (hR : RR σ) (hB : Bd bdL σ) (mx : Mod [12, 51] σ σ1) (hx : ((a < 0 ∨ σ 56 0 * σ 57 0 ≤ a) ∧ z = -1 ∧ σ1 = σ) ∨ ((0 ≤ a ∧ a < σ 56 0 * σ 57 0) ∧ z = σ 12 a ∧ (∀ b : Int, σ1 12 b = if b = a then v else σ 12 b) ∧ σ1 51 0 = 0)) (mm : Mod [36, 64] σ1 σ2) (hm : ((a < 0 ∨ σ1 65 0 * σ1 66 0 ≤ a) ∧ z2 = -1 ∧ σ2 = σ1) ∨ ((0 ≤ a ∧ a < σ1 65 0 * σ1 66 0) ∧ z2 = σ1 36 a ∧ (∀ b : Int, σ2 36 b = if b = a then v else σ1 36 b) ∧ σ2 64 0 = 0)) : RR σ2 ∧ z = z2 := by
  obtain ⟨h1, h2, h3, h4, h5, h6, h7, h8⟩ := id hR
  have hc53 := h1.1.1
  have hc55 := h1.1.2
  have hc58 := h3.1
  have hc51 := h4.1
  have hc56 := h2.1.1
  have hc57 := h2.1.2
  have hk53 := (bdk hB).1
  have hk58 := (bdk hB).2.2.2.1
  have x50 := congrFun (mx.at 50 rfl) 0
  have x53 := congrFun (mx.at 53 rfl) 0
  have x54 := congrFun (mx.at 54 rfl) 0
  have x55 := congrFun (mx.at 55 rfl) 0
  have x56 := congrFun (mx.at 56 rfl) 0
  have x57 := congrFun (mx.at 57 rfl) 0
  have x58 := congrFun (mx.at 58 rfl) 0
  have x61 := congrFun (mx.at 61 rfl) 0
  have x62 := congrFun (mx.at 62 rfl) 0
  have x63 := congrFun (mx.at 63 rfl) 0
  have x64 := congrFun (mx.at 64 rfl) 0
  have x65 := congrFun (mx.at 65 rfl) 0
  have x66 := congrFun (mx.at 66 rfl) 0
  have m50 := congrFun (mm.at 50 rfl) 0
  have m51 := congrFun (mm.at 51 rfl) 0
  have m53 := congrFun (mm.at 53 rfl) 0
  have m54 := congrFun (mm.at 54 rfl) 0
  have m55 := congrFun (mm.at 55 rfl) 0
  have m56 := congrFun (mm.at 56 rfl) 0
  have m57 := congrFun (mm.at 57 rfl) 0
  have m58 := congrFun (mm.at 58 rfl) 0
  have m61 := congrFun (mm.at 61 rfl) 0
  have m62 := congrFun (mm.at 62 rfl) 0
  have m63 := congrFun (mm.at 63 rfl) 0
  have m65 := congrFun (mm.at 65 rfl) 0
  have m66 := congrFun (mm.at 66 rfl) 0
  have M : Mod [12, 36, 51, 64] σ σ2 := Mod.tr (L := [12, 36, 51, 64]) mx mm rfl rfl
  have mxn : σ 56 0 * σ 57 0 = σ1 65 0 * σ1 66 0 := by rw [x65, x66, h2.1.1, h2.1.2]
  rw [← mxn] at hm
  rcases hx with ⟨a1, a2, rfl⟩ | ⟨a1, a2, a3, a4⟩
  · rcases hm with ⟨b1, b2, rfl⟩ | ⟨b1, -⟩
    · exact ⟨hR, by omega⟩
    · omega
  · rcases hm with ⟨b1, b2, rfl⟩ | ⟨b1, b2, b3, b4⟩
    · omega
    · have ha9 : a < 9 := by have := (bdk hB).2.2.2.2.2; omega
      refine ⟨⟨h1.keep M rfl, ⟨⟨by omega, by omega⟩, fun b b0 b1 => ?_⟩, h3.keep M rfl, ReS.nil (by omega) (by omega), h5.keep M rfl, h6.keep M rfl, h7.keep M rfl, h8.keep M rfl⟩, by rw [a2, b2, mx.at 36 rfl]; exact (h2.2 a a1.1 ha9).2⟩
      rw [mm.at 12 rfl, mm.at 11 rfl, mm.at 35 rfl, mx.at 35 rfl, mx.at 11 rfl, a3, b3, mx.at 36 rfl]
      have q := h2.2 b b0 b1
      refine ⟨q.1, ?_⟩
      split
      · rfl
      · exact q.2
set_option maxHeartbeats 4000000 in
theorem pr_way {σ σ2 : MM} {a b : Int} {z z2 : Int} (hR : RR σ) (hB : Bd bdL σ) (hx : ((a < 0 ∨ σ 56 0 * σ 57 0 ≤ a ∨ b < 0 ∨ σ 56 0 * σ 57 0 ≤ b) ∧ z = -1) ∨ ((0 ≤ a ∧ a < σ 56 0 * σ 57 0 ∧ 0 ≤ b ∧ b < σ 56 0 * σ 57 0) ∧ ((σ 13 (a * 9 + b) < 1000 ∧ z = σ 13 (a * 9 + b)) ∨ (1000 ≤ σ 13 (a * 9 + b) ∧ z = -6)))) (mm : Mod [37] σ σ2) (hm : ((a < 0 ∨ σ 65 0 * σ 66 0 ≤ a ∨ b < 0 ∨ σ 65 0 * σ 66 0 ≤ b) ∧ z2 = -1) ∨ ((0 ≤ a ∧ a < σ 65 0 * σ 66 0 ∧ 0 ≤ b ∧ b < σ 65 0 * σ 66 0) ∧ (((σ 13) (a * 9 + b) < 1000 ∧ z2 = (σ 13) (a * 9 + b)) ∨ (1000 ≤ (σ 13) (a * 9 + b) ∧ z2 = -6)))) : RR σ2 ∧ z = z2 := by
  obtain ⟨h1, h2, h3, h4, h5, h6, h7, h8⟩ := id hR
  have hc53 := h1.1.1
  have hc55 := h1.1.2
  have hc58 := h3.1
  have hc51 := h4.1
  have hc56 := h2.1.1
  have hc57 := h2.1.2
  have hk53 := (bdk hB).1
  have hk58 := (bdk hB).2.2.2.1
  have m50 := congrFun (mm.at 50 rfl) 0
  have m51 := congrFun (mm.at 51 rfl) 0
  have m53 := congrFun (mm.at 53 rfl) 0
  have m54 := congrFun (mm.at 54 rfl) 0
  have m55 := congrFun (mm.at 55 rfl) 0
  have m56 := congrFun (mm.at 56 rfl) 0
  have m57 := congrFun (mm.at 57 rfl) 0
  have m58 := congrFun (mm.at 58 rfl) 0
  have m61 := congrFun (mm.at 61 rfl) 0
  have m62 := congrFun (mm.at 62 rfl) 0
  have m63 := congrFun (mm.at 63 rfl) 0
  have m64 := congrFun (mm.at 64 rfl) 0
  have m65 := congrFun (mm.at 65 rfl) 0
  have m66 := congrFun (mm.at 66 rfl) 0
  have M := mm
  rw [← h2.1.1, ← h2.1.2] at hm
  exact ⟨hR.keep M rfl, by omega⟩
set_option maxHeartbeats 4000000 in
theorem pr_plan {σ σ1 σ2 : MM} {b : Int} {z z2 : Int} (hR : RR σ) (hB : Bd bdL σ) (mx : Mod [15, 16, 51, 58] σ σ1) (hx : ((b < 1 ∨ 12 < b) ∧ z = -2 ∧ σ1 = σ) ∨ ((1 ≤ b ∧ b ≤ 12) ∧ σ 53 0 = 0 ∧ z = -3 ∧ σ1 = σ) ∨ ((1 ≤ b ∧ b ≤ 12) ∧ σ 53 0 ≠ 0 ∧ z = 1 ∧ σ1 58 0 = b ∧ σ1 51 0 = 0 ∧ ∀ a : Int, 0 ≤ a → a < 8 → σ1 15 a = 0 ∧ σ1 16 a = 0)) (mm : Mod [38, 39, 63, 64] σ1 σ2) (hm : ((b < 1 ∨ 12 < b) ∧ z2 = -2 ∧ σ2 = σ1) ∨ ((1 ≤ b ∧ b ≤ 12) ∧ σ1 61 0 = 0 ∧ z2 = -3 ∧ σ2 = σ1) ∨ ((1 ≤ b ∧ b ≤ 12) ∧ σ1 61 0 ≠ 0 ∧ z2 = 1 ∧ σ2 63 0 = b ∧ σ2 64 0 = 0 ∧ ∀ a : Int, 0 ≤ a → a < σ1 61 0 → σ2 38 a = 0 ∧ σ2 39 a = 0)) : RR σ2 ∧ z = z2 := by
  obtain ⟨h1, h2, h3, h4, h5, h6, h7, h8⟩ := id hR
  have hc53 := h1.1.1
  have hc55 := h1.1.2
  have hc58 := h3.1
  have hc51 := h4.1
  have hc56 := h2.1.1
  have hc57 := h2.1.2
  have hk53 := (bdk hB).1
  have hk58 := (bdk hB).2.2.2.1
  have x50 := congrFun (mx.at 50 rfl) 0
  have x53 := congrFun (mx.at 53 rfl) 0
  have x54 := congrFun (mx.at 54 rfl) 0
  have x55 := congrFun (mx.at 55 rfl) 0
  have x56 := congrFun (mx.at 56 rfl) 0
  have x57 := congrFun (mx.at 57 rfl) 0
  have x61 := congrFun (mx.at 61 rfl) 0
  have x62 := congrFun (mx.at 62 rfl) 0
  have x63 := congrFun (mx.at 63 rfl) 0
  have x64 := congrFun (mx.at 64 rfl) 0
  have x65 := congrFun (mx.at 65 rfl) 0
  have x66 := congrFun (mx.at 66 rfl) 0
  have m50 := congrFun (mm.at 50 rfl) 0
  have m51 := congrFun (mm.at 51 rfl) 0
  have m53 := congrFun (mm.at 53 rfl) 0
  have m54 := congrFun (mm.at 54 rfl) 0
  have m55 := congrFun (mm.at 55 rfl) 0
  have m56 := congrFun (mm.at 56 rfl) 0
  have m57 := congrFun (mm.at 57 rfl) 0
  have m58 := congrFun (mm.at 58 rfl) 0
  have m61 := congrFun (mm.at 61 rfl) 0
  have m62 := congrFun (mm.at 62 rfl) 0
  have m65 := congrFun (mm.at 65 rfl) 0
  have m66 := congrFun (mm.at 66 rfl) 0
  have M : Mod [15, 16, 38, 39, 51, 58, 63, 64] σ σ2 := Mod.tr (L := [15, 16, 38, 39, 51, 58, 63, 64]) mx mm rfl rfl
  rcases hx with ⟨a1, a2, rfl⟩ | ⟨a1, a2, a3, rfl⟩ | ⟨a1, a2, a3, a4, a5, a6⟩
  · rcases hm with ⟨b1, b2, rfl⟩ | ⟨b1, -⟩ | ⟨b1, -⟩
    · exact ⟨hR, by omega⟩
    · omega
    · omega
  · rcases hm with ⟨b1, b2, rfl⟩ | ⟨b1, b2, b3, rfl⟩ | ⟨b1, b2, -⟩
    · omega
    · exact ⟨hR, by omega⟩
    · omega
  · rcases hm with ⟨b1, b2, rfl⟩ | ⟨b1, b2, b3, rfl⟩ | ⟨b1, b2, b3, b4, b5, b6⟩
    · omega
    · omega
    · have k := bdk hB
      refine ⟨⟨h1.keep M rfl, h2.keep M rfl, ⟨by omega, fun _ a a0 a1 => ?_⟩, ReS.nil (by omega) (by omega), h5.keep M rfl, fun _ a a0 a1 => ?_, h7.keep M rfl, h8.keep M rfl⟩, by omega⟩
      · have q1 := a6 a a0 (by omega)
        have q2 := b6 a a0 (by omega)
        rw [mm.at 15 rfl, mm.at 16 rfl]
        omega
      · have q1 := a6 a a0 (by omega)
        rw [mm.at 15 rfl, m56, m57, x56, x57]
        omega
set_option maxHeartbeats 4000000 in
theorem pr_lay {σ σ1 σ2 : MM} {a k t : Int} {z z2 : Int} (hR : RR σ) (hB : Bd bdL σ) (mx : Mod [15, 16, 51] σ σ1) (hx : ((a < 0 ∨ σ 53 0 ≤ a ∨ k < 0 ∨ σ 56 0 * σ 57 0 ≤ k) ∧ z = -1 ∧ σ1 = σ) ∨ ((0 ≤ a ∧ a < σ 53 0 ∧ 0 ≤ k ∧ k < σ 56 0 * σ 57 0) ∧ (((t < 0 ∨ 299 < t) ∧ z = -2 ∧ σ1 = σ) ∨ ((0 ≤ t ∧ t ≤ 299) ∧ σ 58 0 = 0 ∧ z = -3 ∧ σ1 = σ) ∨ ((0 ≤ t ∧ t ≤ 299) ∧ 0 < σ 58 0 ∧ z = 1 ∧ σ1 51 0 = 0 ∧ (∀ b : Int, σ1 15 b = if b = a then k else σ 15 b) ∧ ∀ b : Int, σ1 16 b = if b = a then t else σ 16 b)))) (mm : Mod [38, 39, 64] σ1 σ2) (hm : ((a < 0 ∨ σ1 61 0 ≤ a ∨ k < 0 ∨ σ1 65 0 * σ1 66 0 ≤ k) ∧ z2 = -1 ∧ σ2 = σ1) ∨ ((0 ≤ a ∧ a < σ1 61 0 ∧ 0 ≤ k ∧ k < σ1 65 0 * σ1 66 0) ∧ (((t < 0 ∨ 299 < t) ∧ z2 = -2 ∧ σ2 = σ1) ∨ ((0 ≤ t ∧ t ≤ 299) ∧ σ1 63 0 = 0 ∧ z2 = -3 ∧ σ2 = σ1) ∨ ((0 ≤ t ∧ t ≤ 299) ∧ σ1 63 0 ≠ 0 ∧ z2 = 1 ∧ σ2 64 0 = 0 ∧ (∀ b : Int, σ2 38 b = if b = a then k else σ1 38 b) ∧ ∀ b : Int, σ2 39 b = if b = a then t else σ1 39 b)))) : RR σ2 ∧ z = z2 := by
  obtain ⟨h1, h2, h3, h4, h5, h6, h7, h8⟩ := id hR
  have hc53 := h1.1.1
  have hc55 := h1.1.2
  have hc58 := h3.1
  have hc51 := h4.1
  have hc56 := h2.1.1
  have hc57 := h2.1.2
  have hk53 := (bdk hB).1
  have hk58 := (bdk hB).2.2.2.1
  have x50 := congrFun (mx.at 50 rfl) 0
  have x53 := congrFun (mx.at 53 rfl) 0
  have x54 := congrFun (mx.at 54 rfl) 0
  have x55 := congrFun (mx.at 55 rfl) 0
  have x56 := congrFun (mx.at 56 rfl) 0
  have x57 := congrFun (mx.at 57 rfl) 0
  have x58 := congrFun (mx.at 58 rfl) 0
  have x61 := congrFun (mx.at 61 rfl) 0
  have x62 := congrFun (mx.at 62 rfl) 0
  have x63 := congrFun (mx.at 63 rfl) 0
  have x64 := congrFun (mx.at 64 rfl) 0
  have x65 := congrFun (mx.at 65 rfl) 0
  have x66 := congrFun (mx.at 66 rfl) 0
  have m50 := congrFun (mm.at 50 rfl) 0
  have m51 := congrFun (mm.at 51 rfl) 0
  have m53 := congrFun (mm.at 53 rfl) 0
  have m54 := congrFun (mm.at 54 rfl) 0
  have m55 := congrFun (mm.at 55 rfl) 0
  have m56 := congrFun (mm.at 56 rfl) 0
  have m57 := congrFun (mm.at 57 rfl) 0
  have m58 := congrFun (mm.at 58 rfl) 0
  have m61 := congrFun (mm.at 61 rfl) 0
  have m62 := congrFun (mm.at 62 rfl) 0
  have m63 := congrFun (mm.at 63 rfl) 0
  have m65 := congrFun (mm.at 65 rfl) 0
  have m66 := congrFun (mm.at 66 rfl) 0
  have M : Mod [15, 16, 38, 39, 51, 64] σ σ2 := Mod.tr (L := [15, 16, 38, 39, 51, 64]) mx mm rfl rfl
  have mxn : σ 56 0 * σ 57 0 = σ1 65 0 * σ1 66 0 := by rw [x65, x66, h2.1.1, h2.1.2]
  rw [← mxn] at hm
  rcases hx with ⟨a1, a2, rfl⟩ | ⟨a1, ⟨a2, a3, rfl⟩ | ⟨a2, a3, a4, rfl⟩ | ⟨a2, a3, a4, a5, a6, a7⟩⟩
  · rcases hm with ⟨b1, b2, rfl⟩ | ⟨b1, -⟩
    · exact ⟨hR, by omega⟩
    · omega
  · rcases hm with ⟨b1, b2, rfl⟩ | ⟨b1, ⟨b2, b3, rfl⟩ | ⟨b2, -⟩ | ⟨b2, -⟩⟩
    · omega
    · exact ⟨hR, by omega⟩
    · omega
    · omega
  · rcases hm with ⟨b1, b2, rfl⟩ | ⟨b1, ⟨b2, b3, rfl⟩ | ⟨b2, b3, b4, rfl⟩ | ⟨b2, b3, -⟩⟩
    · omega
    · omega
    · exact ⟨hR, by omega⟩
    · omega
  · rcases hm with ⟨b1, b2, rfl⟩ | ⟨b1, ⟨b2, b3, rfl⟩ | ⟨b2, b3, b4, rfl⟩ | ⟨b2, b3, b4, b5, b6, b7⟩⟩
    · omega
    · omega
    · omega
    · refine ⟨⟨h1.keep M rfl, h2.keep M rfl, ⟨by omega, fun _ u u0 u1 => ?_⟩, ReS.nil (by omega) (by omega), h5.keep M rfl, fun _ u u0 u1 => ?_, h7.keep M rfl, h8.keep M rfl⟩, by omega⟩
      · have q := h3.2 a3 u u0 (by omega)
        rw [mm.at 15 rfl, mm.at 16 rfl, a6, a7, b6, b7, mx.at 38 rfl, mx.at 39 rfl]
        constructor
        · split
          · rfl
          · exact q.1
        · split
          · rfl
          · exact q.2
      · have q := h6 a3 u u0 (by omega)
        rw [mm.at 15 rfl, a6, m56, m57, x56, x57]
        split
        · exact a1.2.2.2
        · exact q
set_option maxHeartbeats 4000000 in
theorem pr_lacks {σ σ2 : MM} {z z2 : Int} (hR : RR σ) (hB : Bd bdL σ) (hx : (σ 58 0 = 0 ∧ z = -3) ∨ (0 < σ 58 0 ∧ σ 54 0 ≠ σ 53 0 ∧ z = -5) ∨ (0 < σ 58 0 ∧ σ 54 0 = σ 53 0 ∧ FLx σ z)) (mm : Mod [33, 37] σ σ2) (hm : (σ 63 0 = 0 ∧ z2 = -3) ∨ (0 < σ 63 0 ∧ ¬ SndM σ ∧ z2 = -5) ∨ (0 < σ 63 0 ∧ SndM σ ∧ FLm σ (σ 13) z2)) : RR σ2 ∧ z = z2 := by
  obtain ⟨h1, h2, h3, h4, h5, h6, h7, h8⟩ := id hR
  have hc53 := h1.1.1
  have hc55 := h1.1.2
  have hc58 := h3.1
  have hc51 := h4.1
  have hc56 := h2.1.1
  have hc57 := h2.1.2
  have hk53 := (bdk hB).1
  have hk58 := (bdk hB).2.2.2.1
  have m50 := congrFun (mm.at 50 rfl) 0
  have m51 := congrFun (mm.at 51 rfl) 0
  have m53 := congrFun (mm.at 53 rfl) 0
  have m54 := congrFun (mm.at 54 rfl) 0
  have m55 := congrFun (mm.at 55 rfl) 0
  have m56 := congrFun (mm.at 56 rfl) 0
  have m57 := congrFun (mm.at 57 rfl) 0
  have m58 := congrFun (mm.at 58 rfl) 0
  have m61 := congrFun (mm.at 61 rfl) 0
  have m62 := congrFun (mm.at 62 rfl) 0
  have m63 := congrFun (mm.at 63 rfl) 0
  have m64 := congrFun (mm.at 64 rfl) 0
  have m65 := congrFun (mm.at 65 rfl) 0
  have m66 := congrFun (mm.at 66 rfl) 0
  have M := mm
  refine ⟨hR.keep M rfl, ?_⟩
  rcases hx with ⟨a1, a2⟩ | ⟨a1, a2, a3⟩ | ⟨a1, a2, a3⟩
  · rcases hm with ⟨b1, b2⟩ | ⟨b1, b2, b3⟩ | ⟨b1, b2, b3⟩
    · omega
    · omega
    · omega
  · rcases hm with ⟨b1, b2⟩ | ⟨b1, b2, b3⟩ | ⟨b1, b2, b3⟩
    · omega
    · omega
    · exact absurd (hR.snd.mpr b2) a2
  · rcases hm with ⟨b1, b2⟩ | ⟨b1, b2, b3⟩ | ⟨b1, b2, b3⟩
    · omega
    · exact absurd (hR.snd.mp a2) b2
    · exact hR.lack hB a1 a2 a3 b3
set_option maxHeartbeats 4000000 in
theorem pr_laid {σ : MM} {a h : Int} {z z2 : Int} (hR : RR σ) (hB : Bd bdL σ) (hx : ((a < 0 ∨ σ 53 0 ≤ a) ∧ z = -1) ∨ ((0 ≤ a ∧ a < σ 53 0) ∧ (((h < 0 ∨ 1 < h) ∧ z = -2) ∨ ((h = 0 ∨ h = 1) ∧ σ 58 0 = 0 ∧ z = -3) ∨ (0 < σ 58 0 ∧ ((h = 0 ∧ z = σ 15 a) ∨ (h = 1 ∧ z = σ 16 a)))))) (hm : ((a < 0 ∨ σ 61 0 ≤ a) ∧ z2 = -1) ∨ ((0 ≤ a ∧ a < σ 61 0) ∧ (((h < 0 ∨ 1 < h) ∧ z2 = -2) ∨ ((h = 0 ∨ h = 1) ∧ σ 63 0 = 0 ∧ z2 = -3) ∨ (σ 63 0 ≠ 0 ∧ ((h = 0 ∧ z2 = σ 38 a) ∨ (h = 1 ∧ z2 = σ 39 a)))))) : RR σ ∧ z = z2 := by
  obtain ⟨h1, h2, h3, h4, h5, h6, h7, h8⟩ := id hR
  have hc53 := h1.1.1
  have hc55 := h1.1.2
  have hc58 := h3.1
  have hc51 := h4.1
  have hc56 := h2.1.1
  have hc57 := h2.1.2
  have hk53 := (bdk hB).1
  have hk58 := (bdk hB).2.2.2.1
  refine ⟨hR, ?_⟩
  rcases hx with ⟨a1, a2⟩ | ⟨a1, a2⟩
  · omega
  · rcases hm with ⟨b1, b2⟩ | ⟨b1, b2⟩
    · omega
    · by_cases q : 0 < σ 58 0
      · have k := h3.2 q a a1.1 a1.2
        omega
      · omega
set_option maxHeartbeats 4000000 in
theorem pr_kept {σ σ2 : MM} {a : Int} {z z2 : Int} (hR : RR σ) (hB : Bd bdL σ) (hx : ((a < 0 ∨ σ 53 0 ≤ a) ∧ z = -1) ∨ ((0 ≤ a ∧ a < σ 53 0) ∧ ((σ 58 0 = 0 ∧ z = -3) ∨ (0 < σ 58 0 ∧ BadX σ ∧ z = -5) ∨ (GoodX σ ∧ ∃ y : Int, IsMax (fun s => σ 5 s = a) (useX σ) (2 * σ 53 0) (madeX σ a) y ∧ z = (y - madeX σ a) / σ 58 0 + 1)))) (mm : Mod [33, 37] σ σ2) (hm : ((a < 0 ∨ σ 61 0 ≤ a) ∧ z2 = -1) ∨ ((0 ≤ a ∧ a < σ 61 0) ∧ ((σ 63 0 = 0 ∧ z2 = -3) ∨ (0 < σ 63 0 ∧ BadM σ (σ 13) ∧ z2 = -5) ∨ (GoodM σ (σ 13) ∧ ∃ y : Int, IsMax (fun s => sM (σ 28) (σ 29) s = a) (useM σ) (2 * σ 61 0) (madeM σ a) y ∧ z2 = (y - madeM σ a) / σ 63 0 + 1)))) : RR σ2 ∧ z = z2 := by
  obtain ⟨h1, h2, h3, h4, h5, h6, h7, h8⟩ := id hR
  have hc53 := h1.1.1
  have hc55 := h1.1.2
  have hc58 := h3.1
  have hc51 := h4.1
  have hc56 := h2.1.1
  have hc57 := h2.1.2
  have hk53 := (bdk hB).1
  have hk58 := (bdk hB).2.2.2.1
  have m50 := congrFun (mm.at 50 rfl) 0
  have m51 := congrFun (mm.at 51 rfl) 0
  have m53 := congrFun (mm.at 53 rfl) 0
  have m54 := congrFun (mm.at 54 rfl) 0
  have m55 := congrFun (mm.at 55 rfl) 0
  have m56 := congrFun (mm.at 56 rfl) 0
  have m57 := congrFun (mm.at 57 rfl) 0
  have m58 := congrFun (mm.at 58 rfl) 0
  have m61 := congrFun (mm.at 61 rfl) 0
  have m62 := congrFun (mm.at 62 rfl) 0
  have m63 := congrFun (mm.at 63 rfl) 0
  have m64 := congrFun (mm.at 64 rfl) 0
  have m65 := congrFun (mm.at 65 rfl) 0
  have m66 := congrFun (mm.at 66 rfl) 0
  have M := mm
  refine ⟨hR.keep M rfl, ?_⟩
  have gb := hR.gb hB
  rcases hx with ⟨a1, a2⟩ | ⟨a1, ⟨a2, a3⟩ | ⟨a2, a3, a4⟩ | ⟨a2, a3⟩⟩
  · rcases hm with ⟨b1, b2⟩ | ⟨b1, -⟩
    · omega
    · omega
  · rcases hm with ⟨b1, b2⟩ | ⟨b1, ⟨b2, b3⟩ | ⟨b2, b3, b4⟩ | ⟨b2, b3⟩⟩
    · omega
    · omega
    · clear b3; omega
    · have w := b2.1; clear b3; omega
  · rcases hm with ⟨b1, b2⟩ | ⟨b1, ⟨b2, b3⟩ | ⟨b2, b3, b4⟩ | ⟨b2, b3⟩⟩
    · clear a3; omega
    · clear a3; omega
    · rw [a4, b4]
    · exact (gb.2 a2 a3 b2).elim
  · have a20 := a2.1
    rcases hm with ⟨b1, b2⟩ | ⟨b1, ⟨b2, b3⟩ | ⟨b2, b3, b4⟩ | ⟨b2, b3⟩⟩
    · clear a3; omega
    · clear a3; omega
    · exact (gb.1 a2 b3).elim
    · obtain ⟨u, i1, e1⟩ := a3
      obtain ⟨v, i2, e2⟩ := b3
      have pl := h3.2 a20
      have em : madeM σ a = madeX σ a := by
        unfold madeM madeX
        rw [(pl a a1.1 a1.2).2, h1.len a1.1 a1.2]
      rw [← h1.1.1, em] at i2
      have e3 : u = v := i1.uniq i2 (fun s s0 s1 => by rw [(h1.2.2 s s0 s1).1]) (fun s s0 s1 q => by
        unfold useX useM
        rw [(pl (s / 2) (by omega) (by omega)).2, h3.1, h1.dist s0 s1 (by omega), Int.mul_comm])
      rw [e1, e2, e3, em, h3.1]
set_option maxHeartbeats 4000000 in
theorem pr_step {σ σ1 σ2 : MM} {R : Int} {z z2 : Int} (hR : RR σ) (hB : Bd bdL σ) (mx : Mod [26, 51] σ σ1) (hx : ((R < 1 ∨ 60 < R) ∧ z = -2 ∧ σ1 = σ) ∨ ((1 ≤ R ∧ R ≤ 60) ∧ ((σ 58 0 = 0 ∧ z = -3 ∧ σ1 = σ) ∨ (0 < σ 58 0 ∧ BadX σ ∧ z = -5 ∧ σ1 = σ) ∨ (GoodX σ ∧ IsMax (fun _ => True) (fun a => madeX σ a + (R - 1) * σ 58 0) (σ 53 0) 0 z ∧ σ1 51 0 = R ∧ EQs σ (σ1 26) R)))) (mm : Mod [33, 37, 64] σ1 σ2) (hm : ((R < 1 ∨ 60 < R) ∧ z2 = -2 ∧ σ2 64 = σ1 64) ∨ ((1 ≤ R ∧ R ≤ 60) ∧ ((σ1 63 0 = 0 ∧ z2 = -3 ∧ σ2 64 = σ1 64) ∨ (0 < σ1 63 0 ∧ BadM σ1 (σ 13) ∧ z2 = -5 ∧ σ2 64 = σ1 64) ∨ (GoodM σ1 (σ 13) ∧ IsMax (fun _ => True) (fun a => madeM σ1 a + (R - 1) * σ1 63 0) (σ1 61 0) 0 z2 ∧ σ2 64 0 = R)))) : RR σ2 ∧ z = z2 := by
  obtain ⟨h1, h2, h3, h4, h5, h6, h7, h8⟩ := id hR
  have hc53 := h1.1.1
  have hc55 := h1.1.2
  have hc58 := h3.1
  have hc51 := h4.1
  have hc56 := h2.1.1
  have hc57 := h2.1.2
  have hk53 := (bdk hB).1
  have hk58 := (bdk hB).2.2.2.1
  have x50 := congrFun (mx.at 50 rfl) 0
  have x53 := congrFun (mx.at 53 rfl) 0
  have x54 := congrFun (mx.at 54 rfl) 0
  have x55 := congrFun (mx.at 55 rfl) 0
  have x56 := congrFun (mx.at 56 rfl) 0
  have x57 := congrFun (mx.at 57 rfl) 0
  have x58 := congrFun (mx.at 58 rfl) 0
  have x61 := congrFun (mx.at 61 rfl) 0
  have x62 := congrFun (mx.at 62 rfl) 0
  have x63 := congrFun (mx.at 63 rfl) 0
  have x64 := congrFun (mx.at 64 rfl) 0
  have x65 := congrFun (mx.at 65 rfl) 0
  have x66 := congrFun (mx.at 66 rfl) 0
  have m50 := congrFun (mm.at 50 rfl) 0
  have m51 := congrFun (mm.at 51 rfl) 0
  have m53 := congrFun (mm.at 53 rfl) 0
  have m54 := congrFun (mm.at 54 rfl) 0
  have m55 := congrFun (mm.at 55 rfl) 0
  have m56 := congrFun (mm.at 56 rfl) 0
  have m57 := congrFun (mm.at 57 rfl) 0
  have m58 := congrFun (mm.at 58 rfl) 0
  have m61 := congrFun (mm.at 61 rfl) 0
  have m62 := congrFun (mm.at 62 rfl) 0
  have m63 := congrFun (mm.at 63 rfl) 0
  have m65 := congrFun (mm.at 65 rfl) 0
  have m66 := congrFun (mm.at 66 rfl) 0
  have M : Mod [26, 33, 37, 51, 64] σ σ2 := Mod.tr (L := [26, 33, 37, 51, 64]) mx mm rfl rfl
  rw [WhyK mx rfl] at hm
  have gb := hR.gb hB
  rcases hx with ⟨a1, a2, rfl⟩ | ⟨a1, ⟨a2, a3, rfl⟩ | ⟨a2, a3, a4, rfl⟩ | ⟨a2, a3, a4, a5⟩⟩
  · rcases hm with ⟨b1, b2, b3⟩ | ⟨b1, -⟩
    · exact ⟨hR.keep64 mm rfl (by rw [b3]), by omega⟩
    · omega
  · rcases hm with ⟨b1, b2, b3⟩ | ⟨b1, ⟨b2, b3, b4⟩ | ⟨b2, b3, b4, b5⟩ | ⟨b2, b3, b4⟩⟩
    · omega
    · exact ⟨hR.keep64 mm rfl (by rw [b4]), by omega⟩
    · clear b3; omega
    · have w := b2.1; clear b3; omega
  · rcases hm with ⟨b1, b2, b3⟩ | ⟨b1, ⟨b2, b3, b4⟩ | ⟨b2, b3, b4, b5⟩ | ⟨b2, b3, b4⟩⟩
    · clear a3; omega
    · clear a3; omega
    · exact ⟨hR.keep64 mm rfl (by rw [b5]), by rw [a4, b4]⟩
    · exact (gb.2 a2 a3 b2).elim
  · have a20 := a2.1
    rcases hm with ⟨b1, b2, b3⟩ | ⟨b1, ⟨b2, b3, b4⟩ | ⟨b2, b3, b4, b5⟩ | ⟨b2, b3, b4⟩⟩
    · clear a3; omega
    · clear a3; omega
    · exact (gb.1 a2 b3).elim
    · have pl := h3.2 a20
      refine ⟨⟨h1.keep M rfl, h2.keep M rfl, h3.keep M rfl, ⟨by omega, fun _ => ⟨?_, ?_⟩⟩, h5.keep M rfl, h6.keep M rfl, h7.keep M rfl, h8.keep M rfl⟩, ?_⟩
      · have := a2.2.1
        omega
      · rw [mm.at 26 rfl, m51, a4]
        exact (EQs_keep M rfl _ _).mpr a5
      · rw [← h1.1.1] at b3
        exact a3.uniq b3 (fun _ _ _ => Iff.rfl) (fun u u0 u1 _ => by
          unfold madeX madeM
          rw [(pl u u0 u1).2, h1.len u0 u1, h3.1])
set_option maxHeartbeats 4000000 in
theorem pr_stepped {σ σ2 : MM} {a r : Int} {z z2 : Int} (hR : RR σ) (hB : Bd bdL σ) (hx : (σ 51 0 = 0 ∧ z = -10000000003) ∨ (σ 51 0 ≠ 0 ∧ (a < 0 ∨ σ 53 0 ≤ a ∨ r < 0 ∨ σ 51 0 ≤ r) ∧ z = -10000000001) ∨ (σ 51 0 ≠ 0 ∧ (0 ≤ a ∧ a < σ 53 0 ∧ 0 ≤ r ∧ r < σ 51 0) ∧ z = (iI (σ 26 (a * 61 + r))).toInt)) (mm : Mod [33, 34] σ σ2) (hm : (σ 64 0 = 0 ∧ z2 = -10000000003) ∨ (σ 64 0 ≠ 0 ∧ (r < 0 ∨ σ 64 0 ≤ r) ∧ z2 = -10000000001) ∨ (σ 64 0 ≠ 0 ∧ (0 ≤ r ∧ r < σ 64 0) ∧ PlM σ σ2 a r z2)) : RR σ2 ∧ z = z2 := by
  obtain ⟨h1, h2, h3, h4, h5, h6, h7, h8⟩ := id hR
  have hc53 := h1.1.1
  have hc55 := h1.1.2
  have hc58 := h3.1
  have hc51 := h4.1
  have hc56 := h2.1.1
  have hc57 := h2.1.2
  have hk53 := (bdk hB).1
  have hk58 := (bdk hB).2.2.2.1
  have m50 := congrFun (mm.at 50 rfl) 0
  have m51 := congrFun (mm.at 51 rfl) 0
  have m53 := congrFun (mm.at 53 rfl) 0
  have m54 := congrFun (mm.at 54 rfl) 0
  have m55 := congrFun (mm.at 55 rfl) 0
  have m56 := congrFun (mm.at 56 rfl) 0
  have m57 := congrFun (mm.at 57 rfl) 0
  have m58 := congrFun (mm.at 58 rfl) 0
  have m61 := congrFun (mm.at 61 rfl) 0
  have m62 := congrFun (mm.at 62 rfl) 0
  have m63 := congrFun (mm.at 63 rfl) 0
  have m64 := congrFun (mm.at 64 rfl) 0
  have m65 := congrFun (mm.at 65 rfl) 0
  have m66 := congrFun (mm.at 66 rfl) 0
  have M := mm
  refine ⟨hR.keep M rfl, ?_⟩
  have k51 := (bdk hB).2.2.2.2.1
  rcases hx with ⟨a1, a2⟩ | ⟨a1, a2, a3⟩ | ⟨a1, a2, a3⟩
  · rcases hm with ⟨b1, b2⟩ | ⟨b1, b2, b3⟩ | ⟨b1, b2, b3⟩
    · omega
    · omega
    · exact absurd (h4.1 ▸ a1) b1
  · rcases hm with ⟨b1, b2⟩ | ⟨b1, b2, b3⟩ | ⟨b1, b2, b3⟩
    · omega
    · omega
    · rcases b3 with ⟨c1, c2⟩ | ⟨c1, -⟩
      · omega
      · omega
  · rcases hm with ⟨b1, b2⟩ | ⟨b1, b2, b3⟩ | ⟨b1, b2, b3⟩
    · omega
    · omega
    · have hs := h4.2 a1
      rcases b3 with ⟨c1, c2⟩ | ⟨c1, ⟨c2, c3⟩ | ⟨c2, c3, c4⟩⟩
      · omega
      · exact absurd (hR.snd.mp hs.1) c2
      · rw [a3, c4, hR.val hB hs.1 (T := σ 51 0) (by omega) hs.2 c3 a2.2.2.1 a2.2.2.2 (by omega) a2.1 a2.2.1]
set_option maxHeartbeats 4000000 in
theorem pr_works {σ σ2 : MM} {k t : Int} {z z2 : Int} (hR : RR σ) (hB : Bd bdL σ) (hx : ((k < 0 ∨ σ 56 0 * σ 57 0 ≤ k) ∧ z = -1) ∨ ((0 ≤ k ∧ k < σ 56 0 * σ 57 0) ∧ (((t < 0 ∨ 10000 < t) ∧ z = -2) ∨ ((0 ≤ t ∧ t ≤ 10000) ∧ ((σ 58 0 = 0 ∧ z = -3) ∨ (0 < σ 58 0 ∧ BadX σ ∧ z = -5) ∨ (GoodX σ ∧ ((Fst (fun a => σ 15 a = k ∧ σ 16 a ≤ t ∧ (t - σ 16 a) % σ 58 0 = 0) (σ 53 0) z) ∨ (Non (fun a => σ 15 a = k ∧ σ 16 a ≤ t ∧ (t - σ 16 a) % σ 58 0 = 0) (σ 53 0) ∧ z = -6)))))))) (mm : Mod [33, 37] σ σ2) (hm : ((k < 0 ∨ σ 65 0 * σ 66 0 ≤ k) ∧ z2 = -1) ∨ ((0 ≤ k ∧ k < σ 65 0 * σ 66 0) ∧ (((t < 0 ∨ 10000 < t) ∧ z2 = -2) ∨ ((0 ≤ t ∧ t ≤ 10000) ∧ ((σ 63 0 = 0 ∧ z2 = -3) ∨ (0 < σ 63 0 ∧ BadM σ (σ 13) ∧ z2 = -5) ∨ (GoodM σ (σ 13) ∧ (Fst (fun a => σ 38 a = k ∧ σ 39 a ≤ t ∧ (t - σ 39 a) % σ 63 0 = 0) (σ 61 0) z2 ∨ (Non (fun a => σ 38 a = k ∧ σ 39 a ≤ t ∧ (t - σ 39 a) % σ 63 0 = 0) (σ 61 0) ∧ z2 = -6)))))))) : RR σ2 ∧ z = z2 := by
  obtain ⟨h1, h2, h3, h4, h5, h6, h7, h8⟩ := id hR
  have hc53 := h1.1.1
  have hc55 := h1.1.2
  have hc58 := h3.1
  have hc51 := h4.1
  have hc56 := h2.1.1
  have hc57 := h2.1.2
  have hk53 := (bdk hB).1
  have hk58 := (bdk hB).2.2.2.1
  have m50 := congrFun (mm.at 50 rfl) 0
  have m51 := congrFun (mm.at 51 rfl) 0
  have m53 := congrFun (mm.at 53 rfl) 0
  have m54 := congrFun (mm.at 54 rfl) 0
  have m55 := congrFun (mm.at 55 rfl) 0
  have m56 := congrFun (mm.at 56 rfl) 0
  have m57 := congrFun (mm.at 57 rfl) 0
  have m58 := congrFun (mm.at 58 rfl) 0
  have m61 := congrFun (mm.at 61 rfl) 0
  have m62 := congrFun (mm.at 62 rfl) 0
  have m63 := congrFun (mm.at 63 rfl) 0
  have m64 := congrFun (mm.at 64 rfl) 0
  have m65 := congrFun (mm.at 65 rfl) 0
  have m66 := congrFun (mm.at 66 rfl) 0
  have M := mm
  refine ⟨hR.keep M rfl, ?_⟩
  rw [← h2.1.1, ← h2.1.2] at hm
  have gb := hR.gb hB
  rcases hx with ⟨a1, a2⟩ | ⟨a1, ⟨a2, a3⟩ | ⟨a2, ⟨a3, a4⟩ | ⟨a3, a4, a5⟩ | ⟨a3, a4⟩⟩⟩
  · rcases hm with ⟨b1, b2⟩ | ⟨b1, -⟩
    · omega
    · omega
  · rcases hm with ⟨b1, b2⟩ | ⟨b1, ⟨b2, b3⟩ | ⟨b2, -⟩⟩
    · omega
    · omega
    · omega
  · rcases hm with ⟨b1, b2⟩ | ⟨b1, ⟨b2, b3⟩ | ⟨b2, ⟨b3, b4⟩ | ⟨b3, b4, b5⟩ | ⟨b3, b4⟩⟩⟩
    · omega
    · omega
    · omega
    · clear b4; omega
    · have w := b3.1; clear b4; omega
  · rcases hm with ⟨b1, b2⟩ | ⟨b1, ⟨b2, b3⟩ | ⟨b2, ⟨b3, b4⟩ | ⟨b3, b4, b5⟩ | ⟨b3, b4⟩⟩⟩
    · clear a4; omega
    · clear a4; omega
    · clear a4; omega
    · rw [a5, b5]
    · exact (gb.2 a3 a4 b3).elim
  · have a30 := a3.1
    rcases hm with ⟨b1, b2⟩ | ⟨b1, ⟨b2, b3⟩ | ⟨b2, ⟨b3, b4⟩ | ⟨b3, b4, b5⟩ | ⟨b3, b4⟩⟩⟩
    · clear a4; omega
    · clear a4; omega
    · clear a4; omega
    · exact (gb.1 a3 b4).elim
    · rw [← h1.1.1] at b4
      have pl := h3.2 a30
      have e : ∀ x, 0 ≤ x → x < σ 53 0 → ((σ 15 x = k ∧ σ 16 x ≤ t ∧ (t - σ 16 x) % σ 58 0 = 0) ↔ (σ 38 x = k ∧ σ 39 x ≤ t ∧ (t - σ 39 x) % σ 63 0 = 0)) := fun x x0 x1 => by
        rw [(pl x x0 x1).1, (pl x x0 x1).2, h3.1]
      rcases a4 with a4 | ⟨a4, a5⟩
      · rcases b4 with b4 | ⟨b4, b5⟩
        · exact a4.uniq b4 e
        · exact (a4.not b4 e).elim
      · rcases b4 with b4 | ⟨b4, b5⟩
        · exact (b4.not a4 (fun x x0 x1 => (e x x0 x1).symm)).elim
        · rw [a5, b5]
set_option maxHeartbeats 4000000 in
theorem pr_bound {σ σ1 σ2 : MM} {h : Int} {z z2 : Int} (hR : RR σ) (hB : Bd bdL σ) (mx : Mod [9] σ σ1) (hx : ((h < 0 ∨ 1 < h) ∧ z = -2) ∨ ((h = 0 ∨ h = 1) ∧ σ 53 0 = 0 ∧ z = -3) ∨ ((h = 0 ∨ h = 1) ∧ σ 53 0 ≠ 0 ∧ σ 54 0 ≠ σ 53 0 ∧ z = -5) ∨ (σ 53 0 ≠ 0 ∧ σ 54 0 = σ 53 0 ∧ ((h = 0 ∧ PBX σ z) ∨ (h = 1 ∧ RBx σ z)))) (mm : Mod [33, 40] σ1 σ2) (hm : ((h < 0 ∨ 1 < h) ∧ z2 = -2) ∨ ((h = 0 ∨ h = 1) ∧ σ1 61 0 = 0 ∧ z2 = -3) ∨ ((h = 0 ∨ h = 1) ∧ σ1 61 0 ≠ 0 ∧ ¬ SndM σ1 ∧ z2 = -5) ∨ (σ1 61 0 ≠ 0 ∧ SndM σ1 ∧ ((h = 0 ∧ PLm σ1 z2) ∨ (h = 1 ∧ RBm σ1 z2)))) : RR σ2 ∧ z = z2 := by
  obtain ⟨h1, h2, h3, h4, h5, h6, h7, h8⟩ := id hR
  have hc53 := h1.1.1
  have hc55 := h1.1.2
  have hc58 := h3.1
  have hc51 := h4.1
  have hc56 := h2.1.1
  have hc57 := h2.1.2
  have hk53 := (bdk hB).1
  have hk58 := (bdk hB).2.2.2.1
  have x50 := congrFun (mx.at 50 rfl) 0
  have x51 := congrFun (mx.at 51 rfl) 0
  have x53 := congrFun (mx.at 53 rfl) 0
  have x54 := congrFun (mx.at 54 rfl) 0
  have x55 := congrFun (mx.at 55 rfl) 0
  have x56 := congrFun (mx.at 56 rfl) 0
  have x57 := congrFun (mx.at 57 rfl) 0
  have x58 := congrFun (mx.at 58 rfl) 0
  have x61 := congrFun (mx.at 61 rfl) 0
  have x62 := congrFun (mx.at 62 rfl) 0
  have x63 := congrFun (mx.at 63 rfl) 0
  have x64 := congrFun (mx.at 64 rfl) 0
  have x65 := congrFun (mx.at 65 rfl) 0
  have x66 := congrFun (mx.at 66 rfl) 0
  have m50 := congrFun (mm.at 50 rfl) 0
  have m51 := congrFun (mm.at 51 rfl) 0
  have m53 := congrFun (mm.at 53 rfl) 0
  have m54 := congrFun (mm.at 54 rfl) 0
  have m55 := congrFun (mm.at 55 rfl) 0
  have m56 := congrFun (mm.at 56 rfl) 0
  have m57 := congrFun (mm.at 57 rfl) 0
  have m58 := congrFun (mm.at 58 rfl) 0
  have m61 := congrFun (mm.at 61 rfl) 0
  have m62 := congrFun (mm.at 62 rfl) 0
  have m63 := congrFun (mm.at 63 rfl) 0
  have m64 := congrFun (mm.at 64 rfl) 0
  have m65 := congrFun (mm.at 65 rfl) 0
  have m66 := congrFun (mm.at 66 rfl) 0
  have M : Mod [9, 33, 40] σ σ2 := Mod.tr (L := [9, 33, 40]) mx mm rfl rfl
  rw [SndM_keep mx rfl, PLm_keep mx rfl, RBm_keep mx rfl] at hm
  refine ⟨hR.keep M rfl, ?_⟩
  rcases hx with ⟨a1, a2⟩ | ⟨a1, a2, a3⟩ | ⟨a1, a2, a3, a4⟩ | ⟨a1, a2, a3⟩
  · rcases hm with ⟨b1, b2⟩ | ⟨b1, b2, b3⟩ | ⟨b1, b2, b3, b4⟩ | ⟨b1, b2, b3⟩
    · omega
    · omega
    · omega
    · omega
  · rcases hm with ⟨b1, b2⟩ | ⟨b1, b2, b3⟩ | ⟨b1, b2, b3, b4⟩ | ⟨b1, b2, b3⟩
    · omega
    · omega
    · omega
    · omega
  · rcases hm with ⟨b1, b2⟩ | ⟨b1, b2, b3⟩ | ⟨b1, b2, b3, b4⟩ | ⟨b1, b2, b3⟩
    · omega
    · omega
    · omega
    · exact absurd (hR.snd.mpr b2) a3
  · rcases hm with ⟨b1, b2⟩ | ⟨b1, b2, b3⟩ | ⟨b1, b2, b3, b4⟩ | ⟨b1, b2, b3⟩
    · omega
    · omega
    · exact absurd (hR.snd.mp a2) b3
    · rcases a3 with ⟨c1, c2⟩ | ⟨c1, c2⟩
      · rcases b3 with ⟨d1, d2⟩ | ⟨d1, d2⟩
        · exact PLm.uniq ((hR.pl hB).mp c2) d2
        · omega
      · rcases b3 with ⟨d1, d2⟩ | ⟨d1, d2⟩
        · omega
        · exact hR.rb c2 d2
set_option maxHeartbeats 4000000 in
theorem pr_find {σ σ1 σ2 : MM} {z z2 : Int} (hR : RR σ) (hB : Bd bdL σ) (mx : Mod [9, 15, 16, 18, 19, 20, 21, 22, 51, 52, 58, 59, 60] σ σ1) (hx : FndX σ σ1 z) (mm : Mod [33, 37, 38, 39, 40, 41, 42, 43, 44, 63, 64, 67] σ1 σ2) (hm : FndM σ1 σ2 (σ 13) z2) : RR σ2 ∧ z = z2 := by
  obtain ⟨h1, h2, h3, h4, h5, h6, h7, h8⟩ := id hR
  have hc53 := h1.1.1
  have hc55 := h1.1.2
  have hc58 := h3.1
  have hc51 := h4.1
  have hc56 := h2.1.1
  have hc57 := h2.1.2
  have hk53 := (bdk hB).1
  have hk58 := (bdk hB).2.2.2.1
  have x50 := congrFun (mx.at 50 rfl) 0
  have x53 := congrFun (mx.at 53 rfl) 0
  have x54 := congrFun (mx.at 54 rfl) 0
  have x55 := congrFun (mx.at 55 rfl) 0
  have x56 := congrFun (mx.at 56 rfl) 0
  have x57 := congrFun (mx.at 57 rfl) 0
  have x61 := congrFun (mx.at 61 rfl) 0
  have x62 := congrFun (mx.at 62 rfl) 0
  have x63 := congrFun (mx.at 63 rfl) 0
  have x64 := congrFun (mx.at 64 rfl) 0
  have x65 := congrFun (mx.at 65 rfl) 0
  have x66 := congrFun (mx.at 66 rfl) 0
  have m50 := congrFun (mm.at 50 rfl) 0
  have m51 := congrFun (mm.at 51 rfl) 0
  have m53 := congrFun (mm.at 53 rfl) 0
  have m54 := congrFun (mm.at 54 rfl) 0
  have m55 := congrFun (mm.at 55 rfl) 0
  have m56 := congrFun (mm.at 56 rfl) 0
  have m57 := congrFun (mm.at 57 rfl) 0
  have m58 := congrFun (mm.at 58 rfl) 0
  have m61 := congrFun (mm.at 61 rfl) 0
  have m62 := congrFun (mm.at 62 rfl) 0
  have m65 := congrFun (mm.at 65 rfl) 0
  have m66 := congrFun (mm.at 66 rfl) 0
  have M : Mod [9, 15, 16, 18, 19, 20, 21, 22, 33, 37, 38, 39, 40, 41, 42, 43, 44, 51, 52, 58, 59, 60, 63, 64, 67] σ σ2 := Mod.tr (L := [9, 15, 16, 18, 19, 20, 21, 22, 33, 37, 38, 39, 40, 41, 42, 43, 44, 51, 52, 58, 59, 60, 63, 64, 67]) mx mm rfl rfl
  rw [FndM_keep mx rfl] at hm
  obtain ⟨e, q⟩ := hR.find hB hx hm
  refine ⟨?_, e⟩
  rcases q with ⟨⟨p1, p2, p3, p4⟩, ⟨q1, q2, q3, q4⟩⟩ | ⟨bt, b1, b2, ⟨f1, f2, f3⟩, f4, f5, f6⟩
  · refine ⟨h1.keep M rfl, h2.keep M rfl, ?_, ?_, h5.keep M rfl, ?_, h7.keep M rfl, h8.keep M rfl⟩
    · unfold RPn
      rw [mm.at 15 rfl, mm.at 16 rfl, mm.at 58 rfl, m53, x53, p1, p2, p4, q1, q2, q3]
      exact h3
    · unfold ReS EQs VALx
      rw [q4, mm.at 51 rfl, p3, mm.at 26 rfl, mx.at 26 rfl, mm.at 53 rfl, mx.at 53 rfl, mm.at 54 rfl, mx.at 54 rfl, mm.at 55 rfl, mx.at 55 rfl, mm.at 2 rfl, mx.at 2 rfl, mm.at 3 rfl, mx.at 3 rfl, mm.at 4 rfl, mx.at 4 rfl, mm.at 5 rfl, mx.at 5 rfl, mm.at 6 rfl, mx.at 6 rfl]
      exact h4
    · unfold LayOK
      rw [mm.at 15 rfl, mm.at 58 rfl, p1, p4, m53, x53, m56, x56, m57, x57]
      exact h6
  · have fd := hR.found hB b1 f1 f4
    refine ⟨h1.keep M rfl, h2.keep M rfl, ⟨by omega, fun _ a a0 a1 => ?_⟩, ReS.nil (by omega) (by omega), h5.keep M rfl, fun _ a a0 a1 => ?_, h7.keep M rfl, h8.keep M rfl⟩
    · have w := fd a a0 (by omega)
      rw [mm.at 15 rfl, mm.at 16 rfl]
      exact ⟨w.1, w.2.1⟩
    · have w := fd a a0 (by omega)
      rw [mm.at 15 rfl, m56, m57, x56, x57]
      exact w.2.2.2
set_option maxHeartbeats 4000000 in
theorem pr_told {σ : MM} {h : Int} {z z2 : Int} (hR : RR σ) (hB : Bd bdL σ) (hx : (h = 0 ∧ z = σ 53 0) ∨ (h = 1 ∧ z = σ 56 0) ∨ (h = 2 ∧ z = σ 57 0) ∨ (h = 3 ∧ z = cn0 (σ 11) (σ 56 0 * σ 57 0)) ∨ (h = 4 ∧ z = σ 58 0) ∨ (h = 5 ∧ z = σ 51 0) ∨ ((h < 0 ∨ 5 < h) ∧ z = -2)) (hm : (h = 0 ∧ z2 = σ 61 0) ∨ (h = 1 ∧ z2 = σ 65 0) ∨ (h = 2 ∧ z2 = σ 66 0) ∨ (h = 3 ∧ z2 = cn0 (σ 35) (σ 65 0 * σ 66 0)) ∨ (h = 4 ∧ z2 = σ 63 0) ∨ (h = 5 ∧ z2 = σ 64 0) ∨ ((h < 0 ∨ 5 < h) ∧ z2 = -2)) : RR σ ∧ z = z2 := by
  obtain ⟨h1, h2, h3, h4, h5, h6, h7, h8⟩ := id hR
  have hc53 := h1.1.1
  have hc55 := h1.1.2
  have hc58 := h3.1
  have hc51 := h4.1
  have hc56 := h2.1.1
  have hc57 := h2.1.2
  have hk53 := (bdk hB).1
  have hk58 := (bdk hB).2.2.2.1
  refine ⟨hR, ?_⟩
  have e : cn0 (σ 11) (σ 56 0 * σ 57 0) = cn0 (σ 35) (σ 65 0 * σ 66 0) := by
    rw [← h2.1.1, ← h2.1.2]
    exact sm_congr _ (fun x x0 x1 => by rw [(h2.2 x x0 (by have := (bdk hB).2.2.2.2.2; omega)).1])
  rw [← e] at hm
  generalize cn0 (σ 11) (σ 56 0 * σ 57 0) = w at hx hm
  have e1 := h2.1.1
  have e2 := h2.1.2
  have e3 := h3.1
  have e4 := h4.1
  omega
