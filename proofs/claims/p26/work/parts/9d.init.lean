/-! THE START: what the constructors lay -/
/-- of a cell, all is as it was -/
def sm4 (μ ν : MM) (a : Nat) : Prop := mK ν a = mK μ a ∧ mN ν a = mN μ a ∧ (∀ j, mI ν a j = mI μ a j) ∧ ∀ j, mP ν a j = mP μ a j
theorem sm4.tr {μ ν ω : MM} {a : Nat} (h : sm4 μ ν a) (g : sm4 ν ω a) : sm4 μ ω a := ⟨g.1.trans h.1, g.2.1.trans h.2.1, fun j => (g.2.2.1 j).trans (h.2.2.1 j), fun j => (g.2.2.2 j).trans (h.2.2.2 j)⟩
theorem i5_ok {q : Nat} {μ : MM} (hx : mX μ = q + 1) (hk : mK μ q = 6) : fX5_init q μ = some (sP (sN (sP (sN μ 20 6) q 0 (q + 1)) 20 6) q 1 (q + 2)) := by
  unfold fX5_init st
  simp [mK_sN, mK_sP, mX_sN, mX_sP, hx, hk, Nat.add_assoc]
theorem i2_ok {q : Nat} {μ : MM} {x : Int32} (hx : mX μ = q) : fX2_init q x (sN μ 3 0) = some (sI (sP (sP (sN (sP (sN (sN (sP (sN (sN μ 3 0) 20 4) q 1 (q + 1)) 6 0) 20 6) (q + 2) 0 (q + 3)) 20 6) (q + 2) 1 (q + 4)) q 2 (q + 2)) q 0 x) := by
  unfold fX2_init st
  dsimp only
  rw [show mX (sN μ 3 0) = q + 1 by rw [mX_sN, hx], if_pos (by rw [mK_sN, if_neg (by rw [mX_sN]; omega), mK_sN, if_pos hx.symm])]
  rw [show mX (sP (sN (sN μ 3 0) 20 4) q 1 (q + 1)) = q + 2 by rw [mX_sP, mX_sN, mX_sN, hx]]
  rw [if_pos (by rw [mK_sN, if_pos (by rw [mX_sP, mX_sN, mX_sN, hx])]), i5_ok (by rw [mX_sN, mX_sP, mX_sN, mX_sN, hx]) (by rw [mK_sN, if_pos (by rw [mX_sP, mX_sN, mX_sN, hx])]), Option.bind_some]
  rw [if_pos (by simp [mK_sN, mK_sP, mX_sN, mX_sP, hx, Nat.add_assoc])]
theorem i1_ok {q : Nat} {μ : MM} (hx : mX μ = q) : fX1_init q (sN μ 2 0) = some (sP (sN (sP (sN (sP (sN (sN μ 2 0) 20 12) q 0 (q + 1)) 20 12) q 1 (q + 2)) 20 12) q 2 (q + 3)) := by
  unfold fX1_init st
  simp [mK_sN, mK_sP, mX_sN, mX_sP, hx, Nat.add_assoc]
theorem i2_spec {q : Nat} {μ : MM} {x : Int32} (hx : mX μ = q) : ∃ ν, fX2_init q x (sN μ 3 0) = some ν ∧ mX ν = q + 5 ∧ tLayC q ν ∧ mI ν q 0 = x ∧ (∀ a j, q ≤ a → a < q + 5 → j ≠ 0 → mI ν a j = 0) ∧ ∀ a, a < q → sm4 μ ν a := by
  refine ⟨_, i2_ok hx, ?_, ?_, ?_, fun a j h1 h2 h3 => ?_, fun a ha => ?_⟩
  · simp [mX_sN, mX_sP, mX_sI, hx, Nat.add_assoc]
  · unfold tLayC
    simp [mK_sN, mK_sP, mK_sI, mN_sN, mN_sP, mN_sI, mP_sN, mP_sP, mP_sI, mX_sN, mX_sP, mX_sI, hx, Nat.add_assoc]
  · simp [mI_sI]
  · have : a = q ∨ a = q + 1 ∨ a = q + 2 ∨ a = q + 3 ∨ a = q + 4 := by omega
    rcases this with e | e | e | e | e <;> subst e <;> simp [mI_sI, mI_sP, mI_sN, mX_sN, mX_sP, hx, h3, Nat.add_assoc]
  · have n0 : a ≠ q := by omega
    have n1 : a ≠ q + 1 := by omega
    have n2 : a ≠ q + 2 := by omega
    have n3 : a ≠ q + 3 := by omega
    have n4 : a ≠ q + 4 := by omega
    unfold sm4
    simp [mK_sN, mK_sP, mK_sI, mN_sN, mN_sP, mN_sI, mI_sI, mI_sP, mI_sN, mP_sN, mP_sP, mP_sI, mX_sN, mX_sP, mX_sI, hx, n0, n1, n2, n3, n4, Nat.add_assoc]
theorem i1_spec {q : Nat} {μ : MM} (hx : mX μ = q) : ∃ ν, fX1_init q (sN μ 2 0) = some ν ∧ mX ν = q + 4 ∧ (mK ν q = 2 ∧ mP ν q 0 = q + 1 ∧ mP ν q 1 = q + 2 ∧ mP ν q 2 = q + 3 ∧ mK ν (q + 1) = 20 ∧ mN ν (q + 1) = 12 ∧ mK ν (q + 2) = 20 ∧ mN ν (q + 2) = 12 ∧ mK ν (q + 3) = 20 ∧ mN ν (q + 3) = 12) ∧ (∀ a j, q ≤ a → a < q + 4 → j ≠ 0 → mI ν a j = 0) ∧ ∀ a, a < q → sm4 μ ν a := by
  refine ⟨_, i1_ok hx, ?_, ?_, fun a j h1 h2 h3 => ?_, fun a ha => ?_⟩
  · simp [mX_sN, mX_sP, hx, Nat.add_assoc]
  · simp [mK_sN, mK_sP, mN_sN, mN_sP, mP_sN, mP_sP, mX_sN, mX_sP, hx, Nat.add_assoc]
  · have : a = q ∨ a = q + 1 ∨ a = q + 2 ∨ a = q + 3 := by omega
    rcases this with e | e | e | e <;> subst e <;> simp [mI_sP, mI_sN, mX_sN, mX_sP, hx, Nat.add_assoc]
  · have n0 : a ≠ q := by omega
    have n1 : a ≠ q + 1 := by omega
    have n2 : a ≠ q + 2 := by omega
    have n3 : a ≠ q + 3 := by omega
    unfold sm4
    simp [mK_sN, mK_sP, mN_sN, mN_sP, mI_sP, mI_sN, mP_sN, mP_sP, mX_sN, mX_sP, hx, n0, n1, n2, n3, Nat.add_assoc]
theorem i4_spec {q : Nat} {μ : MM} (hx : mX μ = q) : ∃ ν, fX4_init q (sN μ 5 0) = some ν ∧ mX ν = q + 2 ∧ tLayQ q ν ∧ (∀ a j, q ≤ a → a < q + 2 → mI ν a j = 0) ∧ ∀ a, a < q → sm4 μ ν a := by
  refine ⟨sP (sN (sN μ 5 0) 20 24) q 0 (q + 1), ?_, ?_, ?_, fun a j h1 h2 => ?_, fun a ha => ?_⟩
  · unfold fX4_init st
    simp [mK_sN, mX_sN, hx, Nat.add_assoc]
  · simp [mX_sN, mX_sP, hx, Nat.add_assoc]
  · unfold tLayQ
    simp [mK_sN, mK_sP, mN_sN, mN_sP, mP_sP, mX_sN, hx, Nat.add_assoc]
  · have : a = q ∨ a = q + 1 := by omega
    rcases this with e | e <;> subst e <;> simp [mI_sP, mI_sN, mX_sN, hx, Nat.add_assoc]
  · have n0 : a ≠ q := by omega
    have n1 : a ≠ q + 1 := by omega
    unfold sm4
    simp [mK_sN, mK_sP, mN_sN, mN_sP, mI_sP, mI_sN, mP_sN, mP_sP, mX_sN, hx, n0, n1, Nat.add_assoc]
theorem sm4.P {μ : MM} {a h j v : Nat} (n : a ≠ h) : sm4 μ (sP μ h j v) a := ⟨rfl, rfl, fun _ => rfl, fun i => by rw [mP_sP, if_neg (fun q => n q.1)]⟩
theorem sm4.N {μ : MM} {a k n : Nat} (q : a ≠ mX μ) : sm4 μ (sN μ k n) a := ⟨by rw [mK_sN, if_neg q], by rw [mN_sN, if_neg q], fun j => by rw [mI_sN, if_neg q], fun j => by rw [mP_sN, if_neg q]⟩
theorem tLayC.sm {q : Nat} {μ ν : MM} (L : tLayC q μ) (s : ∀ a, q ≤ a → a < q + 5 → sm4 μ ν a) : tLayC q ν := by
  obtain ⟨d1, d2, d3, d4, d5, d6, d7, d8, d9, d10, d11, d12⟩ := L
  exact ⟨(s q (by omega) (by omega)).1.trans d1, ((s q (by omega) (by omega)).2.2.2 1).trans d2, ((s q (by omega) (by omega)).2.2.2 2).trans d3, (s (q + 1) (by omega) (by omega)).1.trans d4, (s (q + 1) (by omega) (by omega)).2.1.trans d5, (s (q + 2) (by omega) (by omega)).1.trans d6, ((s (q + 2) (by omega) (by omega)).2.2.2 0).trans d7, ((s (q + 2) (by omega) (by omega)).2.2.2 1).trans d8, (s (q + 3) (by omega) (by omega)).1.trans d9, (s (q + 3) (by omega) (by omega)).2.1.trans d10, (s (q + 4) (by omega) (by omega)).1.trans d11, (s (q + 4) (by omega) (by omega)).2.1.trans d12⟩
theorem tLayQ.sm {q : Nat} {μ ν : MM} (L : tLayQ q μ) (s : ∀ a, q ≤ a → a < q + 2 → sm4 μ ν a) : tLayQ q ν := by
  obtain ⟨d1, d2, d3, d4⟩ := L
  exact ⟨(s q (by omega) (by omega)).1.trans d1, ((s q (by omega) (by omega)).2.2.2 0).trans d2, (s (q + 1) (by omega) (by omega)).1.trans d3, (s (q + 1) (by omega) (by omega)).2.1.trans d4⟩
/-- the machine, with k of its coroutines made -/
def i3J (h b k : Nat) (μ0 μ : MM) : Prop := mX μ = h + 11 + 5 * k ∧ (mK μ h = 4 ∧ mP μ h 0 = b ∧ mP μ h 1 = h + 1 ∧ mP μ h 2 = h + 2 ∧ mP μ h 3 = h + 7 ∧ mP μ h 4 = h + 9 ∧ mK μ (h + 1) = 22 ∧ mN μ (h + 1) = 24) ∧ (∀ n, n < k → mP μ (h + 1) n = tCo h n) ∧ (∀ n, n < k ∨ n = 24 → tLayC (tCo h n) μ ∧ mI μ (tCo h n) 0 = gNum n) ∧ tLayQ (h + 7) μ ∧ tLayQ (h + 9) μ ∧ (∀ a j, h ≤ a → a < h + 11 + 5 * k → j ≠ 0 → mI μ a j = 0) ∧ ∀ a, a < h → sm4 μ0 μ a
theorem i3_step {h b k : Nat} {x : Int32} {μ0 μ : MM} (J : i3J h b k μ0 μ) (hk : k < 24) (hx : x = Int32.ofNat k) : ∃ ν, i3J h b (k + 1) μ0 ν ∧ ∀ R : MM → Option MM, (st (sN μ 3 0) fun μ21 => if mK μ21 (mX μ) = 3 then (fX2_init (mX μ) x μ21).bind fun y23 => if mK y23 (mP μ h 1) = 22 then if mK y23 (mX μ) = 3 then if ¬ (x < 0 ∨ mN y23 (mP μ h 1) ≤ x.toNatClampNeg) then st (sP y23 (mP μ h 1) x.toNatClampNeg (mX μ)) fun μ27 => if mK y23 h = 4 then R μ27 else none else none else none else none else none) = R ν := by
  obtain ⟨j1, ⟨a1, a2, a3, a4, a5, a6, a7, a8⟩, j3, j4, j5, j6, j7, j8⟩ := J
  obtain ⟨y, e, x1, L, i0, z, s⟩ := i2_spec (x := x) j1
  have xk : x.toNatClampNeg = k := by rw [hx, g_nat (by omega)]
  have qk : tCo h k = h + 11 + 5 * k := by unfold tCo; rw [if_neg (by omega)]
  have lo : ∀ n, n < k ∨ n = 24 → h + 2 ≤ tCo h n ∧ tCo h n + 5 ≤ h + 11 + 5 * k := fun n hn => by
    unfold tCo
    split <;> omega
  have s' : ∀ a, a < h + 11 + 5 * k → a ≠ h + 1 → sm4 μ (sP y (h + 1) k (h + 11 + 5 * k)) a := fun a h1 h2 => (s a h1).tr (sm4.P h2)
  have s1 := s (h + 1) (by omega)
  have s0 := s' h (by omega) (by omega)
  refine ⟨sP y (h + 1) k (h + 11 + 5 * k), ⟨by rw [mX_sP, x1]; omega, ⟨s0.1.trans a1, (s0.2.2.2 0).trans a2, (s0.2.2.2 1).trans a3, (s0.2.2.2 2).trans a4, (s0.2.2.2 3).trans a5, (s0.2.2.2 4).trans a6, by rw [mK_sP, s1.1]; exact a7, by rw [mN_sP, s1.2.1]; exact a8⟩, fun n hn => ?_, fun n hn => ?_, j5.sm fun a p q => s' a (by omega) (by omega), j6.sm fun a p q => s' a (by omega) (by omega), fun a j p q r => ?_, fun a p => (j8 a p).tr (s' a (by omega) (by omega))⟩, fun R => ?_⟩
  · rw [mP_sP]
    by_cases e : n = k
    · rw [if_pos ⟨rfl, e⟩, e, qk]
    · rw [if_neg (fun q => e q.2), s1.2.2.2]
      exact j3 n (by omega)
  · by_cases e : n = k
    · subst e
      rw [qk]
      refine ⟨L.sm fun a p q => sm4.P (by omega), ?_⟩
      rw [mI_sP, i0, hx, n_num hk]
    · obtain ⟨l1, l2⟩ := j4 n (by omega)
      have := lo n (by omega)
      exact ⟨l1.sm fun a p q => s' a (by omega) (by omega), ((s' (tCo h n) (by omega) (by omega)).2.2.1 0).trans l2⟩
  · by_cases e : a < h + 11 + 5 * k
    · by_cases e1 : a = h + 1
      · subst e1
        rw [mI_sP, s1.2.2.1]
        exact j7 _ j (by omega) e r
      · rw [(s' a e e1).2.2.1]
        exact j7 _ j p e r
    · rw [mI_sP]
      exact z a j (by omega) (by omega) r
  · unfold st
    dsimp only
    rw [j1, if_pos (show mK (sN μ 3 0) (h + 11 + 5 * k) = 3 by rw [mK_sN, if_pos j1.symm]), e, Option.bind_some, a3, if_pos (by rw [s1.1]; exact a7), if_pos L.1, if_pos (fun q => q.elim (by rw [hx]; exact lt0_nat (by omega)) (by rw [s1.2.1, a8, xk]; omega)), xk, if_pos (by rw [(s h (by omega)).1]; exact a1)]
theorem st_ap {α β : Type} (x : α) (f : α → β) : st x f = f x := rfl
set_option maxRecDepth 20000 in
set_option maxHeartbeats 4000000 in
theorem i3_ok {h b : Nat} {μ : MM} (hx : mX μ = h + 1) (hk : mK μ h = 4) (hz : ∀ j, j ≠ 0 → mI μ h j = 0) : ∃ ν, fX3_init h b μ = some ν ∧ i3J h b 24 μ ν := by
  have e3 : mX (sP (sN μ 22 24) h 1 (h + 1)) = h + 2 := by rw [mX_sP, mX_sN, hx]
  obtain ⟨y6, r6, x6, L6, n6, z6, s6⟩ := i2_spec (x := -1) e3
  obtain ⟨y11, r11, x11, L11, z11, s11⟩ := i4_spec (μ := sP y6 h 2 (h + 2)) x6
  obtain ⟨y16, r16, x16, L16, z16, s16⟩ := i4_spec (μ := sP y11 h 3 (h + 7)) x11
  have f3 : mK (sP (sN μ 22 24) h 1 (h + 1)) h = 4 := by rw [mK_sP, mK_sN, if_neg (by omega)]; exact hk
  have k6 : mK y6 h = 4 := (s6 h (by omega)).1.trans f3
  have k11 : mK y11 h = 4 := (s11 h (by omega)).1.trans k6
  have k16 : mK y16 h = 4 := (s16 h (by omega)).1.trans k11
  have J0 : i3J h b 0 μ (sP (sP y16 h 4 (h + 9)) h 0 b) := by
    have sA : ∀ a, a ≠ h → sm4 y16 (sP (sP y16 h 4 (h + 9)) h 0 b) a := fun a q => (sm4.P q).tr (sm4.P q)
    have sB : ∀ a, a ≠ h → a < h + 9 → sm4 y11 (sP (sP y16 h 4 (h + 9)) h 0 b) a := fun a q r => ((sm4.P q).tr (s16 a r)).tr (sA a q)
    have sC : ∀ a, a ≠ h → a < h + 7 → sm4 y6 (sP (sP y16 h 4 (h + 9)) h 0 b) a := fun a q r => ((sm4.P q).tr (s11 a r)).tr (sB a q (by omega))
    have sD : ∀ a, a ≠ h → a < h + 2 → sm4 (sN μ 22 24) (sP (sP y16 h 4 (h + 9)) h 0 b) a := fun a q r => ((sm4.P q).tr (s6 a r)).tr (sC a q (by omega))
    have hI : ∀ j, mI (sP (sP y16 h 4 (h + 9)) h 0 b) h j = mI μ h j := fun j => by
      rw [mI_sP, mI_sP, (s16 h (by omega)).2.2.1, mI_sP, (s11 h (by omega)).2.2.1, mI_sP, (s6 h (by omega)).2.2.1, mI_sP, mI_sN, if_neg (by omega)]
    refine ⟨x16, ⟨k16, ?_, ?_, ?_, ?_, ?_, ?_, ?_⟩, fun n hn => absurd hn (Nat.not_lt_zero _), fun n hn => ?_, L11.sm fun a p q => sB a (by omega) (by omega), L16.sm fun a p q => sA a (by omega), fun a j p q r => ?_, fun a p => ?_⟩
    · rw [mP_sP, if_pos ⟨rfl, rfl⟩]
    · rw [mP_sP, if_neg (by omega), mP_sP, if_neg (by omega), (s16 h (by omega)).2.2.2, mP_sP, if_neg (by omega), (s11 h (by omega)).2.2.2, mP_sP, if_neg (by omega), (s6 h (by omega)).2.2.2, mP_sP, if_pos ⟨rfl, rfl⟩]
    · rw [mP_sP, if_neg (by omega), mP_sP, if_neg (by omega), (s16 h (by omega)).2.2.2, mP_sP, if_neg (by omega), (s11 h (by omega)).2.2.2, mP_sP, if_pos ⟨rfl, rfl⟩]
    · rw [mP_sP, if_neg (by omega), mP_sP, if_neg (by omega), (s16 h (by omega)).2.2.2, mP_sP, if_pos ⟨rfl, rfl⟩]
    · rw [mP_sP, if_neg (by omega), mP_sP, if_pos ⟨rfl, rfl⟩]
    · rw [(sD (h + 1) (by omega) (by omega)).1, mK_sN, if_pos hx.symm]
    · rw [(sD (h + 1) (by omega) (by omega)).2.1, mN_sN, if_pos hx.symm]
    · have e : n = 24 := by omega
      subst e
      refine ⟨L6.sm fun a p q => sC a (by omega) (by omega), ?_⟩
      show mI _ (h + 2) 0 = -1
      rw [(sC (h + 2) (by omega) (by omega)).2.2.1]
      exact n6
    · by_cases e0 : a = h
      · subst e0
        rw [hI]
        exact hz j r
      · by_cases e1 : a < h + 2
        · rw [(sD a e0 e1).2.2.1, mI_sN, if_pos (by omega)]
        · by_cases e2 : a < h + 7
          · rw [(sC a e0 e2).2.2.1]
            exact z6 a j (by omega) (by omega) r
          · by_cases e3 : a < h + 9
            · rw [(sB a e0 e3).2.2.1]
              exact z11 a j (by omega) (by omega)
            · rw [(sA a e0).2.2.1]
              exact z16 a j (by omega) (by omega)
    · exact (sm4.N (by omega)).tr (sD a (by omega) (by omega))
  obtain ⟨μ1, J1, E1⟩ := i3_step (x := 0) J0 (by omega) rfl
  obtain ⟨μ2, J2, E2⟩ := i3_step (x := 1) J1 (by omega) rfl
  obtain ⟨μ3, J3, E3⟩ := i3_step (x := 2) J2 (by omega) rfl
  obtain ⟨μ4, J4, E4⟩ := i3_step (x := 3) J3 (by omega) rfl
  obtain ⟨μ5, J5, E5⟩ := i3_step (x := 4) J4 (by omega) rfl
  obtain ⟨μ6, J6, E6⟩ := i3_step (x := 5) J5 (by omega) rfl
  obtain ⟨μ7, J7, E7⟩ := i3_step (x := 6) J6 (by omega) rfl
  obtain ⟨μ8, J8, E8⟩ := i3_step (x := 7) J7 (by omega) rfl
  obtain ⟨μ9, J9, E9⟩ := i3_step (x := 8) J8 (by omega) rfl
  obtain ⟨μ10, J10, E10⟩ := i3_step (x := 9) J9 (by omega) rfl
  obtain ⟨μ11, J11, E11⟩ := i3_step (x := 10) J10 (by omega) rfl
  obtain ⟨μ12, J12, E12⟩ := i3_step (x := 11) J11 (by omega) rfl
  obtain ⟨μ13, J13, E13⟩ := i3_step (x := 12) J12 (by omega) rfl
  obtain ⟨μ14, J14, E14⟩ := i3_step (x := 13) J13 (by omega) rfl
  obtain ⟨μ15, J15, E15⟩ := i3_step (x := 14) J14 (by omega) rfl
  obtain ⟨μ16, J16, E16⟩ := i3_step (x := 15) J15 (by omega) rfl
  obtain ⟨μ17, J17, E17⟩ := i3_step (x := 16) J16 (by omega) rfl
  obtain ⟨μ18, J18, E18⟩ := i3_step (x := 17) J17 (by omega) rfl
  obtain ⟨μ19, J19, E19⟩ := i3_step (x := 18) J18 (by omega) rfl
  obtain ⟨μ20, J20, E20⟩ := i3_step (x := 19) J19 (by omega) rfl
  obtain ⟨μ21, J21, E21⟩ := i3_step (x := 20) J20 (by omega) rfl
  obtain ⟨μ22, J22, E22⟩ := i3_step (x := 21) J21 (by omega) rfl
  obtain ⟨μ23, J23, E23⟩ := i3_step (x := 22) J22 (by omega) rfl
  obtain ⟨μ24, J24, E24⟩ := i3_step (x := 23) J23 (by omega) rfl
  refine ⟨sP μ24 h 8 (mP μ24 h 2), ?_, ?_⟩
  · have x6' : mX (sP y6 h 2 (h + 2)) = h + 7 := x6
    have x11' : mX (sP y11 h 3 (h + 7)) = h + 9 := x11
    unfold fX3_init
    rw [st_ap, if_pos (show mK (sN μ 22 24) h = 4 by rw [mK_sN, if_neg (by omega)]; exact hk), st_ap, st_ap, hx, e3, if_pos (show mK (sN (sP (sN μ 22 24) h 1 (h + 1)) 3 0) (h + 2) = 3 by rw [mK_sN, if_pos e3.symm]), r6, Option.bind_some, if_pos k6, st_ap, st_ap, x6', if_pos (show mK (sN (sP y6 h 2 (h + 2)) 5 0) (h + 7) = 5 by rw [mK_sN, if_pos x6'.symm]), r11, Option.bind_some, if_pos k11, st_ap, st_ap, x11', if_pos (show mK (sN (sP y11 h 3 (h + 7)) 5 0) (h + 9) = 5 by rw [mK_sN, if_pos x11'.symm]), r16, Option.bind_some, if_pos k16, st_ap, st_ap]
    refine (E1 _).trans ?_
    refine (E2 _).trans ?_
    refine (E3 _).trans ?_
    refine (E4 _).trans ?_
    refine (E5 _).trans ?_
    refine (E6 _).trans ?_
    refine (E7 _).trans ?_
    refine (E8 _).trans ?_
    refine (E9 _).trans ?_
    refine (E10 _).trans ?_
    refine (E11 _).trans ?_
    refine (E12 _).trans ?_
    refine (E13 _).trans ?_
    refine (E14 _).trans ?_
    refine (E15 _).trans ?_
    refine (E16 _).trans ?_
    refine (E17 _).trans ?_
    refine (E18 _).trans ?_
    refine (E19 _).trans ?_
    refine (E20 _).trans ?_
    refine (E21 _).trans ?_
    refine (E22 _).trans ?_
    refine (E23 _).trans ?_
    refine (E24 _).trans ?_
    rw [st_ap]
  · obtain ⟨j1, ⟨a1, a2, a3, a4, a5, a6, a7, a8⟩, j3, j4, j5, j6, j7, j8⟩ := J24
    refine ⟨j1, ⟨a1, by rw [mP_sP, if_neg (by omega)]; exact a2, by rw [mP_sP, if_neg (by omega)]; exact a3, by rw [mP_sP, if_neg (by omega)]; exact a4, by rw [mP_sP, if_neg (by omega)]; exact a5, by rw [mP_sP, if_neg (by omega)]; exact a6, a7, a8⟩, fun n hn => by rw [mP_sP, if_neg (by omega)]; exact j3 n hn, fun n hn => ⟨(j4 n hn).1.sm fun a p q => sm4.P ?_, (j4 n hn).2⟩, j5.sm fun a p q => sm4.P (by omega), j6.sm fun a p q => sm4.P (by omega), j7, fun a p => (j8 a p).tr (sm4.P (by omega))⟩
    have := tCo_in (c := h) (n := n) (by omega)
    omega
/-- the model's machine, read off the memory -/
def m0 (h : Nat) (μ : MM) : gM := (fun n => (fun j => mI μ (tCo h n) j, fun i => mI μ (tCo h n + 1) i, []), (0, 0, mI μ h 7), [], [])
theorem i3_tie {h b : Nat} {μ0 μ : MM} (J : i3J h b 24 μ0 μ) : tM h μ (m0 h μ) := by
  obtain ⟨j1, ⟨a1, a2, a3, a4, a5, a6, a7, a8⟩, j3, j4, j5, j6, j7, j8⟩ := J
  have lo : ∀ n, n ≤ 24 → h + 2 ≤ tCo h n ∧ tCo h n + 5 ≤ h + 131 := fun n hn => tCo_in hn
  have z := fun a j p q r => j7 a j p (show a < h + 11 + 5 * 24 from q) r
  refine ⟨⟨⟨a1, a3, a4, a5, a6, a7, a8⟩, j3, fun n hn => (j4 n (by omega)).1, j5, j6⟩, ⟨z h 5 (by omega) (by omega) (by decide), z h 6 (by omega) (by omega) (by decide), rfl⟩, ⟨by show 0 ≤ 24; omega, z (h + 7) 1 (by omega) (by omega) (by decide), fun i v q => absurd q (by show ¬ ([] : List Int32)[i]? = some v; rw [List.getElem?_nil]; exact nofun)⟩, ⟨by show 0 ≤ 24; omega, z (h + 9) 1 (by omega) (by omega) (by decide), fun i v q => absurd q (by show ¬ ([] : List Int32)[i]? = some v; rw [List.getElem?_nil]; exact nofun)⟩, fun n hn => ⟨(j4 n (by omega)).2, fun _ _ _ _ => rfl, fun _ _ => rfl, by show 0 ≤ 6; omega, ?_, fun i s w q => absurd q (by show ¬ ([] : List (Int32 × Int32)).reverse[i]? = some (s, w); rw [List.reverse_nil, List.getElem?_nil]; exact nofun)⟩⟩
  have := lo n hn
  exact z (tCo h n + 2) 2 (by omega) (by omega) (by decide)
