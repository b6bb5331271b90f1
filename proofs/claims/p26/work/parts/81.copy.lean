/-! A TRIAL: the copy of a machine -/
theorem st_eq {α : Type} {x y : MM} {f : MM → α} {r : α} (e : y = x) (h : f y = r) : st x f = r := by
  subst e
  exact h
/-- of the heap, ints alone, and those of a coroutine's five cells alone -/
def tU (q : Nat) (μ ν : MM) : Prop := mK ν = mK μ ∧ mN ν = mN μ ∧ mX ν = mX μ ∧ mP ν = mP μ ∧ ∀ a j, ¬ (q ≤ a ∧ a < q + 5) → mI ν a j = mI μ a j
theorem tU.rf {q : Nat} {μ : MM} : tU q μ μ := ⟨rfl, rfl, rfl, rfl, fun _ _ _ => rfl⟩
theorem tU.tr {q : Nat} {μ ν ω : MM} (h : tU q μ ν) (g : tU q ν ω) : tU q μ ω := ⟨g.1.trans h.1, g.2.1.trans h.2.1, g.2.2.1.trans h.2.2.1, g.2.2.2.1.trans h.2.2.2.1, fun a j x => (g.2.2.2.2 a j x).trans (h.2.2.2.2 a j x)⟩
theorem tU.I {q a j : Nat} {μ : MM} {v : Int32} (h1 : q ≤ a) (h2 : a < q + 5) : tU q μ (sI μ a j v) := ⟨rfl, rfl, rfl, rfl, fun b i hb => by rw [mI_sI, if_neg (by omega)]⟩
theorem tU.C {q a s n : Nat} {μ : MM} (h1 : q ≤ a) (h2 : a < q + 5) : tU q μ (sC μ s a n) := ⟨rfl, rfl, rfl, rfl, fun b i hb => by rw [mI_sC, if_neg (by omega)]⟩
theorem cpF {q s j : Nat} {μ ν : MM} (U : tU q μ ν) (hs : q + 5 ≤ s ∨ s + 5 ≤ q) : ∃ ω, ω = sI ν q j (mI ν s j) ∧ tU q μ ω ∧ mI ω q j = mI μ s j ∧ ∀ a i, ¬ (a = q ∧ i = j) → mI ω a i = mI ν a i :=
  ⟨_, rfl, U.tr (tU.I (by omega) (by omega)), by rw [mI_sI, if_pos ⟨rfl, rfl⟩]; exact U.2.2.2.2 s j (by omega), fun a i h => by rw [mI_sI, if_neg h]⟩
theorem cpA {q s d e n : Nat} {μ ν : MM} (U : tU q μ ν) (hd : q ≤ d) (hd2 : d < q + 5) (he : ¬ (q ≤ e ∧ e < q + 5)) : ∃ ω, ω = sC ν e d n ∧ tU q μ ω ∧ (∀ i, i < n → mI ω d i = mI μ e i) ∧ ∀ a i, a ≠ d → mI ω a i = mI ν a i :=
  ⟨_, rfl, U.tr (tU.C hd hd2), fun i hi => by rw [mI_sC, if_pos ⟨rfl, hi⟩]; exact U.2.2.2.2 e i he, fun a i h => by rw [mI_sC, if_neg (fun z => h z.1)]⟩
theorem r_copyC {q s n n' : Nat} {μ : MM} {x : gCo} (hq : tLayC q μ) (hs : tLayC s μ) (hd : q + 5 ≤ s ∨ s + 5 ≤ q) (hn : mI μ q 0 = gNum n) (h : tC s μ n' x) (h15 : x.1 15 = 0 ∨ x.1 15 = 1) : ∃ ν, fX2_copyFrom q s μ = some ν ∧ tC q ν n x ∧ tU q μ ν := by
  obtain ⟨a1, a2, a3, a4, a5, a6, a7, a8, a9, a10, a11, a12⟩ := hq
  obtain ⟨b1, b2, b3, b4, b5, b6, b7, b8, b9, b10, b11, b12⟩ := hs
  obtain ⟨h1, h2, h3, h4, h5, h6⟩ := h
  have e4 : (4 : Int32).toNatClampNeg = 4 := rfl
  have e6 : (6 : Int32).toNatClampNeg = 6 := rfl
  obtain ⟨m1, f1, U1, v1, k1⟩ := cpA (s := s) (d := q + 1) (e := s + 1) (n := 4) (tU.rf (q := q) (μ := μ)) (by omega) (by omega) (by omega)
  obtain ⟨m2, f2, U2, v2, k2⟩ := cpA (s := s) (d := q + 3) (e := s + 3) (n := 6) U1 (by omega) (by omega) (by omega)
  obtain ⟨m3, f3, U3, v3, k3⟩ := cpA (s := s) (d := q + 4) (e := s + 4) (n := 6) U2 (by omega) (by omega) (by omega)
  have U4 : tU q μ (sI m3 (q + 2) 2 (mI m3 (s + 2) 2)) := U3.tr (tU.I (by omega) (by omega))
  have v4 : mI (sI m3 (q + 2) 2 (mI m3 (s + 2) 2)) (q + 2) 2 = mI μ (s + 2) 2 := by rw [mI_sI, if_pos ⟨rfl, rfl⟩]; exact U3.2.2.2.2 _ _ (by omega)
  have k4 : ∀ a i, a ≠ q + 2 → mI (sI m3 (q + 2) 2 (mI m3 (s + 2) 2)) a i = mI m3 a i := fun a i z => by rw [mI_sI, if_neg (fun w => z w.1)]
  have stk : fX5_copyFrom (q + 2) (s + 2) m1 = some (sI m3 (q + 2) 2 (mI m3 (s + 2) 2)) := by
    unfold fX5_copyFrom
    rw [U1.1, U1.2.1, U1.2.2.2.1, if_pos b6, b7, if_pos b9, a7, if_pos a9, e6, b10, if_pos (Nat.le_refl _), a10, if_pos (Nat.le_refl _)]
    refine st_eq f2 ?_
    rw [U2.2.1, U2.2.2.2.1, b8, if_pos b11, a8, if_pos a11, b12, if_pos (Nat.le_refl _), a12, if_pos (Nat.le_refl _)]
    refine st_eq f3 ?_
    rfl
  generalize sI m3 (q + 2) 2 (mI m3 (s + 2) 2) = m4 at U4 v4 k4 stk
  obtain ⟨w3, f3x, U3x, v3x, k3x⟩ := cpF (j := 3) U4 hd
  obtain ⟨w4, f4x, U4x, v4x, k4x⟩ := cpF (j := 4) U3x hd
  obtain ⟨w5, f5x, U5x, v5x, k5x⟩ := cpF (j := 5) U4x hd
  obtain ⟨w6, f6x, U6x, v6x, k6x⟩ := cpF (j := 6) U5x hd
  obtain ⟨w7, f7x, U7x, v7x, k7x⟩ := cpF (j := 7) U6x hd
  obtain ⟨w9, f9x, U9x, v9x, k9x⟩ := cpF (j := 9) U7x hd
  obtain ⟨w10, f10x, U10x, v10x, k10x⟩ := cpF (j := 10) U9x hd
  obtain ⟨w11, f11x, U11x, v11x, k11x⟩ := cpF (j := 11) U10x hd
  obtain ⟨w12, f12x, U12x, v12x, k12x⟩ := cpF (j := 12) U11x hd
  obtain ⟨w13, f13x, U13x, v13x, k13x⟩ := cpF (j := 13) U12x hd
  obtain ⟨w14, f14x, U14x, v14x, k14x⟩ := cpF (j := 14) U13x hd
  obtain ⟨w15, f15x, U15x, v15x, k15x⟩ := cpF (j := 15) U14x hd
  obtain ⟨w16, f16x, U16x, v16x, k16x⟩ := cpF (j := 16) U15x hd
  refine ⟨w16, ?_, ⟨?_, ?_, ?_, h4, ?_, ?_⟩, U16x⟩
  · unfold fX2_copyFrom
    rw [if_pos b1, b2, if_pos b4, a2, if_pos a4, e4, b5, if_pos (Nat.le_refl _), a5, if_pos (Nat.le_refl _)]
    refine st_eq f1 ?_
    rw [U1.2.2.2.1, a3, if_pos a6, b3, stk]
    simp only [Option.bind_some]
    refine st_eq f3x ?_
    refine st_eq f4x ?_
    refine st_eq f5x ?_
    refine st_eq f6x ?_
    refine st_eq f7x ?_
    refine st_eq f9x ?_
    refine st_eq f10x ?_
    refine st_eq f11x ?_
    refine st_eq f12x ?_
    refine st_eq f13x ?_
    refine st_eq f14x ?_
    rw [show mI w14 s 15 = x.1 15 from (U14x.2.2.2.2 s 15 (by omega)).trans (h2 15 (by omega) (by omega) (by omega))]
    rw [if_pos h15, ← show mI w14 s 15 = x.1 15 from (U14x.2.2.2.2 s 15 (by omega)).trans (h2 15 (by omega) (by omega) (by omega))]
    refine st_eq f15x ?_
    refine st_eq f16x ?_
    rfl
  · exact (k16x (q) 0 (by omega)).trans ((k15x (q) 0 (by omega)).trans ((k14x (q) 0 (by omega)).trans ((k13x (q) 0 (by omega)).trans ((k12x (q) 0 (by omega)).trans ((k11x (q) 0 (by omega)).trans ((k10x (q) 0 (by omega)).trans ((k9x (q) 0 (by omega)).trans ((k7x (q) 0 (by omega)).trans ((k6x (q) 0 (by omega)).trans ((k5x (q) 0 (by omega)).trans ((k4x (q) 0 (by omega)).trans ((k3x (q) 0 (by omega)).trans ((k4 q 0 (by omega)).trans ((k3 q 0 (by omega)).trans ((k2 q 0 (by omega)).trans ((k1 q 0 (by omega)).trans hn))))))))))))))))
  · intro j j3 j16 j8
    obtain rfl | rfl | rfl | rfl | rfl | rfl | rfl | rfl | rfl | rfl | rfl | rfl | rfl : j = 3 ∨ j = 4 ∨ j = 5 ∨ j = 6 ∨ j = 7 ∨ j = 9 ∨ j = 10 ∨ j = 11 ∨ j = 12 ∨ j = 13 ∨ j = 14 ∨ j = 15 ∨ j = 16 := by omega
    · exact (k16x (q) 3 (by omega)).trans ((k15x (q) 3 (by omega)).trans ((k14x (q) 3 (by omega)).trans ((k13x (q) 3 (by omega)).trans ((k12x (q) 3 (by omega)).trans ((k11x (q) 3 (by omega)).trans ((k10x (q) 3 (by omega)).trans ((k9x (q) 3 (by omega)).trans ((k7x (q) 3 (by omega)).trans ((k6x (q) 3 (by omega)).trans ((k5x (q) 3 (by omega)).trans ((k4x (q) 3 (by omega)).trans (v3x.trans (h2 3 (by omega) (by omega) (by omega))))))))))))))
    · exact (k16x (q) 4 (by omega)).trans ((k15x (q) 4 (by omega)).trans ((k14x (q) 4 (by omega)).trans ((k13x (q) 4 (by omega)).trans ((k12x (q) 4 (by omega)).trans ((k11x (q) 4 (by omega)).trans ((k10x (q) 4 (by omega)).trans ((k9x (q) 4 (by omega)).trans ((k7x (q) 4 (by omega)).trans ((k6x (q) 4 (by omega)).trans ((k5x (q) 4 (by omega)).trans (v4x.trans (h2 4 (by omega) (by omega) (by omega)))))))))))))
    · exact (k16x (q) 5 (by omega)).trans ((k15x (q) 5 (by omega)).trans ((k14x (q) 5 (by omega)).trans ((k13x (q) 5 (by omega)).trans ((k12x (q) 5 (by omega)).trans ((k11x (q) 5 (by omega)).trans ((k10x (q) 5 (by omega)).trans ((k9x (q) 5 (by omega)).trans ((k7x (q) 5 (by omega)).trans ((k6x (q) 5 (by omega)).trans (v5x.trans (h2 5 (by omega) (by omega) (by omega))))))))))))
    · exact (k16x (q) 6 (by omega)).trans ((k15x (q) 6 (by omega)).trans ((k14x (q) 6 (by omega)).trans ((k13x (q) 6 (by omega)).trans ((k12x (q) 6 (by omega)).trans ((k11x (q) 6 (by omega)).trans ((k10x (q) 6 (by omega)).trans ((k9x (q) 6 (by omega)).trans ((k7x (q) 6 (by omega)).trans (v6x.trans (h2 6 (by omega) (by omega) (by omega)))))))))))
    · exact (k16x (q) 7 (by omega)).trans ((k15x (q) 7 (by omega)).trans ((k14x (q) 7 (by omega)).trans ((k13x (q) 7 (by omega)).trans ((k12x (q) 7 (by omega)).trans ((k11x (q) 7 (by omega)).trans ((k10x (q) 7 (by omega)).trans ((k9x (q) 7 (by omega)).trans (v7x.trans (h2 7 (by omega) (by omega) (by omega))))))))))
    · exact (k16x (q) 9 (by omega)).trans ((k15x (q) 9 (by omega)).trans ((k14x (q) 9 (by omega)).trans ((k13x (q) 9 (by omega)).trans ((k12x (q) 9 (by omega)).trans ((k11x (q) 9 (by omega)).trans ((k10x (q) 9 (by omega)).trans (v9x.trans (h2 9 (by omega) (by omega) (by omega)))))))))
    · exact (k16x (q) 10 (by omega)).trans ((k15x (q) 10 (by omega)).trans ((k14x (q) 10 (by omega)).trans ((k13x (q) 10 (by omega)).trans ((k12x (q) 10 (by omega)).trans ((k11x (q) 10 (by omega)).trans (v10x.trans (h2 10 (by omega) (by omega) (by omega))))))))
    · exact (k16x (q) 11 (by omega)).trans ((k15x (q) 11 (by omega)).trans ((k14x (q) 11 (by omega)).trans ((k13x (q) 11 (by omega)).trans ((k12x (q) 11 (by omega)).trans (v11x.trans (h2 11 (by omega) (by omega) (by omega)))))))
    · exact (k16x (q) 12 (by omega)).trans ((k15x (q) 12 (by omega)).trans ((k14x (q) 12 (by omega)).trans ((k13x (q) 12 (by omega)).trans (v12x.trans (h2 12 (by omega) (by omega) (by omega))))))
    · exact (k16x (q) 13 (by omega)).trans ((k15x (q) 13 (by omega)).trans ((k14x (q) 13 (by omega)).trans (v13x.trans (h2 13 (by omega) (by omega) (by omega)))))
    · exact (k16x (q) 14 (by omega)).trans ((k15x (q) 14 (by omega)).trans (v14x.trans (h2 14 (by omega) (by omega) (by omega))))
    · exact (k16x (q) 15 (by omega)).trans (v15x.trans (h2 15 (by omega) (by omega) (by omega)))
    · exact v16x.trans (h2 16 (by omega) (by omega) (by omega))
  · intro i hi
    exact (k16x (q + 1) i (by omega)).trans ((k15x (q + 1) i (by omega)).trans ((k14x (q + 1) i (by omega)).trans ((k13x (q + 1) i (by omega)).trans ((k12x (q + 1) i (by omega)).trans ((k11x (q + 1) i (by omega)).trans ((k10x (q + 1) i (by omega)).trans ((k9x (q + 1) i (by omega)).trans ((k7x (q + 1) i (by omega)).trans ((k6x (q + 1) i (by omega)).trans ((k5x (q + 1) i (by omega)).trans ((k4x (q + 1) i (by omega)).trans ((k3x (q + 1) i (by omega)).trans ((k4 (q + 1) i (by omega)).trans ((k3 (q + 1) i (by omega)).trans ((k2 (q + 1) i (by omega)).trans ((v1 i hi).trans (h3 i hi)))))))))))))))))
  · exact (k16x (q + 2) 2 (by omega)).trans ((k15x (q + 2) 2 (by omega)).trans ((k14x (q + 2) 2 (by omega)).trans ((k13x (q + 2) 2 (by omega)).trans ((k12x (q + 2) 2 (by omega)).trans ((k11x (q + 2) 2 (by omega)).trans ((k10x (q + 2) 2 (by omega)).trans ((k9x (q + 2) 2 (by omega)).trans ((k7x (q + 2) 2 (by omega)).trans ((k6x (q + 2) 2 (by omega)).trans ((k5x (q + 2) 2 (by omega)).trans ((k4x (q + 2) 2 (by omega)).trans ((k3x (q + 2) 2 (by omega)).trans (v4.trans h5)))))))))))))
  · intro i a b hk
    have hi : i < 6 := by
      have := (List.getElem?_eq_some_iff.mp hk).1
      rw [List.length_reverse] at this
      omega
    obtain ⟨c1, c2⟩ := h6 i a b hk
    refine ⟨(k16x (q + 3) i (by omega)).trans ((k15x (q + 3) i (by omega)).trans ((k14x (q + 3) i (by omega)).trans ((k13x (q + 3) i (by omega)).trans ((k12x (q + 3) i (by omega)).trans ((k11x (q + 3) i (by omega)).trans ((k10x (q + 3) i (by omega)).trans ((k9x (q + 3) i (by omega)).trans ((k7x (q + 3) i (by omega)).trans ((k6x (q + 3) i (by omega)).trans ((k5x (q + 3) i (by omega)).trans ((k4x (q + 3) i (by omega)).trans ((k3x (q + 3) i (by omega)).trans ((k4 (q + 3) i (by omega)).trans ((k3 (q + 3) i (by omega)).trans ((v2 i hi).trans c1))))))))))))))), fun z => (k16x (q + 4) i (by omega)).trans ((k15x (q + 4) i (by omega)).trans ((k14x (q + 4) i (by omega)).trans ((k13x (q + 4) i (by omega)).trans ((k12x (q + 4) i (by omega)).trans ((k11x (q + 4) i (by omega)).trans ((k10x (q + 4) i (by omega)).trans ((k9x (q + 4) i (by omega)).trans ((k7x (q + 4) i (by omega)).trans ((k6x (q + 4) i (by omega)).trans ((k5x (q + 4) i (by omega)).trans ((k4x (q + 4) i (by omega)).trans ((k3x (q + 4) i (by omega)).trans ((k4 (q + 4) i (by omega)).trans ((v3 i hi).trans (c2 z)))))))))))))))⟩
