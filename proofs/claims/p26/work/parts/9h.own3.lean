def gB1 (h nb : Nat) (M : gM) (x : Option (Int32 × MM)) : Prop := ∃ ν B', x = some (1, ν) ∧ bI h nb ν B' M
theorem line_bind {h nb b : Nat} {μ : MM} {B : gB} {M : gM} {x a c : Int32} (I : bI h nb μ B M) (hb : b < nb) (hl : (B.2 b).length < 12) (F : gFit (B.2 b).length x a c) : gB1 h nb M ((fX7_isLine (h + 301) h (Int32.ofNat b) x a c μ).bind fun y => if y.1 = 0 ∨ y.1 = 1 then some (y.1, y.2) else none) := by
  obtain ⟨ν, B', e, J⟩ := isLine_ok I hb hl F
  refine ⟨ν, B', ?_, J⟩
  rw [e, Option.bind_some, if_pos (show (1 : Int32) = 0 ∨ (1 : Int32) = 1 from Or.inr rfl)]
theorem bel {x n : Int32} (m : Nat) (hn : n.toInt = m) (hm : 0 < m) (μ : MM) : ∃ g, fL_below x n μ = some (Int32.ofNat g, μ) ∧ g < m ∧ ∀ ν, fL_below x n ν = some (Int32.ofNat g, ν) := by
  have a := below_ok (x := x) (n := n) (by omega)
  exact ⟨gBl x n, (a μ).1, by have := (a μ).2; omega, fun ν => (a ν).1⟩
set_option maxHeartbeats 2000000 in
theorem drawn_ok {h nb b : Nat} {μ : MM} {B : gB} {M : gM} (z : Int32) (I : bI h nb μ B M) (hb : b < nb) : gB1 h nb M (fX7_isDrawn (h + 301) h (Int32.ofNat b) z (h + 312) μ) := by
  obtain ⟨Y, h0, ⟨b1, b2, b3, b4⟩, ⟨⟨o1, o2, o3, o4, o5⟩, ⟨p1, p2, p3⟩, ⟨q1, q2, q3⟩, r⟩, d1, d2, d3⟩ := id I
  have q4 := q3 b (by omega)
  have gb : (Int32.ofNat b).toNatClampNeg = b := g_nat (by omega)
  have z8 : ¬ (Int32.ofNat b < 0 ∨ 8 ≤ b) := fun z => z.elim (lt0_nat (by omega)) (by omega)
  have hl12 : (B.2 b).length ≤ 12 := (b3 b (by omega)).1
  obtain ⟨j, ej, hj, -⟩ := bel (x := z) (n := Int32.ofNat 20) 20 rfl (by omega) μ
  have gj : (Int32.ofNat j).toNatClampNeg = j := g_nat (by omega)
  have zj : ¬ (Int32.ofNat j < 0 ∨ 20 ≤ j) := fun z => z.elim (lt0_nat (by omega)) (by omega)
  obtain ⟨v, ev, hv⟩ := d3 j hj
  unfold fX7_isDrawn
  rw [if_pos d1, d2, ej, Option.bind_some]
  dsimp only
  rw [gj, d2, if_pos zj, o4, if_pos q1, gb, q2, if_pos z8, q4]
  by_cases h12 : Int32.ofNat (B.2 b).length = 12
  · rw [if_pos h12]
    exact ⟨μ, B, rfl, I⟩
  have hl : (B.2 b).length < 12 := by
    have : (B.2 b).length ≠ 12 := fun e => h12 (by rw [e]; rfl)
    omega
  obtain ⟨g4, e4, hg4, -⟩ := bel (x := z >>> (6 &&& 31)) (n := 4) 4 rfl (by omega) μ
  rw [if_neg h12, e4, Option.bind_some, ev]
  dsimp only
  have D := fun {x a c : Int32} (F : gFit (B.2 b).length x a c) => line_bind I hb hl F
  generalize hlen : (B.2 b).length = len at *
  have T : ∀ {n : Nat}, n < 100 → (Int32.ofNat n).toInt = n := fun hn => Int32.toInt_ofNat_of_lt (by omega)
  have c10 : (10 : Int32).toInt = 10 := rfl
  have c1 : (1 : Int32).toInt = 1 := rfl
  have c0 : (0 : Int32).toInt = 0 := rfl
  have c12 : (12 : Int32).toInt = 12 := rfl
  have jl : ((len : Int) + 1 ≤ (jmin 12 ((Int32.ofNat len + 1) + Int32.ofNat g4)).toInt) ∧ (jmin 12 ((Int32.ofNat len + 1) + Int32.ofNat g4)).toInt ≤ 12 := by
    rw [g_suc, ← Int32.ofNat_add, jmin_T, c12, T (by omega)]
    split <;> omega
  have cases : v = 0 ∨ v = 1 ∨ v = 2 ∨ v = 3 ∨ v = 4 ∨ v = 5 ∨ v = 6 ∨ v = 7 ∨ v = 8 ∨ v = 9 ∨ v = 10 ∨ v = 11 ∨ v = 12 ∨ v = 13 ∨ v = 14 ∨ v = 15 := by omega
  obtain ⟨g21, e21, hg21, -⟩ := bel (x := z >>> (4 &&& 31)) (n := 21) 21 rfl (by omega) μ
  obtain ⟨g3, e3, hg3, -⟩ := bel (x := z >>> (4 &&& 31)) (n := 3) 3 rfl (by omega) μ
  obtain ⟨g2, e2, hg2, -⟩ := bel (x := z >>> (4 &&& 31)) (n := 2) 2 rfl (by omega) μ
  obtain ⟨g7, e7, hg7, -⟩ := bel (x := z >>> (4 &&& 31)) (n := 7) 7 rfl (by omega) μ
  have p7 : ((1 : Int32) + Int32.ofNat g7).toInt = 1 + g7 := by rw [i_add (by rw [c1, T (by omega)]; omega) (by rw [c1, T (by omega)]; omega), c1, T (by omega)]
  have p3' : ((1 : Int32) + Int32.ofNat g3).toInt = 1 + g3 := by rw [i_add (by rw [c1, T (by omega)]; omega) (by rw [c1, T (by omega)]; omega), c1, T (by omega)]
  have s10 : (Int32.ofNat g21 - 10).toInt = g21 - 10 := by rw [i_sub (by rw [c10, T (by omega)]; omega) (by rw [c10, T (by omega)]; omega), c10, T (by omega)]
  have l4 : 0 ≤ (jmax 0 (Int32.ofNat len - Int32.ofNat g4)).toInt ∧ (jmax 0 (Int32.ofNat len - Int32.ofNat g4)).toInt ≤ len := by
    have : (Int32.ofNat len - Int32.ofNat g4).toInt = len - g4 := by rw [i_sub (by rw [T (by omega), T (by omega)]; omega) (by rw [T (by omega), T (by omega)]; omega), T (by omega), T (by omega)]
    rw [jmax_T, c0, this]
    split <;> omega
  have x10 : ∀ kd : Int32, kd = 10 ∨ kd = 14 → gB1 h nb M (if Int32.ofNat b = 0 then ((fX7_isLine (h + 301) h (Int32.ofNat b) kd 7 0 μ).bind fun y39 => if y39.1 = 0 ∨ y39.1 = 1 then some (y39.1, y39.2) else none) else ((fL_below (z >>> (4 &&& 31)) (Int32.ofNat b) μ).bind fun y36 => (fX7_isLine (h + 301) h (Int32.ofNat b) kd y36.1 0 y36.2).bind fun y37 => if y37.1 = 0 ∨ y37.1 = 1 then some (y37.1, y37.2) else none)) := fun kd hk => by
    have c7 : (7 : Int32).toInt = 7 := rfl
    by_cases e : b = 0
    · rw [if_pos (by rw [e]; rfl)]
      exact D (Or.inr (Or.inr (Or.inr (Or.inr (Or.inr (Or.inr (Or.inr (Or.inl ⟨hk, by omega, rfl⟩))))))))
    · obtain ⟨gx, ex, hgx, -⟩ := bel (x := z >>> (4 &&& 31)) (n := Int32.ofNat b) b (T (by omega)) (by omega) μ
      rw [if_neg (show ¬ Int32.ofNat b = 0 from fun q => e (n_inj (a := b) (b := 0) (by omega) (by omega) q)), ex, Option.bind_some]
      exact D (Or.inr (Or.inr (Or.inr (Or.inr (Or.inr (Or.inr (Or.inr (Or.inl ⟨hk, by rw [T (by omega)]; omega, rfl⟩))))))))
  rcases cases with rfl | rfl | rfl | rfl | rfl | rfl | rfl | rfl | rfl | rfl | rfl | rfl | rfl | rfl | rfl | rfl
  · rw [if_pos (by decide), e21, Option.bind_some]
    exact D (Or.inl ⟨rfl, by dsimp only; omega, rfl⟩)
  · rw [if_neg (by decide), if_pos (by decide), e3, Option.bind_some]
    exact D (Or.inr (Or.inl ⟨Or.inl rfl, by dsimp only; rw [T (by omega)]; omega, rfl⟩))
  · rw [if_neg (by decide), if_pos (by decide), e3, Option.bind_some]
    exact D (Or.inr (Or.inl ⟨Or.inr rfl, by dsimp only; rw [T (by omega)]; omega, rfl⟩))
  · rw [if_neg (by decide), if_neg (by decide), if_neg (by decide), if_neg (by decide), if_neg (by decide), if_neg (by decide), if_neg (by decide), if_neg (by decide), if_neg (by decide)]
    exact D (Or.inr (Or.inr (Or.inl ⟨Or.inl rfl, rfl, rfl⟩)))
  · rw [if_neg (by decide), if_neg (by decide), if_pos (by decide), e3, Option.bind_some]
    dsimp only
    rw [e4, Option.bind_some]
    exact D (Or.inr (Or.inr (Or.inr (Or.inl ⟨rfl, by rw [T (by omega)]; omega, l4⟩))))
  · rw [if_neg (by decide), if_neg (by decide), if_neg (by decide), if_pos (by decide)]
    exact D (Or.inr (Or.inr (Or.inr (Or.inr (Or.inl ⟨Or.inl rfl, rfl, jl⟩)))))
  · rw [if_neg (by decide), if_neg (by decide), if_neg (by decide), if_neg (by decide), if_pos (by decide), e2, Option.bind_some]
    exact D (Or.inr (Or.inr (Or.inr (Or.inr (Or.inr (Or.inl ⟨rfl, by dsimp only; rw [T (by omega)]; omega, jl⟩))))))
  · rw [if_neg (by decide), if_neg (by decide), if_neg (by decide), if_pos (by decide)]
    exact D (Or.inr (Or.inr (Or.inr (Or.inr (Or.inl ⟨Or.inr rfl, rfl, jl⟩)))))
  · rw [if_neg (by decide), if_neg (by decide), if_neg (by decide), if_neg (by decide), if_neg (by decide), if_neg (by decide), if_neg (by decide), if_neg (by decide), if_neg (by decide)]
    exact D (Or.inr (Or.inr (Or.inl ⟨Or.inr (Or.inl rfl), rfl, rfl⟩)))
  · rw [if_neg (by decide), if_neg (by decide), if_neg (by decide), if_neg (by decide), if_neg (by decide), if_pos (by decide), e7, Option.bind_some]
    exact D (Or.inr (Or.inr (Or.inr (Or.inr (Or.inr (Or.inr (Or.inl ⟨rfl, by dsimp only; omega, rfl⟩)))))))
  · rw [if_neg (by decide), if_neg (by decide), if_neg (by decide), if_neg (by decide), if_neg (by decide), if_neg (by decide), if_pos (by decide)]
    exact x10 _ (Or.inl rfl)
  · rw [if_neg (by decide), if_neg (by decide), if_neg (by decide), if_neg (by decide), if_neg (by decide), if_neg (by decide), if_neg (by decide), if_neg (by decide), if_neg (by decide)]
    exact D (Or.inr (Or.inr (Or.inl ⟨Or.inr (Or.inr (Or.inl rfl)), rfl, rfl⟩)))
  · rw [if_neg (by decide), if_neg (by decide), if_neg (by decide), if_neg (by decide), if_neg (by decide), if_neg (by decide), if_neg (by decide), if_pos (by decide), e3, Option.bind_some]
    exact D (Or.inr (Or.inr (Or.inr (Or.inr (Or.inr (Or.inr (Or.inr (Or.inr (Or.inl ⟨rfl, by dsimp only; omega, rfl⟩)))))))))
  · rw [if_neg (by decide), if_neg (by decide), if_neg (by decide), if_neg (by decide), if_neg (by decide), if_neg (by decide), if_neg (by decide), if_neg (by decide), if_neg (by decide)]
    exact D (Or.inr (Or.inr (Or.inl ⟨Or.inr (Or.inr (Or.inr rfl)), rfl, rfl⟩)))
  · rw [if_neg (by decide), if_neg (by decide), if_neg (by decide), if_neg (by decide), if_neg (by decide), if_neg (by decide), if_pos (by decide)]
    exact x10 _ (Or.inr rfl)
  · rw [if_neg (by decide), if_neg (by decide), if_neg (by decide), if_neg (by decide), if_neg (by decide), if_neg (by decide), if_neg (by decide), if_neg (by decide), if_pos (by decide), e2, Option.bind_some]
    exact D (Or.inr (Or.inr (Or.inr (Or.inr (Or.inr (Or.inr (Or.inr (Or.inr (Or.inr ⟨rfl, by dsimp only; rw [T (by omega)]; omega, rfl⟩)))))))))
