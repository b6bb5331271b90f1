/-- wayInstead: the way, what it returns, how the call stands -/
def gInstead (B : gB) (T : gT) (n : Nat) : Int32 × Int32 × gT :=
  if gHL (B.2 (gBody (gf T.1 n 3))) (gf T.1 n 6) = false then (-4, gf T.1 n 7, T)
  else if T.2.2.1.2 < 200 ∨ T.2.2.2.1 = true then
    (if T.2.2.1.2 < 300 then (0, 0, (gfS T.1 n 11 (gf T.1 n 11 + 1), T.2.1, (T.2.2.1.1, T.2.2.1.2 + 1), T.2.2.2)) else (11, 0, (gkS T.1 n [], T.2)))
  else (11, 0, (T.1, T.2.1, T.2.2.1, true, T.2.2.2.2))
theorem r_inst2 {c n : Nat} {μ : MM} {T : gT} (h : tM c μ T.1) (hX : tX c μ T) (hn : n ≤ 24) : ∃ ν, bX3_wayInstead_51 c (tCo c n) μ = some (if T.2.2.1.2 < 300 then 0 else 11, ν) ∧
    (let T' : gT := if T.2.2.1.2 < 300 then (gfS T.1 n 11 (gf T.1 n 11 + 1), T.2.1, (T.2.2.1.1, T.2.2.1.2 + 1), T.2.2.2) else (gkS T.1 n [], T.2)
     tM c ν T'.1 ∧ tX c ν T') ∧ tF c μ ν := by
  obtain ⟨x1, x2, x3, x4, x5⟩ := hX
  have hin := tCo_in (c := c) hn
  obtain ⟨l1, -, l3, -, -, l6, -⟩ := h.lay hn
  unfold bX3_wayInstead_51
  rw [if_pos h.1.1.1, x3]
  by_cases q : T.2.2.1.2 < 300
  · rw [if_pos q, if_pos q, if_pos q]
    obtain ⟨a1, a2⟩ := r_T h (j := 10) (T.2.2.1.2 + 1) (by omega)
    obtain ⟨b1, b2, b3⟩ := r_F a1 hn 11 (gf T.1 n 11 + 1) (by omega) (by omega) (by omega)
    have e11 : mI (sI μ c 10 (T.2.2.1.2 + 1)) (tCo c n) 11 = gf T.1 n 11 := a1.rd hn (by omega) (by omega) (by omega)
    refine ⟨sI (sI μ c 10 (T.2.2.1.2 + 1)) (tCo c n) 11 (gf T.1 n 11 + 1), ?_, ⟨b1, ?_⟩, a2.tr b2⟩
    · show (if mK μ (tCo c n) = 3 then some (0, sI (sI μ c 10 (T.2.2.1.2 + 1)) (tCo c n) 11 (mI (sI μ c 10 (T.2.2.1.2 + 1)) (tCo c n) 11 + 1)) else none) = _
      rw [if_pos l1, e11]
    · have k : ∀ j, j ≠ 10 → mI (sI (sI μ c 10 (T.2.2.1.2 + 1)) (tCo c n) 11 (gf T.1 n 11 + 1)) c j = mI μ c j := fun j hj => by rw [mI_sI, if_neg (by omega), mI_sI, if_neg (by omega)]
      exact ⟨x1, (k 9 (by omega)).trans x2, by rw [mI_sI, if_neg (by omega), mI_sI, if_pos ⟨rfl, rfl⟩], (k 11 (by omega)).trans x4, (k 12 (by omega)).trans x5⟩
  · rw [if_neg q, if_neg q, if_neg q, if_pos l1, l3, if_pos l6]
    have F : tF c μ (sI μ (tCo c n + 2) 2 0) := tF.I (by omega) (by omega)
    have t : tM c (sI μ (tCo c n + 2) 2 0) (gkS T.1 n []) := h.step F (h.2.setK hn ⟨by decide, by rw [mI_sI, if_pos ⟨rfl, rfl⟩]; rfl, fun i s w hi => by simp at hi⟩ fun a j hj => by rw [mI_sI, if_neg (by omega)])
    exact ⟨_, rfl, ⟨t, tX.same (T := T) ⟨x1, x2, x3, x4, x5⟩ (tT.I (by omega)) rfl⟩, F⟩
