theorem r_inst2 {c n : Nat} {μ : MM} {T : gT} (h : tM c μ T.1) (hX : tX c μ T) (hn : n ≤ 24) : ∃ ν, bX3_wayInstead_51 c (tCo c n) μ = some (if T.2.2.1.2 < 300 then 0 else 11, ν) ∧
    (let T' : gT := if T.2.2.1.2 < 300 then (gfS T.1 n 11 (gf T.1 n 11 + 1), T.2.1, (T.2.2.1.1, T.2.2.1.2 + 1), T.2.2.2) else (gkS T.1 n [], T.2)
     tM c ν T'.1 ∧ tX c ν T') ∧ tF c μ ν := by
  obtain ⟨x1, x2, x3, x4, x5⟩ := hX
  have hin := tCo_in (c := c) hn
  obtain ⟨l1, -, l3, -, -, l6, -⟩ := h.lay hn
  unfold bX3_wayInstead_51
  rw [if_pos h.1.1.1, x3]
  by_cases q : T.2.2.1.2 < 300
  · rw [if_pos q, if_pos q, if_pos q]
    obtain ⟨a1, a2⟩ := r_T h (j := 10) (T.2.2.1.2 + 1) (by omega)
    obtain ⟨b1, b2, b3⟩ := r_F a1 hn 11 (gf T.1 n 11 + 1) (by omega) (by omega) (by omega)
    have e11 : mI (sI μ c 10 (T.2.2.1.2 + 1)) (tCo c n) 11 = gf T.1 n 11 := a1.rd hn (by omega) (by omega) (by omega)
    refine ⟨sI (sI μ c 10 (T.2.2.1.2 + 1)) (tCo c n) 11 (gf T.1 n 11 + 1), ?_, ⟨b1, ?_⟩, a2.tr b2⟩
    · show (if mK μ (tCo c n) = 3 then some (0, sI (sI μ c 10 (T.2.2.1.2 + 1)) (tCo c n) 11 (mI (sI μ c 10 (T.2.2.1.2 + 1)) (tCo c n) 11 + 1)) else none) = _
      rw [if_pos l1, e11]
    · have k : ∀ j, j ≠ 10 → mI (sI (sI μ c 10 (T.2.2.1.2 + 1)) (tCo c n) 11 (gf T.1 n 11 + 1)) c j = mI μ c j := fun j hj => by rw [mI_sI, if_neg (by omega), mI_sI, if_neg (by omega)]
      exact ⟨x1, (k 9 (by omega)).trans x2, by rw [mI_sI, if_neg (by omega), mI_sI, if_pos ⟨rfl, rfl⟩], (k 11 (by omega)).trans x4, (k 12 (by omega)).trans x5⟩
  · rw [if_neg q, if_neg q, if_neg q, if_pos l1, l3, if_pos l6]
    have F : tF c μ (sI μ (tCo c n + 2) 2 0) := tF.I (by omega) (by omega)
    have t : tM c (sI μ (tCo c n + 2) 2 0) (gkS T.1 n []) := h.step F (h.2.setK hn ⟨by decide, by rw [mI_sI, if_pos ⟨rfl, rfl⟩]; rfl, fun i s w hi => by simp at hi⟩ fun a j hj => by rw [mI_sI, if_neg (by omega)])
    exact ⟨_, rfl, ⟨t, tX.same (T := T) ⟨x1, x2, x3, x4, x5⟩ (tT.I (by omega)) rfl⟩, F⟩
theorem r_instead {c d n : Nat} {μ : MM} {B : gB} {T : gT} (h : tM c μ T.1) (hB : tB d μ B) (h0 : mP μ c 0 = d) (hX : tX c μ T) (hn : n ≤ 24) : ∃ ν, fX3_wayInstead c (tCo c n) μ = some ((gInstead B T n).1, ν) ∧ tM c ν (gInstead B T n).2.2.1 ∧ tX c ν (gInstead B T n).2.2 ∧ tF c μ ν ∧ ((gInstead B T n).1 = -4 → mI ν (tCo c n) 8 = (gInstead B T n).2.1) := by
  have hin := tCo_in (c := c) hn
  have l1 := (h.lay hn).1
  have hb := gBody_le (gf T.1 n 3)
  have e3 : mI μ (tCo c n) 3 = gf T.1 n 3 := h.rd hn (by omega) (by omega) (by omega)
  have e6 : mI μ (tCo c n) 6 = gf T.1 n 6 := h.rd hn (by omega) (by omega) (by omega)
  have e7 : mI μ (tCo c n) 7 = gf T.1 n 7 := h.rd hn (by omega) (by omega) (by omega)
  obtain ⟨x1, x2, x3, x4, x5⟩ := id hX
  obtain ⟨ν2, g1, ⟨g2, g3⟩, g4⟩ := r_inst2 h hX hn
  unfold fX3_wayInstead gInstead
  rw [if_pos l1, h0, if_pos hB.1.1.1, e3, r_bat hB]
  simp only [Option.bind_some]
  rw [if_pos (hB.1.2.2 _ hb).1, e6, f_hasLine hB hb]
  simp only [Option.bind_some]
  have no4 : ∀ {x : Int32} {P : Prop}, x ≠ -4 → (x = -4 → P) := fun a b => absurd b a
  cases q : gHL (B.2 (gBody (gf T.1 n 3))) (gf T.1 n 6) with
  | false =>
    rw [if_pos (show (if false = true then (1 : Int32) else 0) = 0 from rfl), if_pos rfl]
    unfold fX2_beginReturn
    rw [e7]
    exact ⟨sI μ (tCo c n) 8 (gf T.1 n 7), rfl, h.step (tF.I (by omega) (by omega)) (h.2.set8 hn), hX.same (tT.I (by omega)) rfl, tF.I (by omega) (by omega), fun _ => by rw [mI_sI, if_pos ⟨rfl, rfl⟩]⟩
  | true =>
    rw [if_neg (show ¬ (if true = true then (1 : Int32) else 0) = 0 by decide), if_neg (show ¬ (true = false) by decide), x3, x4]
    have fin : (∃ ν, bX3_wayInstead_51 c (tCo c n) μ = some (((if T.2.2.1.2 < 300 then (0, 0, (gfS T.1 n 11 (gf T.1 n 11 + 1), T.2.1, (T.2.2.1.1, T.2.2.1.2 + 1), T.2.2.2)) else (11, 0, (gkS T.1 n [], T.2))) : Int32 × Int32 × gT).1, ν) ∧
        tM c ν ((if T.2.2.1.2 < 300 then (0, 0, (gfS T.1 n 11 (gf T.1 n 11 + 1), T.2.1, (T.2.2.1.1, T.2.2.1.2 + 1), T.2.2.2)) else (11, 0, (gkS T.1 n [], T.2))) : Int32 × Int32 × gT).2.2.1 ∧
        tX c ν ((if T.2.2.1.2 < 300 then (0, 0, (gfS T.1 n 11 (gf T.1 n 11 + 1), T.2.1, (T.2.2.1.1, T.2.2.1.2 + 1), T.2.2.2)) else (11, 0, (gkS T.1 n [], T.2))) : Int32 × Int32 × gT).2.2 ∧ tF c μ ν ∧
        (((if T.2.2.1.2 < 300 then (0, 0, (gfS T.1 n 11 (gf T.1 n 11 + 1), T.2.1, (T.2.2.1.1, T.2.2.1.2 + 1), T.2.2.2)) else (11, 0, (gkS T.1 n [], T.2))) : Int32 × Int32 × gT).1 = -4 → mI ν (tCo c n) 8 = ((if T.2.2.1.2 < 300 then (0, 0, (gfS T.1 n 11 (gf T.1 n 11 + 1), T.2.1, (T.2.2.1.1, T.2.2.1.2 + 1), T.2.2.2)) else (11, 0, (gkS T.1 n [], T.2))) : Int32 × Int32 × gT).2.1)) := by
      refine ⟨ν2, ?_⟩
      by_cases z : T.2.2.1.2 < 300
      · simp only [if_pos z] at g1 g2 g3 ⊢
        exact ⟨g1, g2, g3, g4, no4 (by decide)⟩
      · simp only [if_neg z] at g1 g2 g3 ⊢
        exact ⟨g1, g2, g3, g4, no4 (by decide)⟩
    by_cases z2 : T.2.2.1.2 < 200
    · rw [if_pos z2, if_pos (Or.inl z2)]
      exact fin
    · rw [if_neg z2]
      cases y : T.2.2.2.1 with
      | false =>
        rw [if_pos (show (if false = true then (1 : Int32) else 0) = 0 from rfl), if_neg (fun a => a.elim z2 (fun b => by cases b))]
        obtain ⟨a1, a2⟩ := r_T h (j := 11) 1 (by omega)
        refine ⟨_, rfl, a1, ⟨x1, ?_, ?_, ?_, ?_⟩, a2, fun z => absurd (show (11 : Int32) = -4 from z) (by decide)⟩
        · rw [mI_sI, if_neg (by omega)]; exact x2
        · rw [mI_sI, if_neg (by omega)]; exact x3
        · rw [mI_sI, if_pos ⟨rfl, rfl⟩]; rfl
        · rw [mI_sI, if_neg (by omega)]; exact x5
      | true =>
        rw [if_neg (show ¬ (if true = true then (1 : Int32) else 0) = 0 by decide), if_pos (Or.inr rfl)]
        exact fin
