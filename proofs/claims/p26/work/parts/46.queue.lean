/-- of the heap, ints alone, and those of two cells alone -/
def tW (q : Nat) (μ ν : MM) : Prop := mK ν = mK μ ∧ mN ν = mN μ ∧ mX ν = mX μ ∧ mP ν = mP μ ∧ ∀ a j, ¬ (q ≤ a ∧ a < q + 2) → mI ν a j = mI μ a j
theorem tW.rf {q : Nat} {μ : MM} : tW q μ μ := ⟨rfl, rfl, rfl, rfl, fun _ _ _ => rfl⟩
theorem tW.tr {q : Nat} {μ ν ω : MM} (h : tW q μ ν) (g : tW q ν ω) : tW q μ ω := ⟨g.1.trans h.1, g.2.1.trans h.2.1, g.2.2.1.trans h.2.2.1, g.2.2.2.1.trans h.2.2.2.1, fun a j x => (g.2.2.2.2 a j x).trans (h.2.2.2.2 a j x)⟩
theorem tW.I {q a j : Nat} {μ : MM} {v : Int32} (h1 : q ≤ a) (h2 : a < q + 2) : tW q μ (sI μ a j v) := ⟨rfl, rfl, rfl, rfl, fun b i hb => by rw [mI_sI, if_neg (by omega)]⟩
theorem tW.lay {q : Nat} {μ ν : MM} (h : tW q μ ν) (L : tLayQ q μ) : tLayQ q ν := ⟨by rw [h.1]; exact L.1, by rw [h.2.2.2.1]; exact L.2.1, by rw [h.1]; exact L.2.2.1, by rw [h.2.1]; exact L.2.2.2⟩
theorem tW.F {c q : Nat} {μ ν : MM} (h : tW q μ ν) (h1 : c ≤ q) (h2 : q + 2 ≤ c + 131) : tF c μ ν := ⟨h.1, h.2.1, h.2.2.1, fun a j x => h.2.2.2.2 a j (by omega), fun a j _ => by rw [h.2.2.2.1]⟩
theorem tW.T {c q : Nat} {μ ν : MM} (h : tW q μ ν) (h1 : c < q) : tT c μ ν := ⟨fun j _ => h.2.2.2.2 c j (by omega), by rw [h.2.2.2.1]⟩
theorem f_num {q : Nat} {μ : MM} {l : List Int32} (L : tLayQ q μ) (h : tQ q μ l) (i : Nat) (hi : i < 24) : fX4_numberAt q (Int32.ofNat i) μ = some ((l[i]?).getD (-1), μ) := by
  obtain ⟨-, a2, a3, a4⟩ := L
  obtain ⟨h1, h2, h3⟩ := h
  have z : ¬ Int32.ofNat i < 0 := by
    have := mt (g_lt (a := i) (b := 0) (by omega) (by omega)).mp (by omega)
    exact this
  unfold fX4_numberAt
  rw [if_neg z, h2]
  by_cases hl : l.length ≤ i
  · rw [if_pos ((g_le (by omega) (by omega)).mpr hl), List.getElem?_eq_none hl]; rfl
  · rw [if_neg (mt (g_le (by omega) (by omega)).mp hl), a2, if_pos a3, a4, g_nat (by omega), if_pos (fun h => h.elim z (by omega))]
    have e : l[i]? = some (l[i]'(by omega)) := List.getElem?_eq_getElem (by omega)
    rw [e, h3 i _ e]; rfl
theorem f_add {q : Nat} {μ : MM} {l : List Int32} (L : tLayQ q μ) (h : tQ q μ l) (v : Int32) : ∃ ν, fX4_add q v μ = some ν ∧ tQ q ν (gAdd l v) ∧ tW q μ ν := by
  obtain ⟨-, a2, a3, a4⟩ := L
  obtain ⟨h1, h2, h3⟩ := h
  have z : ¬ Int32.ofNat l.length < 0 := by
    have := mt (g_lt (a := l.length) (b := 0) (by omega) (by omega)).mp (by omega)
    exact this
  unfold fX4_add
  rw [h2, if_neg z]
  by_cases hl : l.length < 24
  · have h24 : ¬ (24 : Int32) ≤ Int32.ofNat l.length := by
      have := mt (g_le (a := 24) (b := l.length) (by omega) (by omega)).mp (by omega)
      exact this
    rw [if_neg h24, a2, if_pos a3, a4, g_nat (by omega), if_pos (fun h => h.elim z (by omega))]
    have e0 : mI (sI μ (q + 1) l.length v) q 1 = Int32.ofNat l.length := by rw [mI_sI, if_neg (by omega)]; exact h2
    refine ⟨sI (sI μ (q + 1) l.length v) q 1 (Int32.ofNat (l.length + 1)), ?_, ?_, (tW.I (by omega) (by omega)).tr (tW.I (by omega) (by omega))⟩
    · show some (sI (sI μ (q + 1) l.length v) q 1 (mI (sI μ (q + 1) l.length v) q 1 + 1)) = _
      rw [e0, g_suc]
    · unfold gAdd
      rw [if_pos hl]
      refine ⟨by simp; omega, by rw [mI_sI, if_pos ⟨rfl, rfl⟩, List.length_append]; rfl, fun i w hw => ?_⟩
      rw [mI_sI, if_neg (by omega), mI_sI]
      rcases Nat.lt_or_ge i l.length with q1 | q1
      · rw [List.getElem?_append_left q1] at hw
        rw [if_neg (by omega)]; exact h3 i w hw
      · rw [List.getElem?_append_right q1] at hw
        have hz : i - l.length < 1 := (List.getElem?_eq_some_iff.mp hw).1
        have hi2 : i = l.length := by omega
        subst hi2
        simp at hw
        rw [if_pos ⟨rfl, rfl⟩, hw]
  · have h24 : (24 : Int32) ≤ Int32.ofNat l.length := by
      have := (g_le (a := 24) (b := l.length) (by omega) (by omega)).mpr (by omega)
      exact this
    rw [if_pos h24]
    refine ⟨μ, rfl, ?_, tW.rf⟩
    unfold gAdd
    rw [if_neg hl]
    exact ⟨h1, h2, h3⟩
theorem r_add7 {c : Nat} {μ : MM} {M : gM} (h : tM c μ M) (v : Int32) : ∃ ν, fX4_add (c + 7) v μ = some ν ∧ tM c ν (grqS M (gAdd (grq M) v)) ∧ tF c μ ν ∧ tT c μ ν := by
  obtain ⟨ν, e, a, b⟩ := f_add h.1.2.2.2.1 h.2.2.1 v
  exact ⟨ν, e, h.step (b.F (by omega) (by omega)) (h.2.setQ7 a fun x j hx => b.2.2.2.2 x j (by omega)), b.F (by omega) (by omega), b.T (by omega)⟩
theorem r_add9 {c : Nat} {μ : MM} {M : gM} (h : tM c μ M) (v : Int32) : ∃ ν, fX4_add (c + 9) v μ = some ν ∧ tM c ν (gaqS M (gAdd (gaq M) v)) ∧ tF c μ ν ∧ tT c μ ν := by
  obtain ⟨ν, e, a, b⟩ := f_add h.1.2.2.2.2 h.2.2.2.1 v
  exact ⟨ν, e, h.step (b.F (by omega) (by omega)) (h.2.setQ9 a fun x j hx => b.2.2.2.2 x j (by omega)), b.F (by omega) (by omega), b.T (by omega)⟩
