/-- the fields of a call: running, turnOf, linesBegun, tookTooLong, waits -/
def tX (c : Nat) (μ : MM) (T : gT) : Prop := mP μ c 8 = tCo c T.2.1 ∧ mI μ c 9 = T.2.2.1.1 ∧ mI μ c 10 = T.2.2.1.2 ∧ mI μ c 11 = (if T.2.2.2.1 then 1 else 0) ∧ mI μ c 12 = (if T.2.2.2.2 then 1 else 0)
theorem tX.same {c : Nat} {μ ν : MM} {T T' : gT} (h : tX c μ T) (t : tT c μ ν) (e : T'.2 = T.2) : tX c ν T' := by
  obtain ⟨h1, h2, h3, h4, h5⟩ := h
  unfold tX
  rw [e]
  exact ⟨t.2.trans h1, (t.1 _ (by omega)).trans h2, (t.1 _ (by omega)).trans h3, (t.1 _ (by omega)).trans h4, (t.1 _ (by omega)).trans h5⟩
theorem tX.over {c : Nat} {μ : MM} {T : gT} (h : tX c μ T) : tX c μ T := h
/-- a field of the call set: 9 to 12 -/
theorem r_T {c j : Nat} {μ : MM} {M : gM} (h : tM c μ M) (v : Int32) (hj : 8 ≤ j) : tM c (sI μ c j v) M ∧ tF c μ (sI μ c j v) :=
  ⟨h.step (tF.I (by omega) (by omega)) (h.2.setT hj), tF.I (by omega) (by omega)⟩
/-- beginCall -/
theorem r_begin {c : Nat} {μ : MM} {M : gM} (h : tM c μ M) (t : Int32) : ∃ ν, fX3_beginCall c t μ = some ν ∧ tM c ν M ∧ tF c μ ν ∧ mI ν c 9 = t ∧ mI ν c 10 = 0 ∧ mI ν c 11 = 0 := by
  obtain ⟨a1, a2⟩ := r_T h (j := 9) t (by omega)
  obtain ⟨b1, b2⟩ := r_T a1 (j := 10) 0 (by omega)
  obtain ⟨d1, d2⟩ := r_T b1 (j := 11) 0 (by omega)
  refine ⟨_, rfl, d1, (a2.tr b2).tr d2, ?_, ?_, ?_⟩
  · rw [mI_sI, if_neg (by omega), mI_sI, if_neg (by omega), mI_sI, if_pos ⟨rfl, rfl⟩]
  · rw [mI_sI, if_neg (by omega), mI_sI, if_pos ⟨rfl, rfl⟩]
  · rw [mI_sI, if_pos ⟨rfl, rfl⟩]
theorem r_wait {c n : Nat} {μ : MM} {M : gM} (h : tM c μ M) (hn : n ≤ 24) : ∃ ν, fX3_waitAt c (tCo c n) μ = some ν ∧ tM c ν (gfS M n 5 1) ∧ tF c μ ν ∧ mI ν c 12 = 1 ∧ (∀ j, 8 ≤ j → j ≠ 12 → mI ν c j = mI μ c j) ∧ mP ν c 8 = mP μ c 8 := by
  obtain ⟨a1, a2, a3⟩ := r_F h hn 5 1 (by omega) (by omega) (by omega)
  obtain ⟨b1, b2⟩ := r_T a1 (j := 12) 1 (by omega)
  unfold fX3_waitAt
  rw [if_pos (h.lay hn).1]
  refine ⟨_, rfl, b1, a2.tr b2, by rw [mI_sI, if_pos ⟨rfl, rfl⟩], fun j hj h12 => ?_, rfl⟩
  rw [mI_sI, if_neg (by omega)]
  exact a3.1 j hj
