theorem f_over {c n : Nat} {μ : MM} {M : gM} (h : tM c μ M) (hn : n ≤ 24) : fX2_isOver (tCo c n) μ = some (if gOver M n then 1 else 0, μ) := by
  have e5 : mI μ (tCo c n) 5 = gf M n 5 := h.rd hn (by omega) (by omega) (by omega)
  unfold fX2_isOver gOver
  rw [e5]
  by_cases h3 : gf M n 5 = 3
  · rw [if_pos h3, h3]; rfl
  · rw [if_neg h3]
    by_cases h4 : gf M n 5 = 4
    · rw [if_pos h4, h4]; rfl
    · rw [if_neg h4, if_neg (by simp [h3, h4])]
theorem f_made {c : Nat} {μ : MM} {M : gM} (h : tM c μ M) (x : Int32) : fX3_isMade c x μ = some (if gMade M x then 1 else 0, μ) := by
  have e5 : mI μ c 5 = gcnt M := h.2.1.1
  unfold fX3_isMade gMade
  rw [e5]
  by_cases h1 : x < 0
  · rw [if_pos h1, if_neg (by simp; intro q; exact absurd q (Int32.not_le.mpr h1))]
  · rw [if_neg h1]
    by_cases h2 : gcnt M ≤ x
    · rw [if_pos h2, if_neg (by simp; intro _; exact h2)]
    · rw [if_neg h2, if_pos (by simp; exact ⟨Int32.not_lt.mp h1, Int32.not_le.mp h2⟩)]
theorem f_has {c : Nat} {μ : MM} {M : gM} (h : tM c μ M) (x s : Int32) : fX3_has c x s μ = some (if gHas M x s then 1 else 0, μ) := by
  have e5 : mI μ c 5 = gcnt M := h.2.1.1
  have e4 : mI μ (tCo c (gAt x)) 4 = gf M (gAt x) 4 := h.rd (gAt_le x) (by omega) (by omega) (by omega)
  unfold fX3_has gHas gMade
  rw [e5]
  by_cases h1 : x < 0
  · rw [if_pos h1, if_neg (by simp; intro q; exact absurd q (Int32.not_le.mpr h1))]
  · rw [if_neg h1]
    by_cases h2 : gcnt M ≤ x
    · rw [if_pos h2, if_neg (by simp; intro _ q; exact absurd q (Int32.not_lt.mpr h2))]
    · rw [if_neg h2, r_at h.1]
      simp only [Option.bind_some]
      rw [if_pos (h.lay (gAt_le x)).1, e4]
      have b1 : decide (0 ≤ x ∧ x < gcnt M) = true := by simp; exact ⟨Int32.not_lt.mp h1, Int32.not_le.mp h2⟩
      rw [b1]
      by_cases q : gf M (gAt x) 4 = s
      · rw [if_pos q, if_pos (by simp [q])]
      · rw [if_neg q, if_neg (by simp [q])]
theorem r_inL {c : Nat} {μ : MM} {M : gM} (h : tM c μ M) : ∀ (i f k n : Nat), n ≤ 24 → k + i = 24 → i < f → lX3_inmostOf_4 f c (tCo c n) (Int32.ofNat k) μ = some (tCo c (gInmost M i n), μ) := by
  intro i
  induction i with
  | zero =>
    intro f k n hn hk hf
    obtain ⟨f, rfl⟩ : ∃ g, f = g + 1 := ⟨f - 1, by omega⟩
    show bX3_inmostOf_4 _ c (tCo c n) (Int32.ofNat k) μ = _
    unfold bX3_inmostOf_4
    rw [if_pos (by have : k = 24 := by omega
                   subst this; decide)]
    rfl
  | succ i ih =>
    intro f k n hn hk hf
    obtain ⟨f, rfl⟩ : ∃ g, f = g + 1 := ⟨f - 1, by omega⟩
    have e9 : mI μ (tCo c n) 9 = gf M n 9 := h.rd hn (by omega) (by omega) (by omega)
    have z : ¬ (24 : Int32) ≤ Int32.ofNat k := by
      have := mt (g_le (a := 24) (b := k) (by omega) (by omega)).mp (by omega)
      exact this
    show bX3_inmostOf_4 _ c (tCo c n) (Int32.ofNat k) μ = _
    unfold bX3_inmostOf_4
    rw [if_neg z, if_pos (h.lay hn).1, if_pos h.1.1.1, e9, f_made h]
    simp only [Option.bind_some]
    unfold gInmost
    by_cases q : gMade M (gf M n 9) = true
    · rw [if_pos q, if_pos q, if_neg (by decide), e9, r_at h.1]
      simp only [Option.bind_some]
      rw [g_suc]
      exact ih f (k + 1) (gAt (gf M n 9)) (gAt_le _) (by omega) (by omega)
    · rw [if_neg q, if_neg q, if_pos rfl]
theorem r_inmost {c n : Nat} {μ : MM} {M : gM} (h : tM c μ M) (hn : n ≤ 24) : fX3_inmostOf c (tCo c n) μ = some (tCo c (gInmost M 24 n), μ) := by
  unfold fX3_inmostOf
  exact r_inL h 24 FU 0 n hn rfl (by unfold FU; omega)
theorem gIn_le {M : gM} : ∀ (i n : Nat), n ≤ 24 → gInmost M i n ≤ 24 := by
  intro i
  induction i with
  | zero => intro n hn; exact hn
  | succ i ih =>
    intro n hn
    unfold gInmost
    split
    · exact ih _ (gAt_le _)
    · exact hn
theorem r_part {c o n : Nat} {μ : MM} {M : gM} (h : tM c μ M) (ho : o ≤ 24) (hn : n ≤ 24) : ∃ ν, fX3_part c (tCo c o) (tCo c n) μ = some ν ∧ tM c ν (gPart M o n) ∧ tF c μ ν ∧ tT c μ ν := by
  obtain ⟨u1, u2, u3⟩ := r_F h ho 9 (-1) (by omega) (by omega) (by omega)
  obtain ⟨v1, v2, v3⟩ := r_F u1 hn 10 (-1) (by omega) (by omega) (by omega)
  unfold fX3_part
  rw [if_pos (h.lay ho).1]
  refine ⟨sI (sI μ (tCo c o) 9 (-1)) (tCo c n) 10 (-1), ?_, v1, u2.tr v2, u3.tr v3⟩
  show (if mK μ (tCo c n) = 3 then some (sI (sI μ (tCo c o) 9 (-1)) (tCo c n) 10 (-1)) else none) = _
  rw [if_pos (h.lay hn).1]
theorem r_outcome {c n k : Nat} {μ : MM} {M : gM} (h : tM c μ M) (hn : n ≤ 24) (hk : k ≤ 24) : ∃ ν, fX3_takeOutcome c (tCo c n) (tCo c k) μ = some ((gOutcome M n k).1, ν) ∧ tM c ν (gOutcome M n k).2 ∧ tF c μ ν ∧ tT c μ ν := by
  have e5 : mI μ (tCo c k) 5 = gf M k 5 := h.rd hk (by omega) (by omega) (by omega)
  have e7 : mI μ (tCo c k) 7 = gf M k 7 := h.rd hk (by omega) (by omega) (by omega)
  have e6 : mI μ (tCo c n) 6 = gf M n 6 := h.rd hn (by omega) (by omega) (by omega)
  unfold fX3_takeOutcome gOutcome
  rw [if_pos (h.lay hk).1, e5, e7]
  by_cases q : gf M k 5 = 4
  · rw [if_pos q, if_pos q]
    exact ⟨μ, rfl, h, tF.rf, tT.rf⟩
  · rw [if_neg q, if_neg q, if_pos (h.lay hn).1]
    obtain ⟨u1, u2, u3⟩ := r_F h hn 7 (gf M k 7) (by omega) (by omega) (by omega)
    obtain ⟨ν, e, v1, v2, v3⟩ := r_go u1 hn (gf M n 6 + 1)
    refine ⟨ν, ?_, v1, u2.tr v2, u3.tr v3⟩
    show ((fX2_goOnAt (tCo c n) (mI (sI μ (tCo c n) 7 (gf M k 7)) (tCo c n) 6 + 1) (sI μ (tCo c n) 7 (gf M k 7))).bind fun y5 => some (0, y5)) = _
    rw [mI_sI, if_neg (by omega), e6, e]
    rfl
/-- takesCancel, of the task whose turn it is -/
theorem r_takes {c : Nat} {μ : MM} {M : gM} (h : tM c μ M) {t : Int32} (ht : mI μ c 9 = t) : ∃ ν, fX3_takesCancel c μ = some (if gTakes M t then 1 else 0, ν) ∧ tM c ν (if gTakes M t then gTook M t else M) ∧ tF c μ ν ∧ tT c μ ν := by
  have hn := gAt_le t
  have e15 : mI μ (tCo c (gAt t)) 15 = gf M (gAt t) 15 := h.rd hn (by omega) (by omega) (by omega)
  have e14 : mI μ (tCo c (gAt t)) 14 = gf M (gAt t) 14 := h.rd hn (by omega) (by omega) (by omega)
  unfold fX3_takesCancel
  rw [ht, r_at h.1]
  simp only [Option.bind_some]
  rw [if_pos (h.lay hn).1, e15, e14]
  by_cases q : gf M (gAt t) 15 = 0
  · have hz : ¬ gTakes M t = true := by unfold gTakes; rw [q]; simp
    rw [if_pos q, if_neg hz, if_neg hz]
    exact ⟨μ, rfl, h, tF.rf, tT.rf⟩
  · rw [if_neg q]
    by_cases w : gf M (gAt t) 14 ≤ 0
    · have hz : gTakes M t = true := by
        unfold gTakes
        have : ¬ (0 < gf M (gAt t) 14) := Int32.not_lt.mpr w
        simp [q, this]
      rw [if_pos w, if_pos hz, if_pos hz]
      obtain ⟨u1, u2, u3⟩ := r_F h hn 15 0 (by omega) (by omega) (by omega)
      exact ⟨_, rfl, u1, u2, u3⟩
    · have hz : ¬ gTakes M t = true := by
        unfold gTakes
        have : 0 < gf M (gAt t) 14 := Int32.not_le.mp w
        simp [this]
      rw [if_neg w, if_neg hz, if_neg hz]
      exact ⟨μ, rfl, h, tF.rf, tT.rf⟩
