/-! COUNTS -/
def gCt (M : gM) (j : Nat) (s : Int32) : Nat → Nat
  | 0 => 0
  | n + 1 => gCt M j s n + (if gf M n j = s then 1 else 0)
def gCtO (M : gM) : Nat → Nat
  | 0 => 0
  | n + 1 => gCtO M n + (if gf M n 4 = 1 ∧ gOver M n = true then 1 else 0)
def gSum (M : gM) : Nat → Int32
  | 0 => 0
  | n + 1 => gSum M n + gf M n 11
def gCtA (M : gM) (t : Int32) : Nat → Nat
  | 0 => 0
  | n + 1 => gCtA M t n + (if gf M (gAt ((gaq M)[n]?.getD (-1))) 13 = t then 1 else 0)
theorem r_howManyMadeOfL {c : Nat} {μ : MM} {M : gM} {s : Int32} (h : tM c μ M) (hc : gcnt M = Int32.ofNat (cN M)) (h24 : cN M ≤ 24) : ∀ (i f n : Nat), n + i = cN M → i < f → lX3_howManyMadeOf_4 f c s (Int32.ofNat (gCt M 3 s n)) (Int32.ofNat n) μ = some (Int32.ofNat (gCt M 3 s (cN M)), μ) := by
  intro i
  induction i with
  | zero =>
    intro f n hn hf
    obtain ⟨f, rfl⟩ : ∃ g, f = g + 1 := ⟨f - 1, by omega⟩
    obtain rfl : n = cN M := by omega
    show bX3_howManyMadeOf_4 _ c s _ (Int32.ofNat (cN M)) μ = _
    unfold bX3_howManyMadeOf_4
    rw [if_pos h.1.1.1, show mI μ c 5 = gcnt M from h.2.1.1, hc, if_pos ((g_le (by omega) (by omega)).mpr (Nat.le_refl _))]
  | succ i ih =>
    intro f n hn hf
    obtain ⟨f, rfl⟩ : ∃ g, f = g + 1 := ⟨f - 1, by omega⟩
    show bX3_howManyMadeOf_4 (fun h0 x1 x2 x3 μ => lX3_howManyMadeOf_4 f h0 x1 x2 x3 μ) c s _ (Int32.ofNat n) μ = _
    unfold bX3_howManyMadeOf_4
    rw [if_pos h.1.1.1, show mI μ c 5 = gcnt M from h.2.1.1, hc, if_neg (mt (g_le (by omega) (by omega)).mp (by omega)), r_at h.1, n_at (by omega)]
    simp only [Option.bind_some]
    rw [if_pos (h.lay (show n ≤ 24 by omega)).1, show mI μ (tCo c n) 3 = gf M n 3 from h.rd (by omega) (by omega) (by omega) (by omega)]
    have e := ih f (n + 1) (by omega) (by omega)
    have es : gCt M 3 s (n + 1) = gCt M 3 s n + (if gf M n 3 = s then 1 else 0) := rfl
    rw [es] at e
    by_cases q : gf M n 3 = s
    · rw [if_pos q] at e ⊢
      rw [g_suc, g_suc]
      exact e
    · rw [if_neg q] at e ⊢
      rw [Int32.add_zero, g_suc]
      exact e
theorem r_howManyMadeOf {c : Nat} {μ : MM} {M : gM} (h : tM c μ M) (hc : gcnt M = Int32.ofNat (cN M)) (h24 : cN M ≤ 24) (s : Int32) : fX3_howManyMadeOf c s μ = some (Int32.ofNat (gCt M 3 s (cN M)), μ) := r_howManyMadeOfL h hc h24 (cN M) FU 0 (Nat.zero_add _) (by unfold FU; omega)
theorem r_howManyOfSortL {c : Nat} {μ : MM} {M : gM} {s : Int32} (h : tM c μ M) (hc : gcnt M = Int32.ofNat (cN M)) (h24 : cN M ≤ 24) : ∀ (i f n : Nat), n + i = cN M → i < f → lX3_howManyOfSort_4 f c s (Int32.ofNat (gCt M 4 s n)) (Int32.ofNat n) μ = some (Int32.ofNat (gCt M 4 s (cN M)), μ) := by
  intro i
  induction i with
  | zero =>
    intro f n hn hf
    obtain ⟨f, rfl⟩ : ∃ g, f = g + 1 := ⟨f - 1, by omega⟩
    obtain rfl : n = cN M := by omega
    show bX3_howManyOfSort_4 _ c s _ (Int32.ofNat (cN M)) μ = _
    unfold bX3_howManyOfSort_4
    rw [if_pos h.1.1.1, show mI μ c 5 = gcnt M from h.2.1.1, hc, if_pos ((g_le (by omega) (by omega)).mpr (Nat.le_refl _))]
  | succ i ih =>
    intro f n hn hf
    obtain ⟨f, rfl⟩ : ∃ g, f = g + 1 := ⟨f - 1, by omega⟩
    show bX3_howManyOfSort_4 (fun h0 x1 x2 x3 μ => lX3_howManyOfSort_4 f h0 x1 x2 x3 μ) c s _ (Int32.ofNat n) μ = _
    unfold bX3_howManyOfSort_4
    rw [if_pos h.1.1.1, show mI μ c 5 = gcnt M from h.2.1.1, hc, if_neg (mt (g_le (by omega) (by omega)).mp (by omega)), r_at h.1, n_at (by omega)]
    simp only [Option.bind_some]
    rw [if_pos (h.lay (show n ≤ 24 by omega)).1, show mI μ (tCo c n) 4 = gf M n 4 from h.rd (by omega) (by omega) (by omega) (by omega)]
    have e := ih f (n + 1) (by omega) (by omega)
    have es : gCt M 4 s (n + 1) = gCt M 4 s n + (if gf M n 4 = s then 1 else 0) := rfl
    rw [es] at e
    by_cases q : gf M n 4 = s
    · rw [if_pos q] at e ⊢
      rw [g_suc, g_suc]
      exact e
    · rw [if_neg q] at e ⊢
      rw [Int32.add_zero, g_suc]
      exact e
theorem r_howManyOfSort {c : Nat} {μ : MM} {M : gM} (h : tM c μ M) (hc : gcnt M = Int32.ofNat (cN M)) (h24 : cN M ≤ 24) (s : Int32) : fX3_howManyOfSort c s μ = some (Int32.ofNat (gCt M 4 s (cN M)), μ) := r_howManyOfSortL h hc h24 (cN M) FU 0 (Nat.zero_add _) (by unfold FU; omega)
theorem r_howManyInStateL {c : Nat} {μ : MM} {M : gM} {s : Int32} (h : tM c μ M) (hc : gcnt M = Int32.ofNat (cN M)) (h24 : cN M ≤ 24) : ∀ (i f n : Nat), n + i = cN M → i < f → lX3_howManyInState_4 f c s (Int32.ofNat (gCt M 5 s n)) (Int32.ofNat n) μ = some (Int32.ofNat (gCt M 5 s (cN M)), μ) := by
  intro i
  induction i with
  | zero =>
    intro f n hn hf
    obtain ⟨f, rfl⟩ : ∃ g, f = g + 1 := ⟨f - 1, by omega⟩
    obtain rfl : n = cN M := by omega
    show bX3_howManyInState_4 _ c s _ (Int32.ofNat (cN M)) μ = _
    unfold bX3_howManyInState_4
    rw [if_pos h.1.1.1, show mI μ c 5 = gcnt M from h.2.1.1, hc, if_pos ((g_le (by omega) (by omega)).mpr (Nat.le_refl _))]
  | succ i ih =>
    intro f n hn hf
    obtain ⟨f, rfl⟩ : ∃ g, f = g + 1 := ⟨f - 1, by omega⟩
    show bX3_howManyInState_4 (fun h0 x1 x2 x3 μ => lX3_howManyInState_4 f h0 x1 x2 x3 μ) c s _ (Int32.ofNat n) μ = _
    unfold bX3_howManyInState_4
    rw [if_pos h.1.1.1, show mI μ c 5 = gcnt M from h.2.1.1, hc, if_neg (mt (g_le (by omega) (by omega)).mp (by omega)), r_at h.1, n_at (by omega)]
    simp only [Option.bind_some]
    rw [if_pos (h.lay (show n ≤ 24 by omega)).1, show mI μ (tCo c n) 5 = gf M n 5 from h.rd (by omega) (by omega) (by omega) (by omega)]
    have e := ih f (n + 1) (by omega) (by omega)
    have es : gCt M 5 s (n + 1) = gCt M 5 s n + (if gf M n 5 = s then 1 else 0) := rfl
    rw [es] at e
    by_cases q : gf M n 5 = s
    · rw [if_pos q] at e ⊢
      rw [g_suc, g_suc]
      exact e
    · rw [if_neg q] at e ⊢
      rw [Int32.add_zero, g_suc]
      exact e
theorem r_howManyInState {c : Nat} {μ : MM} {M : gM} (h : tM c μ M) (hc : gcnt M = Int32.ofNat (cN M)) (h24 : cN M ≤ 24) (s : Int32) : fX3_howManyInState c s μ = some (Int32.ofNat (gCt M 5 s (cN M)), μ) := r_howManyInStateL h hc h24 (cN M) FU 0 (Nat.zero_add _) (by unfold FU; omega)
theorem r_overL {c : Nat} {μ : MM} {M : gM} (h : tM c μ M) (hc : gcnt M = Int32.ofNat (cN M)) (h24 : cN M ≤ 24) : ∀ (i f n : Nat), n + i = cN M → i < f → lX3_howManyTasksOver_4 f c (Int32.ofNat (gCtO M n)) (Int32.ofNat n) μ = some (Int32.ofNat (gCtO M (cN M)), μ) := by
  intro i
  induction i with
  | zero =>
    intro f n hn hf
    obtain ⟨f, rfl⟩ : ∃ g, f = g + 1 := ⟨f - 1, by omega⟩
    obtain rfl : n = cN M := by omega
    show bX3_howManyTasksOver_4 _ c _ (Int32.ofNat (cN M)) μ = _
    unfold bX3_howManyTasksOver_4
    rw [if_pos h.1.1.1, show mI μ c 5 = gcnt M from h.2.1.1, hc, if_pos ((g_le (by omega) (by omega)).mpr (Nat.le_refl _))]
  | succ i ih =>
    intro f n hn hf
    obtain ⟨f, rfl⟩ : ∃ g, f = g + 1 := ⟨f - 1, by omega⟩
    have hk : n ≤ 24 := by omega
    show bX3_howManyTasksOver_4 (fun h0 x1 x2 μ => lX3_howManyTasksOver_4 f h0 x1 x2 μ) c _ (Int32.ofNat n) μ = _
    unfold bX3_howManyTasksOver_4
    rw [if_pos h.1.1.1, show mI μ c 5 = gcnt M from h.2.1.1, hc, if_neg (mt (g_le (by omega) (by omega)).mp (by omega)), r_at h.1, n_at (by omega)]
    simp only [Option.bind_some]
    rw [if_pos (h.lay hk).1, show mI μ (tCo c n) 4 = gf M n 4 from h.rd hk (by omega) (by omega) (by omega)]
    have e := ih f (n + 1) (by omega) (by omega)
    have es : gCtO M (n + 1) = gCtO M n + (if gf M n 4 = 1 ∧ gOver M n = true then 1 else 0) := rfl
    rw [es] at e
    by_cases q : gf M n 4 = 1
    · rw [if_pos q, r_at h.1, n_at (by omega)]
      simp only [Option.bind_some]
      rw [if_pos (h.lay hk).1, f_over h hk]
      simp only [Option.bind_some]
      cases o : gOver M n with
      | true =>
        rw [o, if_pos ⟨q, rfl⟩] at e
        rw [if_neg b1, g_suc, g_suc]
        exact e
      | false =>
        rw [o, if_neg (fun z => by cases z.2)] at e
        rw [if_pos b0, Int32.add_zero, g_suc]
        exact e
    · rw [if_neg (fun z => q z.1)] at e
      rw [if_neg q, Int32.add_zero, g_suc]
      exact e
theorem r_howOver {c : Nat} {μ : MM} {M : gM} (h : tM c μ M) (hc : gcnt M = Int32.ofNat (cN M)) (h24 : cN M ≤ 24) : fX3_howManyTasksOver c μ = some (Int32.ofNat (gCtO M (cN M)), μ) := r_overL h hc h24 (cN M) FU 0 (Nat.zero_add _) (by unfold FU; omega)
theorem r_linesL {c : Nat} {μ : MM} {M : gM} (h : tM c μ M) (hc : gcnt M = Int32.ofNat (cN M)) (h24 : cN M ≤ 24) : ∀ (i f n : Nat), n + i = cN M → i < f → lX3_linesDoneInAll_4 f c (gSum M n) (Int32.ofNat n) μ = some (gSum M (cN M), μ) := by
  intro i
  induction i with
  | zero =>
    intro f n hn hf
    obtain ⟨f, rfl⟩ : ∃ g, f = g + 1 := ⟨f - 1, by omega⟩
    obtain rfl : n = cN M := by omega
    show bX3_linesDoneInAll_4 _ c _ (Int32.ofNat (cN M)) μ = _
    unfold bX3_linesDoneInAll_4
    rw [if_pos h.1.1.1, show mI μ c 5 = gcnt M from h.2.1.1, hc, if_pos ((g_le (by omega) (by omega)).mpr (Nat.le_refl _))]
  | succ i ih =>
    intro f n hn hf
    obtain ⟨f, rfl⟩ : ∃ g, f = g + 1 := ⟨f - 1, by omega⟩
    have hk : n ≤ 24 := by omega
    show bX3_linesDoneInAll_4 (fun h0 x1 x2 μ => lX3_linesDoneInAll_4 f h0 x1 x2 μ) c _ (Int32.ofNat n) μ = _
    unfold bX3_linesDoneInAll_4
    rw [if_pos h.1.1.1, show mI μ c 5 = gcnt M from h.2.1.1, hc, if_neg (mt (g_le (by omega) (by omega)).mp (by omega)), r_at h.1, n_at (by omega)]
    simp only [Option.bind_some]
    rw [if_pos (h.lay hk).1, show mI μ (tCo c n) 11 = gf M n 11 from h.rd hk (by omega) (by omega) (by omega), g_suc]
    exact ih f (n + 1) (by omega) (by omega)
theorem r_lines {c : Nat} {μ : MM} {M : gM} (h : tM c μ M) (hc : gcnt M = Int32.ofNat (cN M)) (h24 : cN M ≤ 24) : fX3_linesDoneInAll c μ = some (gSum M (cN M), μ) := r_linesL h hc h24 (cN M) FU 0 (Nat.zero_add _) (by unfold FU; omega)
theorem r_howAwaitL {c : Nat} {μ : MM} {M : gM} {t : Int32} (h : tM c μ M) : ∀ (i f n : Nat), n + i = (gaq M).length → i < f → lX3_howManyAwait_4 f c t (Int32.ofNat (gCtA M t n)) (Int32.ofNat n) μ = some (Int32.ofNat (gCtA M t (gaq M).length), μ) := by
  have hl : (gaq M).length ≤ 24 := h.2.2.2.1.1
  intro i
  induction i with
  | zero =>
    intro f n hn hf
    obtain ⟨f, rfl⟩ : ∃ g, f = g + 1 := ⟨f - 1, by omega⟩
    obtain rfl : n = (gaq M).length := by omega
    show bX3_howManyAwait_4 _ c t _ (Int32.ofNat (gaq M).length) μ = _
    unfold bX3_howManyAwait_4
    rw [if_pos h.1.1.1, show mP μ c 4 = c + 9 from h.1.1.2.2.2.2.1, if_pos h.1.2.2.2.2.1, h.2.2.2.1.2.1, if_pos ((g_le (by omega) (by omega)).mpr (Nat.le_refl _))]
  | succ i ih =>
    intro f n hn hf
    obtain ⟨f, rfl⟩ : ∃ g, f = g + 1 := ⟨f - 1, by omega⟩
    show bX3_howManyAwait_4 (fun h0 x1 x2 x3 μ => lX3_howManyAwait_4 f h0 x1 x2 x3 μ) c t _ (Int32.ofNat n) μ = _
    unfold bX3_howManyAwait_4
    rw [if_pos h.1.1.1, show mP μ c 4 = c + 9 from h.1.1.2.2.2.2.1, if_pos h.1.2.2.2.2.1, h.2.2.2.1.2.1, if_neg (mt (g_le (by omega) (by omega)).mp (by omega)), f_num h.1.2.2.2.2 h.2.2.2.1 n (by omega)]
    simp only [Option.bind_some]
    rw [r_at h.1]
    simp only [Option.bind_some]
    have hk := gAt_le ((gaq M)[n]?.getD (-1))
    rw [if_pos (h.lay hk).1, show mI μ (tCo c (gAt ((gaq M)[n]?.getD (-1)))) 13 = gf M (gAt ((gaq M)[n]?.getD (-1))) 13 from h.rd hk (by omega) (by omega) (by omega)]
    have e := ih f (n + 1) (by omega) (by omega)
    have es : gCtA M t (n + 1) = gCtA M t n + (if gf M (gAt ((gaq M)[n]?.getD (-1))) 13 = t then 1 else 0) := rfl
    rw [es] at e
    by_cases q : gf M (gAt ((gaq M)[n]?.getD (-1))) 13 = t
    · rw [if_pos q] at e ⊢
      rw [g_suc, g_suc]
      exact e
    · rw [if_neg q] at e ⊢
      rw [Int32.add_zero, g_suc]
      exact e
theorem r_howAwait {c : Nat} {μ : MM} {M : gM} (h : tM c μ M) (t : Int32) : fX3_howManyAwait c t μ = some (Int32.ofNat (gCtA M t (gaq M).length), μ) := r_howAwaitL h (gaq M).length FU 0 (Nat.zero_add _) (by have : (gaq M).length ≤ 24 := h.2.2.2.1.1; unfold FU; omega)
