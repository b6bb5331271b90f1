/-! QUEUES: a place, removing -/
theorem f_remL {q i : Nat} {l : List Int32} (hl : l.length ≤ 24) (hi : i < l.length) : ∀ (m f j : Nat) (μ : MM), i < j → j + m = l.length → m < f → tLayQ q μ → mI μ q 1 = Int32.ofNat l.length → (∀ (k : Nat) (v : Int32), k < l.length → (if i ≤ k ∧ k + 1 < j then l[k + 1]? else l[k]?) = some v → mI μ (q + 1) k = v) →
    ∃ ν, lX4_removeAt_17 f q (Int32.ofNat j) μ = some ν ∧ tQ q ν (l.eraseIdx i) ∧ tW q μ ν := by
  intro m
  induction m with
  | zero =>
    intro f j μ h1 h2 hf L hs hc
    obtain ⟨f, rfl⟩ : ∃ g, f = g + 1 := ⟨f - 1, by omega⟩
    have hj : j = l.length := by omega
    subst hj
    show ∃ ν, bX4_removeAt_17 _ q (Int32.ofNat l.length) μ = some ν ∧ _
    unfold bX4_removeAt_17
    rw [if_pos L.1, hs, if_pos ((g_le (by omega) (by omega)).mpr (Nat.le_refl _)), g_prd (by omega)]
    refine ⟨sI μ q 1 (Int32.ofNat (l.length - 1)), rfl, ⟨?_, ?_, fun k v hk => ?_⟩, tW.I (by omega) (by omega)⟩
    · rw [List.length_eraseIdx_of_lt hi]; omega
    · rw [mI_sI, if_pos ⟨rfl, rfl⟩, List.length_eraseIdx_of_lt hi]
    · rw [mI_sI, if_neg (by omega)]
      have hk2 : k < (l.eraseIdx i).length := (List.getElem?_eq_some_iff.mp hk).1
      rw [List.length_eraseIdx_of_lt hi] at hk2
      rw [List.getElem?_eraseIdx] at hk
      refine hc k v (by omega) ?_
      by_cases z : k < i
      · rw [if_pos z] at hk
        rw [if_neg (by omega)]; exact hk
      · rw [if_neg z] at hk
        rw [if_pos (by omega)]; exact hk
  | succ m ih =>
    intro f j μ h1 h2 hf L hs hc
    obtain ⟨f, rfl⟩ : ∃ g, f = g + 1 := ⟨f - 1, by omega⟩
    show ∃ ν, bX4_removeAt_17 (fun h0 x2 μ => lX4_removeAt_17 f h0 x2 μ) q (Int32.ofNat j) μ = some ν ∧ _
    obtain ⟨a1, a2, a3, a4⟩ := id L
    have z : ¬ Int32.ofNat l.length ≤ Int32.ofNat j := mt (g_le (by omega) (by omega)).mp (by omega)
    have z0 : ¬ Int32.ofNat j < 0 := by
      have := mt (g_lt (a := j) (b := 0) (by omega) (by omega)).mp (by omega)
      exact this
    have z1 : ¬ Int32.ofNat (j - 1) < 0 := by
      have := mt (g_lt (a := j - 1) (b := 0) (by omega) (by omega)).mp (by omega)
      exact this
    unfold bX4_removeAt_17
    rw [if_pos a1, hs, if_neg z, a2, if_pos a3, a4, g_nat (by omega), if_pos (fun h => h.elim z0 (by omega)), g_prd (by omega), g_nat (by omega), if_pos (fun h => h.elim z1 (by omega))]
    have hlj : j < l.length := by omega
    have rj : mI μ (q + 1) j = l[j] := hc j _ hlj (by rw [if_neg (by omega)]; exact List.getElem?_eq_getElem hlj)
    obtain ⟨ν, e, b1, b2⟩ := ih f (j + 1) (sI μ (q + 1) (j - 1) (mI μ (q + 1) j)) (by omega) (by omega) (by omega) ((tW.I (q := q) (μ := μ) (by omega) (by omega)).lay L) (by rw [mI_sI, if_neg (by omega)]; exact hs) (fun k v hk hv => by
      rw [mI_sI]
      by_cases y : k = j - 1
      · rw [if_pos ⟨rfl, y⟩, rj]
        subst y
        rw [if_pos (by omega), show j - 1 + 1 = j by omega, List.getElem?_eq_getElem hlj] at hv
        exact Option.some.inj hv
      · rw [if_neg (fun w => y w.2)]
        refine hc k v hk ?_
        by_cases w : i ≤ k ∧ k + 1 < j
        · rw [if_pos w]
          rw [if_pos (by omega)] at hv
          exact hv
        · rw [if_neg w]
          rw [if_neg (by omega)] at hv
          exact hv)
    refine ⟨ν, ?_, b1, (tW.I (by omega) (by omega)).tr b2⟩
    dsimp only [st]
    rw [g_suc]
    exact e
theorem f_rem {q i : Nat} {l : List Int32} {μ : MM} (L : tLayQ q μ) (h : tQ q μ l) (hi : i < l.length) : ∃ ν, fX4_removeAt q (Int32.ofNat i) μ = some ν ∧ tQ q ν (l.eraseIdx i) ∧ tW q μ ν := by
  obtain ⟨h1, h2, h3⟩ := h
  have z0 : ¬ Int32.ofNat i < 0 := by
    have := mt (g_lt (a := i) (b := 0) (by omega) (by omega)).mp (by omega)
    exact this
  unfold fX4_removeAt
  rw [if_neg z0, h2, if_pos ((g_lt (by omega) (by omega)).mpr hi), g_suc]
  exact f_remL h1 hi (l.length - (i + 1)) FU (i + 1) μ (by omega) (by omega) (by unfold FU; omega) L h2 (fun k v hk hv => by rw [if_neg (by omega)] at hv; exact h3 k v hv)
theorem f_rem0 {q : Nat} {μ : MM} : fX4_removeAt q (-1) μ = some μ := by
  unfold fX4_removeAt
  rw [if_pos (by decide)]
/-- the place of a number -/
theorem f_placeL {q : Nat} {l : List Int32} {x : Int32} {μ : MM} (L : tLayQ q μ) (h : tQ q μ l) : ∀ (m f j : Nat), j + m = l.length → m < f → lX4_placeOf_2 f q x (Int32.ofNat j) μ = some (if x ∈ l.drop j then Int32.ofNat (j + (l.drop j).idxOf x) else -1, μ) := by
  intro m
  induction m with
  | zero =>
    intro f j hj hf
    obtain ⟨f, rfl⟩ : ∃ g, f = g + 1 := ⟨f - 1, by omega⟩
    have hl := h.1
    show bX4_placeOf_2 _ q x (Int32.ofNat j) μ = _
    unfold bX4_placeOf_2
    rw [if_pos L.1, h.2.1, if_pos ((g_le (by omega) (by omega)).mpr (by omega)), List.drop_of_length_le (by omega), if_neg (by simp)]
  | succ m ih =>
    intro f j hj hf
    obtain ⟨f, rfl⟩ : ∃ g, f = g + 1 := ⟨f - 1, by omega⟩
    have hl := h.1
    have hlj : j < l.length := by omega
    show bX4_placeOf_2 (fun h0 x1 x2 μ => lX4_placeOf_2 f h0 x1 x2 μ) q x (Int32.ofNat j) μ = _
    unfold bX4_placeOf_2
    rw [if_pos L.1, h.2.1, if_neg (mt (g_le (by omega) (by omega)).mp (by omega)), f_num L h j (by omega)]
    simp only [Option.bind_some]
    rw [List.getElem?_eq_getElem hlj]
    have ed : l.drop j = l[j] :: l.drop (j + 1) := List.drop_eq_getElem_cons hlj
    by_cases q1 : l[j] = x
    · rw [show (some l[j]).getD (-1) = l[j] from rfl, if_pos q1, ed, q1, if_pos List.mem_cons_self, List.idxOf_cons_self]
      rfl
    · rw [show (some l[j]).getD (-1) = l[j] from rfl, if_neg q1, g_suc, ih f (j + 1) (by omega) (by omega), ed]
      have e1 : (x ∈ l[j] :: l.drop (j + 1)) ↔ x ∈ l.drop (j + 1) := by
        rw [List.mem_cons]
        exact ⟨fun z => z.resolve_left (fun w => q1 w.symm), Or.inr⟩
      by_cases y : x ∈ l.drop (j + 1)
      · rw [if_pos y, if_pos (e1.mpr y), List.idxOf_cons]
        have : (l[j] == x) = false := by simpa using q1
        rw [this]
        simp only [cond_false]
        rw [show j + 1 + (l.drop (j + 1)).idxOf x = j + ((l.drop (j + 1)).idxOf x + 1) by omega]
      · rw [if_neg y, if_neg (mt e1.mp y)]
theorem f_place {q : Nat} {l : List Int32} {μ : MM} (L : tLayQ q μ) (h : tQ q μ l) (x : Int32) : fX4_placeOf q x μ = some (if x ∈ l then Int32.ofNat (l.idxOf x) else -1, μ) := by
  have := f_placeL (x := x) L h l.length FU 0 (by omega) (by have := h.1; unfold FU; omega)
  unfold fX4_placeOf
  rw [show (0 : Int32) = Int32.ofNat 0 from rfl, this, List.drop_zero, Nat.zero_add]
/-- removeAt(placeOf(x)) -/
theorem f_erase {q : Nat} {l : List Int32} {μ : MM} (L : tLayQ q μ) (h : tQ q μ l) (x : Int32) : ∃ ν, fX4_removeAt q (if x ∈ l then Int32.ofNat (l.idxOf x) else -1) μ = some ν ∧ tQ q ν (l.erase x) ∧ tW q μ ν := by
  by_cases y : x ∈ l
  · rw [if_pos y, List.erase_eq_eraseIdx_of_idxOf rfl]
    exact f_rem L h (List.idxOf_lt_length_of_mem y)
  · rw [if_neg y, List.erase_of_not_mem y]
    exact ⟨μ, f_rem0, h, tW.rf⟩
