theorem tD.setK {c n : Nat} {μ ν : MM} {M : gM} {k : List (Int32 × Int32)} (h : tD c μ M) (hn : n ≤ 24) (hk : tK (tCo c n) ν k) (e : ∀ a j, ¬ (tCo c n + 2 ≤ a ∧ a < tCo c n + 5) → mI ν a j = mI μ a j) : tD c ν (gkS M n k) := by
  obtain ⟨⟨a1, a2, a3⟩, q1, q2, hc⟩ := h
  have ha := tCo_at (c := c) (n := n)
  refine ⟨⟨?_, ?_, ?_⟩, q1.same fun a i hi => ?_, q2.same fun a i hi => ?_, fun m hm => ?_⟩
  · rw [e _ _ (by omega)]; exact a1
  · rw [e _ _ (by omega)]; exact a2
  · rw [e _ _ (by omega)]; exact a3
  · rw [e _ _ (by omega)]
  · rw [e _ _ (by omega)]
  · by_cases hnk : m = n
    · subst hnk
      obtain ⟨h1, h2, h3, -⟩ := hc m hm
      have e0 : (gkS M m k).1 m = ((M.1 m).1, (M.1 m).2.1, k) := by simp [gkS, gCoS]
      rw [e0]
      exact ⟨by rw [e _ _ (by omega)]; exact h1, fun i b1 b2 b3 => by rw [e _ _ (by omega)]; exact h2 i b1 b2 b3, fun i hi => by rw [e _ _ (by omega)]; exact h3 i hi, hk⟩
    · have e0 : (gkS M n k).1 m = M.1 m := by simp [gkS, gCoS, hnk]
      rw [e0]
      have hd := tCo_ne (c := c) hnk hm hn
      exact (hc m hm).same fun a i b1 b2 _ => by rw [e _ _ (by omega)]
theorem tD.setL {c n i : Nat} {μ : MM} {M : gM} {v : Int32} (h : tD c μ M) (hn : n ≤ 24) : tD c (sI μ (tCo c n + 1) i v) (glS M n i v) := by
  obtain ⟨⟨a1, a2, a3⟩, q1, q2, hc⟩ := h
  have ha := tCo_at (c := c) (n := n)
  refine ⟨⟨?_, ?_, ?_⟩, q1.same fun a i hi => ?_, q2.same fun a i hi => ?_, fun m hm => ?_⟩
  · rw [mI_sI, if_neg (by omega)]; exact a1
  · rw [mI_sI, if_neg (by omega)]; exact a2
  · rw [mI_sI, if_neg (by omega)]; exact a3
  · rw [mI_sI, if_neg (by omega)]
  · rw [mI_sI, if_neg (by omega)]
  · by_cases hnk : m = n
    · subst hnk
      obtain ⟨h1, h2, h3, h4, h5, h6⟩ := hc m hm
      have e0 : (glS M m i v).1 m = ((M.1 m).1, fun k => if k = i then v else (M.1 m).2.1 k, (M.1 m).2.2) := by simp [glS, gCoS]
      rw [e0]
      refine ⟨by rw [mI_sI, if_neg (by omega)]; exact h1, fun j b1 b2 b3 => by rw [mI_sI, if_neg (by omega)]; exact h2 j b1 b2 b3, fun j hj => ?_, h4, by rw [mI_sI, if_neg (by omega)]; exact h5, fun j s w hw => ?_⟩
      · rw [mI_sI]
        show _ = if j = i then v else (M.1 m).2.1 j
        by_cases hij : j = i
        · rw [if_pos ⟨rfl, hij⟩, if_pos hij]
        · rw [if_neg (fun q => hij q.2), if_neg hij]; exact h3 j hj
      · obtain ⟨k1, k2⟩ := h6 j s w hw
        exact ⟨by rw [mI_sI, if_neg (by omega)]; exact k1, fun hs => by rw [mI_sI, if_neg (by omega)]; exact k2 hs⟩
    · have e0 : (glS M n i v).1 m = M.1 m := by simp [glS, gCoS, hnk]
      rw [e0]
      have hd := tCo_ne (c := c) hnk hm hn
      exact (hc m hm).same fun a j b1 b2 _ => by rw [mI_sI, if_neg (by omega)]
theorem tD.setQ7 {c : Nat} {μ ν : MM} {M : gM} {l : List Int32} (h : tD c μ M) (hq : tQ (c + 7) ν l) (e : ∀ a j, ¬ (c + 7 ≤ a ∧ a < c + 9) → mI ν a j = mI μ a j) : tD c ν (grqS M l) := by
  obtain ⟨⟨a1, a2, a3⟩, q1, q2, hc⟩ := h
  refine ⟨⟨?_, ?_, ?_⟩, hq, q2.same fun a i hi => ?_, fun m hm => (hc m hm).same fun a i b1 b2 _ => ?_⟩
  · rw [e _ _ (by omega)]; exact a1
  · rw [e _ _ (by omega)]; exact a2
  · rw [e _ _ (by omega)]; exact a3
  · rw [e _ _ (by omega)]
  · have ha := tCo_at (c := c) (n := m)
    rw [e _ _ (by omega)]
theorem tD.setQ9 {c : Nat} {μ ν : MM} {M : gM} {l : List Int32} (h : tD c μ M) (hq : tQ (c + 9) ν l) (e : ∀ a j, ¬ (c + 9 ≤ a ∧ a < c + 11) → mI ν a j = mI μ a j) : tD c ν (gaqS M l) := by
  obtain ⟨⟨a1, a2, a3⟩, q1, q2, hc⟩ := h
  refine ⟨⟨?_, ?_, ?_⟩, q1.same fun a i hi => ?_, hq, fun m hm => (hc m hm).same fun a i b1 b2 _ => ?_⟩
  · rw [e _ _ (by omega)]; exact a1
  · rw [e _ _ (by omega)]; exact a2
  · rw [e _ _ (by omega)]; exact a3
  · rw [e _ _ (by omega)]
  · have ha := tCo_at (c := c) (n := m)
    rw [e _ _ (by omega)]
theorem g_nat {n : Nat} (h : n < 2 ^ 31) : (Int32.ofNat n).toNatClampNeg = n := by
  have : (Int32.ofNat n).toInt = n := Int32.toInt_ofNat_of_lt h
  show (Int32.ofNat n).toInt.toNat = n
  omega
theorem g_lt {a b : Nat} (ha : a < 2 ^ 31) (hb : b < 2 ^ 31) : Int32.ofNat a < Int32.ofNat b ↔ a < b := by
  rw [Int32.lt_iff_toInt_lt, Int32.toInt_ofNat_of_lt ha, Int32.toInt_ofNat_of_lt hb]
  omega
theorem g_le {a b : Nat} (ha : a < 2 ^ 31) (hb : b < 2 ^ 31) : Int32.ofNat a ≤ Int32.ofNat b ↔ a ≤ b := by
  rw [Int32.le_iff_toInt_le, Int32.toInt_ofNat_of_lt ha, Int32.toInt_ofNat_of_lt hb]
  omega
theorem g_suc (a : Nat) : Int32.ofNat a + 1 = Int32.ofNat (a + 1) := (Int32.ofNat_add a 1).symm
theorem g_prd {a : Nat} (h : 1 ≤ a) : Int32.ofNat a - 1 = Int32.ofNat (a - 1) := by
  obtain ⟨b, rfl⟩ : ∃ b, a = b + 1 := ⟨a - 1, by omega⟩
  rw [← g_suc, Int32.add_sub_cancel]
  rfl
/-- put on a stack that isn't full -/
theorem f_put {q len : Nat} {μ : MM} {s w : Int32} (hL : tLayC q μ) (hs : mI μ (q + 2) 2 = Int32.ofNat len) (hl : len < 6) : fX5_put (q + 2) s w μ = some (sI (sI (sI μ (q + 3) len s) (q + 4) len w) (q + 2) 2 (Int32.ofNat (len + 1))) := by
  obtain ⟨-, -, -, -, -, h6, h7, h8, h9, h10, h11, h12⟩ := hL
  have z : ¬ Int32.ofNat len < 0 := by
    have := mt (g_lt (a := len) (b := 0) (by omega) (by omega)).mp (by omega)
    exact this
  have z6 : ¬ (6 : Int32) ≤ Int32.ofNat len := by
    have := mt (g_le (a := 6) (b := len) (by omega) (by omega)).mp (by omega)
    exact this
  have zn : (Int32.ofNat len).toNatClampNeg = len := g_nat (by omega)
  have n1 : ¬ (q + 2 = q + 3) := by omega
  have n2 : ¬ (q + 2 = q + 4) := by omega
  unfold fX5_put st
  simp only [mK_sI, mN_sI, mP_sI, mI_sI, hs, h7, h8, h9, h10, h11, h12, zn, n1, n2, false_and, if_false]
  have n6 : ¬ (Int32.ofNat len < 0 ∨ 6 ≤ len) := fun h => h.elim z (by omega)
  rw [if_neg z, if_neg z6, if_pos trivial, if_pos n6, if_pos trivial, if_pos n6, g_suc]
