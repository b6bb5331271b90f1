theorem tCo_at {c n : Nat} : tCo c n = c + 2 ∨ c + 11 ≤ tCo c n := by
  unfold tCo
  split <;> omega
theorem tCo_ne {c n k : Nat} (h : n ≠ k) (hn : n ≤ 24) (hk : k ≤ 24) : tCo c n + 5 ≤ tCo c k ∨ tCo c k + 5 ≤ tCo c n := by
  unfold tCo
  split <;> split <;> omega
theorem tF.I {c : Nat} {μ : MM} {a j : Nat} {v : Int32} (h1 : c ≤ a) (h2 : a < c + 131) : tF c μ (sI μ a j v) :=
  ⟨rfl, rfl, rfl, fun b i hb => by rw [mI_sI, if_neg (by omega)], fun _ _ _ => rfl⟩
theorem tF.P {c : Nat} {μ : MM} {v : Nat} : tF c μ (sP μ c 8 v) :=
  ⟨rfl, rfl, rfl, fun _ _ _ => rfl, fun b i hb => by rw [mP_sP, if_neg hb]⟩
/-- data read the same where nothing of theirs moved -/
theorem tQ.same {q : Nat} {μ ν : MM} {l : List Int32} (h : tQ q μ l) (e : ∀ a j, (a = q ∧ j = 1) ∨ a = q + 1 → mI ν a j = mI μ a j) : tQ q ν l :=
  ⟨h.1, by rw [e _ _ (Or.inl ⟨rfl, rfl⟩)]; exact h.2.1, fun i v hv => by rw [e _ _ (Or.inr rfl)]; exact h.2.2 i v hv⟩
theorem tC.same {q n : Nat} {μ ν : MM} {x : gCo} (h : tC q μ n x) (e : ∀ a j, q ≤ a → a < q + 5 → ¬ (a = q ∧ j = 8) → mI ν a j = mI μ a j) : tC q ν n x := by
  obtain ⟨h1, h2, h3, h4, h5, h6⟩ := h
  refine ⟨by rw [e _ _ (by omega) (by omega) (by omega)]; exact h1, fun j a b d => by rw [e _ _ (by omega) (by omega) (by omega)]; exact h2 j a b d, fun i hi => by rw [e _ _ (by omega) (by omega) (by omega)]; exact h3 i hi, h4, by rw [e _ _ (by omega) (by omega) (by omega)]; exact h5, fun i s w hk => ?_⟩
  obtain ⟨k1, k2⟩ := h6 i s w hk
  exact ⟨by rw [e _ _ (by omega) (by omega) (by omega)]; exact k1, fun hs => by rw [e _ _ (by omega) (by omega) (by omega)]; exact k2 hs⟩
/-- a field of a coroutine -/
theorem tD.setF {c n j : Nat} {μ : MM} {M : gM} {v : Int32} (h : tD c μ M) (hn : n ≤ 24) (h3 : 3 ≤ j) (h16 : j ≤ 16) (h8 : j ≠ 8) : tD c (sI μ (tCo c n) j v) (gfS M n j v) := by
  obtain ⟨⟨a1, a2, a3⟩, q1, q2, hc⟩ := h
  have ha := tCo_at (c := c) (n := n)
  refine ⟨⟨?_, ?_, ?_⟩, q1.same fun a i hi => ?_, q2.same fun a i hi => ?_, fun k hk => ?_⟩
  · rw [mI_sI, if_neg (by omega)]; exact a1
  · rw [mI_sI, if_neg (by omega)]; exact a2
  · rw [mI_sI, if_neg (by omega)]; exact a3
  · rw [mI_sI, if_neg (by omega)]
  · rw [mI_sI, if_neg (by omega)]
  · by_cases hnk : k = n
    · subst hnk
      obtain ⟨h1, h2, h3, h4, h5, h6⟩ := hc k hk
      have e0 : (gfS M k j v).1 k = (fun i => if i = j then v else (M.1 k).1 i, (M.1 k).2) := by simp [gfS, gCoS]
      rw [e0]
      refine ⟨by rw [mI_sI, if_neg (by omega)]; exact h1, fun i b1 b2 b3 => ?_, fun i hi => by rw [mI_sI, if_neg (by omega)]; exact h3 i hi, h4, by rw [mI_sI, if_neg (by omega)]; exact h5, fun i s w hw => ?_⟩
      · rw [mI_sI]
        show _ = if i = j then v else (M.1 k).1 i
        by_cases hij : i = j
        · rw [if_pos ⟨rfl, hij⟩, if_pos hij]
        · rw [if_neg (fun q => hij q.2), if_neg hij]; exact h2 i b1 b2 b3
      · obtain ⟨k1, k2⟩ := h6 i s w hw
        exact ⟨by rw [mI_sI, if_neg (by omega)]; exact k1, fun hs => by rw [mI_sI, if_neg (by omega)]; exact k2 hs⟩
    · have e0 : (gfS M n j v).1 k = M.1 k := by simp [gfS, gCoS, hnk]
      rw [e0]
      have hd := tCo_ne (c := c) hnk hk hn
      exact (hc k hk).same fun a i b1 b2 _ => by rw [mI_sI, if_neg (by omega)]
/-- what is returned: the model has none -/
theorem tD.set8 {c n : Nat} {μ : MM} {M : gM} {v : Int32} (h : tD c μ M) (hn : n ≤ 24) : tD c (sI μ (tCo c n) 8 v) M := by
  obtain ⟨⟨a1, a2, a3⟩, q1, q2, hc⟩ := h
  have ha := tCo_at (c := c) (n := n)
  refine ⟨⟨?_, ?_, ?_⟩, q1.same fun a i hi => ?_, q2.same fun a i hi => ?_, fun k hk => (hc k hk).same fun a i b1 b2 b3 => ?_⟩
  · rw [mI_sI, if_neg (by omega)]; exact a1
  · rw [mI_sI, if_neg (by omega)]; exact a2
  · rw [mI_sI, if_neg (by omega)]; exact a3
  · rw [mI_sI, if_neg (by omega)]
  · rw [mI_sI, if_neg (by omega)]
  · by_cases hnk : k = n
    · subst hnk
      rw [mI_sI, if_neg b3]
    · have hd := tCo_ne (c := c) hnk hk hn
      rw [mI_sI, if_neg (by omega)]
/-- a field of the machine that is of a call alone -/
theorem tD.setT {c j : Nat} {μ : MM} {M : gM} {v : Int32} (h : tD c μ M) (hj : 8 ≤ j) : tD c (sI μ c j v) M := by
  obtain ⟨⟨a1, a2, a3⟩, q1, q2, hc⟩ := h
  refine ⟨⟨?_, ?_, ?_⟩, q1.same fun a i hi => ?_, q2.same fun a i hi => ?_, fun k hk => (hc k hk).same fun a i b1 b2 b3 => ?_⟩
  · rw [mI_sI, if_neg (by omega)]; exact a1
  · rw [mI_sI, if_neg (by omega)]; exact a2
  · rw [mI_sI, if_neg (by omega)]; exact a3
  · rw [mI_sI, if_neg (by omega)]
  · rw [mI_sI, if_neg (by omega)]
  · have hd := tCo_at (c := c) (n := k)
    rw [mI_sI, if_neg (by omega)]
theorem tD.setR {c : Nat} {μ : MM} {M : gM} {v : Nat} (h : tD c μ M) : tD c (sP μ c 8 v) M := h
theorem tD.cnt {c : Nat} {μ : MM} {M : gM} {v : Int32} (h : tD c μ M) : tD c (sI μ c 5 v) (gcntS M v) := by
  obtain ⟨⟨a1, a2, a3⟩, q1, q2, hc⟩ := h
  refine ⟨⟨?_, ?_, ?_⟩, q1.same fun a i hi => ?_, q2.same fun a i hi => ?_, fun k hk => (hc k hk).same fun a i b1 b2 b3 => ?_⟩
  · rw [mI_sI, if_pos ⟨rfl, rfl⟩]; rfl
  · rw [mI_sI, if_neg (by omega)]; exact a2
  · rw [mI_sI, if_neg (by omega)]; exact a3
  · rw [mI_sI, if_neg (by omega)]
  · rw [mI_sI, if_neg (by omega)]
  · have hd := tCo_at (c := c) (n := k)
    rw [mI_sI, if_neg (by omega)]
theorem tD.now {c : Nat} {μ : MM} {M : gM} {v : Int32} (h : tD c μ M) : tD c (sI μ c 6 v) (gnowS M v) := by
  obtain ⟨⟨a1, a2, a3⟩, q1, q2, hc⟩ := h
  refine ⟨⟨?_, ?_, ?_⟩, q1.same fun a i hi => ?_, q2.same fun a i hi => ?_, fun k hk => (hc k hk).same fun a i b1 b2 b3 => ?_⟩
  · rw [mI_sI, if_neg (by omega)]; exact a1
  · rw [mI_sI, if_pos ⟨rfl, rfl⟩]; rfl
  · rw [mI_sI, if_neg (by omega)]; exact a3
  · rw [mI_sI, if_neg (by omega)]
  · rw [mI_sI, if_neg (by omega)]
  · have hd := tCo_at (c := c) (n := k)
    rw [mI_sI, if_neg (by omega)]
theorem tD.trn {c : Nat} {μ : MM} {M : gM} {v : Int32} (h : tD c μ M) : tD c (sI μ c 7 v) (gtrnS M v) := by
  obtain ⟨⟨a1, a2, a3⟩, q1, q2, hc⟩ := h
  refine ⟨⟨?_, ?_, ?_⟩, q1.same fun a i hi => ?_, q2.same fun a i hi => ?_, fun k hk => (hc k hk).same fun a i b1 b2 b3 => ?_⟩
  · rw [mI_sI, if_neg (by omega)]; exact a1
  · rw [mI_sI, if_neg (by omega)]; exact a2
  · rw [mI_sI, if_pos ⟨rfl, rfl⟩]; rfl
  · rw [mI_sI, if_neg (by omega)]
  · rw [mI_sI, if_neg (by omega)]
  · have hd := tCo_at (c := c) (n := k)
    rw [mI_sI, if_neg (by omega)]
theorem tM.step {c : Nat} {μ ν : MM} {M M' : gM} (h : tM c μ M) (F : tF c μ ν) (D : tD c ν M') : tM c ν M' := ⟨h.1.fr F, D⟩
theorem tM.F {c n j : Nat} {μ : MM} {M : gM} {v : Int32} (h : tM c μ M) (hn : n ≤ 24) (h3 : 3 ≤ j) (h16 : j ≤ 16) (h8 : j ≠ 8) : tM c (sI μ (tCo c n) j v) (gfS M n j v) ∧ tF c μ (sI μ (tCo c n) j v) := by
  have := tCo_in (c := c) hn
  have F : tF c μ (sI μ (tCo c n) j v) := tF.I (by omega) (by omega)
  exact ⟨h.step F (h.2.setF hn h3 h16 h8), F⟩
/-- reads -/
theorem tM.rd {c n j : Nat} {μ : MM} {M : gM} (h : tM c μ M) (hn : n ≤ 24) (h3 : 3 ≤ j) (h16 : j ≤ 16) (h8 : j ≠ 8) : mI μ (tCo c n) j = gf M n j := (h.2.2.2.2 n hn).2.1 j h3 h16 h8
