theorem f_within (x a b : Int32) (μ : MM) : fX6_within x a b μ = some (if a ≤ x ∧ x ≤ b then 1 else 0, μ) := by
  unfold fX6_within
  by_cases h1 : x < a
  · rw [if_pos h1, if_neg (fun h => Int32.not_le.mpr h1 h.1)]
  · rw [if_neg h1]
    by_cases h2 : b < x
    · rw [if_pos h2, if_neg (fun h => Int32.not_le.mpr h2 h.2)]
    · rw [if_neg h2, if_pos ⟨Int32.not_lt.mp h1, Int32.not_lt.mp h2⟩]
theorem r_leaveL {c n : Nat} (hn : n ≤ 24) {way val : Int32} (hw0 : way ≤ 0 → way = -4) : ∀ (k : List (Int32 × Int32)) (f : Nat) (μ : MM) (M : gM), k.length < f → tM c μ M → gk M n = k → (way = -4 → mI μ (tCo c n) 8 = val) →
    ∃ ν, lX2_leave_8 f (tCo c n) way (Int32.ofNat k.length) μ = some ν ∧ tM c ν (gLeave M n way val) ∧ tF c μ ν ∧ tT c μ ν := by
  intro k
  induction k with
  | nil =>
    intro f μ M hf h hk hv
    obtain ⟨f, rfl⟩ : ∃ g, f = g + 1 := ⟨f - 1, by simp at hf; omega⟩
    have eg : gLeave M n way val = if way = -4 then gEnd (gkS M n []) n 3 val else gEnd (gkS M n []) n 4 way := by unfold gLeave; rw [hk]; rfl
    have es : gkS M n [] = M := by rw [← hk]; exact gk_self
    rw [eg, es]
    show ∃ ν, bX2_leave_8 (fun h0 x1 x2 μ => lX2_leave_8 f h0 x1 x2 μ) (tCo c n) way (Int32.ofNat 0) μ = some ν ∧ _
    unfold bX2_leave_8
    rw [if_pos (by decide)]
    have h3 := (h.lay hn).1
    by_cases hw : way = -4
    · rw [if_pos hw, if_pos hw, if_pos h3, hv hw]
      obtain ⟨ν, e, g⟩ := r_end h hn 3 val
      rw [e]
      exact ⟨ν, rfl, g⟩
    · rw [if_neg hw, if_neg hw, if_pos h3]
      obtain ⟨ν, e, g⟩ := r_end h hn 4 way
      rw [e]
      exact ⟨ν, rfl, g⟩
  | cons x r ih =>
    obtain ⟨s, w⟩ := x
    intro f μ M hf h hk hv
    obtain ⟨f, rfl⟩ : ∃ g, f = g + 1 := ⟨f - 1, by simp at hf; omega⟩
    have hlen : r.length + 1 ≤ 6 := by
      have := (h.stk hn).1
      rw [hk] at this
      exact this
    obtain ⟨p1, ⟨w2, p2, hw2⟩, μ1, p3, t1, F1, T1, k8⟩ := r_pop h hn hk
    have l0 := h.lay hn
    have l1 := t1.lay hn
    obtain ⟨a1, -, a3, -, -, a6, -⟩ := l0
    obtain ⟨b1, -, b3, -, -, b6, -⟩ := l1
    show ∃ ν, bX2_leave_8 (fun h0 x1 x2 μ => lX2_leave_8 f h0 x1 x2 μ) (tCo c n) way (Int32.ofNat (r.length + 1)) μ = some ν ∧ _
    have z : ¬ Int32.ofNat (r.length + 1) ≤ 0 := by
      have := mt (g_le (a := r.length + 1) (b := 0) (by omega) (by omega)).mp (by omega)
      exact this
    have ez : Int32.ofNat (r.length + 1) + (-1) = Int32.ofNat r.length := by
      rw [← Int32.sub_eq_add_neg]
      exact g_prd (by omega)
    have hgk : gk (gkS M n r) n = r := gk_gkS
    unfold bX2_leave_8
    rw [if_neg z, if_pos a1, a3, if_pos a6, p1]
    simp only [Option.bind_some]
    rw [a3, if_pos a6, p2]
    simp only [Option.bind_some]
    rw [a3, if_pos a6, p3]
    simp only [Option.bind_some]
    by_cases h2 : s = -2
    · subst h2
      rw [if_pos rfl, b3, if_pos a6]
      have hK1 := t1.stk hn
      rw [hgk] at hK1
      have e1 := f_put (s := way) (w := mI μ1 (tCo c n) 8) (t1.lay hn) hK1.2.1 (by omega)
      rw [e1]
      simp only [Option.bind_some]
      have hin := tCo_in (c := c) hn
      have F2 : tF c μ1 (sI (sI (sI μ1 (tCo c n + 3) r.length way) (tCo c n + 4) r.length (mI μ1 (tCo c n) 8)) (tCo c n + 2) 2 (Int32.ofNat (r.length + 1))) := ((tF.I (by omega) (by omega)).tr (tF.I (by omega) (by omega))).tr (tF.I (by omega) (by omega))
      have T2 : tT c μ1 (sI (sI (sI μ1 (tCo c n + 3) r.length way) (tCo c n + 4) r.length (mI μ1 (tCo c n) 8)) (tCo c n + 2) 2 (Int32.ofNat (r.length + 1))) := ((tT.I (by omega)).tr (tT.I (by omega))).tr (tT.I (by omega))
      have hK2 := hK1.put (s := way) (w := mI μ1 (tCo c n) 8) (w' := if way = -4 then val else 0) (by omega) (fun q => by
        rw [if_pos (hw0 q), k8]
        exact hv (hw0 q))
      have t2 := t1.step F2 (t1.2.setK hn hK2 fun a j hj => by rw [mI_sI, if_neg (by omega), mI_sI, if_neg (by omega), mI_sI, if_neg (by omega)])
      obtain ⟨ν, e2, t3, F3, T3⟩ := r_go t2 hn w2
      rw [e2]
      refine ⟨ν, rfl, ?_, (F1.tr F2).tr F3, (T1.tr T2).tr T3⟩
      have eg : gLeave M n way val = gGo (gkS M n ((way, if way = -4 then val else 0) :: r)) n w := by unfold gLeave; rw [hk]; rfl
      rw [eg, ← hw2 (by decide)]
      rw [gkS_gkS] at t3
      exact t3
    · rw [if_neg h2]
      have eskip : ¬ (s = -1 ∧ 1 ≤ way ∧ way ≤ 9) → gLeave M n way val = gLeave (gkS M n r) n way val := fun hns => by
        unfold gLeave
        rw [hk, hgk, show gFind way val ((s, w) :: r) = gFind way val r by rw [gFind, if_neg h2, if_neg hns]]
        simp only [gkS_gkS]
      obtain ⟨ν9, e9, t9, F9, T9⟩ := ih f μ1 (gkS M n r) (by simp at hf; omega) t1 hgk (fun q => by rw [k8]; exact hv q)
      by_cases h1 : s = -1
      · rw [if_pos h1, f_within]
        simp only [Option.bind_some]
        by_cases hb : 1 ≤ way ∧ way ≤ 9
        · rw [if_pos hb, if_neg (by decide)]
          obtain ⟨t2, F2⟩ := t1.F (v := way) hn (j := 7) (by omega) (by omega) (by omega)
          have hc : tCo c n ≠ c := by have := tCo_in (c := c) hn; omega
          obtain ⟨ν, e2, t3, F3, T3⟩ := r_go t2 hn w2
          show ∃ ν, ((fX2_goOnAt (tCo c n) w2 (sI μ1 (tCo c n) 7 way)).bind fun y22 => some y22) = some ν ∧ _
          rw [e2]
          refine ⟨ν, rfl, ?_, (F1.tr F2).tr F3, (T1.tr (tT.I hc)).tr T3⟩
          have eg : gLeave M n way val = gGo (gfS (gkS M n r) n 7 way) n w := by
            unfold gLeave
            rw [hk, show gFind way val ((s, w) :: r) = some (w, r, true) by rw [gFind, if_neg h2, if_pos ⟨h1, hb⟩]]
            rfl
          rw [eg, ← hw2 (by rw [h1]; decide)]
          exact t3
        · rw [if_neg hb, if_pos rfl, ez, eskip (fun q => hb q.2)]
          exact ⟨ν9, e9, t9, F1.tr F9, T1.tr T9⟩
      · rw [if_neg h1, ez, eskip (fun q => h1 q.1)]
        exact ⟨ν9, e9, t9, F1.tr F9, T1.tr T9⟩
theorem r_leave {c n : Nat} {μ : MM} {M : gM} (h : tM c μ M) (hn : n ≤ 24) {way val : Int32} (hw0 : way ≤ 0 → way = -4) (hv : way = -4 → mI μ (tCo c n) 8 = val) : ∃ ν, fX2_leave (tCo c n) way μ = some ν ∧ tM c ν (gLeave M n way val) ∧ tF c μ ν ∧ tT c μ ν := by
  have hK := h.stk hn
  have h6 : (gk M n).length ≤ 6 := hK.1
  obtain ⟨ν, e, g⟩ := r_leaveL hn hw0 (gk M n) FU μ M (by unfold FU; omega) h rfl hv
  obtain ⟨a1, -, a3, -, -, a6, -⟩ := h.lay hn
  refine ⟨ν, ?_, g⟩
  unfold fX2_leave
  rw [a3, if_pos a6, hK.2.1]
  exact e
