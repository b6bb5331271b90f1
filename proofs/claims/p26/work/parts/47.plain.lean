theorem tCo_c {c n : Nat} (hn : n ≤ 24) : tCo c n ≠ c := by have := tCo_in (c := c) hn; omega
/-- a field set, with all that it keeps -/
theorem r_F {c n : Nat} {μ : MM} {M : gM} (h : tM c μ M) (hn : n ≤ 24) (j : Nat) (v : Int32) (h3 : 3 ≤ j) (h16 : j ≤ 16) (h8 : j ≠ 8) : tM c (sI μ (tCo c n) j v) (gfS M n j v) ∧ tF c μ (sI μ (tCo c n) j v) ∧ tT c μ (sI μ (tCo c n) j v) :=
  ⟨(h.F hn h3 h16 h8).1, (h.F hn h3 h16 h8).2, tT.I (tCo_c hn)⟩
theorem r_local {c n : Nat} {μ : MM} {M : gM} (h : tM c μ M) (hn : n ≤ 24) (a : Int32) : fX2_localAt (tCo c n) a μ = some (gLoc M n a, μ) := by
  obtain ⟨-, l2, -, l4, l5, -⟩ := h.lay hn
  unfold fX2_localAt gLoc
  by_cases h1 : a < 0
  · rw [if_pos h1, if_pos (Or.inl h1)]
  · rw [if_neg h1]
    by_cases h2 : (4 : Int32) ≤ a
    · rw [if_pos h2, if_pos (Or.inr h2)]
    · have hlt : a.toNatClampNeg < 4 := by
        have q1 := Int32.lt_iff_toInt_lt.mp (Int32.not_le.mp h2)
        have q2 : (4 : Int32).toInt = 4 := rfl
        have q3 : a.toNatClampNeg = a.toInt.toNat := rfl
        omega
      rw [if_neg h2, l2, if_pos l4, l5, if_pos (fun q => q.elim h1 (by omega)), if_neg (fun q : a < 0 ∨ 4 ≤ a => q.elim h1 h2), (h.2.2.2.2 n hn).2.2.1 _ hlt]
      rfl
theorem r_setLocal {c n : Nat} {μ : MM} {M : gM} (h : tM c μ M) (hn : n ≤ 24) (a v : Int32) : ∃ ν, fX2_setLocal (tCo c n) a v μ = some ν ∧ tM c ν (gLocS M n a v) ∧ tF c μ ν ∧ tT c μ ν := by
  obtain ⟨-, l2, -, l4, l5, -⟩ := h.lay hn
  have hin := tCo_in (c := c) hn
  unfold fX2_setLocal gLocS
  by_cases h1 : a < 0
  · rw [if_pos h1, if_pos (Or.inl h1)]
    exact ⟨μ, rfl, h, tF.rf, tT.rf⟩
  · rw [if_neg h1]
    by_cases h2 : (4 : Int32) ≤ a
    · rw [if_pos h2, if_pos (Or.inr h2)]
      exact ⟨μ, rfl, h, tF.rf, tT.rf⟩
    · have hlt : a.toNatClampNeg < 4 := by
        have q1 := Int32.lt_iff_toInt_lt.mp (Int32.not_le.mp h2)
        have q2 : (4 : Int32).toInt = 4 := rfl
        have q3 : a.toNatClampNeg = a.toInt.toNat := rfl
        omega
      rw [if_neg h2, l2, if_pos l4, l5, if_pos (fun q => q.elim h1 (by omega)), if_neg (fun q : a < 0 ∨ 4 ≤ a => q.elim h1 h2)]
      have F : tF c μ (sI μ (tCo c n + 1) a.toNatClampNeg v) := tF.I (by omega) (by omega)
      exact ⟨_, rfl, h.step F (h.2.setL hn), F, tT.I (by omega)⟩
theorem r_put {c n : Nat} {μ : MM} {M : gM} (h : tM c μ M) (hn : n ≤ 24) (hk : (gk M n).length < 6) {s w w' : Int32} (hw : s ≤ 0 → w = w') : ∃ ν, fX5_put (tCo c n + 2) s w μ = some ν ∧ tM c ν (gkS M n ((s, w') :: gk M n)) ∧ tF c μ ν ∧ tT c μ ν := by
  have hin := tCo_in (c := c) hn
  have hK := h.stk hn
  have F : tF c μ (sI (sI (sI μ (tCo c n + 3) (gk M n).length s) (tCo c n + 4) (gk M n).length w) (tCo c n + 2) 2 (Int32.ofNat ((gk M n).length + 1))) := ((tF.I (by omega) (by omega)).tr (tF.I (by omega) (by omega))).tr (tF.I (by omega) (by omega))
  exact ⟨_, f_put (h.lay hn) hK.2.1 hk, h.step F (h.2.setK hn (hK.put hk hw) fun a j hj => by rw [mI_sI, if_neg (by omega), mI_sI, if_neg (by omega), mI_sI, if_neg (by omega)]), F, ((tT.I (by omega)).tr (tT.I (by omega))).tr (tT.I (by omega))⟩
/-- the sign of an empty stack -/
theorem f_last0 {q : Nat} {μ : MM} (hs : mI μ (q + 2) 2 = 0) : fX5_lastSign (q + 2) μ = some (0, μ) := by
  unfold fX5_lastSign
  rw [hs, if_pos (by decide)]
theorem r_done {c n : Nat} {μ : MM} {M : gM} (h : tM c μ M) (hn : n ≤ 24) (b : Int32) : ∃ ν, fX2_doDone (tCo c n) b μ = some ((gDone7 M n b).1, ν) ∧ tM c ν (gDone7 M n b).2 ∧ tF c μ ν ∧ tT c μ ν := by
  obtain ⟨a1, -, a3, -, -, a6, -⟩ := h.lay hn
  have hK := h.stk hn
  unfold fX2_doDone gDone7
  rw [a3, if_pos a6]
  cases hk : gk M n with
  | nil =>
    rw [hk] at hK
    rw [f_last0 hK.2.1]
    exact ⟨μ, rfl, h, tF.rf, tT.rf⟩
  | cons x r =>
    obtain ⟨s, w⟩ := x
    rw [hk] at hK
    obtain ⟨p1, ⟨w2, p2, hw2⟩, μ1, p3, t1, F1, T1, k8⟩ := r_pop h hn hk
    have hlen : r.length + 1 ≤ 6 := hK.1
    rw [p1]
    simp only [Option.bind_some]
    by_cases h1 : s = -1
    · rw [if_pos h1, if_pos h1]
      unfold bX2_doDone_21
      rw [if_pos a1, a3, if_pos a6, p2]
      simp only [Option.bind_some]
      rw [a3, if_pos a6, p3]
      simp only [Option.bind_some]
      rw [if_pos h1]
      exact ⟨μ1, rfl, t1, F1, T1⟩
    · rw [if_neg h1, if_neg h1]
      by_cases h2 : s = -2
      · rw [if_pos h2, if_pos h2]
        unfold bX2_doDone_21
        rw [if_pos a1, a3, if_pos a6, p2]
        simp only [Option.bind_some]
        rw [a3, if_pos a6, p3]
        simp only [Option.bind_some]
        obtain ⟨-, -, b3, -⟩ := t1.lay hn
        have hg : gk (gkS M n r) n = r := gk_gkS
        obtain ⟨ν, e, t2, F2, T2⟩ := r_put t1 hn (s := -3) (w := b) (w' := b) (by rw [hg]; omega) (fun _ => rfl)
        rw [hg, gkS_gkS] at t2
        rw [if_neg h1, b3, if_pos a6, e]
        refine ⟨ν, ?_, t2, F1.tr F2, T1.tr T2⟩
        rw [hw2 (by rw [h2]; decide)]
        rfl
      · rw [if_neg h2, if_neg h2]
        exact ⟨μ, rfl, h, tF.rf, tT.rf⟩
theorem r_last {c n : Nat} {μ : MM} {M : gM} (h : tM c μ M) (hn : n ≤ 24) : ∃ ν, fX2_doLast (tCo c n) μ = some ((gLast M n).1, ν) ∧ tM c ν (gLast M n).2.2 ∧ tF c μ ν ∧ tT c μ ν ∧ ((gLast M n).1 = -4 → mI ν (tCo c n) 8 = (gLast M n).2.1) := by
  obtain ⟨a1, -, a3, -, -, a6, -⟩ := h.lay hn
  have hK := h.stk hn
  have hline : mI μ (tCo c n) 6 = gf M n 6 := h.rd hn (by omega) (by omega) (by omega)
  obtain ⟨u1, u2, u3⟩ := r_F h hn 6 (gf M n 6 + 1) (by omega) (by omega) (by omega)
  unfold fX2_doLast gLast
  rw [a3, if_pos a6]
  cases hk : gk M n with
  | nil =>
    rw [hk] at hK
    rw [f_last0 hK.2.1]
    simp only [Option.bind_some, hline]
    exact ⟨_, rfl, u1, u2, u3, fun q => absurd (show (0 : Int32) = -4 from q) (by decide)⟩
  | cons x r =>
    obtain ⟨s, w⟩ := x
    rw [hk] at hK
    obtain ⟨p1, ⟨w2, p2, hw2⟩, μ1, p3, t1, F1, T1, k8⟩ := r_pop h hn hk
    rw [p1]
    simp only [Option.bind_some, hline]
    by_cases h0 : s = 0
    · rw [if_pos h0, if_pos (Or.inl h0)]
      exact ⟨_, rfl, u1, u2, u3, fun q => absurd (show (0 : Int32) = -4 from q) (by decide)⟩
    · rw [if_neg h0]
      by_cases h1 : s = -1
      · rw [if_pos h1, if_pos (Or.inr (Or.inl h1))]
        exact ⟨_, rfl, u1, u2, u3, fun q => absurd (show (0 : Int32) = -4 from q) (by decide)⟩
      · rw [if_neg h1]
        by_cases h2 : s = -2
        · rw [if_pos h2, if_pos (Or.inr (Or.inr h2))]
          exact ⟨_, rfl, u1, u2, u3, fun q => absurd (show (0 : Int32) = -4 from q) (by decide)⟩
        · rw [if_neg h2, a3, if_pos a6, p2]
          simp only [Option.bind_some]
          rw [a3, if_pos a6, p3]
          simp only [Option.bind_some]
          rw [if_neg (fun q : s = 0 ∨ s = -1 ∨ s = -2 => q.elim h0 (fun q => q.elim h1 h2))]
          by_cases h3 : s = -3
          · rw [if_pos h3, if_pos h3, hw2 (by rw [h3]; decide)]
            obtain ⟨v1, v2, v3⟩ := r_F t1 hn 6 w (by omega) (by omega) (by omega)
            exact ⟨_, rfl, v1, F1.tr v2, T1.tr v3, fun q => absurd (show (0 : Int32) = -4 from q) (by decide)⟩
          · rw [if_neg h3, if_neg h3]
            have hin := tCo_in (c := c) hn
            refine ⟨sI μ1 (tCo c n) 8 w2, rfl, t1.step (tF.I (by omega) (by omega)) (t1.2.set8 hn), F1.tr (tF.I (by omega) (by omega)), T1.tr (tT.I (by omega)), fun q => ?_⟩
            rw [mI_sI, if_pos ⟨rfl, rfl⟩]
            exact hw2 (by rw [show s = -4 from q]; decide)
