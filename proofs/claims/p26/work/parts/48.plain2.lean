theorem f_full {c n : Nat} {μ : MM} {M : gM} (h : tM c μ M) (hn : n ≤ 24) : fX5_isFull (tCo c n + 2) μ = some (if 6 ≤ (gk M n).length then 1 else 0, μ) := by
  have hK := h.stk hn
  have h6 : (gk M n).length ≤ 6 := hK.1
  unfold fX5_isFull
  rw [hK.2.1]
  have e : Int32.ofNat (gk M n).length < 6 ↔ (gk M n).length < 6 := g_lt (a := (gk M n).length) (b := 6) (by omega) (by omega)
  by_cases q : (gk M n).length < 6
  · rw [if_pos (e.mpr q), if_neg (by omega)]
  · rw [if_neg (fun z => q (e.mp z)), if_pos (by omega)]
/-- what r_plain says of one kind -/
def tPl (c n : Nat) (μ : MM) (R : Int32 × Int32 × gM) (x : Option (Int32 × MM)) : Prop := ∃ ν, x = some (R.1, ν) ∧ tM c ν R.2.2 ∧ tF c μ ν ∧ tT c μ ν ∧ (R.1 = -4 → mI ν (tCo c n) 8 = R.2.1)
theorem tPl.z {c n : Nat} {μ ν : MM} {M : gM} (h : tM c ν M) (F : tF c μ ν) (T : tT c μ ν) : tPl c n μ (0, 0, M) (some (0, ν)) := ⟨ν, rfl, h, F, T, fun q => absurd (show (0 : Int32) = -4 from q) (by decide)⟩
theorem r_plain {c n : Nat} {μ : MM} {M : gM} (h : tM c μ M) (hn : n ≤ 24) (kind a b : Int32) (h9 : kind = 9 → 0 < a) : tPl c n μ (gPlain M n kind a b) (fX2_doPlain (tCo c n) kind a b μ) := by
  obtain ⟨a1, -, a3, -, -, a6, -⟩ := h.lay hn
  have e6 : mI μ (tCo c n) 6 = gf M n 6 := h.rd hn (by omega) (by omega) (by omega)
  have e7 : mI μ (tCo c n) 7 = gf M n 7 := h.rd hn (by omega) (by omega) (by omega)
  have nx : ∀ {ν : MM} {M1 : gM}, tM c ν M1 → tF c μ ν → tT c μ ν → ∀ v : Int32, tPl c n μ (0, 0, gfS M1 n 6 v) (some (0, sI ν (tCo c n) 6 v)) := fun t F T v => by
    obtain ⟨u1, u2, u3⟩ := r_F t hn 6 v (by omega) (by omega) (by omega)
    exact tPl.z u1 (F.tr u2) (T.tr u3)
  unfold fX2_doPlain gPlain
  simp only [e6, e7]
  by_cases k0 : kind = 0
  · rw [if_pos k0, if_pos k0]
    obtain ⟨u1, u2, u3⟩ := r_F h hn 7 (jmax (-9999) (jmin 9999 (gf M n 7 + a))) (by omega) (by omega) (by omega)
    exact nx u1 u2 u3 _
  rw [if_neg k0, if_neg k0]
  by_cases k1 : kind = 1
  · rw [if_pos k1, if_pos k1, r_local h hn]
    obtain ⟨u1, u2, u3⟩ := r_F h hn 7 (gLoc M n a) (by omega) (by omega) (by omega)
    exact nx u1 u2 u3 _
  rw [if_neg k1, if_neg k1]
  by_cases k2 : kind = 2
  · rw [if_pos k2, if_pos k2]
    obtain ⟨ν, e, u1, u2, u3⟩ := r_setLocal h hn a (gf M n 7)
    rw [e]
    exact nx u1 u2 u3 _
  rw [if_neg k2, if_neg k2]
  by_cases k4 : kind = 4
  · rw [if_pos k4, if_pos k4, r_local h hn]
    simp only [Option.bind_some]
    by_cases q : gLoc M n a ≤ 0
    · rw [if_pos q, if_pos q]
      exact nx h tF.rf tT.rf _
    · rw [if_neg q, if_neg q, r_local h hn]
      simp only [Option.bind_some]
      obtain ⟨ν, e, u1, u2, u3⟩ := r_setLocal h hn a (gLoc M n a - 1)
      rw [e]
      exact nx u1 u2 u3 _
  rw [if_neg k4, if_neg k4]
  by_cases k5 : kind = 5
  · rw [if_pos k5, if_pos k5]
    by_cases q : 0 < gf M n 7
    · rw [if_pos q, if_pos q]
      exact nx h tF.rf tT.rf _
    · rw [if_neg q, if_neg q]
      exact nx h tF.rf tT.rf _
  rw [if_neg k5, if_neg k5]
  by_cases k6 : kind = 6
  · rw [if_pos k6, if_pos k6, a3, if_pos a6, f_full h hn]
    simp only [Option.bind_some]
    by_cases q : 6 ≤ (gk M n).length
    · rw [if_pos q, if_pos q, if_neg (by decide)]
      exact ⟨μ, rfl, h, tF.rf, tT.rf, fun z => absurd (show (5 : Int32) = -4 from z) (by decide)⟩
    · rw [if_neg q, if_neg q, if_pos rfl]
      by_cases z : a = 0
      · rw [if_pos z, if_pos z, a3, if_pos a6]
        obtain ⟨ν, e, u1, u2, u3⟩ := r_put h hn (by omega) (s := -1) (w := b) (w' := b) (fun _ => rfl)
        rw [e]
        exact nx u1 u2 u3 _
      · rw [if_neg z, if_neg z, a3, if_pos a6]
        obtain ⟨ν, e, u1, u2, u3⟩ := r_put h hn (by omega) (s := -2) (w := b) (w' := b) (fun _ => rfl)
        rw [e]
        exact nx u1 u2 u3 _
  rw [if_neg k6, if_neg k6]
  by_cases k7 : kind = 7
  · rw [if_pos k7, if_pos k7]
    obtain ⟨ν, e, u1, u2, u3⟩ := r_done h hn b
    rw [e]
    exact nx u1 u2 u3 _
  rw [if_neg k7, if_neg k7]
  by_cases k8 : kind = 8
  · rw [if_pos k8, if_pos k8]
    obtain ⟨ν, e, u⟩ := r_last h hn
    rw [e]
    exact ⟨ν, rfl, u⟩
  rw [if_neg k8, if_neg k8]
  by_cases k9 : kind = 9
  · rw [if_pos k9, if_pos k9]
    exact ⟨μ, rfl, h, tF.rf, tT.rf, fun z => absurd (h9 k9) (by rw [show a = -4 from z]; decide)⟩
  rw [if_neg k9, if_neg k9]
  by_cases k11 : kind = 11
  · rw [if_pos k11, if_pos k11]
    unfold fX2_beginReturn
    rw [e7]
    have hin := tCo_in (c := c) hn
    exact ⟨sI μ (tCo c n) 8 (gf M n 7), rfl, h.step (tF.I (by omega) (by omega)) (h.2.set8 hn), tF.I (by omega) (by omega), tT.I (by omega), fun _ => by rw [mI_sI, if_pos ⟨rfl, rfl⟩]⟩
  rw [if_neg k11, if_neg k11]
  exact nx h tF.rf tT.rf _
