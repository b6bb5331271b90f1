/-! THE FACE: what would be -/
theorem y_copy {h : Nat} {μ : MM} {B : gB} {M : gM} (Y : yI h μ B M) : ∃ ν M1, fX3_copyFrom (h + 170) (h + 39) μ = some ν ∧ yI h ν B M ∧ yF h μ ν ∧ tM (h + 170) ν M1 ∧ gEq M M1 ∧ IVR B M1 := by
  obtain ⟨hc, h24⟩ := Y.cn
  obtain ⟨Y1, hB, hI⟩ := Y
  obtain ⟨y1, y2, y3, y4, y5, M2, y6⟩ := id Y1
  obtain ⟨ν, e, t1, F1⟩ := r_copy (c := h + 170) (c' := h + 39) (by omega) hc h24 (fun k hk => (hI.1.2.2 k hk).2.1.2.2.2.2) y6 y3
  obtain ⟨z1, z2⟩ := Y1.t t1 F1
  exact ⟨ν, _, e, ⟨z1, hB, hI⟩, z2, t1, gCopy_eq, gCopy_eq.IVR hI⟩
theorem y_wouldGive {h k : Nat} {μ : MM} {B : gB} {M : gM} {v : Int32} (Y : yI h μ B M) (hk2 : k < 1000) (hv : -999 ≤ v.toInt ∧ v.toInt ≤ 999) : (gHas M (Int32.ofNat k) 0 = false → fX6_wouldGive h (Int32.ofNat k) v μ = some (1, 0, μ)) ∧ (gHas M (Int32.ofNat k) 0 = true → gOver M k = true → fX6_wouldGive h (Int32.ofNat k) v μ = some (1, 0, μ)) ∧ (gHas M (Int32.ofNat k) 0 = true → gOver M k = false → yR h μ B 0 (gResume B M (Int32.ofNat k) v).1 M (fX6_wouldGive h (Int32.ofNat k) v μ)) := by
  obtain ⟨hc, h24⟩ := Y.cn
  obtain ⟨Y1, hB, hI⟩ := id Y
  have t := Y1.2.2.1
  have hw : (-999 : Int32) ≤ v ∧ v ≤ 999 := ⟨i_le hv.1, i_le hv.2⟩
  unfold fX6_wouldGive
  rw [Y1.1.2.2.1, if_pos t.1.1.1, f_has t]
  simp only [Option.bind_some]
  refine ⟨fun hh => by rw [hh, if_pos b0], fun hh ho => ?_, fun hh ho => ?_⟩
  · obtain ⟨k1, k2, k3⟩ := gen_of hI hh hk2
    have k24 : k ≤ 24 := by omega
    rw [hh, if_neg b1, Y1.1.2.2.1, if_pos t.1.1.1, r_at t.1, k2]
    simp only [Option.bind_some]
    rw [if_pos (t.lay k24).1, f_over t k24]
    simp only [Option.bind_some]
    rw [ho, if_neg b1]
  · obtain ⟨k1, k2, k3⟩ := gen_of hI hh hk2
    have k24 : k ≤ 24 := by omega
    rw [hh, if_neg b1, Y1.1.2.2.1, if_pos t.1.1.1, r_at t.1, k2]
    simp only [Option.bind_some]
    rw [if_pos (t.lay k24).1, f_over t k24]
    simp only [Option.bind_some]
    rw [ho, if_pos b0, f_within1 hw]
    simp only [Option.bind_some]
    obtain ⟨M2, y9⟩ := Y1.2.2.2.2.2
    rw [if_neg (by decide), Y1.1.2.2.2, Y1.1.2.2.1, if_pos y9.1.1.1]
    obtain ⟨ν, M1, e, Y2, F2, t2, q, I1⟩ := y_copy Y
    have c1 := q.cn
    have a1 : gAt (Int32.ofNat k) < cN M1 := by rw [k2, c1]; exact k1
    have a2 : gf M1 (gAt (Int32.ofNat k)) 4 = 0 := by rw [k2, q.f k1]; exact k3
    have a3 : gOver M1 (gAt (Int32.ofNat k)) = false := by rw [k2, q.over k1]; exact ho
    have hT : okT v := ⟨by omega, by omega⟩
    obtain ⟨ω, e2, t3, F3⟩ := r_resume (g := Int32.ofNat k) (v := v) hB (by omega) t2 Y2.1.2.1 Y2.1.2.2.2.2.1 I1 a1 a2 a3 hT
    obtain ⟨z1, z2⟩ := Y2.1.t t3 F3
    rw [e]
    simp only [Option.bind_some]
    rw [Y2.1.1.2.2.2, if_pos y9.1.1.1, e2]
    refine ⟨ω, ?_, ⟨z1, hB, hI⟩, F2.tr z2⟩
    rw [(resume_ans (g := Int32.ofNat k) (v := v) hB hI (by rw [k2]; exact k1) (by rw [k2]; exact k3) (by rw [k2]; exact ho) hT q).1]
    rfl
theorem y_wouldClose {h k : Nat} {μ : MM} {B : gB} {M : gM} (Y : yI h μ B M) (hk2 : k < 1000) : (gHas M (Int32.ofNat k) 0 = false → fX6_wouldClose h (Int32.ofNat k) μ = some (1, 0, μ)) ∧ (gHas M (Int32.ofNat k) 0 = true → yR h μ B 0 (gClose B M (Int32.ofNat k)).1 M (fX6_wouldClose h (Int32.ofNat k) μ)) := by
  obtain ⟨hc, h24⟩ := Y.cn
  obtain ⟨Y1, hB, hI⟩ := id Y
  have t := Y1.2.2.1
  unfold fX6_wouldClose
  rw [Y1.1.2.2.1, if_pos t.1.1.1, f_has t]
  simp only [Option.bind_some]
  refine ⟨fun hh => by rw [hh, if_pos b0], fun hh => ?_⟩
  obtain ⟨k1, k2, k3⟩ := gen_of hI hh hk2
  have k24 : k ≤ 24 := by omega
  rw [hh, if_neg b1, Y1.1.2.2.1, if_pos t.1.1.1, r_at t.1, k2]
  simp only [Option.bind_some]
  rw [if_pos (t.lay k24).1, show mI μ (tCo (h + 39) k) 5 = gf M k 5 from t.rd k24 (by omega) (by omega) (by omega)]
  by_cases q5 : gf M k 5 = 1
  · obtain ⟨M2, y9⟩ := Y1.2.2.2.2.2
    rw [if_pos q5, Y1.1.2.2.2, Y1.1.2.2.1, if_pos y9.1.1.1]
    obtain ⟨ν, M1, e, Y2, F2, t2, q, I1⟩ := y_copy Y
    have c1 := q.cn
    have a1 : gAt (Int32.ofNat k) < cN M1 := by rw [k2, c1]; exact k1
    have a2 : gf M1 (gAt (Int32.ofNat k)) 4 = 0 := by rw [k2, q.f k1]; exact k3
    obtain ⟨ω, e2, t3, F3⟩ := r_close (g := Int32.ofNat k) hB (by omega) t2 Y2.1.2.1 Y2.1.2.2.2.2.1 I1 a1 a2
    obtain ⟨z1, z2⟩ := Y2.1.t t3 F3
    rw [e]
    simp only [Option.bind_some]
    rw [Y2.1.1.2.2.2, if_pos y9.1.1.1, e2]
    refine ⟨ω, ?_, ⟨z1, hB, hI⟩, F2.tr z2⟩
    rw [(close_ans (g := Int32.ofNat k) hB hI (by rw [k2]; exact k1) (by rw [k2]; exact k3) q).1]
    rfl
  · rw [if_neg q5]
    refine ⟨μ, ?_, Y, yF.rf⟩
    have : (gClose B M (Int32.ofNat k)).1 = 0 := by
      unfold gClose
      dsimp only
      rw [k2]
      by_cases o : gOver M k = true
      · rw [if_pos o]
      · rw [if_neg o]
        have q0 : gf M k 5 = 0 := by
          rcases (hI.1.2.2 k k1).1.2.2.1 with z | z | z | z | z
          · exact z
          · exact absurd z q5
          · exact absurd z (hI.2.1 k k1).1
          · exact absurd (show gOver M k = true by unfold gOver; rw [show gf M k 5 = 3 from z]; rfl) o
          · exact absurd (show gOver M k = true by unfold gOver; rw [show gf M k 5 = 4 from z]; rfl) o
        rw [if_pos q0]
    rw [this]
theorem gCtO_eq {M M' : gM} (e : gEq M M') : ∀ n, n ≤ cN M → gCtO M' n = gCtO M n := by
  intro n
  induction n with
  | zero => intro _; rfl
  | succ n ih =>
    intro hn
    show gCtO M' n + (if gf M' n 4 = 1 ∧ gOver M' n = true then 1 else 0) = gCtO M n + (if gf M n 4 = 1 ∧ gOver M n = true then 1 else 0)
    rw [ih (by omega), e.f (by omega), e.over (by omega)]
/-- how many tasks are over behind so many turns -/
def gOvIn (B : gB) (M : gM) (m : Nat) : Nat := gCtO (gTurns B m M) (cN (gTurns B m M))
theorem y_overIn {h m : Nat} {μ : MM} {B : gB} {M : gM} (Y : yI h μ B M) (hm : 1 ≤ m ∧ m ≤ 50) : yR h μ B 0 (Int32.ofNat (gOvIn B M m)) M (fX6_overIn h (Int32.ofNat m) μ) := by
  obtain ⟨Y1, hB, hI⟩ := id Y
  have hw : (1 : Int32) ≤ Int32.ofNat m ∧ Int32.ofNat m ≤ 50 := ⟨(g_le (a := 1) (b := m) (by omega) (by omega)).mpr hm.1, (g_le (a := m) (b := 50) (by omega) (by omega)).mpr hm.2⟩
  obtain ⟨M2, y9⟩ := Y1.2.2.2.2.2
  unfold fX6_overIn
  rw [f_within1 hw]
  simp only [Option.bind_some]
  rw [if_neg (by decide), Y1.1.2.2.2, Y1.1.2.2.1, if_pos y9.1.1.1]
  obtain ⟨ν, M1, e, Y2, F2, t2, q, I1⟩ := y_copy Y
  obtain ⟨ω, e2, t3, F3⟩ := r_turns (m := m) hB (by omega) (by omega) I1 t2 Y2.1.2.1 Y2.1.2.2.2.2.1
  obtain ⟨z1, z2⟩ := Y2.1.t t3 F3
  obtain ⟨I2, -⟩ := turns_ok hB m M1 I1
  have qe := turns_eq hB m M M1 hI q
  rw [e]
  simp only [Option.bind_some]
  rw [Y2.1.1.2.2.2, if_pos y9.1.1.1, e2]
  simp only [Option.bind_some]
  rw [z1.1.2.2.2, if_pos y9.1.1.1, r_howOver t3 I2.1.1 I2.1.2.1]
  refine ⟨ω, ?_, ⟨z1, hB, hI⟩, F2.tr z2⟩
  unfold gOvIn
  rw [qe.cn, gCtO_eq qe _ (Nat.le_refl _)]
  rfl
/-- how many values it would still give -/
def gLeftN (B : gB) (k : Nat) : Nat → Nat → gM → Nat
  | 0, _, _ => 20
  | i + 1, n, N => if gOver (gResume B N (Int32.ofNat k) 0).2 k then n else gLeftN B k i (n + 1) (gResume B N (Int32.ofNat k) 0).2
theorem left_eq {B : gB} {k : Nat} (hB : IB B) (hk24 : k < 24) : ∀ (i n : Nat) (N N' : gM), IVR B N → k < cN N → gf N k 4 = 0 → gOver N k = false → gEq N N' → gLeftN B k i n N' = gLeftN B k i n N := by
  intro i
  induction i with
  | zero => intro n N N' _ _ _ _ _; rfl
  | succ i ih =>
    intro n N N' h hk h4 ho e
    have k2 : gAt (Int32.ofNat k) = k := n_at hk24
    obtain ⟨a1, a2, -⟩ := resume_ok (g := Int32.ofNat k) (v := 0) hB h (by rw [k2]; exact hk) (by rw [k2]; exact h4) (by rw [k2]; exact ho) okT.z
    obtain ⟨-, e2⟩ := resume_ans (g := Int32.ofNat k) (v := 0) hB h (by rw [k2]; exact hk) (by rw [k2]; exact h4) (by rw [k2]; exact ho) okT.z e
    unfold gLeftN
    generalize (gResume B N (Int32.ofNat k) 0).2 = R at a1 a2 e2 ⊢
    generalize (gResume B N' (Int32.ofNat k) 0).2 = R' at e2 ⊢
    have hk' : k < cN R := by have := a2.1; omega
    rw [e2.over hk']
    by_cases q : gOver R k = true
    · rw [if_pos q, if_pos q]
    · rw [if_neg q, if_neg q]
      exact ih (n + 1) R R' a1 hk' (((a2.2.2.2.1 k hk).2.1).trans h4) (by simpa using q) e2
theorem left_le {B : gB} {k : Nat} : ∀ (i n : Nat) (N : gM), n + i ≤ 20 → gLeftN B k i n N ≤ 20 := by
  intro i
  induction i with
  | zero => intro n N _; exact Nat.le_refl _
  | succ i ih =>
    intro n N hn
    unfold gLeftN
    split
    · omega
    · exact ih (n + 1) _ (by omega)
theorem y_leftL {h k : Nat} {B : gB} {M : gM} (hk24 : k < 24) : ∀ (i f n : Nat) (μ : MM) (N : gM), n + i = 20 → i < f → yI h μ B M → tM (h + 170) μ N → IVR B N → k < cN N → gf N k 4 = 0 → gOver N k = false →
    yR h μ B 0 (Int32.ofNat (gLeftN B k i n N)) M (lX6_left_51 f h (Int32.ofNat k) (Int32.ofNat n) μ) := by
  intro i
  induction i with
  | zero =>
    intro f n μ N hn hf Y t _ _ _ _
    obtain ⟨f, rfl⟩ : ∃ g, f = g + 1 := ⟨f - 1, by omega⟩
    refine ⟨μ, ?_, Y, yF.rf⟩
    show bX6_left_51 _ h (Int32.ofNat k) (Int32.ofNat n) μ = _
    unfold bX6_left_51
    rw [if_pos (by have : n = 20 := by omega
                   subst this; decide)]
    rfl
  | succ i ih =>
    intro f n μ N hn hf Y t I1 hk h4 ho
    obtain ⟨f, rfl⟩ : ∃ g, f = g + 1 := ⟨f - 1, by omega⟩
    obtain ⟨Y1, hB, hI⟩ := id Y
    have k2 : gAt (Int32.ofNat k) = k := n_at hk24
    have k24 : k ≤ 24 := by omega
    have z : ¬ (20 : Int32) ≤ Int32.ofNat n := by
      have := mt (g_le (a := 20) (b := n) (by omega) (by omega)).mp (by omega)
      exact this
    obtain ⟨ν, e, t1, F1⟩ := r_resume (g := Int32.ofNat k) (v := 0) hB (by omega) t Y1.2.1 Y1.2.2.2.2.1 I1 (by rw [k2]; exact hk) (by rw [k2]; exact h4) (by rw [k2]; exact ho) okT.z
    obtain ⟨a1, a2, -⟩ := resume_ok (g := Int32.ofNat k) (v := 0) hB I1 (by rw [k2]; exact hk) (by rw [k2]; exact h4) (by rw [k2]; exact ho) okT.z
    obtain ⟨z1, z2⟩ := Y1.t t1 F1
    show yR h μ B 0 _ M (bX6_left_51 (fun h0 x1 x2 μ => lX6_left_51 f h0 x1 x2 μ) h (Int32.ofNat k) (Int32.ofNat n) μ)
    unfold bX6_left_51 gLeftN
    rw [if_neg z, if_pos Y1.1.1, Y1.1.2.2.2, if_pos t.1.1.1, e]
    simp only [Option.bind_some]
    rw [z1.1.2.2.2, if_pos t.1.1.1, r_at t1.1, k2]
    simp only [Option.bind_some]
    rw [if_pos (t.lay k24).1, f_over t1 k24]
    simp only [Option.bind_some]
    cases q : gOver (gResume B N (Int32.ofNat k) 0).2 k with
    | true =>
      rw [if_neg b1, if_pos rfl]
      exact ⟨ν, rfl, ⟨z1, hB, hI⟩, z2⟩
    | false =>
      rw [if_pos b0, if_neg (by decide), g_suc]
      obtain ⟨ω, f1, f2, f3⟩ := ih f (n + 1) ν _ (by omega) (by omega) ⟨z1, hB, hI⟩ t1 a1 (by have := a2.1; omega) (((a2.2.2.2.1 k hk).2.1).trans h4) q
      exact ⟨ω, f1, f2, z2.tr f3⟩
def gLeft (B : gB) (M : gM) (k : Nat) : Nat := if gOver M k then 0 else gLeftN B k 20 0 M
theorem y_left {h k : Nat} {μ : MM} {B : gB} {M : gM} (Y : yI h μ B M) (hh : gHas M (Int32.ofNat k) 0 = true) (hk2 : k < 1000) : yR h μ B 0 (Int32.ofNat (gLeft B M k)) M (fX6_left h (Int32.ofNat k) μ) := by
  obtain ⟨hc, h24⟩ := Y.cn
  obtain ⟨Y1, hB, hI⟩ := id Y
  have t := Y1.2.2.1
  obtain ⟨k1, k2, k3⟩ := gen_of hI hh hk2
  have k24 : k ≤ 24 := by omega
  unfold fX6_left gLeft
  rw [Y1.1.2.2.1, if_pos t.1.1.1, f_has t]
  simp only [Option.bind_some]
  rw [hh, if_neg b1, Y1.1.2.2.1, if_pos t.1.1.1, r_at t.1, k2]
  simp only [Option.bind_some]
  rw [if_pos (t.lay k24).1, f_over t k24]
  simp only [Option.bind_some]
  cases ho : gOver M k with
  | true =>
    rw [if_neg b1, if_pos rfl]
    exact ⟨μ, rfl, Y, yF.rf⟩
  | false =>
    obtain ⟨M2, y9⟩ := Y1.2.2.2.2.2
    rw [if_pos b0, if_neg (by decide), Y1.1.2.2.2, Y1.1.2.2.1, if_pos y9.1.1.1]
    obtain ⟨ν, M1, e, Y2, F2, t2, q, I1⟩ := y_copy Y
    rw [e]
    simp only [Option.bind_some]
    obtain ⟨ω, e2, Y3, F3⟩ := y_leftL (h := h) (k := k) (by omega) 20 FU 0 ν M1 rfl (by unfold FU; omega) Y2 t2 I1 (by rw [q.cn]; exact k1) (by rw [q.f k1]; exact k3) (by rw [q.over k1]; exact ho)
    refine ⟨ω, ?_, Y3, F2.tr F3⟩
    rw [← left_eq hB (by omega) 20 0 M M1 hI k1 k3 ho q]
    exact e2
