theorem r_copyQ {q s : Nat} {μ : MM} {l : List Int32} (hq : tLayQ q μ) (hs : tLayQ s μ) (hd : q + 2 ≤ s ∨ s + 2 ≤ q) (h : tQ s μ l) : ∃ ν, fX4_copyFrom q s μ = some ν ∧ tQ q ν l ∧ tW q μ ν := by
  obtain ⟨a1, a2, a3, a4⟩ := hq
  obtain ⟨b1, b2, b3, b4⟩ := hs
  obtain ⟨h1, h2, h3⟩ := h
  have e24 : (24 : Int32).toNatClampNeg = 24 := rfl
  have W1 : tW q μ (sC μ (s + 1) (q + 1) 24) := ⟨rfl, rfl, rfl, rfl, fun a j x => by rw [mI_sC, if_neg (by omega)]⟩
  refine ⟨sI (sC μ (s + 1) (q + 1) 24) q 1 (mI (sC μ (s + 1) (q + 1) 24) s 1), ?_, ⟨h1, ?_, fun i v hv => ?_⟩, W1.tr (tW.I (by omega) (by omega))⟩
  · unfold fX4_copyFrom
    rw [if_pos b1, b2, if_pos b3, a2, if_pos a3, e24, b4, if_pos (Nat.le_refl _), a4, if_pos (Nat.le_refl _)]
    rfl
  · rw [mI_sI, if_pos ⟨rfl, rfl⟩, W1.2.2.2.2 s 1 (by omega)]
    exact h2
  · have hi : i < l.length := (List.getElem?_eq_some_iff.mp hv).1
    rw [mI_sI, if_neg (by omega), mI_sC, if_pos ⟨rfl, by omega⟩]
    exact h3 i v hv
theorem tM.out {c c' : Nat} {μ ν : MM} {M : gM} (h : tM c' μ M) (F : tF c μ ν) (hd : c + 131 ≤ c' ∨ c' + 131 ≤ c) : tM c' ν M := by
  obtain ⟨f1, f2, f3, f4, f5⟩ := F
  obtain ⟨⟨⟨a1, a2, a3, a4, a5, a6, a7⟩, b, d, ⟨e1, e2, e3, e4⟩, ⟨g1, g2, g3, g4⟩⟩, ⟨i1, i2, i3⟩, j1, j2, hc⟩ := h
  refine ⟨⟨⟨by rw [f1]; exact a1, ?_, ?_, ?_, ?_, by rw [f1]; exact a6, by rw [f2]; exact a7⟩, fun n hn => ?_, fun n hn => ?_, ⟨by rw [f1]; exact e1, ?_, by rw [f1]; exact e3, by rw [f2]; exact e4⟩, ⟨by rw [f1]; exact g1, ?_, by rw [f1]; exact g3, by rw [f2]; exact g4⟩⟩, ⟨?_, ?_, ?_⟩, j1.same fun a i _ => f4 a i (by omega), j2.same fun a i _ => f4 a i (by omega), fun n hn => ?_⟩
  · rw [f5 _ _ (by omega)]; exact a2
  · rw [f5 _ _ (by omega)]; exact a3
  · rw [f5 _ _ (by omega)]; exact a4
  · rw [f5 _ _ (by omega)]; exact a5
  · rw [f5 _ _ (by omega)]; exact b n hn
  · have h1 := tCo_in (c := c') hn
    obtain ⟨d1, d2, d3, d4, d5, d6, d7, d8, d9, d10, d11, d12⟩ := d n hn
    refine ⟨by rw [f1]; exact d1, ?_, ?_, by rw [f1]; exact d4, by rw [f2]; exact d5, by rw [f1]; exact d6, ?_, ?_, by rw [f1]; exact d9, by rw [f2]; exact d10, by rw [f1]; exact d11, by rw [f2]; exact d12⟩
    · rw [f5 _ _ (by omega)]; exact d2
    · rw [f5 _ _ (by omega)]; exact d3
    · rw [f5 _ _ (by omega)]; exact d7
    · rw [f5 _ _ (by omega)]; exact d8
  · rw [f5 _ _ (by omega)]; exact e2
  · rw [f5 _ _ (by omega)]; exact g2
  · rw [f4 _ _ (by omega)]; exact i1
  · rw [f4 _ _ (by omega)]; exact i2
  · rw [f4 _ _ (by omega)]; exact i3
  · have h1 := tCo_in (c := c') hn
    exact (hc n hn).same fun a i _ _ _ => f4 a i (by omega)
theorem tU.F {c n : Nat} {μ ν : MM} (h : tU (tCo c n) μ ν) (hn : n ≤ 24) : tF c μ ν := by
  have h1 := tCo_in (c := c) hn
  exact ⟨h.1, h.2.1, h.2.2.1, fun a j x => h.2.2.2.2 a j (by omega), fun a j _ => by rw [h.2.2.2.1]⟩
theorem tM.setC {c n : Nat} {μ ν : MM} {M : gM} {x : gCo} (h : tM c μ M) (hn : n ≤ 24) (U : tU (tCo c n) μ ν) (hx : tC (tCo c n) ν n x) : tM c ν (gCoS M n x) ∧ tF c μ ν := by
  have F := U.F hn
  have ha := tCo_at (c := c) (n := n)
  obtain ⟨⟨a1, a2, a3⟩, q1, q2, hc⟩ := h.2
  refine ⟨h.step F ⟨⟨?_, ?_, ?_⟩, q1.same fun a i hi => U.2.2.2.2 a i (by omega), q2.same fun a i hi => U.2.2.2.2 a i (by omega), fun k hk => ?_⟩, F⟩
  · rw [U.2.2.2.2 _ _ (by omega)]; exact a1
  · rw [U.2.2.2.2 _ _ (by omega)]; exact a2
  · rw [U.2.2.2.2 _ _ (by omega)]; exact a3
  · by_cases z : k = n
    · rw [z, co_at]; exact hx
    · rw [co_ne z]
      have hd := tCo_ne (c := c) z hk hn
      exact (hc k hk).same fun a i b1 b2 _ => U.2.2.2.2 a i (by omega)
def gCopy (M M2 : gM) (j : Nat) : gM := (fun k => if k < j then M.1 k else M2.1 k, M.2)
theorem r_copyL {c c' : Nat} {M M2 : gM} (hd : c + 131 ≤ c' ∨ c' + 131 ≤ c) (hc : gcnt M = Int32.ofNat (cN M)) (h24 : cN M ≤ 24) (h15 : ∀ k, k < cN M → gf M k 15 = 0 ∨ gf M k 15 = 1) : ∀ (i f j : Nat) (μ : MM), j + i = cN M → i < f → tM c μ (gCopy M M2 j) → tM c' μ M → ∃ ν, lX3_copyFrom_48 f c c' (Int32.ofNat j) μ = some ν ∧ tM c ν (gCopy M M2 (cN M)) ∧ tF c μ ν := by
  intro i
  induction i with
  | zero =>
    intro f j μ hj hf h h'
    obtain ⟨f, rfl⟩ : ∃ g, f = g + 1 := ⟨f - 1, by omega⟩
    obtain rfl : j = cN M := by omega
    refine ⟨μ, ?_, h, tF.rf⟩
    show bX3_copyFrom_48 _ c c' (Int32.ofNat (cN M)) μ = _
    unfold bX3_copyFrom_48
    rw [if_pos h.1.1.1, show mI μ c 5 = gcnt M from h.2.1.1, hc, if_pos ((g_le (by omega) (by omega)).mpr (Nat.le_refl _))]
  | succ i ih =>
    intro f j μ hj hf h h'
    obtain ⟨f, rfl⟩ : ∃ g, f = g + 1 := ⟨f - 1, by omega⟩
    have hj24 : j ≤ 24 := by omega
    show ∃ ν, bX3_copyFrom_48 (fun h0 h1 x2 μ => lX3_copyFrom_48 f h0 h1 x2 μ) c c' (Int32.ofNat j) μ = _ ∧ _
    unfold bX3_copyFrom_48
    rw [if_pos h.1.1.1, show mI μ c 5 = gcnt M from h.2.1.1, hc, if_neg (mt (g_le (by omega) (by omega)).mp (by omega)), r_at h.1, n_at (by omega)]
    simp only [Option.bind_some]
    rw [if_pos h'.1.1.1, r_at h'.1, n_at (by omega)]
    simp only [Option.bind_some]
    have t1 := tCo_in (c := c) hj24
    have t2 := tCo_in (c := c') hj24
    obtain ⟨ω, e, x1, U⟩ := r_copyC (n := j) (n' := j) (h.lay hj24) (h'.lay hj24) (by omega) (h.2.2.2.2 j hj24).1 (h'.2.2.2.2 j hj24) (h15 j (by omega))
    rw [if_pos (h.lay hj24).1, e]
    simp only [Option.bind_some]
    obtain ⟨s1, F1⟩ := h.setC hj24 U x1
    have ec : gCoS (gCopy M M2 j) j (M.1 j) = gCopy M M2 (j + 1) := by
      unfold gCoS gCopy
      refine Prod.ext (funext fun k => ?_) rfl
      by_cases z : k = j
      · subst z
        simp
      · by_cases y : k < j
        · have : k < j + 1 := by omega
          simp [z, y, this]
        · have : ¬ k < j + 1 := by omega
          simp [z, y, this]
    rw [ec] at s1
    rw [g_suc]
    obtain ⟨ν, e2, s2, F2⟩ := ih f (j + 1) ω (by omega) (by omega) s1 (h'.out F1 hd)
    exact ⟨ν, e2, s2, F1.tr F2⟩
theorem r_copy {c c' : Nat} {μ : MM} {M M2 : gM} (hd : c + 131 ≤ c' ∨ c' + 131 ≤ c) (hc : gcnt M = Int32.ofNat (cN M)) (h24 : cN M ≤ 24) (h15 : ∀ k, k < cN M → gf M k 15 = 0 ∨ gf M k 15 = 1) (h : tM c μ M2) (h' : tM c' μ M) : ∃ ν, fX3_copyFrom c c' μ = some ν ∧ tM c ν (gCopy M M2 (cN M)) ∧ tF c μ ν := by
  unfold fX3_copyFrom
  rw [if_pos h'.1.1.1]
  have t1 : tM c (sI μ c 5 (gcnt M)) (gcntS M2 (gcnt M)) := h.step (tF.I (by omega) (by omega)) h.2.cnt
  have F1 : tF c μ (sI μ c 5 (gcnt M)) := tF.I (by omega) (by omega)
  have t2 : tM c (sI (sI μ c 5 (gcnt M)) c 6 (gnow M)) (gnowS (gcntS M2 (gcnt M)) (gnow M)) := t1.step (tF.I (by omega) (by omega)) t1.2.now
  have F2 : tF c (sI μ c 5 (gcnt M)) (sI (sI μ c 5 (gcnt M)) c 6 (gnow M)) := tF.I (by omega) (by omega)
  have t3 : tM c (sI (sI (sI μ c 5 (gcnt M)) c 6 (gnow M)) c 7 (gtrn M)) (gtrnS (gnowS (gcntS M2 (gcnt M)) (gnow M)) (gtrn M)) := t2.step (tF.I (by omega) (by omega)) t2.2.trn
  have F3 : tF c (sI (sI μ c 5 (gcnt M)) c 6 (gnow M)) (sI (sI (sI μ c 5 (gcnt M)) c 6 (gnow M)) c 7 (gtrn M)) := tF.I (by omega) (by omega)
  have F13 := (F1.tr F2).tr F3
  have h3 := h'.out F13 hd
  obtain ⟨ν4, e4, q4, W4⟩ := r_copyQ (q := c + 7) (s := c' + 7) t3.1.2.2.2.1 h3.1.2.2.2.1 (by omega) h3.2.2.1
  have F4 : tF c _ ν4 := W4.F (by omega) (by omega)
  have t4 := t3.step F4 (t3.2.setQ7 q4 fun x j hx => W4.2.2.2.2 x j (by omega))
  have h4 := h3.out F4 hd
  obtain ⟨ν5, e5, q5, W5⟩ := r_copyQ (q := c + 9) (s := c' + 9) t4.1.2.2.2.2 h4.1.2.2.2.2 (by omega) h4.2.2.2.1
  have F5 : tF c _ ν5 := W5.F (by omega) (by omega)
  have t5 := t4.step F5 (t4.2.setQ9 q5 fun x j hx => W5.2.2.2.2 x j (by omega))
  have h5 := h4.out F5 hd
  have t5 : tM c ν5 (gCopy M M2 0) := t5
  obtain ⟨ν, e6, t6, F6⟩ := r_copyL hd hc h24 h15 (cN M) FU 0 ν5 (Nat.zero_add _) (by unfold FU; omega) t5 h5
  refine ⟨ν, ?_, t6, ((F13.tr F4).tr F5).tr F6⟩
  refine st_eq (y := sI μ c 5 (gcnt M)) (by rw [show mI μ c' 5 = gcnt M from h'.2.1.1]) ?_
  refine st_eq (y := sI (sI μ c 5 (gcnt M)) c 6 (gnow M)) (by rw [show mI (sI μ c 5 (gcnt M)) c' 6 = gnow M from (h'.out F1 hd).2.1.2.1]) ?_
  refine st_eq (y := sI (sI (sI μ c 5 (gcnt M)) c 6 (gnow M)) c 7 (gtrn M)) (by rw [show mI (sI (sI μ c 5 (gcnt M)) c 6 (gnow M)) c' 7 = gtrn M from (h'.out (F1.tr F2) hd).2.1.2.2]) ?_
  rw [show mP (sI (sI (sI μ c 5 (gcnt M)) c 6 (gnow M)) c 7 (gtrn M)) c 3 = c + 7 from t3.1.1.2.2.2.1, show mP (sI (sI (sI μ c 5 (gcnt M)) c 6 (gnow M)) c 7 (gtrn M)) c' 3 = c' + 7 from h3.1.1.2.2.2.1, if_pos h.1.2.2.2.1.1, e4]
  simp only [Option.bind_some]
  rw [show mP ν4 c 4 = c + 9 from t4.1.1.2.2.2.2.1, show mP ν4 c' 4 = c' + 9 from h4.1.1.2.2.2.2.1, if_pos h.1.2.2.2.2.1, e5]
  exact e6
