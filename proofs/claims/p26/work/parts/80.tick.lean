/-! TIME -/
theorem IQ.app {M : gM} {t : Int32} {p : Nat} (h : IQ M t) (h24 : cN M ≤ 24) (hp : p < cN M) (hw : gf M p 12 ≠ -1 ∨ gf M p 13 ≠ -1) : gAdd (grq M) (Int32.ofNat p) = grq M ++ [Int32.ofNat p] := by
  obtain ⟨q0, ⟨q1, q2⟩, -⟩ := h
  refine gAdd_app h24 q1 (fun z => ?_) (fun x hx => by obtain ⟨-, k, e, hk, -⟩ := q2 x hx; exact ⟨k, e, hk⟩) ⟨p, rfl, hp⟩
  obtain ⟨-, k, p2, p3, p4, p5, p6, p7⟩ := q2 _ z
  have : p = k := n_inj (by omega) (by omega) p2
  subst this
  rcases hw with w | w
  · exact w p6
  · exact w p7
/-- one that wakes -/
def gWk1 (M : gM) (n : Nat) : gM := grqS (gfS M n 12 (-1)) (gAdd (grq (gfS M n 12 (-1))) (Int32.ofNat n))
theorem tickN_ok {t0 t : Int32} (ht : t ≠ -1) : ∀ (i n : Nat) (M : gM), n + i = cN M → cN M ≤ 24 → IQ (gnowS M t0) (-1) → (∀ k, k < n → gf M k 12 ≠ t) →
    sameQ M (gTickN t i n M) ∧ gnow (gTickN t i n M) = gnow M ∧ gtrn (gTickN t i n M) = gtrn M ∧ IQ (gnowS (gTickN t i n M) t0) (-1) ∧ (∀ k, k < cN M → gf (gTickN t i n M) k 12 ≠ t) ∧ (grq (gTickN t i n M)).length = (grq M).length + gTickC t i n M := by
  intro i
  induction i with
  | zero => intro n M hn h24 h hk; exact ⟨sameQ.rf, rfl, rfl, h, fun k z => hk k (by omega), rfl⟩
  | succ i ih =>
    intro n M hn h24 h hk
    have hnc : n < cN M := by omega
    unfold gTickN gTickC
    by_cases q : gf M n 4 = 1 ∧ gf M n 12 = t
    · rw [if_pos q, if_pos q]
      have w12 : gf M n 12 ≠ -1 := by rw [q.2]; exact ht
      have f13 : gf M n 13 = -1 := Classical.byContradiction fun z => w12 (h.2.2.2.1 n hnc z).2.2.2.1
      have ea : gAdd (grq M) (Int32.ofNat n) = grq M ++ [Int32.ofNat n] := IQ.app (M := gnowS M t0) h h24 hnc (Or.inl w12)
      show sameQ M (gTickN t i (n + 1) (gWk1 M n)) ∧ _ ∧ _ ∧ _ ∧ _ ∧ (grq (gTickN t i (n + 1) (gWk1 M n))).length = (grq M).length + (gTickC t i (n + 1) (gWk1 M n) + 1)
      have s1 : sameQ M (gWk1 M n) := ((sameQ.rf (M := M)).F (Or.inl rfl) : sameQ M (gfS M n 12 (-1))).q
      have fr : ∀ k j, gf (gWk1 M n) k j = (if k = n ∧ j = 12 then -1 else gf M k j) := fun k j => by
        show gf (gfS M n 12 (-1)) k j = _
        rw [gf_gfS]
      have h1 : IQ (gnowS (gWk1 M n) t0) (-1) := by
        refine IQ.free (M := gnowS M t0) (p := n) (l := gaq M) h h24 hnc (Or.inl w12) h.2.2.1.1 (fun x => ⟨fun z => ⟨fun y => ?_, z⟩, fun z => z.2⟩) rfl rfl rfl rfl (fun k _ => ⟨?_, over_f ?_, fun z => ⟨?_, ?_⟩⟩) ?_ ?_
        · obtain ⟨k, k1, k2, k3⟩ := h.2.2.1.2 x z
          have : k = n := n_inj (by have : k < cN M := k2; omega) (by omega) (k1.symm.trans y)
          subst this
          exact k3 f13
        · exact (fr k 4).trans (if_neg (by omega))
        · exact (fr k 5).trans (if_neg (by omega))
        · exact (fr k 12).trans (if_neg (by omega))
        · exact (fr k 13).trans (if_neg (by omega))
        · exact (fr n 12).trans (if_pos ⟨rfl, rfl⟩)
        · exact ((fr n 13).trans (if_neg (by omega))).trans f13
      obtain ⟨a1, a2, a3, a4, a5, a6⟩ := ih (n + 1) (gWk1 M n) (by show n + 1 + i = cN M; omega) h24 h1 (fun k hk2 => by
        rw [fr]
        split
        · exact fun z => ht z.symm
        · exact hk k (by omega))
      refine ⟨s1.tr a1, a2, a3, a4, a5, ?_⟩
      rw [a6]
      show (gAdd (grq M) (Int32.ofNat n)).length + _ = _
      rw [ea, List.length_append]
      simp
      omega
    · rw [if_neg q, if_neg q]
      refine ih (n + 1) M (by omega) h24 h (fun k hk2 => ?_)
      by_cases z : k = n
      · subst z
        intro w
        refine q ⟨?_, w⟩
        exact (h.2.2.2.2.1 k hnc (by show gf M k 12 ≠ -1; rw [w]; exact ht)).1
      · exact hk k (by omega)
theorem tick_ok {B : gB} {M : gM} (h : IVR B M) (hn : (gnow M).toInt < 1000000) : IVR B (gTick M) ∧ gnow (gTick M) = gnow M + 1 ∧ (gnow (gTick M)).toInt = (gnow M).toInt + 1 ∧ gtrn (gTick M) = gtrn M ∧ (grq (gTick M)).length = (grq M).length + gWoken M ∧ sameQ M (gTick M) := by
  have h0 := h.2.2.1
  have e1 : (gnow M + 1).toInt = (gnow M).toInt + 1 := i_add (by show _ ≤ (gnow M).toInt + 1; omega) (by show (gnow M).toInt + 1 < _; omega)
  have ht : gnow M + 1 ≠ -1 := fun z => by
    rw [z] at e1
    have : (-1 : Int32).toInt = -1 := rfl
    omega
  obtain ⟨a1, a2, a3, a4, a5, a6⟩ := tickN_ok (t0 := gnow M) ht (cN M) 0 (gnowS M (gnow M + 1)) (Nat.zero_add _) h.1.2.1 h.2.2 (fun k z => absurd z (Nat.not_lt_zero _))
  have eT : gTick M = gTickN (gnow M + 1) (cN M) 0 (gnowS M (gnow M + 1)) := rfl
  have eW : gWoken M = gTickC (gnow M + 1) (cN M) 0 (gnowS M (gnow M + 1)) := rfl
  rw [eT, eW]
  generalize gTickN (gnow M + 1) (cN M) 0 (gnowS M (gnow M + 1)) = M' at a1 a2 a3 a4 a5 a6 ⊢
  have s1 : sameQ M M' := a1
  have a2 : gnow M' = gnow M + 1 := a2
  refine ⟨⟨s1.IV0 h.1, s1.rest h.2.1, ?_⟩, a2, by rw [a2, e1], a3, a6, s1⟩
  obtain ⟨q0, q1, q3, q5, q6, q7, q8⟩ := a4
  have cc : cN M' = cN M := s1.cn
  refine ⟨⟨by rw [a2, e1]; omega, by rw [a2, e1]; omega⟩, q1, q3, q5, fun k hk z => ?_, q7, q8⟩
  obtain ⟨p1, p2, p3, p4⟩ := q6 k hk z
  have p4 : (gnow M).toInt < (gf M' k 12).toInt := p4
  refine ⟨p1, p2, p3, ?_⟩
  rw [a2, e1]
  have hne := a5 k (by show k < cN M; rw [← cc]; exact hk)
  have : (gf M' k 12).toInt ≠ (gnow M + 1).toInt := fun w => hne (Int32.toInt_inj.mp w)
  omega
/-- against the model -/
theorem r_tickL {c : Nat} {t : Int32} : ∀ (i f n w : Nat) (M : gM) (μ : MM), n + i = cN M → gcnt M = Int32.ofNat (cN M) → cN M ≤ 24 → i < f → gnow M = t → tM c μ M →
    ∃ ν, lX3_oneTick_14 f c (Int32.ofNat w) (Int32.ofNat n) μ = some (Int32.ofNat (w + gTickC t i n M), ν) ∧ tM c ν (gTickN t i n M) ∧ tF c μ ν := by
  intro i
  induction i with
  | zero =>
    intro f n w M μ hn hc h24 hf hg h
    obtain ⟨f, rfl⟩ : ∃ g, f = g + 1 := ⟨f - 1, by omega⟩
    refine ⟨μ, ?_, h, tF.rf⟩
    show bX3_oneTick_14 _ c (Int32.ofNat w) (Int32.ofNat n) μ = _
    unfold bX3_oneTick_14
    rw [if_pos h.1.1.1, show mI μ c 5 = gcnt M from h.2.1.1, hc, if_pos ((g_le (by omega) (by omega)).mpr (by omega))]
    rfl
  | succ i ih =>
    intro f n w M μ hn hc h24 hf hg h
    obtain ⟨f, rfl⟩ : ∃ g, f = g + 1 := ⟨f - 1, by omega⟩
    show ∃ ν, bX3_oneTick_14 (fun h0 x1 x2 μ => lX3_oneTick_14 f h0 x1 x2 μ) c (Int32.ofNat w) (Int32.ofNat n) μ = _ ∧ _
    unfold bX3_oneTick_14 gTickN gTickC
    rw [if_pos h.1.1.1, show mI μ c 5 = gcnt M from h.2.1.1, hc, if_neg (mt (g_le (by omega) (by omega)).mp (by omega)), r_at h.1, n_at (by omega)]
    simp only [Option.bind_some]
    have hk : n ≤ 24 := by omega
    rw [if_pos (h.lay hk).1, show mI μ (tCo c n) 4 = gf M n 4 from h.rd hk (by omega) (by omega) (by omega), show mI μ (tCo c n) 12 = gf M n 12 from h.rd hk (by omega) (by omega) (by omega), show mI μ c 6 = gnow M from h.2.1.2.1, hg]
    by_cases q4 : gf M n 4 = 1
    · rw [if_pos q4]
      by_cases q12 : gf M n 12 = t
      · rw [if_pos q12, if_pos ⟨q4, q12⟩, if_pos ⟨q4, q12⟩]
        obtain ⟨t1, F1, T1⟩ := r_F h hk 12 (-1) (by omega) (by omega) (by omega)
        obtain ⟨ν1, e1, t2, F2, T2⟩ := r_add7 t1 (Int32.ofNat n)
        obtain ⟨ν, e3, t3, F3⟩ := ih f (n + 1) (w + 1) (gWk1 M n) ν1 (by show n + 1 + i = cN M; omega) hc h24 (by omega) hg t2
        refine ⟨ν, ?_, t3, (F1.tr F2).tr F3⟩
        dsimp only [st]
        rw [show mP (sI μ (tCo c n) 12 (-1)) c 3 = c + 7 from t1.1.1.2.2.2.1, if_pos h.1.2.2.2.1.1, e1]
        simp only [Option.bind_some]
        rw [g_suc, g_suc, e3, show w + 1 + gTickC t i (n + 1) (gWk1 M n) = w + (gTickC t i (n + 1) (gWk1 M n) + 1) by omega]
        rfl
      · rw [if_neg q12, if_neg (fun z : gf M n 4 = 1 ∧ gf M n 12 = t => q12 z.2), if_neg (fun z : gf M n 4 = 1 ∧ gf M n 12 = t => q12 z.2), g_suc]
        exact ih f (n + 1) w M μ (by omega) hc h24 (by omega) hg h
    · rw [if_neg q4, if_neg (fun z : gf M n 4 = 1 ∧ gf M n 12 = t => q4 z.1), if_neg (fun z : gf M n 4 = 1 ∧ gf M n 12 = t => q4 z.1), g_suc]
      exact ih f (n + 1) w M μ (by omega) hc h24 (by omega) hg h
theorem r_tick {c : Nat} {μ : MM} {M : gM} (hc : gcnt M = Int32.ofNat (cN M)) (h24 : cN M ≤ 24) (h : tM c μ M) : ∃ ν, fX3_oneTick c μ = some (Int32.ofNat (gWoken M), ν) ∧ tM c ν (gTick M) ∧ tF c μ ν := by
  have t1 : tM c (sI μ c 6 (gnow M + 1)) (gnowS M (gnow M + 1)) := h.step (tF.I (by omega) (by omega)) h.2.now
  have F1 : tF c μ (sI μ c 6 (gnow M + 1)) := tF.I (by omega) (by omega)
  obtain ⟨ν, e, t2, F2⟩ := r_tickL (t := gnow M + 1) (cN M) FU 0 0 (gnowS M (gnow M + 1)) _ (Nat.zero_add _) hc h24 (by unfold FU; omega) rfl t1
  refine ⟨ν, ?_, t2, F1.tr F2⟩
  rw [Nat.zero_add] at e
  unfold fX3_oneTick st
  rw [show mI μ c 6 = gnow M from h.2.1.2.1]
  exact e
