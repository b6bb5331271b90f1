/-- what FROM makes -/
theorem from_of {M : gM} {r : Nat} {a : Int32} (hc : gcnt M = Int32.ofNat (cN M)) (h : cN M < 24) (hr : r < cN M) : gcnt (gFromM M r a) = Int32.ofNat (cN M + 1) ∧ cN (gFromM M r a) = cN M + 1 ∧ (∀ k, k ≠ cN M → k ≠ r → (gFromM M r a).1 k = M.1 k) ∧ (gFromM M r a).1 r = cF (cF (M.1 r) 9 (Int32.ofNat (cN M))) 5 1 ∧ (gFromM M r a).1 (cN M) = cGo (cF (gNewC a 2 (-1)) 10 (Int32.ofNat r)) 0 ∧ gnow (gFromM M r a) = gnow M ∧ gtrn (gFromM M r a) = gtrn M ∧ gaq (gFromM M r a) = gaq M ∧ grq (gFromM M r a) = grq M := by
  obtain ⟨m1, m2, m3, m4, m5, m6, m7, m8, m9⟩ := mk_of (M := M) (b := a) (so := 2) (sp := -1) hc h
  have e : gFromM M r a = gGo (gfS (gfS (gfS (gMake M a 2 (-1)) (cN M) 10 (Int32.ofNat r)) r 9 (Int32.ofNat (cN M))) r 5 1) (cN M) 0 := by
    unfold gFromM
    rw [m1, n_num h, n_num (by omega)]
  rw [e]
  refine ⟨m2, m3, fun k k1 k2 => ?_, ?_, ?_, m6, m7, m8, by show grq (gMake M a 2 (-1)) = _; rw [m9, if_neg (by decide)]⟩
  · rw [go_co, co_ne k1, co_F, co_ne k2, co_F, co_ne k2, co_F, co_ne k1]
    exact m4 k k1
  · rw [go_co, co_ne (by omega), co_FF, co_at, co_F, co_ne (by omega), m4 r (by omega)]
  · rw [go_co, co_at, co_F, co_ne (by omega), co_F, co_ne (by omega), co_F, co_at, m5]
theorem from_ok {B : gB} {T : gT} {top : Nat} (hB : IB B) (h : IVC B T top) (hw : T.2.2.2.2 = false) (h2 : gf T.1 T.2.1 5 = 2) (hL : gHL (B.2 (gBody (gf T.1 T.2.1 3))) (gf T.1 T.2.1 6) = true) (hkk : (gAtLn B T.1 T.2.1).1 = 10) : Lok B T top (gFrom B T T.2.1 (gAtLn B T.1 T.2.1).2.1) := by
  unfold gFrom
  by_cases y : gCanMake B T.1 (gAtLn B T.1 T.2.1).2.1 = true
  · rw [if_pos y]
    obtain ⟨⟨h01, h02, h03⟩, hc, ⟨n, hp⟩, hq, ht, hl⟩ := id h
    obtain ⟨c1, c2, c3⟩ := can_of hB h01 h02 y
    have hr := hc.1
    have m1 : gAt (gcnt T.1) = cN T.1 := by rw [h01]; exact n_at c1
    obtain ⟨m2, m3, m4, m5, m6, m7, m8, m9, m10⟩ := from_of (a := (gAtLn B T.1 T.2.1).2.1) h01 c1 hr
    generalize ha : (gAtLn B T.1 T.2.1).2.1 = a at *
    rw [m1]
    have er : ∀ j, gf (gFromM T.1 T.2.1 a) T.2.1 j = (if j = 5 then 1 else if j = 9 then Int32.ofNat (cN T.1) else gf T.1 T.2.1 j) := fun j => by show ((gFromM T.1 T.2.1 a).1 T.2.1).1 j = _; rw [m5]; rfl
    have en : ∀ j, gf (gFromM T.1 T.2.1 a) (cN T.1) j = (cGo (cF (gNewC a 2 (-1)) 10 (Int32.ofNat T.2.1)) 0).1 j := fun j => by show ((gFromM T.1 T.2.1 a).1 (cN T.1)).1 j = _; rw [m6]
    have eo : ∀ k j, k ≠ cN T.1 → k ≠ T.2.1 → gf (gFromM T.1 T.2.1 a) k j = gf T.1 k j := fun k j a b => by unfold gf; rw [m4 k a b]
    have e1 : ∀ k j, k < cN T.1 → j ≠ 5 → j ≠ 9 → gf (gFromM T.1 T.2.1 a) k j = gf T.1 k j := fun k j hk b d => by
      by_cases z : k = T.2.1
      · rw [z, er, if_neg b, if_neg d]
      · exact eo k j (by omega) z
    have r9 : gf T.1 T.2.1 9 = -1 := (h03 _ hr).1.2.2.2.2 (by show gf T.1 T.2.1 5 ≠ 1; rw [h2]; decide)
    have ovk : ∀ k, k < cN T.1 → gOver (gFromM T.1 T.2.1 a) k = gOver T.1 k := fun k hk => by
      by_cases z : k = T.2.1
      · rw [z, over2 h2]
        unfold gOver
        rw [er]
        rfl
      · exact over_f (eo k 5 (by omega) z)
    have hne : T.2.1 ≠ cN T.1 := by omega
    refine ⟨⟨by show cN T.1 ≤ cN (gFromM T.1 T.2.1 a); omega, m7, m8, fun k hk => ⟨e1 k 3 hk (by omega) (by omega), e1 k 4 hk (by omega) (by omega), e1 k 16 hk (by omega) (by omega), fun z => ⟨eo k 5 (by omega) z, eo k 7 (by omega) z⟩⟩, fun _ k hk z => m4 k (by omega) z⟩, ?_, rfl, rfl, Or.inr ⟨hw, ?_, ?_, Or.inl rfl⟩⟩
    · show sW (gFromM T.1 T.2.1 a) 24 ≤ _
      rw [sW_eq (M := T.1) (fun k => ?_)]
      · omega
      · by_cases z : k = cN T.1
        · rw [z]
          unfold wt
          rw [if_pos (by omega), show gk (gFromM T.1 T.2.1 a) (cN T.1) = [] by unfold gk; rw [m6]; rfl, show gOver (gFromM T.1 T.2.1 a) (cN T.1) = false by unfold gOver; rw [en]; rfl, if_neg (show ¬ false = true by decide), if_neg (Nat.lt_irrefl _)]
          rfl
        · by_cases z2 : k = T.2.1
          · rw [z2]
            unfold wt
            rw [ovk _ hr, show gk (gFromM T.1 T.2.1 a) T.2.1 = gk T.1 T.2.1 by unfold gk; rw [m5]; rfl, if_pos (by omega), if_pos hr]
          · exact wt_co (by omega) (m4 k z z2)
    · refine ⟨⟨by rw [m2, m3], by show cN (gFromM T.1 T.2.1 a) ≤ 24; omega, fun k hk => ?_⟩, ⟨by show cN T.1 < cN (gFromM T.1 T.2.1 a); omega, Or.inl ?_, fun k hk hkr => ?_⟩, ⟨n + 1, T.2.1, gP.fr n top T.2.1 (fun k _ z => ?_) hp, ?_, hr⟩, ?_, ⟨by show top < cN (gFromM T.1 T.2.1 a); have := ht.1; omega, ?_⟩, hl⟩
      · rw [m3] at hk
        show okR B (cN (gFromM T.1 T.2.1 a)) _ ∧ _
        rw [m3]
        by_cases z : k = cN T.1
        · rw [z]
          refine ⟨?_, ?_, fun w => ?_⟩
          · rw [m6]
            have x5 : (cGo (cF (gNewC a 2 (-1)) 10 (Int32.ofNat T.2.1)) 0).1 5 = 2 := rfl
            have nw := okR.new (B := B) (c := cN T.1 + 1) (b := a) (so := 2) (sp := -1)
            exact ⟨⟨nw.1.1, nw.1.2.1, nw.1.2.2.1, fun w => absurd w (by rw [x5]; decide), fun w => absurd w (by rw [x5]; decide)⟩, fun w => absurd w (by rw [x5]; decide), Or.inr (Or.inr (Or.inl rfl)), fun w => absurd w (by rw [x5]; decide), fun _ => rfl⟩
          · rw [m6]
            exact okC.new (so := 2) (sp := -1) ⟨c2, c3⟩ (Or.inr (Or.inr rfl)) (by show (-1 : Int) < _; omega)
          · rw [en] at w
            exact absurd rfl w
        · have hk' : k < cN T.1 := by omega
          obtain ⟨a1, a2, a3⟩ := h03 k hk'
          by_cases z2 : k = T.2.1
          · subst z2
            refine ⟨?_, ?_, fun w => ⟨cN T.1, ?_, hr, ?_, ?_, ?_, ?_⟩⟩
            · rw [m5]
              have x5 : (cF (cF (T.1.1 T.2.1) 9 (Int32.ofNat (cN T.1))) 5 1).1 5 = 1 := rfl
              refine ⟨⟨a1.1.1, a1.1.2.1, a1.1.2.2.1, fun w => absurd w (by rw [x5]; decide), fun w => absurd w (by rw [x5]; decide)⟩, fun w => absurd w (by rw [x5]; decide), Or.inr (Or.inl rfl), fun _ => ?_, fun w => absurd x5 w⟩
              have hk' : (gLn (B.2 (gBody ((T.1.1 T.2.1).1 3))) ((T.1.1 T.2.1).1 6)).1 = 10 := hkk
              show gHL (B.2 (gBody ((T.1.1 T.2.1).1 3))) ((T.1.1 T.2.1).1 6) = true ∧ ((gLn (B.2 (gBody ((T.1.1 T.2.1).1 3))) ((T.1.1 T.2.1).1 6)).1 = 3 ∨ (gLn (B.2 (gBody ((T.1.1 T.2.1).1 3))) ((T.1.1 T.2.1).1 6)).1 = 10 ∨ (gLn (B.2 (gBody ((T.1.1 T.2.1).1 3))) ((T.1.1 T.2.1).1 6)).1 = 12 ∨ (gLn (B.2 (gBody ((T.1.1 T.2.1).1 3))) ((T.1.1 T.2.1).1 6)).1 = 13) ∧ ((gLn (B.2 (gBody ((T.1.1 T.2.1).1 3))) ((T.1.1 T.2.1).1 6)).1 = 10 ↔ Int32.ofNat (cN T.1) ≠ -1) ∧ ((T.1.1 T.2.1).1 4 = 0 → (gLn (B.2 (gBody ((T.1.1 T.2.1).1 3))) ((T.1.1 T.2.1).1 6)).1 = 3 ∨ (gLn (B.2 (gBody ((T.1.1 T.2.1).1 3))) ((T.1.1 T.2.1).1 6)).1 = 10) ∧ ((gLn (B.2 (gBody ((T.1.1 T.2.1).1 3))) ((T.1.1 T.2.1).1 6)).1 = 13 → ∃ j, (T.1.1 T.2.1).1 7 = Int32.ofNat j ∧ j < cN T.1 + 1)
              rw [hk']
              exact ⟨hL, Or.inr (Or.inl rfl), ⟨fun _ => n_neg (by omega), fun _ => rfl⟩, fun _ => Or.inr rfl, fun w => absurd w (by decide)⟩
            · rw [m5]; exact a2
            · rw [er]; rfl
            · show cN T.1 < cN (gFromM T.1 T.2.1 a); omega
            · rw [en]; rfl
            · rw [en]; rfl
            · rw [en]
              show a = _
              unfold gAtLn
              rw [er, er]
              exact ha.symm
          · rw [m4 k z z2]
            refine ⟨a1.mono (by omega), a2, fun w => ?_⟩
            rw [eo k 9 z z2] at w ⊢
            obtain ⟨j, d1, d2, d3, d4, d5, d6⟩ := a3 w
            refine ⟨j, d1, d2, by rw [m3]; omega, by rw [e1 j 4 d3 (by omega) (by omega)]; exact d4, by rw [e1 j 10 d3 (by omega) (by omega)]; exact d5, ?_⟩
            rw [e1 j 3 d3 (by omega) (by omega), d6]
            unfold gAtLn
            rw [eo k 3 z z2, eo k 6 z z2]
      · show gf (gFromM T.1 T.2.1 a) (cN T.1) 5 = 2
        rw [en]; rfl
      · have hk : k < cN (gFromM T.1 T.2.1 a) := hk
        have hkr : k ≠ cN T.1 := hkr
        show gf (gFromM T.1 T.2.1 a) k 5 ≠ 2 ∧ _
        by_cases z2 : k = T.2.1
        · rw [z2]
          refine ⟨by rw [er]; exact (show (1 : Int32) ≠ 2 by decide), fun j hj w => Or.inl ?_⟩
          rw [er] at w
          have hj : j < cN (gFromM T.1 T.2.1 a) := hj
          exact (n_inj (by omega) (by omega) w).symm
        · obtain ⟨a1, a2⟩ := hc.2.2 k (by omega) z2
          refine ⟨by rw [eo k 5 hkr z2]; exact a1, fun j hj w => ?_⟩
          have hj : j < cN (gFromM T.1 T.2.1 a) := hj
          show j = cN T.1 ∨ _
          by_cases z3 : j = cN T.1
          · exact Or.inl z3
          · rw [eo k 9 hkr z2] at w
            refine Or.inr ?_
            rcases a2 j (by omega) w with q | q
            · rw [q]; show gf (gFromM T.1 T.2.1 a) T.2.1 5 = 1; rw [er]; rfl
            · by_cases z4 : j = T.2.1
              · rw [z4]; show gf (gFromM T.1 T.2.1 a) T.2.1 5 = 1; rw [er]; rfl
              · show gf (gFromM T.1 T.2.1 a) j 5 = 1
                rw [eo j 5 z3 z4]; exact q
      · exact eo k 9 (by omega) (by omega)
      · show gf (gFromM T.1 T.2.1 a) T.2.1 9 = _
        rw [er]; rfl
      · refine hq.new c1 m3 m7 m9 (fun k hk => ⟨e1 k 4 hk (by omega) (by omega), e1 k 12 hk (by omega) (by omega), e1 k 13 hk (by omega) (by omega), ovk k hk⟩) (by rw [en]; rfl) (by rw [en]; rfl) ?_ (Or.inl ⟨by rw [en]; exact (show (2 : Int32) ≠ 1 by decide), m10⟩)
        rcases ht.2 with q | q
        · rw [q.2]; exact fun w => by have := n_inj (by have := ht.1; omega) (by omega) w; have := ht.1; omega
        · rw [q.2]; exact fun w => n_neg (by omega) w.symm
      · show (gf (gFromM T.1 T.2.1 a) top 4 = 1 ∧ _) ∨ (gf (gFromM T.1 T.2.1 a) top 4 ≠ 1 ∧ _)
        rw [e1 top 4 ht.1 (by omega) (by omega)]
        exact ht.2
    · show gf (gFromM T.1 T.2.1 a) (cN T.1) 5 = 2
      rw [en]; rfl
  · rw [if_neg y]
    exact Lok.same h hw h2 (Or.inr ⟨by decide, by decide⟩)
/-- a task's shield -/
theorem IVC.sh {B : gB} {T : gT} {top n : Nat} {v : Int32} (h : IVC B T top) (hv : 0 ≤ v.toInt) : IVC B (gfS T.1 n 14 v, T.2) top := by
  obtain ⟨h0, hc, ⟨m, hp⟩, hq, ht, hl⟩ := h
  have ne : ∀ k j, j ≠ 14 → gf (gfS T.1 n 14 v) k j = gf T.1 k j := fun k j e => by rw [gf_gfS, if_neg (by omega)]
  refine ⟨⟨h0.1, h0.2.1, fun k hk => ?_⟩, ⟨hc.1, ?_, fun k hk hkr => ?_⟩, ⟨m, gP.fr m top T.2.1 (fun k _ _ => ne k 9 (by omega)) hp⟩, hq.fr rfl rfl rfl rfl fun k _ => ⟨ne k 4 (by omega), ne k 12 (by omega), ne k 13 (by omega), over_f (ne k 5 (by omega))⟩, ⟨ht.1, ?_⟩, hl⟩
  · obtain ⟨a1, a2, a3⟩ := h0.2.2 k hk
    refine ⟨?_, ?_, fun w => ?_⟩
    · by_cases z : k = n
      · rw [z] at a1 ⊢
        rw [co_F, co_at]
        exact a1
      · rw [co_F, co_ne z]; exact a1
    · by_cases z : k = n
      · rw [z] at a2 ⊢
        rw [co_F, co_at]
        exact ⟨a2.1, a2.2.1, a2.2.2.1, hv, a2.2.2.2.2⟩
      · rw [co_F, co_ne z]; exact a2
    · rw [ne k 9 (by omega)] at w ⊢
      obtain ⟨j, d1, d2, d3, d4, d5, d6⟩ := a3 w
      refine ⟨j, d1, d2, d3, by rw [ne j 4 (by omega)]; exact d4, by rw [ne j 10 (by omega)]; exact d5, ?_⟩
      rw [ne j 3 (by omega), d6]
      unfold gAtLn
      rw [ne k 3 (by omega), ne k 6 (by omega)]
  · rw [ne _ 5 (by omega)]; exact hc.2.1
  · obtain ⟨a1, a2⟩ := hc.2.2 k hk hkr
    refine ⟨by rw [ne k 5 (by omega)]; exact a1, fun j hj w => ?_⟩
    rw [ne k 9 (by omega)] at w
    rw [ne j 5 (by omega)]
    exact a2 j hj w
  · show (gf (gfS T.1 n 14 v) top 4 = 1 ∧ _) ∨ (gf (gfS T.1 n 14 v) top 4 ≠ 1 ∧ _)
    rw [ne top 4 (by omega)]; exact ht.2
theorem shield_ok {B : gB} {T : gT} {top : Nat} (h : IVC B T top) (hw : T.2.2.2.2 = false) (h2 : gf T.1 T.2.1 5 = 2) (a : Int32) : Lok B T top (gShield T T.2.1 a) := by
  have key : ∀ {M1 : gM}, IVC B (M1, T.2) top → gKp T.1 M1 T.2.1 T.2.2.1.1 → sW M1 24 = sW T.1 24 → gf M1 T.2.1 5 = 2 → gf M1 T.2.1 6 = gf T.1 T.2.1 6 → Lok B T top (0, (gfS M1 T.2.1 6 (gf T.1 T.2.1 6 + 1), T.2)) := fun {M1} h1 k1 w1 s1 _ => by
    refine ⟨k1.F (Or.inr (Or.inl ⟨rfl, by omega, by omega, by omega⟩)), ?_, rfl, rfl, Or.inr ⟨hw, ?_, ?_, Or.inl rfl⟩⟩
    · show sW (gfS M1 _ _ _) 24 ≤ _
      rw [sW_F (by omega), w1]; omega
    · exact h1.upd (T' := (gfS M1 T.2.1 6 (gf T.1 T.2.1 6 + 1), T.2)) (x := cF (M1.1 T.2.1) 6 (gf T.1 T.2.1 6 + 1)) (sameC.F (Or.inr (Or.inl rfl))) ((h1.1.2.2 _ h1.2.1.1).1.1.F6 _) (Or.inl s1) rfl rfl rfl h.2.2.2.2.2
    · show gf (gfS M1 _ _ _) _ 5 = 2
      rw [gf_gfS, if_neg (by omega)]; exact s1
  unfold gShield gShM
  by_cases q : T.2.2.1.1 = -1
  · rw [if_pos q]
    exact key h gKp.rf rfl h2 rfl
  · rw [if_neg q]
    refine key (h.sh ?_) (gKp.rf.F (Or.inr (Or.inr ⟨q, by omega, by omega, by omega, by omega, by omega⟩))) (sW_F (by omega) 24) (by rw [gf_gfS, if_neg (by omega)]; exact h2) (by rw [gf_gfS, if_neg (by omega)])
    rw [jmax_T, show (0 : Int32).toInt = 0 from rfl]
    split <;> omega
