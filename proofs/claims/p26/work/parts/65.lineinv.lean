/-! the lines that touch more than their own coroutine keep the invariants -/
theorem IVC.q {B : gB} {T : gT} {top : Nat} {M' : gM} (h : IVC B T top) (hs : sameQ T.1 M') (hq : IQ M' T.2.2.1.1) : IVC B (M', T.2) top := by
  obtain ⟨h0, hc, ⟨n, hp⟩, -, ht, hl⟩ := h
  have hcn := hs.cn
  have h24 := h0.2.1
  refine ⟨hs.IV0 h0, ⟨by rw [hcn]; exact hc.1, ?_, fun k hk hkr => ?_⟩, ⟨n, gP.fr n top T.2.1 (fun k _ a => ?_) hp⟩, hq, ⟨by rw [hcn]; exact ht.1, ?_⟩, hl⟩
  · rw [(hs.2 _ hc.1).1 5 (by omega) (by omega) (by omega)]; exact hc.2.1
  · have hk' : k < cN T.1 := by rw [← hcn]; exact hk
    obtain ⟨a1, a2⟩ := hc.2.2 k hk' hkr
    refine ⟨by rw [(hs.2 _ hk').1 5 (by omega) (by omega) (by omega)]; exact a1, fun j hj e => ?_⟩
    have hj' : j < cN T.1 := by rw [← hcn]; exact hj
    rw [(hs.2 _ hk').1 9 (by omega) (by omega) (by omega)] at e
    rw [(hs.2 _ hj').1 5 (by omega) (by omega) (by omega)]
    exact a2 j hj' e
  · have := hc.1
    exact (hs.2 k (by omega)).1 9 (by omega) (by omega) (by omega)
  · rw [(hs.2 _ ht.1).1 4 (by omega) (by omega) (by omega)]; exact ht.2
/-- what holds behind such a line -/
def Lok (B : gB) (T : gT) (top : Nat) (R : Int32 × gT) : Prop := gKp T.1 R.2.1 T.2.1 T.2.2.1.1 ∧ sW R.2.1 24 ≤ sW T.1 24 + 2 ∧ R.2.2.2.1 = T.2.2.1 ∧ R.2.2.2.2.1 = T.2.2.2.1 ∧
  ((R.1 = 0 ∧ R.2.2.2.2.2 = true ∧ R.2.2.1 = T.2.1 ∧ gf R.2.1 T.2.1 5 = 1 ∧ IVR B R.2.1) ∨ (R.2.2.2.2.2 = false ∧ IVC B R.2 top ∧ gf R.2.1 R.2.2.1 5 = 2 ∧ (R.1 = 0 ∨ (okW R.1 ∧ R.2.2.1 = T.2.1))))
theorem Lok.same {B : gB} {T : gT} {top : Nat} {w : Int32} (h : IVC B T top) (hw : T.2.2.2.2 = false) (h2 : gf T.1 T.2.1 5 = 2) (ho : w = 0 ∨ okW w) : Lok B T top (w, T) :=
  ⟨gKp.rf, Nat.le_add_right _ _, rfl, rfl, Or.inr ⟨hw, h, h2, ho.elim Or.inl (fun q => Or.inr ⟨q, rfl⟩)⟩⟩
theorem ITop.of {M : gM} {top : Nat} {t : Int32} (h : ITop M top t) (ht : t ≠ -1) : t = Int32.ofNat top ∧ gf M top 4 = 1 := by
  rcases h.2 with q | q
  · exact ⟨q.2, q.1⟩
  · exact absurd q.2 ht
theorem sW_F {M : gM} {n j : Nat} {v : Int32} (hj : j ≠ 5) (m : Nat) : sW (gfS M n j v) m = sW M m := by
  induction m with
  | zero => rfl
  | succ m ih => show sW (gfS M n j v) m + wt (gfS M n j v) m = sW M m + wt M m; rw [ih, wt_F hj]
theorem sW_5 {M : gM} {n : Nat} {v : Int32} (hn : gOver M n = false) (hv : v ≠ 3 ∧ v ≠ 4) (m : Nat) : sW (gfS M n 5 v) m = sW M m := by
  induction m with
  | zero => rfl
  | succ m ih => show sW (gfS M n 5 v) m + wt (gfS M n 5 v) m = sW M m + wt M m; rw [ih, wt_5 hn hv]
theorem sW_q {M : gM} {q1 q2 : List Int32} (m : Nat) : sW (M.1, M.2.1, q1, q2) m = sW M m := by
  induction m with
  | zero => rfl
  | succ m ih => show sW (M.1, M.2.1, q1, q2) m + wt (M.1, M.2.1, q1, q2) m = sW M m + wt M m; rw [ih]; rfl
theorem over2 {M : gM} {n : Nat} (h : gf M n 5 = 2) : gOver M n = false := by unfold gOver; rw [h]; rfl
/-- a CANCEL that is heeded -/
theorem Lok.took {B : gB} {T : gT} {top : Nat} (h : IVC B T top) (hw : T.2.2.2.2 = false) (h2 : gf T.1 T.2.1 5 = 2) (ht : T.2.2.1.1 ≠ -1) : Lok B T top (9, (gTook T.1 T.2.2.1.1, T.2)) := by
  refine ⟨gKp.rf.F (Or.inr (Or.inr ⟨ht, by omega, by omega, by omega, by omega, by omega⟩)), ?_, rfl, rfl, Or.inr ⟨hw, ?_, ?_, Or.inr ⟨show okW 9 from ⟨by decide, by decide⟩, rfl⟩⟩⟩
  · show sW (gfS _ _ _ _) 24 ≤ _
    rw [sW_F (by omega)]; omega
  · refine h.q (sameQ.rf.F (Or.inr (Or.inr ⟨rfl, Or.inl rfl⟩))) (h.2.2.2.1.fr rfl rfl rfl rfl fun k _ => ⟨?_, ?_, ?_, over_f ?_⟩)
    all_goals exact (gf_gfS).trans (if_neg (by omega))
  · show gf (gfS _ _ _ _) _ 5 = 2
    rw [gf_gfS, if_neg (by omega)]; exact h2
/-- it waits -/
theorem Lok.wt {B : gB} {T : gT} {top : Nat} {M1 : gM} (h : IVC B T top) (h2 : gf T.1 T.2.1 5 = 2) (hk : gKp T.1 M1 T.2.1 T.2.2.1.1) (hW : sW M1 24 = sW T.1 24) (hs : sameQ T.1 M1) (hq : IQ M1 (-1)) (hw : okWt B (cN T.1) (T.1.1 T.2.1)) : Lok B T top (0, gWt T M1 T.2.1) := by
  have s5 : gf M1 T.2.1 5 = 2 := ((hs.2 _ h.2.1.1).1 5 (by omega) (by omega) (by omega)).trans h2
  refine ⟨hk.F (Or.inr (Or.inl ⟨rfl, by omega, by omega, by omega⟩)), ?_, rfl, rfl, Or.inl ⟨rfl, rfl, rfl, (gf_gfS).trans (if_pos ⟨rfl, rfl⟩), h.wait hw hs hq h2⟩⟩
  show sW (gfS M1 T.2.1 5 1) 24 ≤ _
  rw [sW_5 (over2 s5) (by decide), hW]
  omega
theorem okWt.of {B : gB} {T : gT} {top : Nat} (h : IVC B T top) (h2 : gf T.1 T.2.1 5 = 2) (hL : gHL (B.2 (gBody (gf T.1 T.2.1 3))) (gf T.1 T.2.1 6) = true) (hk : (gAtLn B T.1 T.2.1).1 = 3 ∨ ((gAtLn B T.1 T.2.1).1 = 12 ∧ T.2.2.1.1 ≠ -1) ∨ ((gAtLn B T.1 T.2.1).1 = 13 ∧ T.2.2.1.1 ≠ -1 ∧ ∃ j, gf T.1 T.2.1 7 = Int32.ofNat j ∧ j < cN T.1)) : okWt B (cN T.1) (T.1.1 T.2.1) := by
  have r9 : gf T.1 T.2.1 9 = -1 := (h.1.2.2 _ h.2.1.1).1.2.2.2.2 (by show gf T.1 T.2.1 5 ≠ 1; rw [h2]; decide)
  have hso : T.2.2.1.1 ≠ -1 → gf T.1 T.2.1 4 ≠ 0 := fun ht e => by
    obtain ⟨-, h4⟩ := h.2.2.2.2.1.of ht
    rcases h.inn with q | q
    · rw [q, h4] at e; exact absurd e (by decide)
    · rw [q.1] at e; exact absurd e (by decide)
  unfold okWt
  simp only [gf_at]
  have hk' : ((gLn (B.2 (gBody (gf T.1 T.2.1 3))) (gf T.1 T.2.1 6)).1 = 3 ∨ ((gLn (B.2 (gBody (gf T.1 T.2.1 3))) (gf T.1 T.2.1 6)).1 = 12 ∧ T.2.2.1.1 ≠ -1) ∨ ((gLn (B.2 (gBody (gf T.1 T.2.1 3))) (gf T.1 T.2.1 6)).1 = 13 ∧ T.2.2.1.1 ≠ -1 ∧ ∃ j, gf T.1 T.2.1 7 = Int32.ofNat j ∧ j < cN T.1)) := hk
  rw [r9]
  rcases hk' with q | q | q
  · rw [q]
    exact ⟨hL, Or.inl rfl, ⟨fun z => absurd z (by decide), fun z => absurd rfl z⟩, fun _ => Or.inl rfl, fun z => absurd z (by decide)⟩
  · rw [q.1]
    exact ⟨hL, Or.inr (Or.inr (Or.inl rfl)), ⟨fun z => absurd z (by decide), fun z => absurd rfl z⟩, fun z => absurd z (hso q.2), fun z => absurd z (by decide)⟩
  · rw [q.1]
    exact ⟨hL, Or.inr (Or.inr (Or.inr rfl)), ⟨fun z => absurd z (by decide), fun z => absurd rfl z⟩, fun z => absurd z (hso q.2.1), fun _ => q.2.2⟩
theorem yield_ok {B : gB} {T : gT} {top : Nat} (h : IVC B T top) (hw : T.2.2.2.2 = false) (ho : gOver T.1 top = false) (h2 : gf T.1 T.2.1 5 = 2) (hL : gHL (B.2 (gBody (gf T.1 T.2.1 3))) (gf T.1 T.2.1 6) = true) (hk : (gAtLn B T.1 T.2.1).1 = 3) : Lok B T top (gYield T T.2.1) := by
  have w := okWt.of h h2 hL (Or.inl hk)
  unfold gYield
  by_cases q : T.2.2.1.1 = -1
  · rw [if_pos q]
    exact Lok.wt h h2 gKp.rf rfl sameQ.rf (by rw [← q]; exact h.2.2.2.1) w
  · rw [if_neg q]
    obtain ⟨e1, e4⟩ := h.2.2.2.2.1.of q
    by_cases y : gTakes T.1 T.2.2.1.1 = true
    · rw [if_pos y]
      exact Lok.took h hw h2 q
    · rw [if_neg y]
      refine Lok.wt h h2 gKp.rf.q (sW_q 24) sameQ.rf.q ?_ w
      rw [e1]
      have hq := h.2.2.2.1
      rw [e1] at hq
      exact hq.add h.1.2.1 h.2.2.2.2.1.1 e4 ho
theorem sleep_ok {B : gB} {T : gT} {top : Nat} (hB : IB B) (h : IVC B T top) (hw : T.2.2.2.2 = false) (ho : gOver T.1 top = false) (h2 : gf T.1 T.2.1 5 = 2) (hL : gHL (B.2 (gBody (gf T.1 T.2.1 3))) (gf T.1 T.2.1 6) = true) (hk : (gAtLn B T.1 T.2.1).1 = 12) : Lok B T top (gSleep T T.2.1 (gAtLn B T.1 T.2.1).2.1) := by
  unfold gSleep
  by_cases q : T.2.2.1.1 = -1
  · rw [if_pos q]
    exact Lok.same h hw h2 (Or.inr ⟨by decide, by decide⟩)
  · rw [if_neg q]
    have w := okWt.of h h2 hL (Or.inr (Or.inl ⟨hk, q⟩))
    obtain ⟨e1, e4⟩ := h.2.2.2.2.1.of q
    by_cases y : gTakes T.1 T.2.2.1.1 = true
    · rw [if_pos y]
      exact Lok.took h hw h2 q
    · rw [if_neg y]
      have ha := (okLn_at hB (gBody_le (gf T.1 T.2.1 3)) (gf T.1 T.2.1 6)).2 hk
      refine Lok.wt h h2 (gKp.rf.F (Or.inr (Or.inr ⟨q, by omega, by omega, by omega, by omega, by omega⟩))) (sW_F (by omega) 24) (sameQ.rf.F (Or.inl rfl)) ?_ w
      have hq := h.2.2.2.1
      have ht := h.2.2.2.2.1.1
      have h24 := h.1.2.1
      rw [e1] at hq ⊢
      rw [n_at (by omega)]
      exact hq.sleep h24 ht e4 ho ha
theorem await_ok {B : gB} {T : gT} {top : Nat} (h : IVC B T top) (hw : T.2.2.2.2 = false) (ho : gOver T.1 top = false) (h2 : gf T.1 T.2.1 5 = 2) (hL : gHL (B.2 (gBody (gf T.1 T.2.1 3))) (gf T.1 T.2.1 6) = true) (hk : (gAtLn B T.1 T.2.1).1 = 13) : Lok B T top (gAwait T T.2.1) := by
  unfold gAwait
  by_cases q : T.2.2.1.1 = -1
  · rw [if_pos q]
    exact Lok.same h hw h2 (Or.inr ⟨by decide, by decide⟩)
  rw [if_neg q]
  obtain ⟨e1, e4⟩ := h.2.2.2.2.1.of q
  have hq := h.2.2.2.1
  have ht := h.2.2.2.2.1.1
  have h24 := h.1.2.1
  by_cases q1 : gHas T.1 (gf T.1 T.2.1 7) 1 = false ∨ gf T.1 T.2.1 7 = T.2.2.1.1
  · rw [if_pos q1]
    exact Lok.same h hw h2 (Or.inr ⟨by decide, by decide⟩)
  rw [if_neg q1]
  have hh : gHas T.1 (gf T.1 T.2.1 7) 1 = true := by
    cases z : gHas T.1 (gf T.1 T.2.1 7) 1 with
    | true => rfl
    | false => exact absurd (Or.inl z) q1
  obtain ⟨j, hj, ej, j4⟩ : ∃ j, j < cN T.1 ∧ gf T.1 T.2.1 7 = Int32.ofNat j ∧ gf T.1 j 4 = 1 := by
    unfold gHas gMade at hh
    simp only [Bool.and_eq_true, decide_eq_true_eq, beq_iff_eq] at hh
    obtain ⟨⟨a, b⟩, d⟩ := hh
    have hv : (gf T.1 T.2.1 7) = Int32.ofNat (gf T.1 T.2.1 7).toNatClampNeg := by
      have a1 := Int32.le_iff_toInt_le.mp a
      have a2 : (0 : Int32).toInt = 0 := rfl
      have a3 : (gf T.1 T.2.1 7).toNatClampNeg = (gf T.1 T.2.1 7).toInt.toNat := rfl
      have a4 := Int32.toInt_lt (gf T.1 T.2.1 7)
      apply Int32.toInt_inj.mp
      rw [Int32.toInt_ofNat_of_lt (by omega)]
      omega
    have hlt : (gf T.1 T.2.1 7).toNatClampNeg < cN T.1 := by
      rw [h.1.1] at b
      have b1 := Int32.lt_iff_toInt_lt.mp b
      rw [Int32.toInt_ofNat_of_lt (by omega)] at b1
      have a1 := Int32.le_iff_toInt_le.mp a
      have a2 : (0 : Int32).toInt = 0 := rfl
      have a3 : (gf T.1 T.2.1 7).toNatClampNeg = (gf T.1 T.2.1 7).toInt.toNat := rfl
      omega
    refine ⟨_, hlt, hv, ?_⟩
    rw [hv, n_at (by omega)] at d
    exact d
  have hjt : j ≠ top := fun z => q1 (Or.inr (by rw [ej, e1, z]))
  rw [ej, n_at (by omega)]
  by_cases q2 : gOver T.1 j = true
  · rw [if_pos q2]
    obtain ⟨jX, -⟩ := (h.1.2.2 j hj).1
    unfold gOutcome
    by_cases y : gf T.1 j 5 = 4
    · rw [if_pos y]
      have w := jX.2.2.2.2 y
      refine Lok.same h hw h2 (Or.inr ?_)
      have e : (jmin (gf T.1 j 7) 9).toInt = _ := jmin_T
      have h9 : (9 : Int32).toInt = 9 := rfl
      obtain ⟨w1, w2⟩ := w
      have w1 : 1 ≤ (gf T.1 j 7).toInt := w1
      unfold okW
      rw [e, h9]
      split <;> omega
    · rw [if_neg y]
      have hX := (h.1.2.2 _ h.2.1.1).1.1
      have x2 : (cGo (cF (T.1.1 T.2.1) 7 (gf T.1 j 7)) (gf T.1 T.2.1 6 + 1)).1 5 = 2 := rfl
      have hx : okX (cGo (cF (T.1.1 T.2.1) 7 (gf T.1 j 7)) (gf T.1 T.2.1 6 + 1)) := ⟨jX.1, hX.2.1, hX.2.2.1, fun z => absurd z (by rw [x2]; decide), fun z => absurd (x2.symm.trans z) (by decide)⟩
      have eM : gGo (gfS T.1 T.2.1 7 (gf T.1 j 7)) T.2.1 (gf T.1 T.2.1 6 + 1) = gCoS T.1 T.2.1 (cGo (cF (T.1.1 T.2.1) 7 (gf T.1 j 7)) (gf T.1 T.2.1 6 + 1)) := by rw [go_co, co_F, co_co, co_at]
      refine ⟨?_, ?_, rfl, rfl, Or.inr ⟨hw, ?_, ?_, Or.inl rfl⟩⟩
      · exact ((gKp.rf.F (Or.inr (Or.inl ⟨rfl, by omega, by omega, by omega⟩))).F (Or.inr (Or.inl ⟨rfl, by omega, by omega, by omega⟩))).F (Or.inr (Or.inl ⟨rfl, by omega, by omega, by omega⟩))
      · show sW (gfS (gfS (gfS _ _ 7 _) _ 5 2) _ 6 _) 24 ≤ _
        rw [sW_F (by omega), sW_5 (over2 (by rw [gf_gfS, if_neg (by omega)]; exact h2)) (by decide), sW_F (by omega)]
        omega
      · exact h.upd (x := cGo (cF (T.1.1 T.2.1) 7 (gf T.1 j 7)) (gf T.1 T.2.1 6 + 1)) (((sameC.F (Or.inr (Or.inl rfl))).tr (sameC.F (Or.inl rfl))).tr (sameC.F (Or.inr (Or.inr (Or.inl rfl))))) hx (Or.inl rfl) eM rfl rfl h.2.2.2.2.2
      · show gf (gGo _ _ _) _ 5 = 2
        rw [eM, gf_co, if_pos rfl]
        rfl
  rw [if_neg q2]
  by_cases q3 : gRing T.1 T.2.2.1.1 24 (Int32.ofNat j) = true
  · rw [if_pos q3]
    exact Lok.same h hw h2 (Or.inr ⟨by decide, by decide⟩)
  rw [if_neg q3]
  by_cases y : gTakes T.1 T.2.2.1.1 = true
  · rw [if_pos y]
    exact Lok.took h hw h2 q
  · rw [if_neg y]
    have w := okWt.of h h2 hL (Or.inr (Or.inr ⟨hk, q, j, ej, hj⟩))
    refine Lok.wt h h2 (gKp.rf.F (Or.inr (Or.inr ⟨q, by omega, by omega, by omega, by omega, by omega⟩))).q ?_ (sameQ.rf.F (Or.inr (Or.inl rfl))).q ?_ w
    · exact (sW_q 24).trans (sW_F (by omega) 24)
    · rw [e1] at hq q3 ⊢
      rw [n_at (by omega)]
      exact hq.await h24 ht e4 ho hj j4 (by simpa using q2) hjt (by simpa using q3)
