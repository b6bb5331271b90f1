/-- a line of the running one keeps the invariants -/
def Lok2 (B : gB) (T : gT) (top : Nat) (R : Int32 × Int32 × gT) : Prop :=
    gKp T.1 R.2.2.1 T.2.1 T.2.2.1.1 ∧ sW R.2.2.1 24 ≤ sW T.1 24 + 2 ∧ R.2.2.2.2.1 = T.2.2.1 ∧ R.2.2.2.2.2.1 = T.2.2.2.1 ∧
  ((R.1 = 0 ∧ R.2.2.2.2.2.2 = true ∧ R.2.2.2.1 = T.2.1 ∧ gf R.2.2.1 T.2.1 5 = 1 ∧ IVR B R.2.2.1) ∨ (R.2.2.2.2.2.2 = false ∧ IVC B R.2.2 top ∧ gf R.2.2.1 R.2.2.2.1 5 = 2 ∧ (R.1 = 0 ∨ (okY R.1 R.2.1 ∧ R.2.2.2.1 = T.2.1))))
theorem Lok.two {B : gB} {T : gT} {top : Nat} {R : Int32 × gT} (q : Lok B T top R) : Lok2 B T top (R.1, 0, R.2) := by
  obtain ⟨a, b, c, d, e⟩ := q
  refine ⟨a, b, c, d, ?_⟩
  rcases e with e | ⟨e1, e2, e3, e4⟩
  · exact Or.inl e
  · refine Or.inr ⟨e1, e2, e3, ?_⟩
    rcases e4 with f | ⟨f, g⟩
    · exact Or.inl f
    · exact Or.inr ⟨Or.inl f, g⟩
theorem plain_ok {B : gB} {T : gT} {top : Nat} {kind a b : Int32} (h : IVC B T top) (hw : T.2.2.2.2 = false) (h2 : gf T.1 T.2.1 5 = 2) (h9 : kind = 9 → okW a) : Lok2 B T top ((gPlain T.1 T.2.1 kind a b).1, (gPlain T.1 T.2.1 kind a b).2.1, ((gPlain T.1 T.2.1 kind a b).2.2, T.2)) := by
  have hr := h.2.1.1
  have h24 := h.1.2.1
  have hp := cPlain_ok (kind := kind) (a := a) (b := b) (h.1.2.2 _ hr).1.1 h2 h9
  rw [plain_co]
  generalize cPlain (T.1.1 T.2.1) kind a b = P at hp ⊢
  obtain ⟨w, v, x⟩ := P
  obtain ⟨p1, p2, p3, p4, p5, p6⟩ := hp
  have p1 : okX x := p1
  have p2 : sameC x (T.1.1 T.2.1) := p2
  have p3 : x.1 5 = 2 := p3
  have p5 : bl x.2.2 ≤ bl (T.1.1 T.2.1).2.2 + 1 := p5
  refine ⟨gKp.rf.co (p2 3 (by omega) (by omega) (by omega) (by omega)) (p2 4 (by omega) (by omega) (by omega) (by omega)) (p2 16 (by omega) (by omega) (by omega) (by omega)), ?_, rfl, rfl, Or.inr ⟨hw, h.upd (T' := (gCoS T.1 T.2.1 x, T.2)) p2 p1 (Or.inl p3) rfl rfl rfl h.2.2.2.2.2, ?_, p6.elim Or.inl (fun q => Or.inr ⟨q, rfl⟩)⟩⟩
  · have w0 : wt T.1 T.2.1 = 2 * bl (T.1.1 T.2.1).2.2 + 4 := by
      unfold wt
      rw [if_pos hr, over2 h2]
      rfl
    have wr := wt_r (M := T.1) (x := x) hr
    rw [if_neg (by rw [p3]; decide)] at wr
    have hs : sW (gCoS T.1 T.2.1 x) 24 + 0 ≤ sW T.1 24 + 2 := sW_at (fun k z => Nat.le_of_eq (wt_at z)) (by omega) 24 (by omega)
    exact hs
  · show gf (gCoS T.1 T.2.1 x) T.2.1 5 = 2
    rw [gf_co, if_pos rfl]; exact p3
theorem do_ok {B : gB} {T : gT} {top : Nat} (hB : IB B) (h : IVC B T top) (hw : T.2.2.2.2 = false) (ho : gOver T.1 top = false) (h2 : gf T.1 T.2.1 5 = 2) (hL : gHL (B.2 (gBody (gf T.1 T.2.1 3))) (gf T.1 T.2.1 6) = true) : Lok2 B T top (gDo B T T.2.1) := by
  have hLn := okLn_at hB (gBody_le (gf T.1 T.2.1 3)) (gf T.1 T.2.1 6)
  have eL : gLn (B.2 (gBody (gf T.1 T.2.1 3))) (gf T.1 T.2.1 6) = gAtLn B T.1 T.2.1 := rfl
  rw [eL] at hLn
  unfold gDo
  dsimp only
  by_cases k3 : (gAtLn B T.1 T.2.1).1 = 3
  · rw [if_pos k3]
    exact (yield_ok h hw ho h2 hL k3).two
  rw [if_neg k3]
  by_cases k10 : (gAtLn B T.1 T.2.1).1 = 10
  · rw [if_pos k10]
    exact (from_ok hB h hw h2 hL k10).two
  rw [if_neg k10]
  by_cases k12 : (gAtLn B T.1 T.2.1).1 = 12
  · rw [if_pos k12]
    exact (sleep_ok hB h hw ho h2 hL k12).two
  rw [if_neg k12]
  by_cases k13 : (gAtLn B T.1 T.2.1).1 = 13
  · rw [if_pos k13]
    exact (await_ok h hw ho h2 hL k13).two
  rw [if_neg k13]
  by_cases k14 : (gAtLn B T.1 T.2.1).1 = 14
  · rw [if_pos k14]
    exact (spawn_ok hB h hw h2 _).two
  rw [if_neg k14]
  by_cases k15 : (gAtLn B T.1 T.2.1).1 = 15
  · rw [if_pos k15]
    exact (shield_ok h hw h2 _).two
  rw [if_neg k15]
  exact plain_ok h hw h2 hLn.1
/-- what stands behind one step -/
theorem step_ok {B : gB} {T : gT} {top : Nat} (hB : IB B) (h : IVC B T top) (hw : T.2.2.2.2 = false) (ho : gOver T.1 top = false) :
    gWays B T ∧ gKq T.1 (gStep B T).1 T.2.2.1.1 top ∧ (gStep B T).2.2.1.1 = T.2.2.1.1 ∧ (((gStep B T).2.2.2.2 = false ∧ IVC B (gStep B T) top ∧ gMu (gStep B T) < gMu T) ∨ ((gStep B T).2.2.2.2 = true ∧ IVR B (gStep B T).1 ∧ gOver (gStep B T).1 top = false ∧ gf (gStep B T).1 top 5 = 1 ∧ (0 ≤ (gStep B T).2.2.1.2.toInt ∧ (gStep B T).2.2.1.2.toInt ≤ 300))) := by
  have hr := h.2.1.1
  have h24 := h.1.2.1
  have htr : top ≤ T.2.1 := by
    obtain ⟨n, hn⟩ := h.2.2.1
    exact gP.lt _ _ _ hn
  by_cases q : gOver T.1 T.2.1 = true
  · rcases h.inn with e | ⟨e4, o, h1, h2, h3, h5, h6, h7⟩
    · rw [e, ho] at q; cases q
    have rX := (h.1.2.2 _ hr).1.1
    have oX := (h.1.2.2 _ h3).1.1
    have go : gAt (gf T.1 T.2.1 10) = o := by rw [h6]; exact n_at (by omega)
    have p5 : gf (gPart T.1 o T.2.1) T.2.1 5 = gf T.1 T.2.1 5 := by unfold gPart; rw [gf_gfS, gf_gfS, if_neg (by omega), if_neg (by omega)]
    have p7 : gf (gPart T.1 o T.2.1) T.2.1 7 = gf T.1 T.2.1 7 := by unfold gPart; rw [gf_gfS, gf_gfS, if_neg (by omega), if_neg (by omega)]
    have M1o : (gPart T.1 o T.2.1).1 o = cF (T.1.1 o) 9 (-1) := by unfold gPart; rw [co_F, co_ne (by omega), co_F, co_at]
    have oX1 : okX ((gPart T.1 o T.2.1).1 o) := by rw [M1o]; exact oX
    have stp : gStep B T = ((if gf T.1 T.2.1 5 = 3 then gGo (gfS (gPart T.1 o T.2.1) o 7 (gf T.1 T.2.1 7)) o (gf (gPart T.1 o T.2.1) o 6 + 1) else gLeave (gPart T.1 o T.2.1) o (gf T.1 T.2.1 7) 0), o, T.2.2) := by
      unfold gStep
      rw [if_pos q]
      unfold gBack
      dsimp only
      rw [go, p5, p7]
    have ways : gWays B T := by
      refine ⟨fun _ z => ?_, fun z => by rw [q] at z; cases z⟩
      have z4 : gf T.1 T.2.1 5 = 4 := by
        unfold gOver at q
        simp only [Bool.or_eq_true, beq_iff_eq] at q
        exact q.resolve_left z
      have := (rX.2.2.2.2 z4).1
      exact Int32.lt_iff_toInt_lt.mpr (by show (0 : Int) < (gf T.1 T.2.1 7).toInt; exact this)
    have fin : ∀ x : gCo, sameC x ((gPart T.1 o T.2.1).1 o) → okX x → (x.1 5 = 2 ∨ x.1 5 = 3 ∨ x.1 5 = 4) → (x.1 5 = 2 ∧ bl x.2.2 ≤ bl (T.1.1 o).2.2 ∨ (x.1 5 = 3 ∨ x.1 5 = 4) ∧ bl x.2.2 = 0) → gStep B T = (gCoS (gPart T.1 o T.2.1) o x, o, T.2.2) → gWays B T ∧ gKq T.1 (gStep B T).1 T.2.2.1.1 top ∧ (gStep B T).2.2.1.1 = T.2.2.1.1 ∧ (((gStep B T).2.2.2.2 = false ∧ IVC B (gStep B T) top ∧ gMu (gStep B T) < gMu T) ∨ ((gStep B T).2.2.2.2 = true ∧ IVR B (gStep B T).1 ∧ gOver (gStep B T).1 top = false ∧ gf (gStep B T).1 top 5 = 1 ∧ (0 ≤ (gStep B T).2.2.1.2.toInt ∧ (gStep B T).2.2.1.2.toInt ≤ 300))) := fun x x1 x2 x3 x4 e => by
      obtain ⟨b1, b2, b3, b4⟩ := back_ok h h1 h5 h6 h2 h7 q x1 x2 x3
      rw [e]
      refine ⟨ways, b2, rfl, Or.inl ⟨hw, b1, ?_⟩⟩
      unfold gMu
      rw [q, if_pos rfl]
      show 10 * (300 - T.2.2.1.2.toInt.toNat) + sW (gCoS (gPart T.1 o T.2.1) o x) 24 + (if gOver (gCoS (gPart T.1 o T.2.1) o x) o = true then 1 else 0) < _
      have wo := wt_r (M := gPart T.1 o T.2.1) (r := o) (x := x) h3
      have ov : gOver (gCoS (gPart T.1 o T.2.1) o x) o = (x.1 5 == 3 || x.1 5 == 4) := by unfold gOver; rw [gf_co, if_pos rfl]
      rw [ov]
      rcases x4 with ⟨y1, y2⟩ | ⟨y1, y2⟩
      · rw [if_neg (by rw [y1]; decide)] at wo
        rw [y1, if_neg (by decide)]
        have := sW_at (d := 0) (e := 0) (fun k z => Nat.le_of_eq (b3 k z)) (by omega) 24 (show o < 24 by omega)
        omega
      · rw [if_pos y1, y2] at wo
        have := sW_at (d := 4) (e := 0) (fun k z => Nat.le_of_eq (b3 k z)) (by omega) 24 (show o < 24 by omega)
        split <;> omega
    by_cases z : gf T.1 T.2.1 5 = 3
    · rw [if_pos z] at stp
      rw [go_co, co_F, co_co, co_at] at stp
      have x5 : (cGo (cF ((gPart T.1 o T.2.1).1 o) 7 (gf T.1 T.2.1 7)) (gf (gPart T.1 o T.2.1) o 6 + 1)).1 5 = 2 := rfl
      exact fin (cGo (cF ((gPart T.1 o T.2.1).1 o) 7 (gf T.1 T.2.1 7)) (gf (gPart T.1 o T.2.1) o 6 + 1)) (((sameC.F (Or.inr (Or.inl rfl))).tr (sameC.F (Or.inl rfl))).tr (sameC.F (Or.inr (Or.inr (Or.inl rfl))))) ⟨rX.1, oX1.2.1, oX1.2.2.1, fun w => absurd w (by rw [x5]; decide), fun w => absurd w (by rw [x5]; decide)⟩ (Or.inl x5) (Or.inl ⟨x5, by show bl ((gPart T.1 o T.2.1).1 o).2.2 ≤ _; rw [M1o]; exact Nat.le_refl _⟩) stp
    · rw [if_neg z] at stp
      rw [leave_co] at stp
      have z4 : gf T.1 T.2.1 5 = 4 := by
        unfold gOver at q
        simp only [Bool.or_eq_true, beq_iff_eq] at q
        exact q.resolve_left z
      obtain ⟨c1, c2, c3, c4⟩ := cLeave_ok (way := gf T.1 T.2.1 7) (val := 0) (Or.inl (rX.2.2.2.2 z4)) oX1
      refine fin _ c2 c1 ?_ ?_ stp
      · rcases c4 with y | y
        · exact Or.inl y.1
        · exact Or.inr y.1
      · rw [M1o] at c4 ⊢
        rcases c4 with y | y
        · exact Or.inl ⟨y.1, by have : bl (cF (T.1.1 o) 9 (-1)).2.2 = bl (T.1.1 o).2.2 := rfl; omega⟩
        · exact Or.inr y
  · have qf : gOver T.1 T.2.1 = false := by simpa using q
    have h2 : gf T.1 T.2.1 5 = 2 := by
      rcases h.2.1.2.1 with e | e | e
      · exact e
      · exact absurd (show gOver T.1 T.2.1 = true by unfold gOver; rw [e]; rfl) q
      · exact absurd (show gOver T.1 T.2.1 = true by unfold gOver; rw [e]; rfl) q
    obtain ⟨l0, l3⟩ := h.2.2.2.2.2
    have mu0 : gMu T = 10 * (300 - T.2.2.1.2.toInt.toNat) + sW T.1 24 := by unfold gMu; rw [qf]; rfl
    by_cases w : (gInstead B T T.2.1).1 = 0
    · obtain ⟨i1, i2, i3⟩ := gInstead_z w
      have i3' := Int32.lt_iff_toInt_lt.mp i3
      have c300 : (300 : Int32).toInt = 300 := rfl
      have el : (T.2.2.1.2 + 1).toInt = T.2.2.1.2.toInt + 1 := i_add (by show _ ≤ T.2.2.1.2.toInt + 1; omega) (by show T.2.2.1.2.toInt + 1 < _; omega)
      have rX := (h.1.2.2 _ hr).1.1
      have h1 : IVC B (gfS T.1 T.2.1 11 (gf T.1 T.2.1 11 + 1), T.2.1, (T.2.2.1.1, T.2.2.1.2 + 1), T.2.2.2) top := h.upd (x := cF (T.1.1 T.2.1) 11 (gf T.1 T.2.1 11 + 1)) (sameC.F (Or.inr (Or.inr (Or.inr rfl)))) rX (Or.inl h2) rfl rfl rfl ⟨by show 0 ≤ (T.2.2.1.2 + 1).toInt; omega, by show (T.2.2.1.2 + 1).toInt ≤ 300; omega⟩
      have s1 : sW (gfS T.1 T.2.1 11 (gf T.1 T.2.1 11 + 1)) 24 = sW T.1 24 := sW_F (by omega) 24
      have k1 : gKp T.1 (gfS T.1 T.2.1 11 (gf T.1 T.2.1 11 + 1)) T.2.1 T.2.2.1.1 := gKp.rf.F (Or.inr (Or.inl ⟨rfl, by omega, by omega, by omega⟩))
      have eL : gAtLn B (gfS T.1 T.2.1 11 (gf T.1 T.2.1 11 + 1)) T.2.1 = gAtLn B T.1 T.2.1 := by unfold gAtLn; rw [gf_gfS, gf_gfS, if_neg (by omega), if_neg (by omega)]
      have st : gStep B T = (if (gDo B (gfS T.1 T.2.1 11 (gf T.1 T.2.1 11 + 1), T.2.1, (T.2.2.1.1, T.2.2.1.2 + 1), T.2.2.2) T.2.1).1 = 0 then (gDo B (gfS T.1 T.2.1 11 (gf T.1 T.2.1 11 + 1), T.2.1, (T.2.2.1.1, T.2.2.1.2 + 1), T.2.2.2) T.2.1).2.2 else (gLeave (gDo B (gfS T.1 T.2.1 11 (gf T.1 T.2.1 11 + 1), T.2.1, (T.2.2.1.1, T.2.2.1.2 + 1), T.2.2.2) T.2.1).2.2.1 T.2.1 (gDo B (gfS T.1 T.2.1 11 (gf T.1 T.2.1 11 + 1), T.2.1, (T.2.2.1.1, T.2.2.1.2 + 1), T.2.2.2) T.2.1).1 (gDo B (gfS T.1 T.2.1 11 (gf T.1 T.2.1 11 + 1), T.2.1, (T.2.2.1.1, T.2.2.1.2 + 1), T.2.2.2) T.2.1).2.1, (gDo B (gfS T.1 T.2.1 11 (gf T.1 T.2.1 11 + 1), T.2.1, (T.2.2.1.1, T.2.2.1.2 + 1), T.2.2.2) T.2.1).2.2.2)) := by
        unfold gStep
        rw [if_neg q, if_pos w, i1]
      have ho1 : gOver (gfS T.1 T.2.1 11 (gf T.1 T.2.1 11 + 1)) top = false := (over_f (M := T.1) (by rw [gf_gfS, if_neg (by omega)])).trans ho
      have h21 : gf (gfS T.1 T.2.1 11 (gf T.1 T.2.1 11 + 1)) T.2.1 5 = 2 := by rw [gf_gfS, if_neg (by omega)]; exact h2
      have d : Lok2 B (gfS T.1 T.2.1 11 (gf T.1 T.2.1 11 + 1), T.2.1, (T.2.2.1.1, T.2.2.1.2 + 1), T.2.2.2) top (gDo B (gfS T.1 T.2.1 11 (gf T.1 T.2.1 11 + 1), T.2.1, (T.2.2.1.1, T.2.2.1.2 + 1), T.2.2.2) T.2.1) := do_ok hB h1 hw ho1 h21 (by show gHL (B.2 (gBody (gf (gfS T.1 T.2.1 11 _) T.2.1 3))) (gf (gfS T.1 T.2.1 11 _) T.2.1 6) = true; rw [gf_gfS, gf_gfS, if_neg (by omega), if_neg (by omega)]; exact i2)
      have wy : gWays B T := by
        refine ⟨fun z => absurd z q, fun _ _ => ⟨fun z => ?_, fun z => ?_, fun z => ?_⟩⟩
        · have := (okLn_at hB (gBody_le (gf T.1 T.2.1 3)) (gf T.1 T.2.1 6)).1 z
          exact Int32.lt_iff_toInt_lt.mpr (by show (0 : Int) < _; exact this.1)
        · rw [i1]
          obtain ⟨-, -, -, -, e⟩ := await_ok h1 hw ho1 h21 (by show gHL (B.2 (gBody (gf (gfS T.1 T.2.1 11 _) T.2.1 3))) (gf (gfS T.1 T.2.1 11 _) T.2.1 6) = true; rw [gf_gfS, gf_gfS, if_neg (by omega), if_neg (by omega)]; exact i2) (eL ▸ z)
          intro y
          rcases e with ⟨e, -⟩ | ⟨-, -, -, e | ⟨e, -⟩⟩
          · rw [show (gAwait _ _).1 = 0 from e] at y; exact absurd y (by decide)
          · rw [show (gAwait _ _).1 = 0 from e] at y; exact absurd y (by decide)
          · exact e.n4 y
        · rw [i1] at z ⊢
          rcases d.2.2.2.2 with ⟨e, -⟩ | ⟨-, -, -, e | ⟨e, -⟩⟩
          · exact Or.inl e
          · exact Or.inl e
          · rcases e with e | e
            · have e1 := e.1
              have z1 := Int32.le_iff_toInt_le.mp z
              have : (0 : Int32).toInt = 0 := rfl
              omega
            · exact Or.inr e.1
      generalize hR : gDo B (gfS T.1 T.2.1 11 (gf T.1 T.2.1 11 + 1), T.2.1, (T.2.2.1.1, T.2.2.1.2 + 1), T.2.2.2) T.2.1 = R at st d
      obtain ⟨d1, d2, d3, d4, d5⟩ := d
      have d1 : gKp (gfS T.1 T.2.1 11 (gf T.1 T.2.1 11 + 1)) R.2.2.1 T.2.1 T.2.2.1.1 := d1
      have d2 : sW R.2.2.1 24 ≤ sW (gfS T.1 T.2.1 11 (gf T.1 T.2.1 11 + 1)) 24 + 2 := d2
      have d3 : R.2.2.2.2.1 = (T.2.2.1.1, T.2.2.1.2 + 1) := d3
      rw [s1] at d2
      have kk := k1.tr d1
      refine ⟨wy, ?_⟩
      rcases d5 with ⟨e1, e2, e3, e4, e5⟩ | ⟨e1, e2, e3, e4⟩
      · rw [st, if_pos e1]
        refine ⟨kk.q2 qf htr, by rw [d3], Or.inr ⟨e2, e5, ?_, ?_, by rw [d3]; exact ⟨by show 0 ≤ (T.2.2.1.2 + 1).toInt; omega, by show (T.2.2.1.2 + 1).toInt ≤ 300; omega⟩⟩⟩
        by_cases z : top = T.2.1
        · rw [z]
          unfold gOver
          rw [show gf R.2.2.1 T.2.1 5 = 1 from e4]
          rfl
        · rw [over_f ((kk.2.2.2.1 top h.2.2.2.2.1.1).2.2.2 z).1]
          exact ho
        by_cases z : top = T.2.1
        · rw [z]; exact e4
        · rw [((kk.2.2.2.1 top h.2.2.2.2.1.1).2.2.2 z).1]
          obtain ⟨n, hn⟩ := h.2.2.1
          refine Classical.byContradiction fun y => z ?_
          exact (gP.stay (f := fun k => gf T.1 k 9) ((h.1.2.2 top h.2.2.2.2.1.1).1.2.2.2.2 y) n _ hn (by omega)).symm
      · by_cases z : R.1 = 0
        · rw [st, if_pos z]
          refine ⟨kk.q2 qf htr, by rw [d3], Or.inl ⟨e1, e2, ?_⟩⟩
          unfold gMu
          rw [d3, over2 e3, qf]
          show 10 * (300 - (T.2.2.1.2 + 1).toInt.toNat) + sW R.2.2.1 24 + 0 < _
          rw [el]
          omega
        · rw [st, if_neg z]
          obtain ⟨e5, e6⟩ := e4.resolve_left z
          have e6 : R.2.2.2.1 = T.2.1 := e6
          rw [e6] at e3
          obtain ⟨f1, f2, f3⟩ := leave_ok e2 (by rw [e6]; exact e3) e5
          rw [e6, d3] at f1
          rw [e6] at f2 f3
          refine ⟨(kk.tr f1).q2 qf htr, by show R.2.2.2.2.1.1 = _; rw [d3], Or.inl ⟨e1, f3, ?_⟩⟩
          unfold gMu
          show 10 * (300 - R.2.2.2.2.1.2.toInt.toNat) + sW (gLeave R.2.2.1 T.2.1 R.1 R.2.1) 24 + (if gOver (gLeave R.2.2.1 T.2.1 R.1 R.2.1) R.2.2.2.1 = true then 1 else 0) < _
          rw [d3, e6]
          show 10 * (300 - (T.2.2.1.2 + 1).toInt.toNat) + _ + _ < _
          rw [el]
          omega
    · have wy : gWays B T := ⟨fun z => absurd z q, fun _ z => absurd z w⟩
      have st : gStep B T = (gLeave (gInstead B T T.2.1).2.2.1 T.2.1 (gInstead B T T.2.1).1 (gInstead B T T.2.1).2.1, (gInstead B T T.2.1).2.2.2) := by
        unfold gStep
        rw [if_neg q, if_neg w]
      have rX := (h.1.2.2 _ hr).1.1
      have key : ∀ {T1 : gT} {way val : Int32}, IVC B T1 top → gKp T.1 T1.1 T.2.1 T.2.2.1.1 → sW T1.1 24 ≤ sW T.1 24 → gf T1.1 T.2.1 5 = 2 → T1.2.1 = T.2.1 → T1.2.2.1 = T.2.2.1 → T1.2.2.2.2 = false → okY way val → gStep B T = (gLeave T1.1 T.2.1 way val, T1.2) → gWays B T ∧ gKq T.1 (gStep B T).1 T.2.2.1.1 top ∧ (gStep B T).2.2.1.1 = T.2.2.1.1 ∧ (((gStep B T).2.2.2.2 = false ∧ IVC B (gStep B T) top ∧ gMu (gStep B T) < gMu T) ∨ ((gStep B T).2.2.2.2 = true ∧ IVR B (gStep B T).1 ∧ gOver (gStep B T).1 top = false ∧ gf (gStep B T).1 top 5 = 1 ∧ (0 ≤ (gStep B T).2.2.1.2.toInt ∧ (gStep B T).2.2.1.2.toInt ≤ 300))) := fun {T1 way val} a1 a2 a3 a4 a5 a6 a7 a8 a9 => by
        obtain ⟨f1, f2, f3⟩ := leave_ok a1 (by rw [a5]; exact a4) a8
        rw [a5, a6] at f1
        rw [a5] at f2 f3
        rw [a9]
        refine ⟨wy, (a2.tr f1).q2 qf htr, by show T1.2.2.1.1 = _; rw [a6], Or.inl ⟨a7, f3, ?_⟩⟩
        unfold gMu
        show 10 * (300 - T1.2.2.1.2.toInt.toNat) + sW (gLeave T1.1 T.2.1 way val) 24 + (if gOver (gLeave T1.1 T.2.1 way val) T1.2.1 = true then 1 else 0) < _
        rw [a6, a5, qf]
        show _ < 10 * (300 - T.2.2.1.2.toInt.toNat) + sW T.1 24 + 0
        omega
      have w11 : okY 11 0 := Or.inl ⟨by decide, by decide⟩
      unfold gInstead at st w
      by_cases b1 : gHL (B.2 (gBody (gf T.1 T.2.1 3))) (gf T.1 T.2.1 6) = false
      · simp only [if_pos b1] at st
        exact key h gKp.rf (Nat.le_refl _) h2 rfl rfl hw (Or.inr ⟨rfl, rX.1⟩) st
      · simp only [if_neg b1] at st w
        by_cases b2 : T.2.2.1.2 < 200 ∨ T.2.2.2.1 = true
        · simp only [if_pos b2] at st w
          by_cases b3 : T.2.2.1.2 < 300
          · simp only [if_pos b3] at w
            exact absurd trivial w
          · simp only [if_neg b3] at st
            have x2 : (cK (T.1.1 T.2.1) []).1 5 = 2 := h2
            refine key (T1 := (gkS T.1 T.2.1 [], T.2)) (h.upd (x := cK (T.1.1 T.2.1) []) sameC.K ⟨rX.1, rX.2.1, okK.nil, fun _ => rfl, rX.2.2.2.2⟩ (Or.inl h2) co_K rfl rfl h.2.2.2.2.2) (gKp.rf.co rfl rfl rfl) ?_ ?_ rfl rfl hw w11 st
            · show sW (gkS T.1 T.2.1 []) 24 ≤ _
              rw [co_K]
              have w0 : wt T.1 T.2.1 = 2 * bl (T.1.1 T.2.1).2.2 + 4 := by
                unfold wt
                rw [if_pos hr, qf]
                rfl
              have wr := wt_r (M := T.1) (x := cK (T.1.1 T.2.1) []) hr
              rw [if_neg (by rw [x2]; decide)] at wr
              have wz : bl (cK (T.1.1 T.2.1) []).2.2 = 0 := rfl
              have hs : sW (gCoS T.1 T.2.1 (cK (T.1.1 T.2.1) [])) 24 + 0 ≤ sW T.1 24 + 0 := sW_at (fun k z => Nat.le_of_eq (wt_at z)) (by omega) 24 (by omega)
              exact hs
            · show gf (gkS T.1 T.2.1 []) T.2.1 5 = 2
              rw [co_K, gf_co, if_pos rfl]; exact h2
        · simp only [if_neg b2] at st
          exact key (T1 := (T.1, T.2.1, T.2.2.1, true, T.2.2.2.2)) h gKp.rf (Nat.le_refl _) h2 rfl rfl hw w11 st
