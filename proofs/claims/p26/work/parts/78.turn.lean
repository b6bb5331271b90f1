/-! TURNS -/
/-- what a call from outside leaves as it was -/
def gKv (M M' : gM) : Prop := cN M ≤ cN M' ∧ gnow M' = gnow M ∧ ∀ k, k < cN M → gf M' k 3 = gf M k 3 ∧ gf M' k 4 = gf M k 4 ∧ gf M' k 16 = gf M k 16 ∧ (gOver M k = true → gf M' k 5 = gf M k 5 ∧ gf M' k 7 = gf M k 7)
theorem gKq.v {M M' : gM} {t : Int32} {top : Nat} (h : gKq M M' t top) : gKv M M' := ⟨h.1, h.2.1, h.2.2.2.1⟩
theorem gKv.rf {M : gM} : gKv M M := ⟨Nat.le_refl _, rfl, fun _ _ => ⟨rfl, rfl, rfl, fun _ => ⟨rfl, rfl⟩⟩⟩
theorem gKv.tr {M M' M'' : gM} (h : gKv M M') (g : gKv M' M'') : gKv M M'' := by
  obtain ⟨h1, h2, h4⟩ := h
  obtain ⟨g1, g2, g4⟩ := g
  refine ⟨by omega, g2.trans h2, fun k hk => ?_⟩
  obtain ⟨a1, a2, a3, a4⟩ := h4 k hk
  obtain ⟨b1, b2, b3, b4⟩ := g4 k (by omega)
  refine ⟨b1.trans a1, b2.trans a2, b3.trans a3, fun q => ?_⟩
  obtain ⟨c1, c2⟩ := a4 q
  obtain ⟨d1, d2⟩ := b4 (by rw [over_f c1]; exact q)
  exact ⟨d1.trans c1, d2.trans c2⟩
/-- what the beginning of a turn makes of the inmost one -/
theorem begin_ok {B : gB} {M : gM} {p n : Nat} (h0 : IV0 B M) (hq : IQ M (Int32.ofNat p)) (hp : p < cN M) (hn : n < cN M) (h5 : gf M n 5 = 0 ∨ gf M n 5 = 1) : ∃ M1 x, gBegin B M (Int32.ofNat p) n = gCoS M1 n x ∧ sameQ M M1 ∧ gnow M1 = gnow M ∧ gtrn M1 = gtrn M ∧ IQ M1 (Int32.ofNat p) ∧ sameC x (M1.1 n) ∧ okX x ∧ (x.1 5 = 2 ∨ x.1 5 = 3 ∨ x.1 5 = 4) := by
  have h24 := h0.2.1
  have hX := (h0.2.2 n hn).1
  have no : ∀ {P : Prop}, ((2 : Int32) = 3 ∨ (2 : Int32) = 4) → P := fun z => absurd z (by decide)
  have lv : ∀ (x : gCo) (w : Int32), okX x → okW w → okX (cLeave x w 0) ∧ sameC (cLeave x w 0) x ∧ ((cLeave x w 0).1 5 = 2 ∨ (cLeave x w 0).1 5 = 3 ∨ (cLeave x w 0).1 5 = 4) := fun x w a b => by
    obtain ⟨c1, c2, -, c4⟩ := cLeave_ok (way := w) (val := 0) (Or.inl b) a
    exact ⟨c1, c2, by rcases c4 with q | q; exact Or.inl q.1; exact Or.inr q.1⟩
  unfold gBegin
  by_cases q : gf M n 5 = 0
  · rw [if_pos q]
    exact ⟨M, cGo (M.1 n) 0, go_co, sameQ.rf, rfl, rfl, hq, (sameC.F (Or.inr (Or.inl rfl))).tr (sameC.F (Or.inl rfl)), ⟨hX.1.1, hX.1.2.1, hX.1.2.2.1, fun z => no z, fun z => no (Or.inr z)⟩, Or.inl rfl⟩
  · rw [if_neg q]
    have s1 := h5.resolve_left q
    by_cases y : gTakes M (Int32.ofNat p) = true
    · rw [if_pos y]
      have ep : gAt (Int32.ofNat p) = p := n_at (by omega)
      have sq : sameQ M (gTook M (Int32.ofNat p)) := sameQ.rf.F (Or.inr (Or.inr ⟨rfl, Or.inl rfl⟩))
      have hX1 : okX ((gTook M (Int32.ofNat p)).1 n) := ((sq.IV0 h0).2.2 n (by rw [sq.cn]; exact hn)).1.1
      obtain ⟨a1, a2, a3⟩ := lv _ 9 hX1 ⟨by decide, by decide⟩
      refine ⟨gTook M (Int32.ofNat p), _, leave_co, sq, rfl, rfl, hq.fr rfl rfl rfl rfl fun k _ => ⟨?_, ?_, ?_, over_f ?_⟩, a2, a1, a3⟩
      all_goals exact (gf_gfS).trans (if_neg (by omega))
    · rw [if_neg y]
      unfold gWake
      by_cases k13 : (gAtLn B M n).1 = 13
      · rw [if_pos k13]
        obtain ⟨-, -, -, -, w⟩ := hX.2.2.2.1 s1
        obtain ⟨j, e, hj⟩ := w k13
        have ej : gf M n 7 = Int32.ofNat j := e
        have jX := (h0.2.2 j hj).1.1
        rw [ej, n_at (by omega)]
        unfold gOutcome
        by_cases z : gf M j 5 = 4
        · have w4 := jX.2.2.2.2 z
          have w9 : okW (jmin (gf M j 7) 9) := by
            have e : (jmin (gf M j 7) 9).toInt = _ := jmin_T
            have h9 : (9 : Int32).toInt = 9 := rfl
            obtain ⟨w1, w2⟩ := w4
            have w1 : 1 ≤ (gf M j 7).toInt := w1
            unfold okW
            rw [e, h9]
            split <;> omega
          rw [if_pos z]
          dsimp only
          rw [if_neg w9.nb.2.2.2]
          obtain ⟨a1, a2, a3⟩ := lv _ _ hX.1 w9
          exact ⟨M, _, leave_co, sameQ.rf, rfl, rfl, hq, a2, a1, a3⟩
        · rw [if_neg z]
          dsimp only
          rw [if_pos rfl]
          have e1 : gGo (gfS M n 7 (gf M j 7)) n (gf M n 6 + 1) = gCoS M n (cGo (cF (M.1 n) 7 (gf M j 7)) (gf M n 6 + 1)) := by rw [go_co, co_F, co_co, co_at]
          exact ⟨M, _, e1, sameQ.rf, rfl, rfl, hq, ((sameC.F (Or.inr (Or.inl rfl))).tr (sameC.F (Or.inl rfl))).tr (sameC.F (Or.inr (Or.inr (Or.inl rfl)))), ⟨jX.1, hX.1.2.1, hX.1.2.2.1, fun z => no z, fun z => no (Or.inr z)⟩, Or.inl rfl⟩
      · rw [if_neg k13]
        dsimp only
        rw [if_pos rfl]
        have e1 : gGo (gfS M n 7 0) n (gf (gfS M n 7 0) n 6 + 1) = gCoS M n (cGo (cF (M.1 n) 7 0) (gf M n 6 + 1)) := by rw [go_co, co_F, co_co, co_at, gf_co, if_pos rfl]; rfl
        exact ⟨M, _, e1, sameQ.rf, rfl, rfl, hq, ((sameC.F (Or.inr (Or.inl rfl))).tr (sameC.F (Or.inl rfl))).tr (sameC.F (Or.inr (Or.inr (Or.inl rfl)))), ⟨okT.z, hX.1.2.1, hX.1.2.2.1, fun z => no z, fun z => no (Or.inr z)⟩, Or.inl rfl⟩
/-- the first that is ready is taken off -/
theorem IQ.first {M : gM} {y : Int32} {l : List Int32} (h : IQ M (-1)) (h24 : cN M ≤ 24) (hl : grq M = y :: l) : ∃ p, y = Int32.ofNat p ∧ p < cN M ∧ gf M p 4 = 1 ∧ gOver M p = false ∧ ∀ v, IQ (gtrnS (grqS M l) v) (Int32.ofNat p) := by
  obtain ⟨q0, ⟨q1, q2⟩, ⟨q3, q4⟩, q5, q6, q7, q8⟩ := h
  rw [hl] at q1 q2 q7
  rw [List.nodup_cons] at q1
  obtain ⟨-, p, p2, p3, p4, p5, p6, p7⟩ := q2 _ List.mem_cons_self
  subst p2
  refine ⟨p, rfl, p3, p4, p5, fun v => ⟨q0, ⟨q1.2, fun x hx => ?_⟩, ⟨q3, q4⟩, fun k hk z => ?_, fun k hk z => ?_, fun k hk f1 f2 f3 f4 f5 => ?_, q8⟩⟩
  · obtain ⟨-, k, r⟩ := q2 x (List.mem_cons_of_mem _ hx)
    exact ⟨fun z => q1.1 (by rw [← z]; exact hx), k, r⟩
  · have z : gf M k 13 ≠ -1 := z
    have hk : k < cN M := hk
    obtain ⟨a1, a2, a3, a4, a5, j, a6, a7, a8, a9⟩ := q5 k hk z
    refine ⟨a1, a2, fun w => ?_, a4, a5, j, a6, a7, a8, Or.inl (a9.resolve_right (n_neg (by omega)))⟩
    have : k = p := n_inj (by omega) (by omega) w
    rw [this] at z
    exact z p7
  · have z : gf M k 12 ≠ -1 := z
    have hk : k < cN M := hk
    obtain ⟨a1, a2, a3, a4⟩ := q6 k hk z
    refine ⟨a1, a2, fun w => ?_, a4⟩
    have : k = p := n_inj (by omega) (by omega) w
    rw [this] at z
    exact z p6
  · have hk : k < cN M := hk
    rcases List.mem_cons.mp (q7 k hk f1 f2 (n_neg (by omega)) f4 f5) with q | q
    · exact absurd q f3
    · exact q
/-- what is shared by a turn's invariants and its tie -/
theorem turn_in {B : gB} {M : gM} {y : Int32} {l : List Int32} (h : IVR B M) (hl : grq M = y :: l) : ∃ p, y = Int32.ofNat p ∧ gAt y = p ∧ gNum p = Int32.ofNat p ∧ p < cN M ∧ gf M p 4 = 1 ∧ gInmost (gtrnS (grqS M l) (gtrn M + 1)) 24 p < cN M ∧ (gf M (gInmost (gtrnS (grqS M l) (gtrn M + 1)) 24 p) 5 = 0 ∨ gf M (gInmost (gtrnS (grqS M l) (gtrn M + 1)) 24 p) 5 = 1) ∧ IV0 B (gtrnS (grqS M l) (gtrn M + 1)) ∧ IQ (gtrnS (grqS M l) (gtrn M + 1)) (Int32.ofNat p) ∧
    IVC B (gBegin B (gtrnS (grqS M l) (gtrn M + 1)) (Int32.ofNat p) (gInmost (gtrnS (grqS M l) (gtrn M + 1)) 24 p), gInmost (gtrnS (grqS M l) (gtrn M + 1)) 24 p, (Int32.ofNat p, 0), false, false) p ∧ gKv M (gBegin B (gtrnS (grqS M l) (gtrn M + 1)) (Int32.ofNat p) (gInmost (gtrnS (grqS M l) (gtrn M + 1)) 24 p)) ∧ gtrn (gBegin B (gtrnS (grqS M l) (gtrn M + 1)) (Int32.ofNat p) (gInmost (gtrnS (grqS M l) (gtrn M + 1)) 24 p)) = gtrn M + 1 := by
  have h24 := h.1.2.1
  obtain ⟨p, e, p3, p4, p5, hq⟩ := h.2.2.first h24 hl
  have s0 : sameQ M (gtrnS (grqS M l) (gtrn M + 1)) := sameQ.rf (M := M)
  have i0 : IV0 B (gtrnS (grqS M l) (gtrn M + 1)) := s0.IV0 h.1
  have ir : IRest (gtrnS (grqS M l) (gtrn M + 1)) := s0.rest h.2.1
  have hq := hq (gtrn M + 1)
  have gi : gInmost (gtrnS (grqS M l) (gtrn M + 1)) 24 p = gInmost M 24 p := by
    have : ∀ i n, gInmost (gtrnS (grqS M l) (gtrn M + 1)) i n = gInmost M i n := by
      intro i
      induction i with
      | zero => intro n; rfl
      | succ i ih =>
        intro n
        show (if gMade M (gf M n 9) then gInmost (gtrnS (grqS M l) (gtrn M + 1)) i (gAt (gf M n 9)) else n) = (if gMade M (gf M n 9) then gInmost M i (gAt (gf M n 9)) else n)
        rw [ih]
    exact this 24 p
  obtain ⟨d1, d2, d3, d4, d5⟩ := deep_ok h p3 p5
  obtain ⟨hp, hdn, hd9, hdd⟩ := inm_ok i0 24 p (by omega) p3
  rw [gi] at hp hdn hd9 hdd
  obtain ⟨M1, x, b1, b2, b3, b4, b5, b6, b7, b8⟩ := begin_ok (B := B) (n := gInmost M 24 p) i0 hq p3 d1 d3
  have c1 := b2.cn
  have c0 : cN (gtrnS (grqS M l) (gtrn M + 1)) = cN M := rfl
  have f1 : ∀ k j, k < cN M → j ≠ 12 → j ≠ 13 → j ≠ 15 → gf M1 k j = gf M k j := fun k j hk a b c => (b2.2 k hk).1 j a b c
  refine ⟨p, e, by rw [e]; exact n_at (by omega), n_num (by omega), p3, p4, ?_⟩
  rw [gi]
  refine ⟨d1, d3, i0, hq, ?_, ?_, ?_⟩
  · rw [b1]
    obtain ⟨m, hm⟩ := hp
    have hdl := gP.lt _ _ _ hm
    refine enter (b2.IV0 i0) (b2.rest ir).semi (by omega) ?_ ⟨m, gP.fr m p _ (fun k _ z => f1 k 9 (by omega) (by omega) (by omega) (by omega)) hm⟩ b5 ⟨by omega, Or.inl ⟨?_, rfl⟩⟩ b6 b7 b8 ⟨by decide, by decide⟩
    · rw [f1 _ 9 d1 (by omega) (by omega) (by omega)]; exact hd9
    · rw [f1 p 4 p3 (by omega) (by omega) (by omega)]; exact p4
  · rw [b1]
    have k1 : gKq (gtrnS (grqS M l) (gtrn M + 1)) M1 (-1) 0 := b2.kq b3 b4
    have k2 := k1.set (n := gInmost M 24 p) b6 (fun _ => d2)
    exact ⟨k2.1, k2.2.1, k2.2.2.2.1⟩
  · rw [b1]
    exact b4
theorem turn_ok {B : gB} {M : gM} (hB : IB B) (h : IVR B M) (hne : (grq M).length ≠ 0) : IVR B (gTurn B M) ∧ gKv M (gTurn B M) ∧ gtrn (gTurn B M) = gtrn M + 1 := by
  cases hl : grq M with
  | nil => rw [hl] at hne; exact absurd rfl hne
  | cons y l =>
    obtain ⟨p, e1, e2, e3, e4, e5, e6, e7, e8, e9, hI, k1, k2⟩ := turn_in h hl
    have h24 := h.1.2.1
    have eT : gTurn B M = (if gOver (gCall B (gBegin B (gtrnS (grqS M l) (gtrn M + 1)) (Int32.ofNat p) (gInmost (gtrnS (grqS M l) (gtrn M + 1)) 24 p)) (Int32.ofNat p) p (gInmost (gtrnS (grqS M l) (gtrn M + 1)) 24 p)) p then gTell (gCall B (gBegin B (gtrnS (grqS M l) (gtrn M + 1)) (Int32.ofNat p) (gInmost (gtrnS (grqS M l) (gtrn M + 1)) 24 p)) (Int32.ofNat p) p (gInmost (gtrnS (grqS M l) (gtrn M + 1)) 24 p)) p else (gCall B (gBegin B (gtrnS (grqS M l) (gtrn M + 1)) (Int32.ofNat p) (gInmost (gtrnS (grqS M l) (gtrn M + 1)) 24 p)) (Int32.ofNat p) p (gInmost (gtrnS (grqS M l) (gtrn M + 1)) 24 p))) := by
      unfold gTurn
      rw [hl]
      simp only [List.getElem?_cons_zero, Option.getD_some, List.drop_one, List.tail_cons, e2, e3]
    have g := call_ok hB hI
    unfold gCall at eT
    generalize gCallT B (gBegin B (gtrnS (grqS M l) (gtrn M + 1)) (Int32.ofNat p) (gInmost (gtrnS (grqS M l) (gtrn M + 1)) 24 p), gInmost (gtrnS (grqS M l) (gtrn M + 1)) 24 p, (Int32.ofNat p, 0), false, false) p = T' at g eT
    generalize gBegin B (gtrnS (grqS M l) (gtrn M + 1)) (Int32.ofNat p) (gInmost (gtrnS (grqS M l) (gtrn M + 1)) 24 p) = M2 at g k1 k2 hI
    obtain ⟨g1, g2, g3⟩ := g
    have g1 : gKq M2 T'.1 (Int32.ofNat p) p := g1
    have g2 : T'.2.2.1.1 = Int32.ofNat p := g2
    rw [eT]
    rcases g3 with ⟨a, b, c, -⟩ | ⟨a, b, c⟩
    · rw [if_neg (by rw [c]; decide)]
      exact ⟨b, k1.tr g1.v, g1.2.2.1.trans k2⟩
    · rw [if_pos b]
      have s4 : gf T'.1 p 4 = 1 := ((g1.2.2.2.1 p (by have := k1.1; omega)).2.1).trans ((k1.2.2 p e4).2.1.trans e5)
      obtain ⟨d1, d2⟩ := c.done b (by rw [s4]; decide)
      have hq := c.2.2.2.1
      rw [g2] at hq
      obtain ⟨t1, t2⟩ := tell_ok d1 d2 hq (by have := k1.1; have := g1.1; omega) b
      exact ⟨t1, (k1.tr g1.v).tr t2.v, t2.2.2.1.trans (g1.2.2.1.trans k2)⟩
theorem turns_ok {B : gB} (hB : IB B) : ∀ (i : Nat) (M : gM), IVR B M → IVR B (gTurns B i M) ∧ gKv M (gTurns B i M) ∧ gtrn (gTurns B i M) = gtrn M + Int32.ofNat (gDone B i M) ∧ gDone B i M ≤ i ∧ (gDone B i M = i ∨ (grq (gTurns B i M)).length = 0) := by
  intro i
  induction i with
  | zero => intro M h; exact ⟨h, gKv.rf, by show gtrn M = gtrn M + 0; rw [Int32.add_zero], Nat.le_refl _, Or.inl rfl⟩
  | succ i ih =>
    intro M h
    unfold gTurns gDone
    by_cases q : (grq M).length = 0
    · rw [if_pos q, if_pos q]
      exact ⟨h, gKv.rf, by show gtrn M = gtrn M + 0; rw [Int32.add_zero], Nat.zero_le _, Or.inr q⟩
    · rw [if_neg q, if_neg q]
      obtain ⟨a1, a2, a3⟩ := turn_ok hB h q
      obtain ⟨b1, b2, b3, b4, b5⟩ := ih _ a1
      refine ⟨b1, a2.tr b2, ?_, by omega, b5.elim (fun z => Or.inl (by omega)) Or.inr⟩
      rw [b3, a3, ← g_suc, Int32.add_assoc, Int32.add_comm 1]
