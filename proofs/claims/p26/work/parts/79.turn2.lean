/-! TURNS against the model -/
theorem wake_way {B : gB} {M : gM} {n : Nat} (h0 : IV0 B M) (hn : n < cN M) (h5 : gf M n 5 = 1) : (gWake B M n).1 = 0 ∨ okW (gWake B M n).1 := by
  have h24 := h0.2.1
  have hX := (h0.2.2 n hn).1
  unfold gWake
  by_cases k13 : (gAtLn B M n).1 = 13
  · rw [if_pos k13]
    obtain ⟨-, -, -, -, w⟩ := hX.2.2.2.1 h5
    obtain ⟨j, e, hj⟩ := w k13
    have ej : gf M n 7 = Int32.ofNat j := e
    have jX := (h0.2.2 j hj).1.1
    rw [ej, n_at (by omega)]
    unfold gOutcome
    by_cases z : gf M j 5 = 4
    · rw [if_pos z]
      refine Or.inr ?_
      have e : (jmin (gf M j 7) 9).toInt = _ := jmin_T
      have h9 : (9 : Int32).toInt = 9 := rfl
      obtain ⟨w1, w2⟩ := jX.2.2.2.2 z
      have w1 : 1 ≤ (gf M j 7).toInt := w1
      unfold okW
      rw [e, h9]
      split <;> omega
    · rw [if_neg z]
      exact Or.inl rfl
  · rw [if_neg k13]
    exact Or.inl rfl
theorem r_wake {c d n : Nat} {μ : MM} {B : gB} {M : gM} (h : tM c μ M) (hB : tB d μ B) (h0 : mP μ c 0 = d) (hn : n ≤ 24) : ∃ ν, fX3_wake c (tCo c n) μ = some ((gWake B M n).1, ν) ∧ tM c ν (gWake B M n).2 ∧ tF c μ ν ∧ tT c μ ν := by
  have e3 : mI μ (tCo c n) 3 = gf M n 3 := h.rd hn (by omega) (by omega) (by omega)
  have e6 : mI μ (tCo c n) 6 = gf M n 6 := h.rd hn (by omega) (by omega) (by omega)
  have e7 : mI μ (tCo c n) 7 = gf M n 7 := h.rd hn (by omega) (by omega) (by omega)
  have hb := gBody_le (gf M n 3)
  unfold fX3_wake gWake gAtLn
  rw [if_pos (h.lay hn).1, h0, if_pos hB.1.1.1, e3, r_bat hB]
  simp only [Option.bind_some]
  rw [if_pos (hB.1.2.2 _ hb).1, e6, (r_line hB hb (gf M n 6)).1]
  simp only [Option.bind_some]
  by_cases q : (gLn (B.2 (gBody (gf M n 3))) (gf M n 6)).1 = 13
  · rw [if_pos q, if_pos q, e7, r_at h.1]
    simp only [Option.bind_some]
    obtain ⟨ν, e, t1, F1, T1⟩ := r_outcome h hn (gAt_le (gf M n 7))
    rw [e]
    exact ⟨ν, rfl, t1, F1, T1⟩
  · rw [if_neg q, if_neg q]
    obtain ⟨t1, F1, T1⟩ := r_F h hn 7 0 (by omega) (by omega) (by omega)
    obtain ⟨ν, e, t2, F2, T2⟩ := r_go t1 hn (gf (gfS M n 7 0) n 6 + 1)
    refine ⟨ν, ?_, t2, F1.tr F2, T1.tr T2⟩
    dsimp only [st]
    rw [show mI (sI μ (tCo c n) 7 0) (tCo c n) 6 = gf (gfS M n 7 0) n 6 from t1.rd hn (by omega) (by omega) (by omega), e]
    rfl
theorem r_beginTurn {c d n : Nat} {μ : MM} {B : gB} {M : gM} {t : Int32} (h : tM c μ M) (hB : tB d μ B) (h0 : mP μ c 0 = d) (hd : d + 38 ≤ c ∨ c + 131 ≤ d) (hn : n ≤ 24) (ht : mI μ c 9 = t) (hw : gf M n 5 ≠ 0 → (gWake B M n).1 = 0 ∨ okW (gWake B M n).1) : ∃ ν, fX3_beginTurn c (tCo c n) μ = some ν ∧ tM c ν (gBegin B M t n) ∧ tF c μ ν ∧ tT c μ ν := by
  have e5 : mI μ (tCo c n) 5 = gf M n 5 := h.rd hn (by omega) (by omega) (by omega)
  have w0 : (0 : Int32).toInt = 0 := rfl
  unfold fX3_beginTurn gBegin
  rw [if_pos (h.lay hn).1, e5]
  by_cases q : gf M n 5 = 0
  · rw [if_pos q, if_pos q]
    obtain ⟨ν, e, a⟩ := r_go h hn 0
    rw [e]
    exact ⟨ν, rfl, a⟩
  · rw [if_neg q, if_neg q]
    obtain ⟨ν, e, t1, F1, T1⟩ := r_takes h ht
    rw [e]
    simp only [Option.bind_some]
    by_cases y : gTakes M t = true
    · rw [if_pos y] at t1
      rw [if_pos y, if_pos y, if_neg (by decide), if_neg (by decide)]
      obtain ⟨ω, e2, t2, F2, T2⟩ := r_leave t1 hn (way := 9) (val := 0) (fun z => absurd z (by decide)) (fun z => absurd z (by decide))
      rw [e2]
      exact ⟨ω, rfl, t2, F1.tr F2, T1.tr T2⟩
    · rw [if_neg y] at t1
      rw [if_neg y, if_neg y, if_pos rfl]
      obtain ⟨ω, e2, t2, F2, T2⟩ := r_wake t1 (hB.fr F1 hd) ((F1.2.2.2.2 c 0 (by omega)).trans h0) hn
      rw [e2]
      simp only [Option.bind_some]
      by_cases z : (gWake B M n).1 = 0
      · rw [if_pos z, if_pos z]
        exact ⟨ω, rfl, t2, F1.tr F2, T1.tr T2⟩
      · rw [if_neg z, if_neg z]
        have wy := (hw q).resolve_left z
        obtain ⟨θ, e3, t3, F3, T3⟩ := r_leave t2 hn (way := (gWake B M n).1) (val := 0) (fun v => by have := Int32.le_iff_toInt_le.mp v; have := wy.1; omega) (fun v => absurd v wy.n4)
        rw [e3]
        exact ⟨θ, rfl, t3, (F1.tr F2).tr F3, (T1.tr T2).tr T3⟩
theorem r_rem7 {c place : Nat} {μ : MM} {M : gM} (h : tM c μ M) (hl : place < (grq M).length) : ∃ ν, fX4_removeAt (c + 7) (Int32.ofNat place) μ = some ν ∧ tM c ν (grqS M ((grq M).eraseIdx place)) ∧ tF c μ ν ∧ tT c μ ν := by
  obtain ⟨ν, e, a, b⟩ := f_rem h.1.2.2.2.1 h.2.2.1 hl
  exact ⟨ν, e, h.step (b.F (by omega) (by omega)) (h.2.setQ7 a fun y j hy => b.2.2.2.2 y j (by omega)), b.F (by omega) (by omega), b.T (by omega)⟩
theorem r_turnsL {c d m : Nat} {B : gB} (hB : IB B) (hd : d + 38 ≤ c ∨ c + 131 ≤ d) (hm : m < 1000) : ∀ (i f x : Nat) (M : gM) (μ : MM), x + i = m → i < f → IVR B M → tM c μ M → tB d μ B → mP μ c 0 = d →
    ∃ ν, lX3_doTurns_2 f c (Int32.ofNat m) (Int32.ofNat x) μ = some (Int32.ofNat (x + gDone B i M), ν) ∧ tM c ν (gTurns B i M) ∧ tF c μ ν := by
  intro i
  induction i with
  | zero =>
    intro f x M μ hx hf h ht hb h0
    obtain ⟨f, rfl⟩ : ∃ g, f = g + 1 := ⟨f - 1, by omega⟩
    refine ⟨μ, ?_, ht, tF.rf⟩
    show bX3_doTurns_2 _ c (Int32.ofNat m) (Int32.ofNat x) μ = _
    unfold bX3_doTurns_2
    rw [if_pos ((g_le (by omega) (by omega)).mpr (by omega))]
    rfl
  | succ i ih =>
    intro f x M μ hx hf h ht hb h0
    obtain ⟨f, rfl⟩ : ∃ g, f = g + 1 := ⟨f - 1, by omega⟩
    have hql : (grq M).length ≤ 24 := ht.2.2.1.1
    show ∃ ν, bX3_doTurns_2 (fun h0 x1 x2 μ => lX3_doTurns_2 f h0 x1 x2 μ) c (Int32.ofNat m) (Int32.ofNat x) μ = _ ∧ _
    unfold bX3_doTurns_2 gTurns gDone
    rw [if_neg (mt (g_le (by omega) (by omega)).mp (by omega)), if_pos ht.1.1.1, show mP μ c 3 = c + 7 from ht.1.1.2.2.2.1, if_pos ht.1.2.2.2.1.1, ht.2.2.1.2.1]
    by_cases q : (grq M).length = 0
    · rw [if_pos (by rw [q]; decide), if_pos q, if_pos q]
      exact ⟨μ, rfl, ht, tF.rf⟩
    · have z : ¬ Int32.ofNat (grq M).length ≤ 0 := by
        have := mt (g_le (a := (grq M).length) (b := 0) (by omega) (by omega)).mp (by omega)
        exact this
      rw [if_neg z, if_neg q, if_neg q]
      obtain ⟨v1, v2, v3⟩ := turn_ok hB h q
      cases hl : grq M with
      | nil => rw [hl] at q; exact absurd rfl q
      | cons y l =>
        obtain ⟨p, e1, e2, e3, e4, e5, e6, e7, e8, e9, hI, k1, k2⟩ := turn_in h hl
        have h24 := h.1.2.1
        have hp24 : p ≤ 24 := by omega
        have fn := f_num ht.1.2.2.2.1 ht.2.2.1 0 (by omega)
        rw [hl] at fn
        have fn : fX4_numberAt (c + 7) 0 μ = some (y, μ) := fn
        obtain ⟨μ1, f1, t1, F1, T1⟩ := r_rem7 ht (place := 0) (by omega)
        rw [hl] at t1
        have t1 : tM c μ1 (grqS M l) := t1
        have f1 : fX4_removeAt (c + 7) 0 μ = some μ1 := f1
        have t2 : tM c (sI μ1 c 7 (gtrn M + 1)) (gtrnS (grqS M l) (gtrn M + 1)) := t1.step (tF.I (by omega) (by omega)) t1.2.trn
        have F2 : tF c μ1 (sI μ1 c 7 (gtrn M + 1)) := tF.I (by omega) (by omega)
        have eg : mI μ1 c 7 = gtrn M := t1.2.1.2.2
        obtain ⟨μ3, f3, t3, F3, y9, y10, y11⟩ := r_begin t2 (gNum p)
        have hdp : gInmost (gtrnS (grqS M l) (gtrn M + 1)) 24 p ≤ 24 := gIn_le 24 p hp24
        have F13 := (F1.tr F2).tr F3
        obtain ⟨μ4, f4, t4, F4, T4⟩ := r_beginTurn t3 (hb.fr F13 hd) ((F13.2.2.2.2 c 0 (by omega)).trans h0) hd hdp y9 (fun w => wake_way e8 e6 (e7.resolve_left w))
        have F14 := F13.tr F4
        rw [← e3] at hI
        obtain ⟨μ5, f5, t5, X5, F5⟩ := r_goOn (T := (gBegin B (gtrnS (grqS M l) (gtrn M + 1)) (gNum p) (gInmost (gtrnS (grqS M l) (gtrn M + 1)) 24 p), gInmost (gtrnS (grqS M l) (gtrn M + 1)) 24 p, (gNum p, 0), false, false)) hB hd hI t4 (hb.fr F14 hd) ((F14.2.2.2.2 c 0 (by omega)).trans h0) ((T4.1 9 (by omega)).trans y9) ((T4.1 10 (by omega)).trans y10) ((T4.1 11 (by omega)).trans y11)
        have F15 := F14.tr F5
        have eT : gTurn B M = (if gOver (gCallT B (gBegin B (gtrnS (grqS M l) (gtrn M + 1)) (gNum p) (gInmost (gtrnS (grqS M l) (gtrn M + 1)) 24 p), gInmost (gtrnS (grqS M l) (gtrn M + 1)) 24 p, (gNum p, 0), false, false) p).1 p then gTell (gCallT B (gBegin B (gtrnS (grqS M l) (gtrn M + 1)) (gNum p) (gInmost (gtrnS (grqS M l) (gtrn M + 1)) 24 p), gInmost (gtrnS (grqS M l) (gtrn M + 1)) 24 p, (gNum p, 0), false, false) p).1 p else (gCallT B (gBegin B (gtrnS (grqS M l) (gtrn M + 1)) (gNum p) (gInmost (gtrnS (grqS M l) (gtrn M + 1)) 24 p), gInmost (gtrnS (grqS M l) (gtrn M + 1)) 24 p, (gNum p, 0), false, false) p).1) := by
          unfold gTurn gCall
          rw [hl]
          simp only [List.getElem?_cons_zero, Option.getD_some, List.drop_one, List.tail_cons, e2]
        have hcT := (call_ok hB hI).1.1
        have hTn : ∃ m', gcnt (gCallT B (gBegin B (gtrnS (grqS M l) (gtrn M + 1)) (gNum p) (gInmost (gtrnS (grqS M l) (gtrn M + 1)) 24 p), gInmost (gtrnS (grqS M l) (gtrn M + 1)) 24 p, (gNum p, 0), false, false) p).1 = Int32.ofNat m' ∧ m' ≤ 24 := by
          rcases (call_ok hB hI).2.2 with ⟨-, b, -⟩ | ⟨-, -, b⟩
          · exact ⟨_, b.1.1, b.1.2.1⟩
          · exact ⟨_, b.1.1, b.1.2.1⟩
        generalize gCallT B (gBegin B (gtrnS (grqS M l) (gtrn M + 1)) (gNum p) (gInmost (gtrnS (grqS M l) (gtrn M + 1)) 24 p), gInmost (gtrnS (grqS M l) (gtrn M + 1)) 24 p, (gNum p, 0), false, false) p = T' at t5 eT hTn
        obtain ⟨m', hm1, hm2⟩ := hTn
        have key : ∀ {ω : MM}, tM c ω (gTurn B M) → tF c μ ω → ∃ ν, lX3_doTurns_2 f c (Int32.ofNat m) (Int32.ofNat (x + 1)) ω = some (Int32.ofNat (x + (gDone B i (gTurn B M) + 1)), ν) ∧ tM c ν (gTurns B i (gTurn B M)) ∧ tF c μ ν := fun {ω} a b => by
          obtain ⟨ν, g1, g2, g3⟩ := ih f (x + 1) (gTurn B M) ω (by omega) (by omega) v1 a (hb.fr b hd) ((b.2.2.2.2 c 0 (by omega)).trans h0)
          exact ⟨ν, by rw [g1, show x + 1 + gDone B i (gTurn B M) = x + (gDone B i (gTurn B M) + 1) by omega], g2, b.tr g3⟩
        rw [fn]
        simp only [Option.bind_some]
        rw [r_at ht.1, e2]
        simp only [Option.bind_some]
        rw [show mP μ c 3 = c + 7 from ht.1.1.2.2.2.1, if_pos ht.1.2.2.2.1.1, f1]
        simp only [Option.bind_some]
        dsimp only [st]
        rw [eg, if_pos (ht.lay hp24).1, show mI (sI μ1 c 7 (gtrn M + 1)) (tCo c p) 0 = gNum p from (t2.2.2.2.2 _ hp24).1, f3]
        simp only [Option.bind_some]
        rw [r_inmost t3 hp24]
        simp only [Option.bind_some]
        rw [f4]
        simp only [Option.bind_some]
        rw [f5]
        simp only [Option.bind_some]
        rw [f_over t5 hp24]
        simp only [Option.bind_some]
        rw [g_suc]
        cases o : gOver T'.1 p with
        | false =>
          rw [if_pos b0]
          rw [o] at eT
          exact key (by rw [eT]; exact t5) F15
        | true =>
          rw [if_neg b1]
          rw [o] at eT
          obtain ⟨μ6, f6, t6, F6, T6⟩ := r_tell hp24 hm2 hm1 t5
          rw [f6]
          exact key (by rw [eT]; exact t6) (F15.tr F6)
theorem r_turns {c d m : Nat} {μ : MM} {B : gB} {M : gM} (hB : IB B) (hd : d + 38 ≤ c ∨ c + 131 ≤ d) (hm : m < 1000) (h : IVR B M) (ht : tM c μ M) (hb : tB d μ B) (h0 : mP μ c 0 = d) : ∃ ν, fX3_doTurns c (Int32.ofNat m) μ = some (Int32.ofNat (gDone B m M), ν) ∧ tM c ν (gTurns B m M) ∧ tF c μ ν := by
  obtain ⟨ν, e, a⟩ := r_turnsL hB hd hm m FU 0 M μ (Nat.zero_add _) (by unfold FU; omega) h ht hb h0
  rw [Nat.zero_add] at e
  exact ⟨ν, e, a⟩
