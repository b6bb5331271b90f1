/-! THE LINES that touch more than their own coroutine, doLine, one step of goOn: against the model -/
theorem b0 : (if false = true then (1 : Int32) else 0) = 0 := rfl
theorem b1 : ¬ (if true = true then (1 : Int32) else 0) = 0 := by decide
theorem r_wt {c n : Nat} {μ : MM} {M : gM} {T : gT} (h : tM c μ M) (hX : tX c μ T) (hn : n ≤ 24) : ∃ ν, fX3_waitAt c (tCo c n) μ = some ν ∧ tM c ν (gWt T M n).1 ∧ tX c ν (gWt T M n) ∧ tF c μ ν := by
  obtain ⟨x1, x2, x3, x4, x5⟩ := hX
  obtain ⟨ν, e, t, F, w, wj, wr⟩ := r_wait h hn
  exact ⟨ν, e, t, ⟨wr.trans x1, (wj 9 (by omega) (by omega)).trans x2, (wj 10 (by omega) (by omega)).trans x3, (wj 11 (by omega) (by omega)).trans x4, w⟩, F⟩
/-- what the lemma of a line says -/
def tLn (c : Nat) (μ : MM) (R : Int32 × gT) (x : Option (Int32 × MM)) : Prop := ∃ ν, x = some (R.1, ν) ∧ tM c ν R.2.1 ∧ tX c ν R.2 ∧ tF c μ ν
theorem tTn {c n : Nat} {μ : MM} {j : Nat} {v : Int32} (hn : n ≤ 24) : tT c μ (sI μ (tCo c n) j v) := tT.I (tCo_c hn)
theorem r_yield {c n : Nat} {μ : MM} {T : gT} (h : tM c μ T.1) (hX : tX c μ T) (hn : n ≤ 24) : tLn c μ (gYield T n) (fX3_doYield c (tCo c n) μ) := by
  obtain ⟨x1, x2, x3, x4, x5⟩ := id hX
  unfold fX3_doYield gYield
  rw [x2]
  by_cases q : T.2.2.1.1 = -1
  · rw [if_pos q, if_pos q]
    obtain ⟨ν, e, a⟩ := r_wt h hX hn
    rw [e]
    exact ⟨ν, rfl, a⟩
  · rw [if_neg q, if_neg q]
    obtain ⟨ν, e, t1, F1, T1⟩ := r_takes h x2
    rw [e]
    simp only [Option.bind_some]
    by_cases w : gTakes T.1 T.2.2.1.1 = true
    · rw [if_pos w, if_pos w, if_neg (by decide)]
      rw [if_pos w] at t1
      exact ⟨ν, rfl, t1, hX.same (T' := (gTook T.1 T.2.2.1.1, T.2)) T1 rfl, F1⟩
    · rw [if_neg w, if_neg w, if_pos rfl, show mP ν c 3 = c + 7 from t1.1.1.2.2.2.1, if_pos h.1.2.2.2.1.1, show mI ν c 9 = T.2.2.1.1 from (T1.1 9 (by omega)).trans x2]
      rw [if_neg w] at t1
      obtain ⟨ω, e2, t2, F2, T2⟩ := r_add7 t1 T.2.2.1.1
      rw [e2]
      simp only [Option.bind_some]
      obtain ⟨θ, e3, t3, X3, F3⟩ := r_wt (T := T) t2 (hX.same (T1.tr T2) rfl) hn
      rw [e3]
      exact ⟨θ, rfl, t3, X3, (F1.tr F2).tr F3⟩
theorem f_bhas {d : Nat} {μ : MM} {B : gB} (h : tB d μ B) (x : Int32) : fX0_has d x μ = some (if 0 ≤ x ∧ x < B.1 then 1 else 0, μ) := by
  unfold fX0_has
  rw [h.2.1]
  by_cases h1 : x < 0
  · rw [if_pos h1, if_neg (fun q => Int32.not_le.mpr h1 q.1)]
  · rw [if_neg h1]
    by_cases h2 : B.1 ≤ x
    · rw [if_pos h2, if_neg (fun q => Int32.not_lt.mpr h2 q.2)]
    · rw [if_neg h2, if_pos ⟨Int32.not_lt.mp h1, Int32.not_le.mp h2⟩]
theorem f_canMake {c d : Nat} {μ : MM} {B : gB} {M : gM} (h : tM c μ M) (hB : tB d μ B) (h0 : mP μ c 0 = d) (x : Int32) : fX3_canMake c x μ = some (if gCanMake B M x then 1 else 0, μ) := by
  have e5 : mI μ c 5 = gcnt M := h.2.1.1
  unfold fX3_canMake
  rw [h0, if_pos hB.1.1.1, f_bhas hB]
  simp only [Option.bind_some]
  unfold gCanMake fX3_isFull
  rw [e5]
  by_cases q : 0 ≤ x ∧ x < B.1
  · rw [if_pos q, if_neg (by decide)]
    by_cases w : gcnt M < 24
    · rw [if_pos w]
      simp [q, w]
    · rw [if_neg w]
      simp [w]
  · rw [if_neg q, if_pos rfl, if_neg (by simp; intro a b; exact absurd ⟨a, b⟩ q)]
theorem r_from {c d n : Nat} {μ : MM} {B : gB} {T : gT} (h : tM c μ T.1) (hB : tB d μ B) (h0 : mP μ c 0 = d) (hX : tX c μ T) (hn : n ≤ 24) (a : Int32) : tLn c μ (gFrom B T n a) (fX3_doFrom c (tCo c n) a μ) := by
  obtain ⟨x1, x2, x3, x4, x5⟩ := id hX
  unfold fX3_doFrom gFrom
  rw [f_canMake h hB h0]
  simp only [Option.bind_some]
  by_cases w : gCanMake B T.1 a = true
  · rw [if_pos w, if_pos w, if_neg (by decide)]
    obtain ⟨ν, e, t1, F1, T1⟩ := r_make h a 2 (-1)
    have hk := gAt_le (gcnt T.1)
    rw [e]
    simp only [Option.bind_some]
    rw [if_pos (h.lay hn).1, if_pos (h.lay hk).1, show mI ν (tCo c n) 0 = gNum n from (t1.2.2.2.2 _ hn).1]
    obtain ⟨t2, F2, T2⟩ := r_F t1 hk 10 (gNum n) (by omega) (by omega) (by omega)
    obtain ⟨t3, F3, T3⟩ := r_F t2 hn 9 (gNum (gAt (gcnt T.1))) (by omega) (by omega) (by omega)
    obtain ⟨t4, F4, T4⟩ := r_F t3 hn 5 1 (by omega) (by omega) (by omega)
    obtain ⟨ω, e5, t5, F5, T5⟩ := r_go t4 hk 0
    refine ⟨sP ω c 8 (tCo c (gAt (gcnt T.1))), ?_, t5.step tF.P t5.2.setR, ?_, ((((F1.tr F2).tr F3).tr F4).tr F5).tr tF.P⟩
    · dsimp only [st]
      rw [show mI (sI ν (tCo c (gAt (gcnt T.1))) 10 (gNum n)) (tCo c (gAt (gcnt T.1))) 0 = gNum (gAt (gcnt T.1)) from (t2.2.2.2.2 _ hk).1, e5]
      rfl
    · have TT := (((T1.tr T2).tr T3).tr T4).tr T5
      exact ⟨by show (if c = c ∧ 8 = 8 then _ else _) = _; rw [if_pos ⟨rfl, rfl⟩], (TT.1 9 (by omega)).trans x2, (TT.1 10 (by omega)).trans x3, (TT.1 11 (by omega)).trans x4, (TT.1 12 (by omega)).trans x5⟩
  · rw [if_neg w, if_neg w, if_pos rfl]
    exact ⟨μ, rfl, h, hX, tF.rf⟩
theorem r_sleep {c n : Nat} {μ : MM} {T : gT} (h : tM c μ T.1) (hX : tX c μ T) (hn : n ≤ 24) (a : Int32) : tLn c μ (gSleep T n a) (fX3_doSleep c (tCo c n) a μ) := by
  obtain ⟨x1, x2, x3, x4, x5⟩ := id hX
  unfold fX3_doSleep gSleep
  rw [x2]
  by_cases q : T.2.2.1.1 = -1
  · rw [if_pos q, if_pos q]
    exact ⟨μ, rfl, h, hX, tF.rf⟩
  · rw [if_neg q, if_neg q]
    obtain ⟨ν, e, t1, F1, T1⟩ := r_takes h x2
    rw [e]
    simp only [Option.bind_some]
    by_cases w : gTakes T.1 T.2.2.1.1 = true
    · rw [if_pos w, if_pos w, if_neg (by decide)]
      rw [if_pos w] at t1
      exact ⟨ν, rfl, t1, hX.same (T' := (gTook T.1 T.2.2.1.1, T.2)) T1 rfl, F1⟩
    · rw [if_neg w, if_neg w, if_pos rfl, show mI ν c 9 = T.2.2.1.1 from (T1.1 9 (by omega)).trans x2]
      rw [if_neg w] at t1
      rw [r_at t1.1]
      simp only [Option.bind_some]
      have hk := gAt_le T.2.2.1.1
      rw [if_pos (h.lay hk).1, show mI ν c 6 = gnow T.1 from t1.2.1.2.1]
      obtain ⟨t2, F2, T2⟩ := r_F t1 hk 12 (gnow T.1 + a) (by omega) (by omega) (by omega)
      obtain ⟨θ, e3, t3, X3, F3⟩ := r_wt (T := T) t2 (hX.same (T1.tr T2) rfl) hn
      refine ⟨θ, ?_, t3, X3, (F1.tr F2).tr F3⟩
      dsimp only [st]
      rw [e3]
      rfl
theorem r_ringL {c : Nat} {μ : MM} {M : gM} {t : Int32} (h : tM c μ M) (ht : mI μ c 9 = t) : ∀ (i f k : Nat) (n : Int32), k + i = 24 → i < f → lX3_awaitsTheOwnOne_4 f c n (Int32.ofNat k) μ = some (if gRing M t i n then 1 else 0, μ) := by
  intro i
  induction i with
  | zero =>
    intro f k n hk hf
    obtain ⟨f, rfl⟩ : ∃ g, f = g + 1 := ⟨f - 1, by omega⟩
    show bX3_awaitsTheOwnOne_4 _ c n (Int32.ofNat k) μ = _
    unfold bX3_awaitsTheOwnOne_4
    rw [if_pos (by have : k = 24 := by omega
                   subst this; decide)]
    rfl
  | succ i ih =>
    intro f k n hk hf
    obtain ⟨f, rfl⟩ : ∃ g, f = g + 1 := ⟨f - 1, by omega⟩
    have z : ¬ (24 : Int32) ≤ Int32.ofNat k := by
      have := mt (g_le (a := 24) (b := k) (by omega) (by omega)).mp (by omega)
      exact this
    have e13 : mI μ (tCo c (gAt n)) 13 = gf M (gAt n) 13 := h.rd (gAt_le n) (by omega) (by omega) (by omega)
    show bX3_awaitsTheOwnOne_4 _ c n (Int32.ofNat k) μ = _
    unfold bX3_awaitsTheOwnOne_4 gRing
    rw [if_neg z]
    by_cases q : n = -1
    · rw [if_pos q, if_pos q]
      rfl
    · rw [if_neg q, if_neg q, if_pos h.1.1.1, r_at h.1]
      simp only [Option.bind_some]
      rw [if_pos (h.lay (gAt_le n)).1, e13, ht]
      by_cases w : gf M (gAt n) 13 = t
      · rw [if_pos w, if_pos w]
        rfl
      · rw [if_neg w, if_neg w, g_suc]
        exact ih f (k + 1) _ (by omega) (by omega)
theorem r_await {c n : Nat} {μ : MM} {T : gT} (h : tM c μ T.1) (hX : tX c μ T) (hn : n ≤ 24) : tLn c μ (gAwait T n) (fX3_doAwait c (tCo c n) μ) := by
  obtain ⟨x1, x2, x3, x4, x5⟩ := id hX
  have e7 : mI μ (tCo c n) 7 = gf T.1 n 7 := h.rd hn (by omega) (by omega) (by omega)
  unfold fX3_doAwait gAwait
  rw [x2]
  by_cases q : T.2.2.1.1 = -1
  · rw [if_pos q, if_pos q]
    exact ⟨μ, rfl, h, hX, tF.rf⟩
  rw [if_neg q, if_neg q, if_pos (h.lay hn).1, e7, f_has h]
  simp only [Option.bind_some]
  have hk := gAt_le (gf T.1 n 7)
  cases w : gHas T.1 (gf T.1 n 7) 1 with
  | false =>
    rw [if_pos b0, if_pos (Or.inl rfl)]
    exact ⟨μ, rfl, h, hX, tF.rf⟩
  | true =>
    rw [if_neg b1, x2]
    by_cases q2 : gf T.1 n 7 = T.2.2.1.1
    · rw [if_pos q2, if_pos (Or.inr q2)]
      exact ⟨μ, rfl, h, hX, tF.rf⟩
    rw [if_neg q2, if_neg (fun z : true = false ∨ gf T.1 n 7 = T.2.2.1.1 => z.elim (fun z => by cases z) q2), r_at h.1]
    simp only [Option.bind_some]
    rw [if_pos (h.lay hk).1, f_over h hk]
    simp only [Option.bind_some]
    by_cases q3 : gOver T.1 (gAt (gf T.1 n 7)) = true
    · rw [if_pos q3, if_pos q3, if_neg (by decide), r_at h.1]
      simp only [Option.bind_some]
      obtain ⟨ν, e, t1, F1, T1⟩ := r_outcome h hn hk
      rw [e]
      exact ⟨ν, rfl, t1, hX.same (T' := ((gOutcome T.1 n (gAt (gf T.1 n 7))).2, T.2)) T1 rfl, F1⟩
    rw [if_neg q3, if_neg q3, if_pos rfl]
    unfold fX3_awaitsTheOwnOne
    have hr : lX3_awaitsTheOwnOne_4 FU c (gf T.1 n 7) 0 μ = some (if gRing T.1 T.2.2.1.1 24 (gf T.1 n 7) then 1 else 0, μ) := r_ringL h x2 24 FU 0 _ rfl (by unfold FU; omega)
    rw [hr]
    simp only [Option.bind_some]
    by_cases q4 : gRing T.1 T.2.2.1.1 24 (gf T.1 n 7) = true
    · rw [if_pos q4, if_pos q4, if_neg (by decide)]
      exact ⟨μ, rfl, h, hX, tF.rf⟩
    rw [if_neg q4, if_neg q4, if_pos rfl]
    obtain ⟨ν, e, t1, F1, T1⟩ := r_takes h x2
    rw [e]
    simp only [Option.bind_some]
    by_cases w : gTakes T.1 T.2.2.1.1 = true
    · rw [if_pos w, if_pos w, if_neg (by decide)]
      rw [if_pos w] at t1
      exact ⟨ν, rfl, t1, hX.same (T' := (gTook T.1 T.2.2.1.1, T.2)) T1 rfl, F1⟩
    · rw [if_neg w, if_neg w, if_pos rfl, show mI ν c 9 = T.2.2.1.1 from (T1.1 9 (by omega)).trans x2]
      rw [if_neg w] at t1
      rw [r_at t1.1]
      simp only [Option.bind_some]
      have hk2 := gAt_le T.2.2.1.1
      rw [if_pos (h.lay hk2).1]
      obtain ⟨t2, F2, T2⟩ := r_F t1 hk2 13 (gf T.1 n 7) (by omega) (by omega) (by omega)
      obtain ⟨ω, e2, t3, F3, T3⟩ := r_add9 t2 T.2.2.1.1
      obtain ⟨θ, e3, t4, X4, F4⟩ := r_wt (T := T) t3 (hX.same ((T1.tr T2).tr T3) rfl) hn
      refine ⟨θ, ?_, t4, X4, ((F1.tr F2).tr F3).tr F4⟩
      dsimp only [st]
      rw [show mP (sI ν (tCo c (gAt T.2.2.1.1)) 13 (gf T.1 n 7)) c 4 = c + 9 from t2.1.1.2.2.2.2.1, if_pos h.1.2.2.2.2.1, show mI (sI ν (tCo c (gAt T.2.2.1.1)) 13 (gf T.1 n 7)) c 9 = T.2.2.1.1 from ((T1.tr T2).1 9 (by omega)).trans x2, e2]
      simp only [Option.bind_some]
      rw [e3]
      rfl
theorem r_spawn {c d n : Nat} {μ : MM} {B : gB} {T : gT} (h : tM c μ T.1) (hB : tB d μ B) (h0 : mP μ c 0 = d) (hX : tX c μ T) (hn : n ≤ 24) (a : Int32) : tLn c μ (gSpawn B T n a) (fX3_doSpawn c (tCo c n) a μ) := by
  obtain ⟨x1, x2, x3, x4, x5⟩ := id hX
  unfold fX3_doSpawn gSpawn
  rw [x2]
  by_cases q : T.2.2.1.1 = -1
  · rw [if_pos q, if_pos q]
    exact ⟨μ, rfl, h, hX, tF.rf⟩
  rw [if_neg q, if_neg q, f_canMake h hB h0]
  simp only [Option.bind_some]
  by_cases w : gCanMake B T.1 a = true
  · rw [if_pos w, if_pos w, if_neg (by decide), x2]
    obtain ⟨ν, e, t1, F1, T1⟩ := r_make h a 1 T.2.2.1.1
    have hk := gAt_le (gcnt T.1)
    rw [e]
    simp only [Option.bind_some]
    rw [if_pos (h.lay hk).1, if_pos (h.lay hn).1, show mI ν (tCo c (gAt (gcnt T.1))) 0 = gNum (gAt (gcnt T.1)) from (t1.2.2.2.2 _ hk).1]
    obtain ⟨t2, F2, T2⟩ := r_F t1 hn 7 (gNum (gAt (gcnt T.1))) (by omega) (by omega) (by omega)
    obtain ⟨t3, F3, T3⟩ := r_F t2 hn 6 (gf (gMake T.1 a 1 T.2.2.1.1) n 6 + 1) (by omega) (by omega) (by omega)
    refine ⟨_, ?_, t3, hX.same (T' := (gSpawnM T.1 n a T.2.2.1.1, T.2)) ((T1.tr T2).tr T3) rfl, (F1.tr F2).tr F3⟩
    dsimp only [st]
    rw [mI_sI, if_neg (by omega), show mI ν (tCo c n) 6 = gf (gMake T.1 a 1 T.2.2.1.1) n 6 from t1.rd hn (by omega) (by omega) (by omega)]
  · rw [if_neg w, if_neg w, if_pos rfl]
    exact ⟨μ, rfl, h, hX, tF.rf⟩
theorem r_shield {c n : Nat} {μ : MM} {T : gT} (h : tM c μ T.1) (hX : tX c μ T) (hn : n ≤ 24) (a : Int32) : tLn c μ (gShield T n a) (fX3_doShield c (tCo c n) a μ) := by
  obtain ⟨x1, x2, x3, x4, x5⟩ := id hX
  have e6 : mI μ (tCo c n) 6 = gf T.1 n 6 := h.rd hn (by omega) (by omega) (by omega)
  unfold fX3_doShield gShield gShM
  rw [x2]
  by_cases q : T.2.2.1.1 = -1
  · rw [if_pos q, if_pos (h.lay hn).1, if_pos q, e6]
    obtain ⟨t3, F3, T3⟩ := r_F h hn 6 (gf T.1 n 6 + 1) (by omega) (by omega) (by omega)
    exact ⟨_, rfl, t3, hX.same T3 rfl, F3⟩
  · rw [if_neg q, if_neg q, r_at h.1]
    have hk := gAt_le T.2.2.1.1
    simp only [Option.bind_some]
    rw [if_pos (h.lay hk).1, show mI μ (tCo c (gAt T.2.2.1.1)) 14 = gf T.1 (gAt T.2.2.1.1) 14 from h.rd hk (by omega) (by omega) (by omega)]
    have fin : ∀ v : Int32, tLn c μ (0, (gfS (gfS T.1 (gAt T.2.2.1.1) 14 v) n 6 (gf T.1 n 6 + 1), T.2)) (st (sI μ (tCo c (gAt T.2.2.1.1)) 14 v) fun μ7 => if mK μ (tCo c n) = 3 then st (sI μ7 (tCo c n) 6 ((mI μ7 (tCo c n) 6) + 1)) fun μ9 => some (0, μ9) else none) := fun v => by
      obtain ⟨t2, F2, T2⟩ := r_F h hk 14 v (by omega) (by omega) (by omega)
      obtain ⟨t3, F3, T3⟩ := r_F t2 hn 6 (gf T.1 n 6 + 1) (by omega) (by omega) (by omega)
      refine ⟨_, ?_, t3, hX.same (T2.tr T3) rfl, F2.tr F3⟩
      dsimp only [st]
      rw [if_pos (h.lay hn).1, mI_sI, if_neg (by omega), e6]
    by_cases w : a = 1
    · rw [if_pos w, if_pos w]
      exact fin _
    · rw [if_neg w, if_neg w]
      exact fin _
theorem r_do {c d n : Nat} {μ : MM} {B : gB} {T : gT} (h : tM c μ T.1) (hB : tB d μ B) (h0 : mP μ c 0 = d) (hX : tX c μ T) (hn : n ≤ 24) (h9 : (gAtLn B T.1 n).1 = 9 → 0 < (gAtLn B T.1 n).2.1) (h13 : (gAtLn B T.1 n).1 = 13 → (gAwait T n).1 ≠ -4) :
    ∃ ν, fX3_doLine c (tCo c n) (tBh d (gBody (gf T.1 n 3))) μ = some ((gDo B T n).1, ν) ∧ tM c ν (gDo B T n).2.2.1 ∧ tX c ν (gDo B T n).2.2 ∧ tF c μ ν ∧ ((gDo B T n).1 = -4 → mI ν (tCo c n) 8 = (gDo B T n).2.1) := by
  have hb := gBody_le (gf T.1 n 3)
  have e6 : mI μ (tCo c n) 6 = gf T.1 n 6 := h.rd hn (by omega) (by omega) (by omega)
  obtain ⟨k1, k2, k3⟩ := r_line hB hb (gf T.1 n 6)
  unfold fX3_doLine gDo
  rw [if_pos (h.lay hn).1, if_pos (hB.1.2.2 _ hb).1, e6, k1]
  simp only [Option.bind_some]
  rw [e6, k2]
  simp only [Option.bind_some]
  unfold gAtLn at h9 h13 ⊢
  generalize gLn (B.2 (gBody (gf T.1 n 3))) (gf T.1 n 6) = L at k3 h9 h13 ⊢
  have no : ∀ {x : Int32} {P : Prop}, x ≠ -4 → (x = -4 → P) := fun a b => absurd b a
  by_cases q3 : L.1 = 3
  · rw [if_pos q3, if_pos q3]
    obtain ⟨ν, e, a1, a2, a3⟩ := r_yield h hX hn
    rw [e]
    refine ⟨ν, rfl, a1, a2, a3, no ?_⟩
    show (gYield T n).1 ≠ -4
    unfold gYield
    split
    · dsimp only; decide
    · split <;> (dsimp only; decide)
  rw [if_neg q3, if_neg q3]
  by_cases q10 : L.1 = 10
  · rw [if_pos q10, if_pos q10]
    obtain ⟨ν, e, a1, a2, a3⟩ := r_from h hB h0 hX hn L.2.1
    rw [e]
    refine ⟨ν, rfl, a1, a2, a3, no ?_⟩
    show (gFrom B T n L.2.1).1 ≠ -4
    unfold gFrom
    split <;> (dsimp only; decide)
  rw [if_neg q10, if_neg q10]
  by_cases q12 : L.1 = 12
  · rw [if_pos q12, if_pos q12]
    obtain ⟨ν, e, a1, a2, a3⟩ := r_sleep h hX hn L.2.1
    rw [e]
    refine ⟨ν, rfl, a1, a2, a3, no ?_⟩
    show (gSleep T n L.2.1).1 ≠ -4
    unfold gSleep
    split
    · dsimp only; decide
    · split <;> (dsimp only; decide)
  rw [if_neg q12, if_neg q12]
  by_cases q13 : L.1 = 13
  · rw [if_pos q13, if_pos q13]
    obtain ⟨ν, e, a1, a2, a3⟩ := r_await h hX hn
    rw [e]
    exact ⟨ν, rfl, a1, a2, a3, no (h13 q13)⟩
  rw [if_neg q13, if_neg q13]
  by_cases q14 : L.1 = 14
  · rw [if_pos q14, if_pos q14]
    obtain ⟨ν, e, a1, a2, a3⟩ := r_spawn h hB h0 hX hn L.2.1
    rw [e]
    refine ⟨ν, rfl, a1, a2, a3, no ?_⟩
    show (gSpawn B T n L.2.1).1 ≠ -4
    unfold gSpawn
    split
    · dsimp only; decide
    · split <;> (dsimp only; decide)
  rw [if_neg q14, if_neg q14]
  by_cases q15 : L.1 = 15
  · rw [if_pos q15, if_pos q15]
    obtain ⟨ν, e, a1, a2, a3⟩ := r_shield h hX hn L.2.1
    rw [e]
    exact ⟨ν, rfl, a1, a2, a3, no (by show (0 : Int32) ≠ -4; decide)⟩
  rw [if_neg q15, if_neg q15, e6, k3]
  simp only [Option.bind_some]
  obtain ⟨ν, e, a1, a2, a3, a4⟩ := r_plain h hn L.1 L.2.1 L.2.2 h9
  rw [e]
  exact ⟨ν, rfl, a1, hX.same a3 rfl, a2, a4⟩
theorem gf_gfS {M : gM} {n j k i : Nat} {v : Int32} : gf (gfS M n j v) k i = if k = n ∧ i = j then v else gf M k i := by
  unfold gf gfS gCoS
  by_cases h : k = n
  · subst h
    simp
  · simp [h]
theorem r_back {c : Nat} {μ : MM} {T : gT} (h : tM c μ T.1) (hX : tX c μ T) (hn : T.2.1 ≤ 24) (hpos : gf T.1 T.2.1 5 ≠ 3 → 0 < gf T.1 T.2.1 7) :
    ∃ ν, fX3_backToOuter c μ = some ν ∧ tM c ν (gBack T.1 T.2.1).1 ∧ tX c ν ((gBack T.1 T.2.1).1, (gBack T.1 T.2.1).2, T.2.2) ∧ tF c μ ν := by
  obtain ⟨x1, x2, x3, x4, x5⟩ := id hX
  have hk := gAt_le (gf T.1 T.2.1 10)
  have e10 : mI μ (tCo c T.2.1) 10 = gf T.1 T.2.1 10 := h.rd hn (by omega) (by omega) (by omega)
  unfold fX3_backToOuter gBack
  rw [x1, if_pos (h.lay hn).1, e10, r_at h.1]
  simp only [Option.bind_some]
  obtain ⟨ν, e, t1, F1, T1⟩ := r_part h hk hn
  rw [e]
  simp only [Option.bind_some]
  have e5 : mI ν (tCo c T.2.1) 5 = gf (gPart T.1 (gAt (gf T.1 T.2.1 10)) T.2.1) T.2.1 5 := t1.rd hn (by omega) (by omega) (by omega)
  have e7 : mI ν (tCo c T.2.1) 7 = gf (gPart T.1 (gAt (gf T.1 T.2.1 10)) T.2.1) T.2.1 7 := t1.rd hn (by omega) (by omega) (by omega)
  have p5 : gf (gPart T.1 (gAt (gf T.1 T.2.1 10)) T.2.1) T.2.1 5 = gf T.1 T.2.1 5 := by unfold gPart; rw [gf_gfS, gf_gfS, if_neg (by omega), if_neg (by omega)]
  have p7 : gf (gPart T.1 (gAt (gf T.1 T.2.1 10)) T.2.1) T.2.1 7 = gf T.1 T.2.1 7 := by unfold gPart; rw [gf_gfS, gf_gfS, if_neg (by omega), if_neg (by omega)]
  have fin : ∀ {ω : MM} {M1 : gM}, tM c ω M1 → tF c μ ω → tT c μ ω → tM c (sP ω c 8 (tCo c (gAt (gf T.1 T.2.1 10)))) M1 ∧ tX c (sP ω c 8 (tCo c (gAt (gf T.1 T.2.1 10)))) (M1, gAt (gf T.1 T.2.1 10), T.2.2) ∧ tF c μ (sP ω c 8 (tCo c (gAt (gf T.1 T.2.1 10)))) := fun t F TT =>
    ⟨t.step tF.P t.2.setR, ⟨by show (if c = c ∧ 8 = 8 then _ else _) = _; rw [if_pos ⟨rfl, rfl⟩], (TT.1 9 (by omega)).trans x2, (TT.1 10 (by omega)).trans x3, (TT.1 11 (by omega)).trans x4, (TT.1 12 (by omega)).trans x5⟩, F.tr tF.P⟩
  rw [e5]
  by_cases q : gf (gPart T.1 (gAt (gf T.1 T.2.1 10)) T.2.1) T.2.1 5 = 3
  · rw [if_pos q, if_pos (h.lay hk).1, e7]
    simp only [q, if_true]
    obtain ⟨t2, F2, T2⟩ := r_F t1 hk 7 (gf (gPart T.1 (gAt (gf T.1 T.2.1 10)) T.2.1) T.2.1 7) (by omega) (by omega) (by omega)
    obtain ⟨ω, e2, t3, F3, T3⟩ := r_go t2 hk (gf (gPart T.1 (gAt (gf T.1 T.2.1 10)) T.2.1) (gAt (gf T.1 T.2.1 10)) 6 + 1)
    obtain ⟨f1, f2, f3⟩ := fin t3 ((F1.tr F2).tr F3) ((T1.tr T2).tr T3)
    refine ⟨_, ?_, f1, f2, f3⟩
    dsimp only [st]
    rw [show mI (sI ν (tCo c (gAt (gf T.1 T.2.1 10))) 7 (gf (gPart T.1 (gAt (gf T.1 T.2.1 10)) T.2.1) T.2.1 7)) (tCo c (gAt (gf T.1 T.2.1 10))) 6 = gf (gPart T.1 (gAt (gf T.1 T.2.1 10)) T.2.1) (gAt (gf T.1 T.2.1 10)) 6 by rw [mI_sI, if_neg (by omega)]; exact t1.rd hk (by omega) (by omega) (by omega), e2]
    rfl
  · rw [if_neg q, if_pos (h.lay hk).1, e7]
    simp only [q, if_false]
    have hp : 0 < gf T.1 T.2.1 7 := hpos (by rw [← p5]; exact q)
    rw [p7]
    obtain ⟨ω, e2, t3, F3, T3⟩ := r_leave t1 hk (way := gf T.1 T.2.1 7) (val := 0) (fun z => absurd hp (Int32.not_lt.mpr z)) (fun z => by rw [z] at hp; exact absurd hp (by decide))
    obtain ⟨f1, f2, f3⟩ := fin t3 (F1.tr F3) (T1.tr T3)
    rw [e2]
    exact ⟨_, rfl, f1, f2, f3⟩
/-- what one step wants of the call: ways are ways -/
def gWays (B : gB) (T : gT) : Prop :=
  (gOver T.1 T.2.1 = true → gf T.1 T.2.1 5 ≠ 3 → 0 < gf T.1 T.2.1 7) ∧
  (gOver T.1 T.2.1 = false → (gInstead B T T.2.1).1 = 0 → ((gAtLn B T.1 T.2.1).1 = 9 → 0 < (gAtLn B T.1 T.2.1).2.1) ∧ ((gAtLn B T.1 T.2.1).1 = 13 → (gAwait (gInstead B T T.2.1).2.2 T.2.1).1 ≠ -4) ∧ ((gDo B (gInstead B T T.2.1).2.2 T.2.1).1 ≤ 0 → (gDo B (gInstead B T T.2.1).2.2 T.2.1).1 = 0 ∨ (gDo B (gInstead B T T.2.1).2.2 T.2.1).1 = -4))
theorem gInstead_way {B : gB} {T : gT} {n : Nat} : (gInstead B T n).1 = 0 ∨ (gInstead B T n).1 = -4 ∨ (gInstead B T n).1 = 11 := by
  unfold gInstead
  split
  · exact Or.inr (Or.inl rfl)
  · split
    · split
      · exact Or.inl rfl
      · exact Or.inr (Or.inr rfl)
    · exact Or.inr (Or.inr rfl)
theorem gInstead_z {B : gB} {T : gT} {n : Nat} (h : (gInstead B T n).1 = 0) : (gInstead B T n).2.2 = (gfS T.1 n 11 (gf T.1 n 11 + 1), T.2.1, (T.2.2.1.1, T.2.2.1.2 + 1), T.2.2.2) ∧ gHL (B.2 (gBody (gf T.1 n 3))) (gf T.1 n 6) = true ∧ T.2.2.1.2 < 300 := by
  unfold gInstead at h ⊢
  by_cases a : gHL (B.2 (gBody (gf T.1 n 3))) (gf T.1 n 6) = false
  · rw [if_pos a] at h
    exact absurd (show (-4 : Int32) = 0 from h) (by decide)
  · rw [if_neg a] at h ⊢
    by_cases b : T.2.2.1.2 < 200 ∨ T.2.2.2.1 = true
    · rw [if_pos b] at h ⊢
      by_cases e : T.2.2.1.2 < 300
      · rw [if_pos e]
        exact ⟨rfl, by simpa using a, e⟩
      · rw [if_neg e] at h
        exact absurd (show (11 : Int32) = 0 from h) (by decide)
    · rw [if_neg b] at h
      exact absurd (show (11 : Int32) = 0 from h) (by decide)
theorem r_step {c d top : Nat} {μ : MM} {B : gB} {T : gT} (h : tM c μ T.1) (hB : tB d μ B) (h0 : mP μ c 0 = d) (hd : d + 38 ≤ c ∨ c + 131 ≤ d) (hX : tX c μ T) (hn : T.2.1 ≤ 24) (ht : top ≤ 24) (hw : T.2.2.2.2 = false) (ho : gOver T.1 top = false) (hW : gWays B T) (f x : Nat) (hx : x < 1000000) :
    ∃ ν, lX3_goOn_12 (f + 1) c (tCo c top) (Int32.ofNat x) μ = lX3_goOn_12 f c (tCo c top) (Int32.ofNat (x + 1)) ν ∧ tM c ν (gStep B T).1 ∧ tX c ν (gStep B T) ∧ tF c μ ν := by
  obtain ⟨x1, x2, x3, x4, x5⟩ := id hX
  have z : ¬ (1000000 : Int32) ≤ Int32.ofNat x := by
    have := mt (g_le (a := 1000000) (b := x) (by omega) (by omega)).mp (by omega)
    exact this
  show ∃ ν, bX3_goOn_12 (fun h0 h1 x3 μ => lX3_goOn_12 f h0 h1 x3 μ) c (tCo c top) (Int32.ofNat x) μ = _ ∧ _
  unfold bX3_goOn_12
  rw [if_neg z, if_pos h.1.1.1, x5, hw, if_pos (show (if false = true then (1 : Int32) else 0) = 0 from rfl), if_pos (h.lay ht).1, f_over h ht, ho]
  simp only [Option.bind_some]
  rw [if_pos (show (if false = true then (1 : Int32) else 0) = 0 from rfl), x1, if_pos (h.lay hn).1, f_over h hn]
  simp only [Option.bind_some]
  rw [g_suc]
  unfold gStep
  cases q : gOver T.1 T.2.1 with
  | true =>
    rw [if_neg (show ¬ (if true = true then (1 : Int32) else 0) = 0 by decide), if_pos rfl]
    obtain ⟨ν, e, a⟩ := r_back h hX hn (hW.1 q)
    rw [e]
    exact ⟨ν, rfl, a⟩
  | false =>
    rw [if_pos (show (if false = true then (1 : Int32) else 0) = 0 from rfl), if_neg (by decide)]
    obtain ⟨ν, e, t1, X1, F1, v1⟩ := r_instead h hB h0 hX hn
    rw [e]
    simp only [Option.bind_some]
    by_cases w : (gInstead B T T.2.1).1 = 0
    · obtain ⟨w1, w2, w3⟩ := hW.2 q w
      obtain ⟨i1, i2, i3⟩ := gInstead_z w
      have hB1 := hB.fr F1 hd
      have h01 : mP ν c 0 = d := (F1.2.2.2.2 c 0 (by omega)).trans h0
      rw [if_pos w, if_pos w, h01, if_pos hB.1.1.1]
      have e3 : mI ν (tCo c T.2.1) 3 = gf (gInstead B T T.2.1).2.2.1 T.2.1 3 := t1.rd hn (by omega) (by omega) (by omega)
      rw [e3, r_bat hB1]
      simp only [Option.bind_some]
      have f3 : gf (gInstead B T T.2.1).2.2.1 T.2.1 3 = gf T.1 T.2.1 3 := by rw [i1]; show gf (gfS T.1 T.2.1 11 _) T.2.1 3 = _; rw [gf_gfS, if_neg (by omega)]
      have f6 : gf (gInstead B T T.2.1).2.2.1 T.2.1 6 = gf T.1 T.2.1 6 := by rw [i1]; show gf (gfS T.1 T.2.1 11 _) T.2.1 6 = _; rw [gf_gfS, if_neg (by omega)]
      have eL : gAtLn B (gInstead B T T.2.1).2.2.1 T.2.1 = gAtLn B T.1 T.2.1 := by unfold gAtLn; rw [f3, f6]
      obtain ⟨ω, e2, t2, X2, F2, v2⟩ := r_do t1 hB1 h01 X1 hn (by rw [eL]; exact w1) (by rw [eL]; exact w2)
      rw [e2]
      simp only [Option.bind_some]
      by_cases y : (gDo B (gInstead B T T.2.1).2.2 T.2.1).1 = 0
      · rw [if_pos y, if_pos y]
        exact ⟨ω, rfl, t2, X2, F1.tr F2⟩
      · rw [if_neg y, if_neg y]
        obtain ⟨θ, e4, t4, F4, T4⟩ := r_leave t2 hn (way := (gDo B (gInstead B T T.2.1).2.2 T.2.1).1) (val := (gDo B (gInstead B T T.2.1).2.2 T.2.1).2.1) (fun a => (w3 a).resolve_left y) v2
        rw [e4]
        exact ⟨θ, rfl, t4, X2.same T4 rfl, (F1.tr F2).tr F4⟩
    · rw [if_neg w, if_neg w, if_neg w]
      obtain ⟨θ, e4, t4, F4, T4⟩ := r_leave t1 hn (way := (gInstead B T T.2.1).1) (val := (gInstead B T T.2.1).2.1) (fun a => by
        rcases gInstead_way (B := B) (T := T) (n := T.2.1) with b | b | b
        · exact absurd b w
        · exact b
        · rw [b] at a; exact absurd a (by decide)) v1
      rw [e4]
      exact ⟨θ, rfl, t4, X1.same T4 rfl, F1.tr F4⟩
