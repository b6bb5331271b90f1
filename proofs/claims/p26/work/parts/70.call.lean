/-! goOn: it ends, and what stands then -/
/-- what stands behind goOn -/
def GE (B : gB) (T : gT) (top : Nat) (T' : gT) : Prop := gKq T.1 T'.1 T.2.2.1.1 top ∧ T'.2.2.1.1 = T.2.2.1.1 ∧ ((T'.2.2.2.2 = true ∧ IVR B T'.1 ∧ gOver T'.1 top = false ∧ gf T'.1 top 5 = 1 ∧ (0 ≤ T'.2.2.1.2.toInt ∧ T'.2.2.1.2.toInt ≤ 300)) ∨ (T'.2.2.2.2 = false ∧ gOver T'.1 top = true ∧ IVC B T' top))
theorem gGoOn_end {B : gB} {top n : Nat} {T : gT} (h : (T.2.2.2.2 || gOver T.1 top) = true) : gGoOn B top n T = T := by
  cases n with
  | zero => rfl
  | succ n =>
    unfold gGoOn
    rw [if_pos h]
theorem goOn_ok {B : gB} {top : Nat} (hB : IB B) : ∀ (n : Nat) (T : gT), IVC B T top → T.2.2.2.2 = false → gMu T < n → GE B T top (gGoOn B top n T) := by
  intro n
  induction n with
  | zero => intro T _ _ h; omega
  | succ n ih =>
    intro T h hw hn
    by_cases q : gOver T.1 top = true
    · rw [gGoOn_end (by rw [q, hw]; rfl)]
      exact ⟨gKq.rf, rfl, Or.inr ⟨hw, q, h⟩⟩
    · have qf : gOver T.1 top = false := by simpa using q
      have e : gGoOn B top (n + 1) T = gGoOn B top n (gStep B T) := by
        show (if (T.2.2.2.2 || gOver T.1 top) = true then T else gGoOn B top n (gStep B T)) = _
        rw [if_neg (by rw [hw, qf]; decide)]
      obtain ⟨-, s2, s3, s4⟩ := step_ok hB h hw qf
      rw [e]
      rcases s4 with ⟨a, b, c⟩ | ⟨a, b, c⟩
      · obtain ⟨g1, g2, g3⟩ := ih (gStep B T) b a (by omega)
        rw [s3] at g1 g2
        exact ⟨s2.tr g1, g2, g3⟩
      · rw [gGoOn_end (by rw [a]; rfl)]
        exact ⟨s2, s3, Or.inl ⟨a, b, c⟩⟩
theorem gMu_lt {B : gB} {T : gT} {top : Nat} (h : IVC B T top) : gMu T < 4000 := by
  have h1 := sW_up (M := T.1) (fun k hk => (h.1.2.2 k hk).1.1.2.2.1.1) 24
  have := h.2.2.2.2.2
  unfold gMu
  split <;> omega
theorem r_goOnL {c d top : Nat} {B : gB} (hB : IB B) (hd : d + 38 ≤ c ∨ c + 131 ≤ d) : ∀ (n f x : Nat) (T : gT) (μ : MM), IVC B T top → T.2.2.2.2 = false → gMu T < n → n < f → x + n < 1000000 → tM c μ T.1 → tB d μ B → mP μ c 0 = d → tX c μ T →
    ∃ ν, lX3_goOn_12 f c (tCo c top) (Int32.ofNat x) μ = some ν ∧ tM c ν (gGoOn B top n T).1 ∧ tX c ν (gGoOn B top n T) ∧ tF c μ ν := by
  intro n
  induction n with
  | zero => intro f x T μ _ _ h; omega
  | succ n ih =>
    intro f x T μ h hw hn hf hx hm hb h0 hX
    obtain ⟨f, rfl⟩ : ∃ g, f = g + 1 := ⟨f - 1, by omega⟩
    have h24 := h.1.2.1
    have ht := h.2.2.2.2.1.1
    have hr := h.2.1.1
    have z : ∀ y : Nat, y < 1000000 → ¬ (1000000 : Int32) ≤ Int32.ofNat y := fun y hy => by
      have := mt (g_le (a := 1000000) (b := y) (by omega) (by omega)).mp (by omega)
      exact this
    by_cases q : gOver T.1 top = true
    · rw [gGoOn_end (by rw [q, hw]; rfl)]
      refine ⟨μ, ?_, hm, hX, tF.rf⟩
      show bX3_goOn_12 _ c (tCo c top) (Int32.ofNat x) μ = _
      obtain ⟨x1, x2, x3, x4, x5⟩ := id hX
      unfold bX3_goOn_12
      rw [if_neg (z x (by omega)), if_pos hm.1.1.1, x5, hw, if_pos b0, if_pos (hm.lay (by omega)).1, f_over hm (by omega), q]
      rw [Option.bind_some]
      exact if_neg b1
    · have qf : gOver T.1 top = false := by simpa using q
      have e : gGoOn B top (n + 1) T = gGoOn B top n (gStep B T) := by
        show (if (T.2.2.2.2 || gOver T.1 top) = true then T else gGoOn B top n (gStep B T)) = _
        rw [if_neg (by rw [hw, qf]; decide)]
      obtain ⟨s1, s2, s3, s4⟩ := step_ok hB h hw qf
      obtain ⟨ν, e1, t1, X1, F1⟩ := r_step hm hb h0 hd hX (by omega) (by omega) hw qf s1 f x (by omega)
      have h01 : mP ν c 0 = d := (F1.2.2.2.2 c 0 (by omega)).trans h0
      rw [e1, e]
      rcases s4 with ⟨a, b, m⟩ | ⟨a, b, m⟩
      · obtain ⟨ω, e2, t2, X2, F2⟩ := ih f (x + 1) (gStep B T) ν b a (by omega) (by omega) (by omega) t1 (hb.fr F1 hd) h01 X1
        exact ⟨ω, e2, t2, X2, F1.tr F2⟩
      · rw [gGoOn_end (by rw [a]; rfl)]
        refine ⟨ν, ?_, t1, X1, F1⟩
        obtain ⟨f, rfl⟩ : ∃ g, f = g + 1 := ⟨f - 1, by omega⟩
        show bX3_goOn_12 _ c (tCo c top) (Int32.ofNat (x + 1)) ν = _
        obtain ⟨x1, x2, x3, x4, x5⟩ := id X1
        unfold bX3_goOn_12
        rw [if_neg (z (x + 1) (by omega)), if_pos t1.1.1.1, x5, a, if_neg b1]
/-- goOn(top, inmost) -/
theorem r_goOn {c d top : Nat} {B : gB} {T : gT} {μ : MM} (hB : IB B) (hd : d + 38 ≤ c ∨ c + 131 ≤ d) (h : IVC B T top) (hm : tM c μ T.1) (hb : tB d μ B) (h0 : mP μ c 0 = d) (h9 : mI μ c 9 = T.2.2.1.1) (h10 : mI μ c 10 = T.2.2.1.2) (h11 : mI μ c 11 = (if T.2.2.2.1 then 1 else 0)) :
    ∃ ν, fX3_goOn c (tCo c top) (tCo c T.2.1) μ = some ν ∧ tM c ν (gCallT B T top).1 ∧ tX c ν (gCallT B T top) ∧ tF c μ ν := by
  have h' : IVC B (T.1, T.2.1, T.2.2.1, T.2.2.2.1, false) top := h
  obtain ⟨t1, F1⟩ := r_T (hm.step tF.P hm.2.setR : tM c (sP μ c 8 (tCo c T.2.1)) T.1) (j := 12) 0 (by omega)
  have F : tF c μ (sI (sP μ c 8 (tCo c T.2.1)) c 12 0) := tF.P.tr F1
  have hX : tX c (sI (sP μ c 8 (tCo c T.2.1)) c 12 0) (T.1, T.2.1, T.2.2.1, T.2.2.2.1, false) := by
    refine ⟨?_, ?_, ?_, ?_, ?_⟩
    · show (if c = c ∧ 8 = 8 then _ else _) = _
      rw [if_pos ⟨rfl, rfl⟩]
    · rw [mI_sI, if_neg (by omega)]; exact h9
    · rw [mI_sI, if_neg (by omega)]; exact h10
    · rw [mI_sI, if_neg (by omega)]; exact h11
    · rw [mI_sI, if_pos ⟨rfl, rfl⟩]; rfl
  have hmu := gMu_lt h'
  obtain ⟨ν, e, t2, X2, F2⟩ := r_goOnL hB hd gFuel FU 0 _ _ h' rfl (by unfold gFuel; omega) (by unfold gFuel FU; omega) (by unfold gFuel; omega) t1 (hb.fr F hd) ((F.2.2.2.2 c 0 (by omega)).trans h0) hX
  exact ⟨ν, e, t2, X2, F.tr F2⟩
/-- what stands behind a call of goOn, of the model -/
theorem call_ok {B : gB} {T : gT} {top : Nat} (hB : IB B) (h : IVC B T top) : GE B T top (gCallT B T top) := by
  have h' : IVC B (T.1, T.2.1, T.2.2.1, T.2.2.2.1, false) top := h
  have hmu := gMu_lt h'
  have g := goOn_ok hB gFuel _ h' rfl (by unfold gFuel; omega)
  unfold gCallT
  generalize gGoOn B top gFuel (T.1, T.2.1, T.2.2.1, T.2.2.2.1, false) = T' at g ⊢
  exact g
/-- the top one is over: it is the running one, and all others rest -/
theorem IVC.rest {B : gB} {T : gT} {top : Nat} (h : IVC B T top) (ho : gOver T.1 top = true) : T.2.1 = top ∧ (∀ k, k < cN T.1 → gf T.1 k 5 ≠ 2 ∧ ∀ j, j < cN T.1 → gf T.1 k 9 = Int32.ofNat j → j = top ∨ gf T.1 j 5 = 1) := by
  have h24 := h.1.2.1
  have ht := h.2.2.2.2.1.1
  have n1 : gf T.1 top 5 ≠ 1 ∧ gf T.1 top 5 ≠ 2 := by
    unfold gOver at ho
    simp only [Bool.or_eq_true, beq_iff_eq] at ho
    rcases ho with q | q <;> rw [q] <;> decide
  have t9 : gf T.1 top 9 = -1 := (h.1.2.2 top ht).1.2.2.2.2 n1.1
  have e : T.2.1 = top := by
    obtain ⟨n, hn⟩ := h.2.2.1
    -- the way down from the top one ends at once, for it has no inner one
    have key : ∀ n b, gP (fun k => gf T.1 k 9) n top b → b < cN T.1 → b = top := by
      intro n
      induction n with
      | zero => intro b q _; exact q.symm
      | succ n ih =>
        intro b q hb
        obtain ⟨o, q1, q2, q3⟩ := q
        have := ih o q1 (by omega)
        subst this
        rw [show gf T.1 o 9 = _ from q2] at t9
        exact absurd t9 (n_neg (by omega))
    exact key n _ hn h.2.1.1
  refine ⟨e, fun k hk => ?_⟩
  by_cases z : k = top
  · rw [z]
    refine ⟨n1.2, fun j hj w => ?_⟩
    rw [t9] at w
    exact absurd w.symm (n_neg (by omega))
  · obtain ⟨a, b⟩ := h.2.1.2.2 k hk (by rw [e]; exact z)
    rw [e] at b
    exact ⟨a, b⟩
