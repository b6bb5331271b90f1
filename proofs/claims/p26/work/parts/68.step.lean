/-! one step of a call keeps the invariants, and less is left -/
/-- tasks' invariants, as one that is no task, or whose turn it is, changes its state -/
theorem IQ.up {M M' : gM} {t : Int32} {r : Nat} (h : IQ M t) (hc : cN M' = cN M) (hn : gnow M' = gnow M) (hr : grq M' = grq M) (ha : gaq M' = gaq M) (hf : ∀ k, k < cN M → gf M' k 4 = gf M k 4 ∧ gf M' k 12 = gf M k 12 ∧ gf M' k 13 = gf M k 13 ∧ (k ≠ r → gOver M' k = gOver M k)) (htask : gf M r 4 = 1 → Int32.ofNat r = t) : IQ M' t := by
  obtain ⟨q0, ⟨q1, q2⟩, ⟨q3, q4⟩, q5, q6, q7, q8⟩ := h
  unfold IQ
  rw [hn, hr, ha, hc]
  refine ⟨q0, ⟨q1, fun y hy => ?_⟩, ⟨q3, fun y hy => ?_⟩, fun k hk e => ?_, fun k hk e => ?_, fun k hk f1 f2 f3 f4 f5 => ?_, fun k hk => ?_⟩
  · obtain ⟨p1, k, p2, p3, p4, p5, p6, p7⟩ := q2 y hy
    obtain ⟨a, b, c, d⟩ := hf k p3
    exact ⟨p1, k, p2, p3, a.trans p4, (d (fun z => by subst z; exact p1 (p2.trans (htask p4)))).trans p5, b.trans p6, c.trans p7⟩
  · obtain ⟨k, p2, p3, p4⟩ := q4 y hy
    exact ⟨k, p2, p3, by rw [(hf k p3).2.2.1]; exact p4⟩
  · obtain ⟨a, b, c, d⟩ := hf k hk
    rw [c] at e
    obtain ⟨p1, p2, p3, p4, p5, j, p6, p7, p8, p9⟩ := q5 k hk e
    obtain ⟨a', b', c', d'⟩ := hf j p7
    refine ⟨a.trans p1, (d (fun z => by subst z; exact p3 (htask p1))).trans p2, p3, b.trans p4, p5, j, c.trans p6, p7, a'.trans p8, ?_⟩
    by_cases z : j = r
    · subst z; exact Or.inr (htask p8)
    · rw [d' z]; exact p9
  · obtain ⟨a, b, c, d⟩ := hf k hk
    rw [b] at e
    obtain ⟨p1, p2, p3, p4⟩ := q6 k hk e
    exact ⟨a.trans p1, (d (fun z => by subst z; exact p3 (htask p1))).trans p2, p3, by rw [b]; exact p4⟩
  · obtain ⟨a, b, c, d⟩ := hf k hk
    have f1 := a.symm.trans f1
    exact q7 k hk f1 ((d (fun z => by subst z; exact f3 (htask f1))).symm.trans f2) f3 (b.symm.trans f4) (c.symm.trans f5)
  · obtain ⟨m, hm⟩ := q8 k hk
    exact ⟨m, gTm.fr (Nat.le_refl _) (fun k hk => (hf k hk).2.2.1) m k hk hm⟩
theorem wt_at {M : gM} {r : Nat} {x : gCo} {k : Nat} (h : k ≠ r) : wt (gCoS M r x) k = wt M k := wt_co Iff.rfl (co_ne h)
theorem wt_r {M : gM} {r : Nat} {x : gCo} (hr : r < cN M) : wt (gCoS M r x) r = 2 * bl x.2.2 + (if x.1 5 = 3 ∨ x.1 5 = 4 then 0 else 4) := by
  unfold wt
  rw [if_pos (show r < cN (gCoS M r x) from hr)]
  have h1 : gk (gCoS M r x) r = x.2.2 := by unfold gk; rw [co_at]
  rw [h1]
  have h2 : gf (gCoS M r x) r 5 = x.1 5 := by rw [gf_co, if_pos rfl]
  unfold gOver
  rw [h2]
  by_cases a : x.1 5 = 3
  · simp [a]
  · by_cases b : x.1 5 = 4
    · simp [b]
    · simp [a, b]
/-- it leaves -/
theorem leave_ok {B : gB} {T : gT} {top : Nat} {way val : Int32} (h : IVC B T top) (h2 : gf T.1 T.2.1 5 = 2) (hy : okY way val) : gKp T.1 (gLeave T.1 T.2.1 way val) T.2.1 T.2.2.1.1 ∧ sW (gLeave T.1 T.2.1 way val) 24 + (if gOver (gLeave T.1 T.2.1 way val) T.2.1 then 1 else 0) + 1 ≤ sW T.1 24 ∧ IVC B (gLeave T.1 T.2.1 way val, T.2) top := by
  have hr := h.2.1.1
  have h24 := h.1.2.1
  obtain ⟨a1, a2, a3, a4⟩ := cLeave_ok hy (h.1.2.2 _ hr).1.1
  rw [leave_co]
  have s5 : (cLeave (T.1.1 T.2.1) way val).1 5 = 2 ∨ (cLeave (T.1.1 T.2.1) way val).1 5 = 3 ∨ (cLeave (T.1.1 T.2.1) way val).1 5 = 4 := by
    rcases a4 with q | q
    · exact Or.inl q.1
    · exact Or.inr q.1
  refine ⟨gKp.rf.co (a2 3 (by omega) (by omega) (by omega) (by omega)) (a2 4 (by omega) (by omega) (by omega) (by omega)) (a2 16 (by omega) (by omega) (by omega) (by omega)), ?_, h.upd (T' := (gCoS T.1 T.2.1 (cLeave (T.1.1 T.2.1) way val), T.2)) a2 a1 s5 rfl rfl rfl h.2.2.2.2.2⟩
  have w0 : wt T.1 T.2.1 = 2 * bl (T.1.1 T.2.1).2.2 + 4 := by
    unfold wt
    rw [if_pos hr, over2 h2]
    rfl
  have wr := wt_r (M := T.1) (x := cLeave (T.1.1 T.2.1) way val) hr
  have ne : ∀ k, k ≠ T.2.1 → wt (gCoS T.1 T.2.1 (cLeave (T.1.1 T.2.1) way val)) k ≤ wt T.1 k := fun k z => Nat.le_of_eq (wt_at z)
  have o : gOver (gCoS T.1 T.2.1 (cLeave (T.1.1 T.2.1) way val)) T.2.1 = ((cLeave (T.1.1 T.2.1) way val).1 5 == 3 || (cLeave (T.1.1 T.2.1) way val).1 5 == 4) := by unfold gOver; rw [gf_co, if_pos rfl]
  rw [o]
  rcases a4 with ⟨q, b⟩ | ⟨q, b⟩
  · rw [if_neg (by rw [q]; decide)] at wr
    rw [q]
    have := sW_at (d := 2) (e := 0) ne (by omega) 24 (by omega)
    rw [if_neg (by decide)]
    omega
  · rw [if_pos q, b] at wr
    have := sW_at (d := 4) (e := 0) ne (by omega) 24 (by omega)
    split <;> omega
/-- what a step leaves as it was -/
def gKq (M M' : gM) (t : Int32) (top : Nat) : Prop := cN M ≤ cN M' ∧ gnow M' = gnow M ∧ gtrn M' = gtrn M ∧ (∀ k, k < cN M → gf M' k 3 = gf M k 3 ∧ gf M' k 4 = gf M k 4 ∧ gf M' k 16 = gf M k 16 ∧ (gOver M k = true → gf M' k 5 = gf M k 5 ∧ gf M' k 7 = gf M k 7)) ∧ (t = -1 → ∀ k, k < cN M → k < top → M'.1 k = M.1 k)
theorem gKq.rf {M : gM} {t : Int32} {top : Nat} : gKq M M t top := ⟨Nat.le_refl _, rfl, rfl, fun _ _ => ⟨rfl, rfl, rfl, fun _ => ⟨rfl, rfl⟩⟩, fun _ _ _ _ => rfl⟩
theorem gKq.tr {M M' M'' : gM} {t : Int32} {top : Nat} (h : gKq M M' t top) (g : gKq M' M'' t top) : gKq M M'' t top := by
  obtain ⟨h1, h2, h3, h4, h5⟩ := h
  obtain ⟨g1, g2, g3, g4, g5⟩ := g
  refine ⟨by omega, g2.trans h2, g3.trans h3, fun k hk => ?_, fun ht k hk hr => (g5 ht k (by omega) hr).trans (h5 ht k hk hr)⟩
  obtain ⟨a1, a2, a3, a4⟩ := h4 k hk
  obtain ⟨b1, b2, b3, b4⟩ := g4 k (by omega)
  refine ⟨b1.trans a1, b2.trans a2, b3.trans a3, fun q => ?_⟩
  obtain ⟨c1, c2⟩ := a4 q
  obtain ⟨d1, d2⟩ := b4 (by rw [over_f c1]; exact q)
  exact ⟨d1.trans c1, d2.trans c2⟩
theorem gKp.q2 {M M' : gM} {r top : Nat} {t : Int32} (h : gKp M M' r t) (hr : gOver M r = false) (ht : top ≤ r) : gKq M M' t top := by
  obtain ⟨h1, h2, h3, h4, h5⟩ := h
  refine ⟨h1, h2, h3, fun k hk => ?_, fun e k hk hkt => h5 e k hk (by omega)⟩
  obtain ⟨a1, a2, a3, a4⟩ := h4 k hk
  exact ⟨a1, a2, a3, fun q => a4 (fun z => by subst z; rw [hr] at q; cases q)⟩
theorem gKq.over {M M' : gM} {t : Int32} {top k : Nat} (h : gKq M M' t top) (hk : k < cN M) (ho : gOver M k = true) : gOver M' k = true := by
  rw [over_f ((h.2.2.2.1 k hk).2.2.2 ho).1]; exact ho
/-- back to the outer one, which does something then -/
theorem back_ok {B : gB} {T : gT} {top o : Nat} {x : gCo} (h : IVC B T top) (hor : o < T.2.1) (ho9 : gf T.1 o 9 = Int32.ofNat T.2.1) (hr10 : gf T.1 T.2.1 10 = Int32.ofNat o) (hto : top ≤ o) (hp : ∃ n, gP (fun k => gf T.1 k 9) n top o) (h2 : gOver T.1 T.2.1 = true) (hs : sameC x ((gPart T.1 o T.2.1).1 o)) (hx : okX x) (h5 : x.1 5 = 2 ∨ x.1 5 = 3 ∨ x.1 5 = 4) :
    IVC B (gCoS (gPart T.1 o T.2.1) o x, o, T.2.2) top ∧ gKq T.1 (gCoS (gPart T.1 o T.2.1) o x) T.2.2.1.1 top ∧ (∀ k, k ≠ o → wt (gCoS (gPart T.1 o T.2.1) o x) k = wt T.1 k) ∧ wt T.1 o = 2 * bl (T.1.1 o).2.2 + 4 := by
  obtain ⟨⟨h01, h02, h03⟩, hc, -, hq, ht, hl⟩ := id h
  have hr := hc.1
  have s1 : gf T.1 o 5 = 1 := Classical.byContradiction fun z => by
    have := (h03 o (by omega)).1.2.2.2.2 z
    rw [show gf T.1 o 9 = -1 from this] at ho9
    exact n_neg (by omega) ho9.symm
  have n5 : x.1 5 ≠ 1 ∧ x.1 5 ≠ 0 := by rcases h5 with q | q | q <;> rw [q] <;> decide
  have r5 : gf T.1 T.2.1 5 ≠ 1 ∧ gf T.1 T.2.1 5 ≠ 2 := by
    unfold gOver at h2
    simp only [Bool.or_eq_true, beq_iff_eq] at h2
    rcases h2 with q | q <;> rw [q] <;> decide
  have r9 : gf T.1 T.2.1 9 = -1 := (h03 _ hr).1.2.2.2.2 r5.1
  have hM1o : (gPart T.1 o T.2.1).1 o = cF (T.1.1 o) 9 (-1) := by unfold gPart; rw [co_F, co_ne (by omega), co_F, co_at]
  have hM1r : (gPart T.1 o T.2.1).1 T.2.1 = cF (T.1.1 T.2.1) 10 (-1) := by unfold gPart; rw [co_F, co_at, co_F, co_ne (by omega)]
  rw [hM1o] at hs
  have x9 : x.1 9 = -1 := hs 9 (by omega) (by omega) (by omega) (by omega)
  have xo : ∀ j, j ≠ 5 → j ≠ 6 → j ≠ 7 → j ≠ 11 → j ≠ 9 → x.1 j = gf T.1 o j := fun j a b c d e => (hs j a b c d).trans (by rw [cF_f, if_neg e]; rfl)
  have Mo : (gCoS (gPart T.1 o T.2.1) o x).1 o = x := co_at
  have Mr : (gCoS (gPart T.1 o T.2.1) o x).1 T.2.1 = cF (T.1.1 T.2.1) 10 (-1) := by rw [co_ne (by omega), hM1r]
  have Mk : ∀ k, k ≠ o → k ≠ T.2.1 → (gCoS (gPart T.1 o T.2.1) o x).1 k = T.1.1 k := fun k a b => by rw [co_ne a]; unfold gPart; rw [co_F, co_ne b, co_F, co_ne a]
  have hcn : cN (gCoS (gPart T.1 o T.2.1) o x) = cN T.1 := rfl
  generalize hM : gCoS (gPart T.1 o T.2.1) o x = M' at *
  have e' : gnow M' = gnow T.1 ∧ gtrn M' = gtrn T.1 ∧ grq M' = grq T.1 ∧ gaq M' = gaq T.1 ∧ gcnt M' = gcnt T.1 := by rw [← hM]; exact ⟨rfl, rfl, rfl, rfl, rfl⟩
  have fk : ∀ k j, j ≠ 5 → j ≠ 6 → j ≠ 7 → j ≠ 9 → j ≠ 10 → j ≠ 11 → gf M' k j = gf T.1 k j := fun k j a b c d e f => by
    by_cases z : k = o
    · rw [z]; show (M'.1 o).1 j = _; rw [Mo]; exact xo j a b c f d
    · by_cases z2 : k = T.2.1
      · rw [z2]; show (M'.1 T.2.1).1 j = _; rw [Mr, cF_f, if_neg e]; rfl
      · unfold gf; rw [Mk k z z2]
  have fo : ∀ k j, k ≠ o → j ≠ 10 → gf M' k j = gf T.1 k j := fun k j a e => by
    by_cases z2 : k = T.2.1
    · rw [z2]; show (M'.1 T.2.1).1 j = _; rw [Mr, cF_f, if_neg e]; rfl
    · unfold gf; rw [Mk k a z2]
  have fr : ∀ k, k ≠ T.2.1 → gf M' k 10 = gf T.1 k 10 := fun k a => by
    by_cases z : k = o
    · rw [z]; show (M'.1 o).1 10 = _; rw [Mo]; exact xo 10 (by omega) (by omega) (by omega) (by omega) (by omega)
    · unfold gf; rw [Mk k z a]
  have notr : ∀ k j, k < cN T.1 → k ≠ o → gf T.1 k 9 = Int32.ofNat j → j < cN T.1 → j ≠ T.2.1 := fun k j hk ko e hj z => by
    subst z
    obtain ⟨i, d1, d2, d3, d4, d5, -⟩ := (h03 k hk).2.2 (by rw [e]; exact n_neg (by omega))
    have : i = T.2.1 := n_inj (by omega) (by omega) (d1.symm.trans e)
    subst this
    rw [hr10] at d5
    exact ko (n_inj (by omega) (by omega) d5).symm
  have oo : gOver T.1 o = false := by unfold gOver; rw [s1]; rfl
  have ttask : gf T.1 o 4 = 1 → Int32.ofNat o = T.2.2.1.1 := fun e => by
    obtain ⟨n, hn⟩ := hp
    cases n with
    | zero =>
      have : top = o := hn
      rw [← this] at e ⊢
      rcases ht.2 with q | q
      · exact q.2.symm
      · exact absurd e q.1
    | succ n =>
      obtain ⟨p, p1, p2, p3⟩ := hn
      obtain ⟨i, d1, d2, d3, d4, -⟩ := (h03 p (by omega)).2.2 (by rw [show gf T.1 p 9 = _ from p2]; exact n_neg (by omega))
      have : i = o := n_inj (by omega) (by omega) (d1.symm.trans p2)
      subst this
      rw [d4] at e
      exact absurd e (by decide)
  refine ⟨⟨⟨by rw [hcn, e'.2.2.2.2]; exact h01, by rw [hcn]; exact h02, fun k hk => ?_⟩, ⟨by show o < cN M'; omega, by show gf M' o 5 = 2 ∨ _; rw [show gf M' o 5 = x.1 5 by unfold gf; rw [Mo]]; exact h5, fun k hk hkr => ?_⟩, ?_, ?_, ⟨by show top < cN M'; rw [hcn]; exact ht.1, ?_⟩, hl⟩, ⟨by omega, e'.1, e'.2.1, fun k hk => ⟨fk k 3 (by omega) (by omega) (by omega) (by omega) (by omega) (by omega), fk k 4 (by omega) (by omega) (by omega) (by omega) (by omega) (by omega), fk k 16 (by omega) (by omega) (by omega) (by omega) (by omega) (by omega), fun q => ?_⟩, fun _ k hk hkt => Mk k (by omega) (by omega)⟩, fun k hk => ?_, ?_⟩
  · have hk : k < cN T.1 := by rw [← hcn]; exact hk
    obtain ⟨a1, a2, a3⟩ := h03 k hk
    show okR B (cN M') _ ∧ _
    rw [hcn]
    refine ⟨?_, ?_, fun q => ?_⟩
    · by_cases z : k = o
      · rw [z, Mo]
        exact ⟨hx, fun w => absurd w n5.2, Or.inr (Or.inr h5), fun w => absurd w n5.1, fun _ => x9⟩
      · by_cases z2 : k = T.2.1
        · rw [z2] at a1 ⊢
          rw [Mr]
          exact a1
        · rw [Mk k z z2]; exact a1
    · unfold okC at a2 ⊢
      simp only [gf_at] at *
      rw [fk k 3 (by omega) (by omega) (by omega) (by omega) (by omega) (by omega), fk k 4 (by omega) (by omega) (by omega) (by omega) (by omega) (by omega), fk k 14 (by omega) (by omega) (by omega) (by omega) (by omega) (by omega), fk k 16 (by omega) (by omega) (by omega) (by omega) (by omega) (by omega), fk k 15 (by omega) (by omega) (by omega) (by omega) (by omega) (by omega)]
      exact a2
    · by_cases z : k = o
      · rw [z] at q
        exact absurd (show (M'.1 o).1 9 = -1 by rw [Mo]; exact x9) q
      · rw [fo k 9 z (by omega)] at q ⊢
        obtain ⟨j, d1, d2, d3, d4, d5, d6⟩ := a3 q
        have hjr := notr k j hk z d1 d3
        refine ⟨j, d1, d2, by rw [hcn]; exact d3, by rw [fk j 4 (by omega) (by omega) (by omega) (by omega) (by omega) (by omega)]; exact d4, by rw [fr j hjr]; exact d5, ?_⟩
        rw [fk j 3 (by omega) (by omega) (by omega) (by omega) (by omega) (by omega), d6]
        unfold gAtLn
        rw [fo k 3 z (by omega), fo k 6 z (by omega)]
  · have hk : k < cN T.1 := by rw [← hcn]; exact hk
    have hkr : k ≠ o := hkr
    show gf M' k 5 ≠ 2 ∧ ∀ j, j < cN M' → gf M' k 9 = Int32.ofNat j → j = o ∨ gf M' j 5 = 1
    rw [fo k 5 hkr (by omega), fo k 9 hkr (by omega), hcn]
    by_cases z : k = T.2.1
    · rw [z]
      refine ⟨r5.2, fun j hj w => ?_⟩
      rw [r9] at w
      exact absurd w.symm (n_neg (by omega))
    · obtain ⟨b1, b2⟩ := hc.2.2 k hk z
      refine ⟨b1, fun j hj w => ?_⟩
      by_cases z2 : j = o
      · exact Or.inl z2
      · rw [fo j 5 z2 (by omega)]
        exact Or.inr ((b2 j hj w).resolve_left (notr k j hk hkr w hj))
  · obtain ⟨n, hn⟩ := hp
    exact ⟨n, gP.fr n top o (fun k _ z => fo k 9 (by omega) (by omega)) hn⟩
  · exact hq.up (r := o) hcn e'.1 e'.2.2.1 e'.2.2.2.1 (fun k hk => ⟨fk k 4 (by omega) (by omega) (by omega) (by omega) (by omega) (by omega), fk k 12 (by omega) (by omega) (by omega) (by omega) (by omega) (by omega), fk k 13 (by omega) (by omega) (by omega) (by omega) (by omega) (by omega), fun z => over_f (fo k 5 z (by omega))⟩) ttask
  · show (gf M' top 4 = 1 ∧ _) ∨ (gf M' top 4 ≠ 1 ∧ _)
    rw [fk top 4 (by omega) (by omega) (by omega) (by omega) (by omega) (by omega)]
    exact ht.2
  · have : k ≠ o := fun z => by rw [z, oo] at q; cases q
    exact ⟨fo k 5 this (by omega), fo k 7 this (by omega)⟩
  · by_cases z2 : k = T.2.1
    · unfold wt
      have g1 : gk M' k = gk T.1 k := by rw [z2]; unfold gk; rw [Mr]; rfl
      rw [g1, over_f (fo k 5 hk (by omega)), hcn]
    · exact wt_co (by rw [hcn]) (Mk k hk z2)
  · unfold wt
    rw [if_pos (by omega), oo]
    rfl
