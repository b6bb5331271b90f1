/-! the inmost one; it begins to do something; an outer one goes on -/
theorem gP.pre {f : Nat → Int32} : ∀ (m n j b : Nat), f n = Int32.ofNat j → n < j → gP f m j b → gP f (m + 1) n b := by
  intro m
  induction m with
  | zero => intro n j b e h q; exact ⟨n, rfl, by rw [e, show j = b from q], by rw [← show j = b from q]; exact h⟩
  | succ m ih =>
    intro n j b e h q
    obtain ⟨o, q1, q2, q3⟩ := q
    exact ⟨o, ih n j o e h q1, q2, q3⟩
theorem made_neg {M : gM} : gMade M (-1) = false := by
  unfold gMade
  rw [decide_eq_false_iff_not]
  intro q
  exact absurd q.1 (by decide)
theorem made_nat {M : gM} {j : Nat} (hc : gcnt M = Int32.ofNat (cN M)) (h24 : cN M ≤ 24) (hj : j < cN M) : gMade M (Int32.ofNat j) = true := by
  unfold gMade
  rw [decide_eq_true_eq, hc]
  exact ⟨(g_le (a := 0) (b := j) (by omega) (by omega)).mpr (by omega), (g_lt (by omega) (by omega)).mpr hj⟩
theorem inm_ok {B : gB} {M : gM} (h0 : IV0 B M) : ∀ (i n : Nat), 24 ≤ i + n → n < cN M → (∃ m, gP (fun k => gf M k 9) m n (gInmost M i n)) ∧ gInmost M i n < cN M ∧ gf M (gInmost M i n) 9 = -1 ∧ (gInmost M i n = n ∨ (n < gInmost M i n ∧ gf M (gInmost M i n) 4 = 2 ∧ ∃ o, n ≤ o ∧ o < gInmost M i n ∧ gf M o 9 = Int32.ofNat (gInmost M i n))) := by
  intro i
  induction i with
  | zero => intro n h hn; have := h0.2.1; omega
  | succ i ih =>
    intro n h hn
    have h24 := h0.2.1
    unfold gInmost
    by_cases q : gf M n 9 = -1
    · rw [q, made_neg, if_neg (by decide)]
      exact ⟨⟨0, rfl⟩, hn, q, Or.inl rfl⟩
    · obtain ⟨j, d1, d2, d3, d4, d5, d6⟩ := (h0.2.2 n hn).2.2 q
      rw [d1, made_nat h0.1 h24 d3, if_pos rfl, n_at (by omega)]
      obtain ⟨⟨m, a1⟩, a2, a3, a4⟩ := ih j (by omega) d3
      refine ⟨⟨m + 1, gP.pre m n j _ d1 d2 a1⟩, a2, a3, Or.inr ?_⟩
      rcases a4 with e | ⟨e1, e2, o, e3, e4, e5⟩
      · rw [e]
        exact ⟨d2, d4, n, Nat.le_refl _, d2, d1⟩
      · exact ⟨by omega, e2, o, by omega, e4, e5⟩
/-- all but r rest -/
def ISemi (M : gM) (r : Nat) : Prop := ∀ k, k < cN M → k ≠ r → gf M k 5 ≠ 2 ∧ ∀ j, j < cN M → gf M k 9 = Int32.ofNat j → j = r ∨ gf M j 5 = 1
theorem IRest.semi {M : gM} {r : Nat} (h : IRest M) : ISemi M r := fun k hk _ => ⟨(h k hk).1, fun j hj e => Or.inr ((h k hk).2 j hj e)⟩
theorem enter {B : gB} {M : gM} {top r : Nat} {t lb : Int32} {b1 b2 : Bool} {x : gCo} (h0 : IV0 B M) (hs : ISemi M r) (hr : r < cN M) (r9 : gf M r 9 = -1) (hp : ∃ n, gP (fun k => gf M k 9) n top r) (hq : IQ M t) (ht : ITop M top t) (hx1 : sameC x (M.1 r)) (hx : okX x) (h5 : x.1 5 = 2 ∨ x.1 5 = 3 ∨ x.1 5 = 4) (hl : 0 ≤ lb.toInt ∧ lb.toInt ≤ 300) : IVC B (gCoS M r x, r, (t, lb), b1, b2) top := by
  obtain ⟨n, hp⟩ := hp
  have h24 := h0.2.1
  have hcn : cN (gCoS M r x) = cN M := rfl
  have n5 : x.1 5 ≠ 1 ∧ x.1 5 ≠ 0 := by rcases h5 with q | q | q <;> rw [q] <;> decide
  have x9 : x.1 9 = -1 := (hx1 9 (by omega) (by omega) (by omega) (by omega)).trans r9
  have sm : ∀ k j, j ≠ 5 → j ≠ 6 → j ≠ 7 → j ≠ 11 → gf (gCoS M r x) k j = gf M k j := fun k j a b c d => by
    rw [gf_co]
    split
    · rename_i e; rw [e]; exact hx1 j a b c d
    · rfl
  have ne : ∀ k j, k ≠ r → gf (gCoS M r x) k j = gf M k j := fun k j a => by rw [gf_co, if_neg a]
  have htask : gf M r 4 = 1 → Int32.ofNat r = t := fun e => by
    cases n with
    | zero =>
      have : top = r := hp
      rw [← this] at e ⊢
      rcases ht.2 with q | q
      · exact q.2.symm
      · exact absurd e q.1
    | succ n =>
      obtain ⟨p, p1, p2, p3⟩ := hp
      obtain ⟨i, d1, d2, d3, d4, -⟩ := (h0.2.2 p (by omega)).2.2 (by rw [show gf M p 9 = _ from p2]; exact n_neg (by omega))
      have : i = r := n_inj (by omega) (by omega) (d1.symm.trans p2)
      subst this
      rw [d4] at e
      exact absurd e (by decide)
  refine ⟨⟨h0.1, h0.2.1, fun k hk => ?_⟩, ⟨hr, by show gf (gCoS M r x) r 5 = 2 ∨ _; rw [gf_co, if_pos rfl]; exact h5, fun k hk hkr => ?_⟩, ⟨n, gP.fr n top r (fun k _ _ => sm k 9 (by omega) (by omega) (by omega) (by omega)) hp⟩, ?_, ⟨ht.1, ?_⟩, hl⟩
  · have hk : k < cN M := hk
    obtain ⟨a1, a2, a3⟩ := h0.2.2 k hk
    refine ⟨?_, ?_, fun q => ?_⟩
    · by_cases e : k = r
      · rw [e]
        show okR B _ ((gCoS M r x).1 r)
        rw [co_at]
        exact ⟨hx, fun z => absurd z n5.2, Or.inr (Or.inr h5), fun z => absurd z n5.1, fun _ => x9⟩
      · show okR B _ ((gCoS M r x).1 k)
        rw [co_ne e]; exact a1
    · obtain ⟨c1, c2, c3, c4, c5⟩ := a2
      unfold okC
      simp only [gf_at] at *
      rw [sm k 3 (by omega) (by omega) (by omega) (by omega), sm k 4 (by omega) (by omega) (by omega) (by omega), sm k 14 (by omega) (by omega) (by omega) (by omega), sm k 16 (by omega) (by omega) (by omega) (by omega), sm k 15 (by omega) (by omega) (by omega) (by omega)]
      exact ⟨c1, c2, c3, c4, c5⟩
    · have q2 : gf M k 9 ≠ -1 := fun z => q ((sm k 9 (by omega) (by omega) (by omega) (by omega)).trans z)
      have hkr : k ≠ r := fun e => q2 (by rw [e]; exact r9)
      obtain ⟨j, d1, d2, d3, d4, d5, d6⟩ := a3 q2
      refine ⟨j, (sm k 9 (by omega) (by omega) (by omega) (by omega)).trans d1, d2, d3, ?_, ?_, ?_⟩
      · exact (sm j 4 (by omega) (by omega) (by omega) (by omega)).trans d4
      · exact (sm j 10 (by omega) (by omega) (by omega) (by omega)).trans d5
      · refine (sm j 3 (by omega) (by omega) (by omega) (by omega)).trans (d6.trans ?_)
        unfold gAtLn
        show _ = (gLn (B.2 (gBody (gf (gCoS M r x) k 3))) (gf (gCoS M r x) k 6)).2.1
        rw [ne k 3 hkr, ne k 6 hkr]
  · have hkr : k ≠ r := hkr
    obtain ⟨a1, a2⟩ := hs k hk hkr
    refine ⟨by show gf (gCoS M r x) k 5 ≠ 2; rw [ne k 5 hkr]; exact a1, fun j hj e => ?_⟩
    have e : gf (gCoS M r x) k 9 = Int32.ofNat j := e
    rw [ne k 9 hkr] at e
    rcases a2 j hj e with q | q
    · exact Or.inl q
    · by_cases z : j = r
      · exact Or.inl z
      · exact Or.inr (by show gf (gCoS M r x) j 5 = 1; rw [ne j 5 z]; exact q)
  · exact hq.up (r := r) rfl rfl rfl rfl (fun k hk => ⟨sm k 4 (by omega) (by omega) (by omega) (by omega), sm k 12 (by omega) (by omega) (by omega) (by omega), sm k 13 (by omega) (by omega) (by omega) (by omega), fun z => over_f (ne k 5 z)⟩) htask
  · show (gf (gCoS M r x) top 4 = 1 ∧ _) ∨ (gf (gCoS M r x) top 4 ≠ 1 ∧ _)
    rw [sm top 4 (by omega) (by omega) (by omega) (by omega)]
    exact ht.2
/-- an outer one goes on, behind its inner one that is over or waits -/
theorem upward {B : gB} {M : gM} {o r : Nat} {lb : Int32} {b1 b2 : Bool} {x : gCo} (h0 : IV0 B M) (hs : ∀ k, k < cN M → gf M k 5 ≠ 2 ∧ ∀ j, j < cN M → gf M k 9 = Int32.ofNat j → j = r ∨ gf M j 5 = 1) (hr : r < cN M) (hor : o < r) (ho9 : gf M o 9 = Int32.ofNat r) (hr10 : gf M r 10 = Int32.ofNat o) (hq : IQ M (-1)) (ht : gf M o 4 ≠ 1)
    (hx1 : sameC x ((gPart M o r).1 o)) (hx : okX x) (h5 : x.1 5 = 2 ∨ x.1 5 = 3 ∨ x.1 5 = 4) (hl : 0 ≤ lb.toInt ∧ lb.toInt ≤ 300) :
    IVC B (gCoS (gPart M o r) o x, o, (-1, lb), b1, b2) o ∧ gKq M (gCoS (gPart M o r) o x) (-1) o := by
  have h24 := h0.2.1
  have h03 := h0.2.2
  have s1 : gf M o 5 = 1 := Classical.byContradiction fun z => by
    have := (h03 o (by omega)).1.2.2.2.2 z
    rw [show gf M o 9 = -1 from this] at ho9
    exact n_neg (by omega) ho9.symm
  have n5 : x.1 5 ≠ 1 ∧ x.1 5 ≠ 0 := by rcases h5 with q | q | q <;> rw [q] <;> decide
  have hM1o : (gPart M o r).1 o = cF (M.1 o) 9 (-1) := by unfold gPart; rw [co_F, co_ne (by omega), co_F, co_at]
  have hM1r : (gPart M o r).1 r = cF (M.1 r) 10 (-1) := by unfold gPart; rw [co_F, co_at, co_F, co_ne (by omega)]
  rw [hM1o] at hx1
  have x9 : x.1 9 = -1 := hx1 9 (by omega) (by omega) (by omega) (by omega)
  have xo : ∀ j, j ≠ 5 → j ≠ 6 → j ≠ 7 → j ≠ 11 → j ≠ 9 → x.1 j = gf M o j := fun j a b c d e => (hx1 j a b c d).trans (by rw [cF_f, if_neg e]; rfl)
  have Mo : (gCoS (gPart M o r) o x).1 o = x := co_at
  have Mr : (gCoS (gPart M o r) o x).1 r = cF (M.1 r) 10 (-1) := by rw [co_ne (by omega), hM1r]
  have Mk : ∀ k, k ≠ o → k ≠ r → (gCoS (gPart M o r) o x).1 k = M.1 k := fun k a b => by rw [co_ne a]; unfold gPart; rw [co_F, co_ne b, co_F, co_ne a]
  have hcn : cN (gCoS (gPart M o r) o x) = cN M := rfl
  generalize hM : gCoS (gPart M o r) o x = M' at *
  have e' : gnow M' = gnow M ∧ gtrn M' = gtrn M ∧ grq M' = grq M ∧ gaq M' = gaq M ∧ gcnt M' = gcnt M := by rw [← hM]; exact ⟨rfl, rfl, rfl, rfl, rfl⟩
  have fk : ∀ k j, j ≠ 5 → j ≠ 6 → j ≠ 7 → j ≠ 9 → j ≠ 10 → j ≠ 11 → gf M' k j = gf M k j := fun k j a b c d e f => by
    by_cases z : k = o
    · rw [z]; show (M'.1 o).1 j = _; rw [Mo]; exact xo j a b c f d
    · by_cases z2 : k = r
      · rw [z2]; show (M'.1 r).1 j = _; rw [Mr, cF_f, if_neg e]; rfl
      · unfold gf; rw [Mk k z z2]
  have fo : ∀ k j, k ≠ o → j ≠ 10 → gf M' k j = gf M k j := fun k j a e => by
    by_cases z2 : k = r
    · rw [z2]; show (M'.1 r).1 j = _; rw [Mr, cF_f, if_neg e]; rfl
    · unfold gf; rw [Mk k a z2]
  have fr : ∀ k, k ≠ r → gf M' k 10 = gf M k 10 := fun k a => by
    by_cases z : k = o
    · rw [z]; show (M'.1 o).1 10 = _; rw [Mo]; exact xo 10 (by omega) (by omega) (by omega) (by omega) (by omega)
    · unfold gf; rw [Mk k z a]
  have notr : ∀ k j, k < cN M → k ≠ o → gf M k 9 = Int32.ofNat j → j < cN M → j ≠ r := fun k j hk ko e hj z => by
    subst z
    obtain ⟨i, d1, d2, d3, d4, d5, -⟩ := (h03 k hk).2.2 (by rw [e]; exact n_neg (by omega))
    have : i = j := n_inj (by omega) (by omega) (d1.symm.trans e)
    subst this
    rw [hr10] at d5
    exact ko (n_inj (by omega) (by omega) d5).symm
  have oo : gOver M o = false := by unfold gOver; rw [s1]; rfl
  refine ⟨⟨⟨by show gcnt M' = Int32.ofNat (cN M'); rw [hcn, e'.2.2.2.2]; exact h0.1, by show cN M' ≤ 24; rw [hcn]; exact h24, fun k hk => ?_⟩, ⟨by show o < cN M'; omega, by show gf M' o 5 = 2 ∨ _; rw [show gf M' o 5 = x.1 5 by unfold gf; rw [Mo]]; exact h5, fun k hk hkr => ?_⟩, ⟨0, rfl⟩, ?_, ⟨by show o < cN M'; omega, Or.inr ⟨?_, rfl⟩⟩, hl⟩, ⟨by omega, e'.1, e'.2.1, fun k hk => ⟨fk k 3 (by omega) (by omega) (by omega) (by omega) (by omega) (by omega), fk k 4 (by omega) (by omega) (by omega) (by omega) (by omega) (by omega), fk k 16 (by omega) (by omega) (by omega) (by omega) (by omega) (by omega), fun q => ?_⟩, fun _ k hk hkt => Mk k (by omega) (by omega)⟩⟩
  · have hk : k < cN M := by rw [← hcn]; exact hk
    obtain ⟨a1, a2, a3⟩ := h03 k hk
    show okR B (cN M') (M'.1 k) ∧ okC k (M'.1 k) ∧ okN B M' k
    rw [hcn]
    refine ⟨?_, ?_, fun q => ?_⟩
    · by_cases z : k = o
      · rw [z, Mo]
        exact ⟨hx, fun w => absurd w n5.2, Or.inr (Or.inr h5), fun w => absurd w n5.1, fun _ => x9⟩
      · by_cases z2 : k = r
        · rw [z2] at a1 ⊢
          rw [Mr]
          exact a1
        · rw [Mk k z z2]; exact a1
    · unfold okC at a2 ⊢
      simp only [gf_at] at *
      rw [fk k 3 (by omega) (by omega) (by omega) (by omega) (by omega) (by omega), fk k 4 (by omega) (by omega) (by omega) (by omega) (by omega) (by omega), fk k 14 (by omega) (by omega) (by omega) (by omega) (by omega) (by omega), fk k 16 (by omega) (by omega) (by omega) (by omega) (by omega) (by omega), fk k 15 (by omega) (by omega) (by omega) (by omega) (by omega) (by omega)]
      exact a2
    · by_cases z : k = o
      · rw [z] at q
        exact absurd (show (M'.1 o).1 9 = -1 by rw [Mo]; exact x9) q
      · rw [fo k 9 z (by omega)] at q ⊢
        obtain ⟨j, d1, d2, d3, d4, d5, d6⟩ := a3 q
        have hjr := notr k j hk z d1 d3
        refine ⟨j, d1, d2, by rw [hcn]; exact d3, by rw [fk j 4 (by omega) (by omega) (by omega) (by omega) (by omega) (by omega)]; exact d4, by rw [fr j hjr]; exact d5, ?_⟩
        rw [fk j 3 (by omega) (by omega) (by omega) (by omega) (by omega) (by omega), d6]
        unfold gAtLn
        rw [fo k 3 z (by omega), fo k 6 z (by omega)]
  · have hk : k < cN M := by rw [← hcn]; exact hk
    have hkr : k ≠ o := hkr
    show gf M' k 5 ≠ 2 ∧ ∀ j, j < cN M' → gf M' k 9 = Int32.ofNat j → j = o ∨ gf M' j 5 = 1
    rw [fo k 5 hkr (by omega), fo k 9 hkr (by omega), hcn]
    obtain ⟨b1, b2⟩ := hs k hk
    refine ⟨b1, fun j hj w => ?_⟩
    by_cases z2 : j = o
    · exact Or.inl z2
    · rw [fo j 5 z2 (by omega)]
      exact Or.inr ((b2 j hj w).resolve_left (notr k j hk hkr w hj))
  · exact hq.up (r := o) hcn e'.1 e'.2.2.1 e'.2.2.2.1 (fun k hk => ⟨fk k 4 (by omega) (by omega) (by omega) (by omega) (by omega) (by omega), fk k 12 (by omega) (by omega) (by omega) (by omega) (by omega) (by omega), fk k 13 (by omega) (by omega) (by omega) (by omega) (by omega) (by omega), fun z => over_f (fo k 5 z (by omega))⟩) (fun e => absurd e ht)
  · show gf M' o 4 ≠ 1
    rw [fk o 4 (by omega) (by omega) (by omega) (by omega) (by omega) (by omega)]
    exact ht
  · have : k ≠ o := fun z => by rw [z, oo] at q; cases q
    exact ⟨fo k 5 this (by omega), fo k 7 this (by omega)⟩
