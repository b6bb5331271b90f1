/-! CLOSE: level by level -/
theorem gKq.set {M0 M : gM} {t : Int32} {n : Nat} {x : gCo} (h : gKq M0 M t 0) (hx : sameC x (M.1 n)) (ho : n < cN M0 → gOver M0 n = false) : gKq M0 (gCoS M n x) t 0 := by
  obtain ⟨h1, h2, h3, h4, -⟩ := h
  refine ⟨h1, h2, h3, fun k hk => ?_, fun _ k _ z => absurd z (Nat.not_lt_zero _)⟩
  obtain ⟨a1, a2, a3, a4⟩ := h4 k hk
  simp only [gf_co]
  by_cases z : k = n
  · subst z
    rw [if_pos rfl, if_pos rfl, if_pos rfl]
    exact ⟨(hx 3 (by omega) (by omega) (by omega) (by omega)).trans a1, (hx 4 (by omega) (by omega) (by omega) (by omega)).trans a2, (hx 16 (by omega) (by omega) (by omega) (by omega)).trans a3, fun q => by rw [ho hk] at q; cases q⟩
  · rw [if_neg z, if_neg z, if_neg z, if_neg z, if_neg z]
    exact ⟨a1, a2, a3, a4⟩
/-- between the levels: one is closed -/
def CU (B : gB) (M0 : gM) (top : Nat) (T : gT) (one : Nat) (told : Int32) (n : Nat) : Prop :=
  IV0 B T.1 ∧ (∀ k, k < cN T.1 → gf T.1 k 5 ≠ 2 ∧ ∀ j, j < cN T.1 → gf T.1 k 9 = Int32.ofNat j → j = one ∨ gf T.1 j 5 = 1) ∧ one < cN T.1 ∧ gP (fun k => gf T.1 k 9) n top one ∧ IQ T.1 (-1) ∧ T.2.2.1.1 = -1 ∧ (0 ≤ T.2.2.1.2.toInt ∧ T.2.2.1.2.toInt ≤ 300) ∧ gKq M0 T.1 (-1) 0 ∧ gf T.1 one 4 ≠ 1 ∧
  ((gf T.1 one 5 = 1 ∧ told = 8) ∨ (gf T.1 one 5 = 3 ∧ told = 0) ∨ (gf T.1 one 5 = 4 ∧ told = gf T.1 one 7 ∧ okW told))
theorem gEndClose_eq {M : gM} {n : Nat} : gEndClose M n = (if gf M n 5 = 4 ∧ gf M n 7 = 10 then (0, gEnd M n 3 0) else (if gf M n 5 = 3 then 0 else if gf M n 5 = 4 then gf M n 7 else 8, M)) := by
  unfold gEndClose
  by_cases q : gf M n 5 = 4 ∧ gf M n 7 = 10
  · simp only [if_pos q]
    have : gf (gEnd M n 3 0) n 5 = 3 := by unfold gEnd; rw [gf_gfS, if_neg (by omega), gf_gfS, if_pos ⟨rfl, rfl⟩]
    rw [if_pos this]
  · simp only [if_neg q]
theorem after_call {B : gB} {M0 : gM} {T : gT} {top o n : Nat} (hB : IB B) (h : IVC B T o) (ht : T.2.2.1.1 = -1) (hk : gKq M0 T.1 (-1) 0) (hp : gP (fun k => gf T.1 k 9) n top o) (ho : o < cN M0 → gOver M0 o = false) (h4 : gf T.1 o 4 ≠ 1) : CU B M0 top ((gEndClose (gCallT B T o).1 o).2, (gCallT B T o).2) o (gEndClose (gCallT B T o).1 o).1 n := by
  have hto := h.2.2.2.2.1.1
  have hbnd := h.1.2.1
  obtain ⟨g1, g2, g3⟩ := call_ok hB h
  generalize gCallT B T o = T' at g1 g2 g3 ⊢
  rw [ht] at g1 g2
  have hK := hk.tr (g1.low (Nat.zero_le o))
  have s4 : gf T'.1 o 4 ≠ 1 := by rw [(g1.2.2.2.1 o hto).2.1]; exact h4
  have hp' : gP (fun k => gf T'.1 k 9) n top o := gP.fr n top o (fun k _ z => by show (T'.1.1 k).1 9 = (T.1.1 k).1 9; rw [g1.2.2.2.2 rfl k (by omega) z]) hp
  have hcn : o < cN T'.1 := by have := g1.1; omega
  rw [gEndClose_eq]
  rcases g3 with ⟨a, b, c, d, e⟩ | ⟨a, b, c⟩
  · rw [if_neg (by rw [d]; exact fun z => absurd z.1 (by decide)), if_neg (by rw [d]; decide), if_neg (by rw [d]; decide)]
    exact ⟨b.1, fun k hk => ⟨(b.2.1 k hk).1, fun j hj w => Or.inr ((b.2.1 k hk).2 j hj w)⟩, hcn, hp', b.2.2, g2, e, hK, s4, Or.inl ⟨d, rfl⟩⟩
  · have hq := c.2.2.2.1
    rw [g2] at hq
    obtain ⟨e1, e2⟩ := c.rest b
    by_cases q : gf T'.1 o 5 = 4 ∧ gf T'.1 o 7 = 10
    · rw [if_pos q]
      have oX := (c.1.2.2 o hcn).1.1
      have x5 : (cEnd (T'.1.1 o) 3 0).1 5 = 3 := rfl
      have sC : sameC (cEnd (T'.1.1 o) 3 0) (T'.1.1 o) := (sameC.F (Or.inr (Or.inr (Or.inl rfl)))).tr (sameC.F (Or.inl rfl))
      have c2 : IVC B (gCoS T'.1 o (cEnd (T'.1.1 o) 3 0), T'.2) o := c.upd (T' := (gCoS T'.1 o (cEnd (T'.1.1 o) 3 0), T'.2)) (x := cEnd (T'.1.1 o) 3 0) (by rw [e1]; exact sC) ⟨okT.z, oX.2.1, oX.2.2.1, fun _ => oX.2.2.2.1 (Or.inr q.1), fun z => absurd z (by rw [x5]; decide)⟩ (Or.inr (Or.inl x5)) (by rw [e1]) rfl rfl c.2.2.2.2.2
      have ov : gOver (gCoS T'.1 o (cEnd (T'.1.1 o) 3 0)) o = true := by
        unfold gOver
        rw [gf_co, if_pos rfl]
        rfl
      obtain ⟨f1, f2⟩ := c2.rest ov
      rw [end_co]
      refine ⟨c2.1, f2, hcn, gP.fr n top o (fun k _ z => ?_) hp', ?_, g2, c.2.2.2.2.2, hK.set sC ho, ?_, Or.inr (Or.inl ⟨?_, rfl⟩)⟩
      · show gf (gCoS T'.1 o (cEnd (T'.1.1 o) 3 0)) k 9 = _
        rw [gf_co, if_neg (by omega)]
      · have := c2.2.2.2.1
        have e : (gCoS T'.1 o (cEnd (T'.1.1 o) 3 0), T'.2).2.2.1.1 = -1 := g2
        rw [e] at this
        exact this
      · show gf (gCoS T'.1 o (cEnd (T'.1.1 o) 3 0)) o 4 ≠ 1
        rw [gf_co, if_pos rfl]
        exact s4
      · show gf (gCoS T'.1 o (cEnd (T'.1.1 o) 3 0)) o 5 = 3
        rw [gf_co, if_pos rfl]
        rfl
    · rw [if_neg q]
      refine ⟨c.1, e2, hcn, hp', hq, g2, c.2.2.2.2.2, hK, s4, Or.inr ?_⟩
      unfold gOver at b
      simp only [Bool.or_eq_true, beq_iff_eq] at b
      by_cases z : gf T'.1 o 5 = 3
      · rw [if_pos z]; exact Or.inl ⟨z, rfl⟩
      · have z4 := b.resolve_left z
        rw [if_neg z, if_pos z4]
        exact Or.inr ⟨z4, rfl, (c.1.2.2 o hcn).1.1.2.2.2.2 z4⟩
/-- one level up -/
theorem cu_step {B : gB} {M0 : gM} {T : gT} {top one n : Nat} {told : Int32} (hB : IB B) (h : CU B M0 top T one told n) (hne : one ≠ top) (h4 : gf T.1 top 4 = 0) : ∃ o m, n = m + 1 ∧ o < one ∧ gAt (gf T.1 one 10) = o ∧ okW (if told = 0 then 10 else told) ∧ IVC B (gLeave (gPart T.1 o one) o (if told = 0 then 10 else told) 0, o, T.2.2) o ∧
    CU B M0 top ((gEndClose (gCallT B (gLeave (gPart T.1 o one) o (if told = 0 then 10 else told) 0, o, T.2.2) o).1 o).2, (gCallT B (gLeave (gPart T.1 o one) o (if told = 0 then 10 else told) 0, o, T.2.2) o).2) o (gEndClose (gCallT B (gLeave (gPart T.1 o one) o (if told = 0 then 10 else told) 0, o, T.2.2) o).1 o).1 m := by
  obtain ⟨h0, hs, hr, hp, hq, ht, hl, hk, hso, htold⟩ := h
  have h24 := h0.2.1
  cases n with
  | zero => exact absurd hp.symm hne
  | succ m =>
    obtain ⟨o, p1, p2, p3⟩ := hp
    have p2 : gf T.1 o 9 = Int32.ofNat one := p2
    obtain ⟨i, d1, d2, d3, d4, d5, -⟩ := (h0.2.2 o (by omega)).2.2 (by rw [p2]; exact n_neg (by omega))
    have : i = one := n_inj (by omega) (by omega) (d1.symm.trans p2)
    subst this
    have eo : gAt (gf T.1 i 10) = o := by rw [d5]; exact n_at (by omega)
    have hw : okW (if told = 0 then 10 else told) := by
      by_cases z : told = 0
      · rw [if_pos z]; exact ⟨by decide, by decide⟩
      · rw [if_neg z]
        rcases htold with q | q | q
        · rw [q.2]; exact ⟨by decide, by decide⟩
        · exact absurd q.2 z
        · exact q.2.2
    have s4 : gf T.1 o 4 ≠ 1 := by
      cases m with
      | zero =>
        have : top = o := p1
        rw [← this, h4]; decide
      | succ m =>
        obtain ⟨p, r1, r2, r3⟩ := p1
        obtain ⟨j, f1, f2, f3, f4, -⟩ := (h0.2.2 p (by omega)).2.2 (by rw [show gf T.1 p 9 = _ from r2]; exact n_neg (by omega))
        have : j = o := n_inj (by omega) (by omega) (f1.symm.trans r2)
        subst this
        rw [f4]; decide
    have M1o : (gPart T.1 o i).1 o = cF (T.1.1 o) 9 (-1) := by unfold gPart; rw [co_F, co_ne (by omega), co_F, co_at]
    have oX1 : okX ((gPart T.1 o i).1 o) := by rw [M1o]; exact (h0.2.2 o (by omega)).1.1
    obtain ⟨x1, x2, -, x3⟩ := cLeave_ok (way := if told = 0 then 10 else told) (val := 0) (Or.inl hw) oX1
    have x5 : (cLeave ((gPart T.1 o i).1 o) (if told = 0 then 10 else told) 0).1 5 = 2 ∨ (cLeave ((gPart T.1 o i).1 o) (if told = 0 then 10 else told) 0).1 5 = 3 ∨ (cLeave ((gPart T.1 o i).1 o) (if told = 0 then 10 else told) 0).1 5 = 4 := by
      rcases x3 with q | q
      · exact Or.inl q.1
      · exact Or.inr q.1
    obtain ⟨M, r, ⟨t, lb⟩, b1, b2⟩ := T
    dsimp only at *
    subst ht
    obtain ⟨u1, u2⟩ := upward (lb := lb) (b1 := b1) (b2 := b2) h0 hs hr d2 p2 d5 hq s4 x2 x1 x5 hl
    rw [← leave_co] at u1 u2
    have pn : gP (fun k => gf (gLeave (gPart M o i) o (if told = 0 then 10 else told) 0) k 9) m top o := gP.fr m top o (fun k _ z => by
      show gf (gLeave (gPart M o i) o (if told = 0 then 10 else told) 0) k 9 = gf M k 9
      unfold gf
      rw [u2.2.2.2.2 rfl k (by omega) z]) p1
    have oo : o < cN M0 → gOver M0 o = false := fun z => by
      cases y : gOver M0 o with
      | false => rfl
      | true =>
        have f5 := ((hk.2.2.2.1 o z).2.2.2 y).1
        have s1 : gf M o 5 = 1 := Classical.byContradiction fun w => by
          have := (h0.2.2 o (by omega)).1.2.2.2.2 w
          rw [show gf M o 9 = -1 from this] at p2
          exact n_neg (by omega) p2.symm
        rw [s1] at f5
        unfold gOver at y
        rw [← f5] at y
        cases y
    refine ⟨o, m, rfl, d2, eo, hw, u1, ?_⟩
    refine after_call hB u1 rfl (hk.tr (u2.low (Nat.zero_le _))) pn oo ?_
    rw [(u2.2.2.2.1 o (by omega)).2.1]
    exact s4
/-- what close tells -/
def okClose (M : gM) (top : Nat) (told : Int32) : Prop := (gf M top 5 = 1 ∧ told = 8) ∨ (gf M top 5 = 3 ∧ told = 0) ∨ (gf M top 5 = 4 ∧ (told = gf M top 7 ∨ told = 0))
theorem cu_end {B : gB} {M0 : gM} {T : gT} {top n : Nat} {told : Int32} (h : CU B M0 top T top told n) (h4 : gf T.1 top 4 = 0) : IVR B T.1 ∧ gKq M0 T.1 (-1) 0 ∧ okClose T.1 top told := by
  obtain ⟨h0, hs, hr, hp, hq, ht, hl, hk, hso, htold⟩ := h
  have h24 := h0.2.1
  refine ⟨⟨h0, fun k hk => ⟨(hs k hk).1, fun j hj w => ?_⟩, hq⟩, hk, ?_⟩
  · rcases (hs k hk).2 j hj w with q | q
    · subst q
      obtain ⟨i, d1, d2, d3, d4, -⟩ := (h0.2.2 k hk).2.2 (by rw [w]; exact n_neg (by omega))
      have : i = j := n_inj (by omega) (by omega) (d1.symm.trans w)
      subst this
      rw [h4] at d4
      exact absurd d4 (by decide)
    · exact q
  · rcases htold with q | q | q
    · exact Or.inl q
    · exact Or.inr (Or.inl q)
    · exact Or.inr (Or.inr ⟨q.1, Or.inl q.2.1⟩)
theorem gKq.s4 {B : gB} {M0 : gM} {T : gT} {top one n : Nat} {told : Int32} (h : CU B M0 top T one told n) (ht : top < cN M0) (h4 : gf M0 top 4 = 0) : gf T.1 top 4 = 0 := ((h.2.2.2.2.2.2.2.1.2.2.2.1 top ht).2.1).trans h4
theorem closeUp_ok {B : gB} {M0 : gM} {top : Nat} (hB : IB B) (ht : top < cN M0) (h4 : gf M0 top 4 = 0) : ∀ (i : Nat) (T : gT) (one : Nat) (told : Int32) (n : Nat), n ≤ i → CU B M0 top T one told n → IVR B (gCloseUp B top i T one told).2 ∧ gKq M0 (gCloseUp B top i T one told).2 (-1) 0 ∧ okClose (gCloseUp B top i T one told).2 top (gCloseUp B top i T one told).1 := by
  intro i
  induction i with
  | zero =>
    intro T one told n hn h
    obtain rfl : n = 0 := by omega
    have : one = top := (show top = one from h.2.2.2.1).symm
    subst this
    exact cu_end h (gKq.s4 h ht h4)
  | succ i ih =>
    intro T one told n hn h
    unfold gCloseUp
    by_cases q : one = top
    · rw [if_pos q]
      subst q
      exact cu_end h (gKq.s4 h ht h4)
    · rw [if_neg q]
      obtain ⟨o, m, e1, e2, e3, e4, e5, e6⟩ := cu_step hB h q (gKq.s4 h ht h4)
      rw [e3]
      exact ih _ o _ m (by omega) e6
theorem gP.len {f : Nat → Int32} : ∀ (n a b : Nat), gP f n a b → a + n ≤ b := by
  intro n
  induction n with
  | zero => intro a b h; exact Nat.le_of_eq h
  | succ n ih =>
    intro a b h
    obtain ⟨o, h1, -, h2⟩ := h
    have := ih a o h1
    omega
/-- the first level -/
theorem cu_first {B : gB} {M : gM} {top : Nat} (hB : IB B) (h : IVR B M) (ht : top < cN M) (h4 : gf M top 4 = 0) (ho : gOver M top = false) : ∃ n, n ≤ 24 ∧ IVC B (gLeave M (gInmost M 24 top) 10 0, gInmost M 24 top, (-1, 0), false, false) (gInmost M 24 top) ∧ CU B M top ((gEndClose (gCallT B (gLeave M (gInmost M 24 top) 10 0, gInmost M 24 top, (-1, 0), false, false) (gInmost M 24 top)).1 (gInmost M 24 top)).2, (gCallT B (gLeave M (gInmost M 24 top) 10 0, gInmost M 24 top, (-1, 0), false, false) (gInmost M 24 top)).2) (gInmost M 24 top) (gEndClose (gCallT B (gLeave M (gInmost M 24 top) 10 0, gInmost M 24 top, (-1, 0), false, false) (gInmost M 24 top)).1 (gInmost M 24 top)).1 n := by
  obtain ⟨d1, d2, d3, d4, d5⟩ := deep_ok h ht ho
  obtain ⟨⟨n, hp⟩, hdn, hd9, hdd⟩ := inm_ok h.1 24 top (by omega) ht
  have h24 := h.1.2.1
  generalize gInmost M 24 top = deep at *
  have hl := gP.len _ _ _ hp
  obtain ⟨x1, x2, -, x3⟩ := cLeave_ok (way := 10) (val := 0) (Or.inl ⟨by decide, by decide⟩) d4
  have s4 : gf M deep 4 ≠ 1 := by
    rcases hdd with q | ⟨-, q, -⟩
    · rw [q, h4]; decide
    · rw [q]; decide
  have hI : IVC B (gCoS M deep (cLeave (M.1 deep) 10 0), deep, (-1, 0), false, false) deep := enter h.1 h.2.1.semi hdn hd9 ⟨0, rfl⟩ h.2.2 ⟨hdn, Or.inr ⟨s4, rfl⟩⟩ x2 x1 (by rcases x3 with q | q; exact Or.inl q.1; exact Or.inr q.1) ⟨by decide, by decide⟩
  rw [leave_co]
  refine ⟨n, by omega, hI, after_call hB hI rfl ?_ ?_ (fun _ => d2) ?_⟩
  · exact gKq.rf.set x2 (fun _ => d2)
  · exact gP.fr n top deep (fun k _ z => by show gf (gCoS M deep _) k 9 = gf M k 9; rw [gf_co, if_neg (by omega)]) hp
  · show gf (gCoS M deep _) deep 4 ≠ 1
    rw [gf_co, if_pos rfl, x2 4 (by omega) (by omega) (by omega) (by omega)]
    exact s4
theorem close_ok {B : gB} {M : gM} {g : Int32} (hB : IB B) (h : IVR B M) (ht : gAt g < cN M) (h4 : gf M (gAt g) 4 = 0) : IVR B (gClose B M g).2 ∧ gKq M (gClose B M g).2 (-1) 0 ∧ okClose (gClose B M g).2 (gAt g) (gClose B M g).1 := by
  unfold gClose
  by_cases q : gOver M (gAt g) = true
  · simp only [if_pos q]
    refine ⟨h, gKq.rf, ?_⟩
    unfold gOver at q
    simp only [Bool.or_eq_true, beq_iff_eq] at q
    rcases q with q | q
    · exact Or.inr (Or.inl ⟨q, rfl⟩)
    · exact Or.inr (Or.inr ⟨q, Or.inr rfl⟩)
  · simp only [if_neg q]
    have qf : gOver M (gAt g) = false := by simpa using q
    by_cases z : gf M (gAt g) 5 = 0
    · simp only [if_pos z]
      have oX := (h.1.2.2 _ ht).1
      have sC : sameC (cEnd (M.1 (gAt g)) 3 0) (M.1 (gAt g)) := (sameC.F (Or.inr (Or.inr (Or.inl rfl)))).tr (sameC.F (Or.inl rfl))
      have x5 : (cEnd (M.1 (gAt g)) 3 0).1 5 = 3 := rfl
      have hI : IVC B (gCoS M (gAt g) (cEnd (M.1 (gAt g)) 3 0), gAt g, (-1, 0), false, false) (gAt g) := enter h.1 h.2.1.semi ht (oX.2.2.2.2 (by show gf M (gAt g) 5 ≠ 1; rw [z]; decide)) ⟨0, rfl⟩ h.2.2 ⟨ht, Or.inr ⟨by rw [h4]; decide, rfl⟩⟩ sC ⟨okT.z, oX.1.2.1, oX.1.2.2.1, fun _ => (oX.2.1 z).1, fun y => absurd y (by rw [x5]; decide)⟩ (Or.inr (Or.inl x5)) ⟨by decide, by decide⟩
      have f5 : gf (gCoS M (gAt g) (cEnd (M.1 (gAt g)) 3 0)) (gAt g) 5 = 3 := by rw [gf_co, if_pos rfl]; rfl
      obtain ⟨e1, e2⟩ := hI.done (by show gOver (gCoS M (gAt g) _) (gAt g) = true; unfold gOver; rw [f5]; rfl) (by show gf (gCoS M (gAt g) _) (gAt g) 4 ≠ 2; rw [gf_co, if_pos rfl, sC 4 (by omega) (by omega) (by omega) (by omega)]; show gf M (gAt g) 4 ≠ 2; rw [h4]; decide)
      rw [end_co]
      exact ⟨⟨e1, e2, hI.2.2.2.1⟩, gKq.rf.set sC (fun _ => qf), Or.inr (Or.inl ⟨f5, rfl⟩)⟩
    · simp only [if_neg z]
      obtain ⟨n, hn, -, hc⟩ := cu_first hB h ht h4 qf
      exact closeUp_ok hB ht h4 24 _ _ _ n hn hc
