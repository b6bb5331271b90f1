theorem inst_ivc {B : gB} {T : gT} {top : Nat} (h : IVC B T top) (h2 : gf T.1 T.2.1 5 = 2) (w : (gInstead B T T.2.1).1 = 0) : IVC B (gInstead B T T.2.1).2.2 top ∧ (gInstead B T T.2.1).2.2.2.1 = T.2.1 := by
  obtain ⟨i1, i2, i3⟩ := gInstead_z w
  obtain ⟨l0, l3⟩ := h.2.2.2.2.2
  have i3' := Int32.lt_iff_toInt_lt.mp i3
  have c300 : (300 : Int32).toInt = 300 := rfl
  have el : (T.2.2.1.2 + 1).toInt = T.2.2.1.2.toInt + 1 := i_add (by show _ ≤ T.2.2.1.2.toInt + 1; omega) (by show T.2.2.1.2.toInt + 1 < _; omega)
  have rX := (h.1.2.2 _ h.2.1.1).1.1
  rw [i1]
  exact ⟨h.upd (x := cF (T.1.1 T.2.1) 11 (gf T.1 T.2.1 11 + 1)) (sameC.F (Or.inr (Or.inr (Or.inr rfl)))) rX (Or.inl h2) rfl rfl rfl ⟨by show 0 ≤ (T.2.2.1.2 + 1).toInt; omega, by show (T.2.2.1.2 + 1).toInt ≤ 300; omega⟩, rfl⟩
theorem part_eq {M M' : gM} (h : gEq M M') (o i : Nat) : gEq (gPart M o i) (gPart M' o i) := (h.F o 9 (-1)).F i 10 (-1)
theorem step_eq {B : gB} {T : gT} {top : Nat} {M' : gM} (hB : IB B) (h : IVC B T top) (ho : gOver T.1 top = false) (e : gEq T.1 M') : TE (gStep B T) (gStep B (M', T.2)) := by
  have hr := h.2.1.1
  have h24 := h.1.2.1
  unfold gStep
  show TE _ (if gOver M' T.2.1 then ((gBack M' T.2.1).1, (gBack M' T.2.1).2, T.2.2) else if (gInstead B (M', T.2) T.2.1).1 = 0 then (if (gDo B (gInstead B (M', T.2) T.2.1).2.2 T.2.1).1 = 0 then (gDo B (gInstead B (M', T.2) T.2.1).2.2 T.2.1).2.2 else (gLeave (gDo B (gInstead B (M', T.2) T.2.1).2.2 T.2.1).2.2.1 T.2.1 (gDo B (gInstead B (M', T.2) T.2.1).2.2 T.2.1).1 (gDo B (gInstead B (M', T.2) T.2.1).2.2 T.2.1).2.1, (gDo B (gInstead B (M', T.2) T.2.1).2.2 T.2.1).2.2.2)) else (gLeave (gInstead B (M', T.2) T.2.1).2.2.1 T.2.1 (gInstead B (M', T.2) T.2.1).1 (gInstead B (M', T.2) T.2.1).2.1, (gInstead B (M', T.2) T.2.1).2.2.2))
  rw [e.over hr]
  by_cases q : gOver T.1 T.2.1 = true
  · rw [if_pos q, if_pos q]
    rcases h.inn with z | ⟨e4, o, h1, h2, h3, h5, h6, h7⟩
    · rw [z, ho] at q; cases q
    unfold gBack
    dsimp only
    rw [e.f hr, h6, n_at (by omega)]
    have ep := part_eq e o T.2.1
    have cp : cN (gPart T.1 o T.2.1) = cN T.1 := rfl
    rw [ep.f (k := T.2.1) (by rw [cp]; exact hr), ep.f (k := T.2.1) (by rw [cp]; exact hr), ep.f (k := o) (by rw [cp]; exact h3)]
    refine ⟨?_, rfl⟩
    dsimp only
    split
    · exact (ep.F _ _ _).go _ rfl
    · exact ep.leave _ rfl rfl
  · rw [if_neg q, if_neg q]
    have qf : gOver T.1 T.2.1 = false := by simpa using q
    have h2 : gf T.1 T.2.1 5 = 2 := by
      rcases h.2.1.2.1 with e | e | e
      · exact e
      · exact absurd (show gOver T.1 T.2.1 = true by unfold gOver; rw [e]; rfl) q
      · exact absurd (show gOver T.1 T.2.1 = true by unfold gOver; rw [e]; rfl) q
    obtain ⟨i1, i2, i3, i4⟩ := instead_eq (B := B) hr e
    rw [i1]
    by_cases w : (gInstead B T T.2.1).1 = 0
    · obtain ⟨w1, w2⟩ := inst_ivc h h2 w
      rw [if_pos w, if_pos w]
      have eT : (gInstead B (M', T.2) T.2.1).2.2 = ((gInstead B (M', T.2) T.2.1).2.2.1, (gInstead B T T.2.1).2.2.2) := Prod.ext rfl i4
      have d := do_eq hB w1 i3
      rw [w2] at d
      rw [eT]
      obtain ⟨d1, d2, d3, d4⟩ := d
      rw [d1, d2]
      split
      · exact ⟨d3, d4⟩
      · exact ⟨d3.leave _ rfl rfl, d4⟩
    · rw [if_neg w, if_neg w, i2]
      exact ⟨i3.leave _ rfl rfl, i4⟩
theorem gGoOn_go {B : gB} {top n : Nat} {T : gT} (h : (T.2.2.2.2 || gOver T.1 top) = false) : gGoOn B top (n + 1) T = gGoOn B top n (gStep B T) := by
  have e : gGoOn B top (n + 1) T = (if (T.2.2.2.2 || gOver T.1 top) = true then T else gGoOn B top n (gStep B T)) := rfl
  rw [e, h, if_neg (by decide)]
theorem endClose_cn {M : gM} {n : Nat} : cN (gEndClose M n).2 = cN M := by
  rw [gEndClose_eq]
  by_cases q : gf M n 5 = 4 ∧ gf M n 7 = 10
  · rw [if_pos q]; rfl
  · rw [if_neg q]
theorem goOn_eq {B : gB} {top : Nat} (hB : IB B) : ∀ (n : Nat) (T : gT) (M' : gM), IVC B T top → T.2.2.2.2 = false → gEq T.1 M' → TE (gGoOn B top n T) (gGoOn B top n (M', T.2)) := by
  intro n
  induction n with
  | zero => intro T M' _ _ e; exact ⟨e, rfl⟩
  | succ n ih =>
    intro T M' h hw e
    have ht := h.2.2.2.2.1.1
    have ho' := e.over ht
    by_cases q : gOver T.1 top = true
    · rw [gGoOn_end (by rw [q, hw]; rfl), gGoOn_end (T := (M', T.2)) (by show (T.2.2.2.2 || gOver M' top) = true; rw [ho', q, hw]; rfl)]
      exact ⟨e, rfl⟩
    · have qf : gOver T.1 top = false := by simpa using q
      rw [gGoOn_go (by rw [qf, hw]; rfl), gGoOn_go (T := (M', T.2)) (by show (T.2.2.2.2 || gOver M' top) = false; rw [ho', qf, hw]; rfl)]
      obtain ⟨-, s2, s3, s4⟩ := step_ok hB h hw qf
      have se := step_eq hB h qf e
      have eT : gStep B (M', T.2) = ((gStep B (M', T.2)).1, (gStep B T).2) := Prod.ext rfl se.2
      rw [eT]
      rcases s4 with ⟨a, b, c⟩ | ⟨a, b, c⟩
      · exact ih (gStep B T) _ b a se.1
      · rw [gGoOn_end (T := gStep B T) (by rw [a]; rfl), gGoOn_end (T := ((gStep B (M', T.2)).1, (gStep B T).2)) (by show ((gStep B T).2.2.2.2 || _) = true; rw [a]; rfl)]
        exact ⟨se.1, rfl⟩
theorem callT_eq {B : gB} {T : gT} {top : Nat} {M' : gM} (hB : IB B) (h : IVC B T top) (e : gEq T.1 M') : TE (gCallT B T top) (gCallT B (M', T.2) top) := by
  have h' : IVC B (T.1, T.2.1, T.2.2.1, T.2.2.2.1, false) top := h
  have g := goOn_eq hB gFuel _ M' h' rfl e
  unfold gCallT
  generalize gFuel = n at g ⊢
  exact g
theorem inm_eq {B : gB} {M M' : gM} (h0 : IV0 B M) (e : gEq M M') : ∀ (i n : Nat), n < cN M → gInmost M' i n = gInmost M i n := by
  intro i
  induction i with
  | zero => intro n _; rfl
  | succ i ih =>
    intro n hn
    unfold gInmost
    rw [e.f hn, e.made]
    by_cases q : gMade M (gf M n 9) = true
    · rw [if_pos q, if_pos q]
      exact ih _ (made_at h0.1 h0.2.1 q).1
    · rw [if_neg q, if_neg q]
theorem told_eq {B : gB} {M M' : gM} {n : Nat} (h0 : IV0 B M) (e : gEq M M') (hn : n < cN M) : gTold M' n = gTold M n := by
  have hd := (inm_ok h0 24 n (by omega) hn).2.1
  unfold gTold
  rw [e.f hn, e.f hn, inm_eq h0 e 24 n hn, e.f hd]
/-- a generator's call -/
theorem gcall_eq {B : gB} {M M' : gM} {top deep : Nat} {x : gCo} (hB : IB B) (h : IVC B (gCoS M deep x, deep, (-1, 0), false, false) top) (hi : IVR B (gCall B (gCoS M deep x) (-1) top deep)) (hk : cN M ≤ cN (gCall B (gCoS M deep x) (-1) top deep)) (e : gEq M M') : gTold (gCall B (gCoS M' deep x) (-1) top deep) top = gTold (gCall B (gCoS M deep x) (-1) top deep) top ∧ gEq (gCall B (gCoS M deep x) (-1) top deep) (gCall B (gCoS M' deep x) (-1) top deep) := by
  have c := (callT_eq hB h (M' := gCoS M' deep x) (e.co fun _ => rfl)).1
  have c : gEq (gCall B (gCoS M deep x) (-1) top deep) (gCall B (gCoS M' deep x) (-1) top deep) := c
  have ht := h.2.2.2.2.1.1
  have ht : top < cN M := ht
  exact ⟨told_eq hi.1 c (by omega), c⟩
theorem resume_ans {B : gB} {M M' : gM} {g v : Int32} (hB : IB B) (h : IVR B M) (ht : gAt g < cN M) (h4 : gf M (gAt g) 4 = 0) (ho : gOver M (gAt g) = false) (hv : okT v) (e : gEq M M') : (gResume B M' g v).1 = (gResume B M g v).1 ∧ gEq (gResume B M g v).2 (gResume B M' g v).2 := by
  obtain ⟨d1, d2, d3, d4, d5⟩ := deep_ok h ht ho
  obtain ⟨x1, x2, x3⟩ := cRes_ok (v := v) d4 hv
  obtain ⟨hI, a, b, -⟩ := gen_ok hB h ht h4 rfl x2 x1 (Or.inl x3) d2
  rw [resume_eq, resume_eq, inm_eq h.1 e 24 _ ht, e.2 _ d1]
  exact gcall_eq hB hI a b.1 e
theorem endClose_eq {M M' : gM} {n : Nat} (e : gEq M M') (hn : n < cN M) : (gEndClose M' n).1 = (gEndClose M n).1 ∧ gEq (gEndClose M n).2 (gEndClose M' n).2 := by
  rw [gEndClose_eq, gEndClose_eq, e.f hn, e.f hn]
  split
  · exact ⟨rfl, e.end _ _ rfl⟩
  · exact ⟨rfl, e⟩
theorem closeUp_eq {B : gB} {M0 : gM} {top : Nat} (hB : IB B) (ht : top < cN M0) (h4 : gf M0 top 4 = 0) : ∀ (i : Nat) {T : gT} (one : Nat) (told : Int32) (n : Nat) (M' : gM), n ≤ i → CU B M0 top T one told n → gEq T.1 M' → (gCloseUp B top i (M', T.2) one told).1 = (gCloseUp B top i T one told).1 ∧ gEq (gCloseUp B top i T one told).2 (gCloseUp B top i (M', T.2) one told).2 := by
  intro i
  induction i with
  | zero => intro T one told n M' _ _ e; exact ⟨rfl, e⟩
  | succ i ih =>
    intro T one told n M' hn h e
    unfold gCloseUp
    by_cases q : one = top
    · rw [if_pos q, if_pos q]
      exact ⟨rfl, e⟩
    · rw [if_neg q, if_neg q]
      obtain ⟨o, m, e1, e2, e3, e4, e5, e6⟩ := cu_step hB h q (gKq.s4 h ht h4)
      have hon := h.2.2.1
      dsimp only
      rw [e.f hon, e3]
      have ce := callT_eq hB e5 (M' := gLeave (gPart M' o one) o (if told = 0 then 10 else told) 0) ((part_eq e o one).leave _ rfl rfl)
      obtain ⟨ce1, ce2⟩ := ce
      have ho : o < cN (gCallT B (gLeave (gPart T.1 o one) o (if told = 0 then 10 else told) 0, o, T.2.2) o).1 := by
        have := e6.2.2.1
        have hc : cN (gEndClose (gCallT B (gLeave (gPart T.1 o one) o (if told = 0 then 10 else told) 0, o, T.2.2) o).1 o).2 = cN (gCallT B (gLeave (gPart T.1 o one) o (if told = 0 then 10 else told) 0, o, T.2.2) o).1 := endClose_cn
        rw [← hc]
        exact this
      obtain ⟨f1, f2⟩ := endClose_eq ce1 ho
      have ce2 : (gCallT B (gLeave (gPart M' o one) o (if told = 0 then 10 else told) 0, o, T.2.2) o).2 = (gCallT B (gLeave (gPart T.1 o one) o (if told = 0 then 10 else told) 0, o, T.2.2) o).2 := ce2
      generalize gCallT B (gLeave (gPart M' o one) o (if told = 0 then 10 else told) 0, o, T.2.2) o = T2 at ce2 f1 f2 ⊢
      generalize gCallT B (gLeave (gPart T.1 o one) o (if told = 0 then 10 else told) 0, o, T.2.2) o = T1 at ce2 f1 f2 e6 ⊢
      rw [f1, ce2]
      exact ih (T := ((gEndClose T1.1 o).2, T1.2)) o _ m _ (by omega) e6 f2
theorem close_ans {B : gB} {M M' : gM} {g : Int32} (hB : IB B) (h : IVR B M) (ht : gAt g < cN M) (h4 : gf M (gAt g) 4 = 0) (e : gEq M M') : (gClose B M' g).1 = (gClose B M g).1 ∧ gEq (gClose B M g).2 (gClose B M' g).2 := by
  unfold gClose
  dsimp only
  rw [e.over ht, e.f ht]
  by_cases q : gOver M (gAt g) = true
  · simp only [if_pos q]
    exact ⟨trivial, e⟩
  · simp only [if_neg q]
    have qf : gOver M (gAt g) = false := by simpa using q
    by_cases z : gf M (gAt g) 5 = 0
    · simp only [if_pos z]
      exact ⟨trivial, e.end _ _ rfl⟩
    · simp only [if_neg z]
      obtain ⟨n, hn, hI, hc⟩ := cu_first hB h ht h4 qf
      rw [inm_eq h.1 e 24 _ ht]
      have ce := callT_eq hB hI (M' := gLeave M' (gInmost M 24 (gAt g)) 10 0) (e.leave _ rfl rfl)
      obtain ⟨ce1, ce2⟩ := ce
      have ho : gInmost M 24 (gAt g) < cN (gCallT B (gLeave M (gInmost M 24 (gAt g)) 10 0, gInmost M 24 (gAt g), (-1, 0), false, false) (gInmost M 24 (gAt g))).1 := by
        have := hc.2.2.1
        have hcc : cN (gEndClose (gCallT B (gLeave M (gInmost M 24 (gAt g)) 10 0, gInmost M 24 (gAt g), (-1, 0), false, false) (gInmost M 24 (gAt g))).1 (gInmost M 24 (gAt g))).2 = cN (gCallT B (gLeave M (gInmost M 24 (gAt g)) 10 0, gInmost M 24 (gAt g), (-1, 0), false, false) (gInmost M 24 (gAt g))).1 := endClose_cn
        rw [← hcc]
        exact this
      obtain ⟨f1, f2⟩ := endClose_eq ce1 ho
      have ce2 : (gCallT B (gLeave M' (gInmost M 24 (gAt g)) 10 0, gInmost M 24 (gAt g), (-1, 0), false, false) (gInmost M 24 (gAt g))).2 = (gCallT B (gLeave M (gInmost M 24 (gAt g)) 10 0, gInmost M 24 (gAt g), (-1, 0), false, false) (gInmost M 24 (gAt g))).2 := ce2
      generalize gCallT B (gLeave M (gInmost M 24 (gAt g)) 10 0, gInmost M 24 (gAt g), (-1, 0), false, false) (gInmost M 24 (gAt g)) = T1 at ce2 f1 f2 hc ⊢
      generalize gCallT B (gLeave M' (gInmost M 24 (gAt g)) 10 0, gInmost M 24 (gAt g), (-1, 0), false, false) (gInmost M 24 (gAt g)) = T2 at ce2 f1 f2 ⊢
      rw [f1, ce2]
      exact closeUp_eq (T := ((gEndClose T1.1 (gInmost M 24 (gAt g))).2, T1.2)) hB ht h4 24 _ _ n _ hn hc f2
