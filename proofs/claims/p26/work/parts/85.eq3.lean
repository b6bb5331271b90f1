theorem ask_eq {M M' : gM} {n : Int32} (e : gEq M M') (hn : gAt n < cN M) : (gAsk M' n).1 = (gAsk M n).1 ∧ gEq (gAsk M n).2 (gAsk M' n).2 := by
  unfold gAsk
  dsimp only
  rw [e.over hn, e.f hn, e.f hn, e.f hn, e.f hn]
  by_cases q : gOver M (gAt n) = true
  · rw [if_pos q, if_pos q]
    exact ⟨rfl, e⟩
  · rw [if_neg q, if_neg q]
    refine ⟨rfl, ?_⟩
    dsimp only
    have e1 := e.F (gAt n) 15 1
    split
    · have ea : gaq (gfS M' (gAt n) 15 1) = gaq (gfS M (gAt n) 15 1) := e1.aq
      have eb : grq (gfS M' (gAt n) 15 1) = grq (gfS M (gAt n) 15 1) := e1.rq
      rw [ea]
      exact (((e1.q9 rfl).F _ _ _).F _ _ _).q7 (by show gAdd (grq (gfS M' (gAt n) 15 1)) n = gAdd (grq (gfS M (gAt n) 15 1)) n; rw [eb])
    · exact e1
theorem gAsk_cn {M : gM} {n : Int32} : cN (gAsk M n).2 = cN M := by unfold cN; rw [gAsk_cnt]
theorem tellB_eq {t : Int32} {ov : Nat} : ∀ (i : Nat) (n : Int32) (M M' : gM), gcnt M = Int32.ofNat (cN M) → cN M ≤ 24 → 0 ≤ n → ov < cN M → gEq M M' → n.toInt + i ≤ 1000 → gEq (gTellB t ov i n M) (gTellB t ov i n M') := by
  intro i
  induction i with
  | zero => intro n M M' _ _ _ _ e _; exact e
  | succ i ih =>
    intro n M M' hc h24 hn ho e hb
    have hn0 := Int32.le_iff_toInt_le.mp hn
    have z0 : (0 : Int32).toInt = 0 := rfl
    have e1 : (n + 1).toInt = n.toInt + 1 := i_add (by show _ ≤ n.toInt + 1; omega) (by show n.toInt + 1 < _; omega)
    have hn1 : 0 ≤ n + 1 := Int32.le_iff_toInt_le.mpr (by omega)
    unfold gTellB
    rw [e.cnt, e.f ho]
    by_cases q : n < gcnt M ∧ gf M ov 5 = 4
    · rw [if_pos q, if_pos q, e.has hc h24]
      have hm : gMade M n = true := by unfold gMade; rw [decide_eq_true_eq]; exact ⟨hn, q.1⟩
      obtain ⟨m1, m2⟩ := made_at hc h24 hm
      rw [e.f m1]
      by_cases y : (gHas M n 1 && gf M (gAt n) 16 == t) = true
      · rw [if_pos y, if_pos y]
        exact ih (n + 1) _ _ (by rw [gAsk_cn, gAsk_cnt]; exact hc) (by rw [gAsk_cn]; exact h24) hn1 (by rw [gAsk_cn]; exact ho) (ask_eq e m1).2 (by rw [e1]; omega)
      · rw [if_neg y, if_neg y]
        exact ih (n + 1) _ _ hc h24 hn1 ho e (by rw [e1]; omega)
    · rw [if_neg q, if_neg q]
      exact e
theorem tellA_eq {t : Int32} : ∀ (rest place : Nat) (M M' : gM), cN M ≤ 24 → (∀ x ∈ gaq M, gAt x < cN M) → place + rest = (gaq M).length → gEq M M' → gEq (gTellA t rest place M) (gTellA t rest place M') ∧ gcnt (gTellA t rest place M) = gcnt M := by
  intro rest
  induction rest with
  | zero => intro place M M' _ _ _ e; exact ⟨e, rfl⟩
  | succ rest ih =>
    intro place M M' h24 hm hl e
    have hlt : place < (gaq M).length := by omega
    unfold gTellA
    rw [e.aq, List.getElem?_eq_getElem hlt]
    simp only [Option.getD_some]
    have hx := hm _ (List.getElem_mem hlt)
    generalize (gaq M)[place] = x at hx ⊢
    rw [e.f hx]
    by_cases q : gf M (gAt x) 13 = t
    · rw [if_pos q, if_pos q]
      have e1 : gEq (gfS (gaqS M ((gaq M).eraseIdx place)) (gAt x) 13 (-1)) (gfS (gaqS M' ((gaq M).eraseIdx place)) (gAt x) 13 (-1)) := (e.q9 rfl).F _ _ _
      have er : grq (gfS (gaqS M' ((gaq M).eraseIdx place)) (gAt x) 13 (-1)) = grq (gfS (gaqS M ((gaq M).eraseIdx place)) (gAt x) 13 (-1)) := e1.rq
      obtain ⟨a, b⟩ := ih place (grqS (gfS (gaqS M ((gaq M).eraseIdx place)) (gAt x) 13 (-1)) (gAdd (grq (gfS (gaqS M ((gaq M).eraseIdx place)) (gAt x) 13 (-1))) (gNum (gAt x)))) (grqS (gfS (gaqS M' ((gaq M).eraseIdx place)) (gAt x) 13 (-1)) (gAdd (grq (gfS (gaqS M' ((gaq M).eraseIdx place)) (gAt x) 13 (-1))) (gNum (gAt x)))) h24 (fun y hy => hm y (List.mem_of_mem_eraseIdx hy)) (by show place + rest = ((gaq M).eraseIdx place).length; rw [List.length_eraseIdx_of_lt hlt]; omega) (e1.q7 (by rw [er]))
      exact ⟨a, b⟩
    · rw [if_neg q, if_neg q]
      exact ih (place + 1) M M' h24 hm (by omega) e
theorem tell_eq {M M' : gM} {ov : Nat} (hc : gcnt M = Int32.ofNat (cN M)) (h24 : cN M ≤ 24) (hm : ∀ x ∈ gaq M, gAt x < cN M) (ho : ov < cN M) (e : gEq M M') : gEq (gTell M ov) (gTell M' ov) := by
  unfold gTell
  rw [e.aq]
  obtain ⟨a, b⟩ := tellA_eq (t := gNum ov) (gaq M).length 0 M M' h24 hm (Nat.zero_add _) e
  have cc : cN (gTellA (gNum ov) (gaq M).length 0 M) = cN M := by unfold cN; rw [b]
  exact tellB_eq 25 0 _ _ (by rw [b, cc]; exact hc) (by rw [cc]; exact h24) (by decide) (by rw [cc]; exact ho) a (by decide)
theorem begin_eq {B : gB} {M M' : gM} {p n : Nat} (h0 : IV0 B M) (hp : p < cN M) (hn : n < cN M) (h5 : gf M n 5 = 0 ∨ gf M n 5 = 1) (e : gEq M M') : gEq (gBegin B M (Int32.ofNat p) n) (gBegin B M' (Int32.ofNat p) n) := by
  have h24 := h0.2.1
  have ep : gAt (Int32.ofNat p) = p := n_at (by omega)
  unfold gBegin
  rw [e.f hn, e.takes (t := Int32.ofNat p) (by rw [ep]; exact hp)]
  by_cases q : gf M n 5 = 0
  · rw [if_pos q, if_pos q]
    exact e.go _ rfl
  · rw [if_neg q, if_neg q]
    by_cases y : gTakes M (Int32.ofNat p) = true
    · rw [if_pos y, if_pos y]
      exact (e.took _).leave _ rfl rfl
    · rw [if_neg y, if_neg y]
      have w : (gWake B M' n).1 = (gWake B M n).1 ∧ gEq (gWake B M n).2 (gWake B M' n).2 := by
        unfold gWake
        rw [e.line hn, e.f hn]
        by_cases k13 : (gAtLn B M n).1 = 13
        · rw [if_pos k13, if_pos k13]
          obtain ⟨-, -, -, -, w⟩ := (h0.2.2 n hn).1.2.2.2.1 (h5.resolve_left q)
          obtain ⟨j, ej, hj⟩ := w k13
          have ej : gf M n 7 = Int32.ofNat j := ej
          rw [ej, n_at (by omega)]
          exact outcome_eq e hn hj
        · rw [if_neg k13, if_neg k13]
          refine ⟨rfl, ?_⟩
          dsimp only
          exact (e.F _ _ _).go _ (by rw [(e.F n 7 0).f hn])
      dsimp only
      rw [w.1]
      split
      · exact w.2
      · exact w.2.leave _ rfl rfl
theorem turn_eq {B : gB} {M M' : gM} (hB : IB B) (h : IVR B M) (hne : (grq M).length ≠ 0) (e : gEq M M') : gEq (gTurn B M) (gTurn B M') := by
  cases hl : grq M with
  | nil => rw [hl] at hne; exact absurd rfl hne
  | cons y l =>
    obtain ⟨p, e1, e2, e3, e4, e5, e6, e7, e8, e9, hI, k1, k2⟩ := turn_in h hl
    have h24 := h.1.2.1
    have em : gEq (gtrnS (grqS M l) (gtrn M + 1)) (gtrnS (grqS M' l) (gtrn M + 1)) := by
      have := e.q7 (l := l) rfl
      exact ⟨by show ((gcnt M', gnow M', gtrn M + 1), l, gaq M') = ((gcnt M, gnow M, gtrn M + 1), l, gaq M); rw [e.cnt, e.now, e.aq], this.2⟩
    have c0 : cN (gtrnS (grqS M l) (gtrn M + 1)) = cN M := rfl
    have eT : ∀ N : gM, grq N = y :: l → gtrn N = gtrn M → gTurn B N = (if gOver (gCallT B (gBegin B (gtrnS (grqS N l) (gtrn M + 1)) (Int32.ofNat p) (gInmost (gtrnS (grqS N l) (gtrn M + 1)) 24 p), gInmost (gtrnS (grqS N l) (gtrn M + 1)) 24 p, (Int32.ofNat p, 0), false, false) p).1 p then gTell (gCallT B (gBegin B (gtrnS (grqS N l) (gtrn M + 1)) (Int32.ofNat p) (gInmost (gtrnS (grqS N l) (gtrn M + 1)) 24 p), gInmost (gtrnS (grqS N l) (gtrn M + 1)) 24 p, (Int32.ofNat p, 0), false, false) p).1 p else (gCallT B (gBegin B (gtrnS (grqS N l) (gtrn M + 1)) (Int32.ofNat p) (gInmost (gtrnS (grqS N l) (gtrn M + 1)) 24 p), gInmost (gtrnS (grqS N l) (gtrn M + 1)) 24 p, (Int32.ofNat p, 0), false, false) p).1) := fun N a b => by
      unfold gTurn gCall
      rw [a, b]
      simp only [List.getElem?_cons_zero, Option.getD_some, List.drop_one, List.tail_cons, e2, e3]
    rw [eT M hl rfl, eT M' (by rw [e.rq]; exact hl) e.trn, inm_eq e8 em 24 p e4]
    have eb := begin_eq (p := p) e8 e4 e6 e7 em
    have ce := callT_eq hB hI eb
    have g := call_ok hB hI
    generalize gCallT B (gBegin B (gtrnS (grqS M l) (gtrn M + 1)) (Int32.ofNat p) (gInmost (gtrnS (grqS M l) (gtrn M + 1)) 24 p), gInmost (gtrnS (grqS M l) (gtrn M + 1)) 24 p, (Int32.ofNat p, 0), false, false) p = T1 at ce g ⊢
    generalize gCallT B (gBegin B (gtrnS (grqS M' l) (gtrn M + 1)) (Int32.ofNat p) (gInmost (gtrnS (grqS M l) (gtrn M + 1)) 24 p), gInmost (gtrnS (grqS M l) (gtrn M + 1)) 24 p, (Int32.ofNat p, 0), false, false) p = T2 at ce ⊢
    have hpc : p < cN T1.1 := by
      have := g.1.1
      have := k1.1
      have hh : cN (gBegin B (gtrnS (grqS M l) (gtrn M + 1)) (Int32.ofNat p) (gInmost (gtrnS (grqS M l) (gtrn M + 1)) 24 p)) ≤ cN T1.1 := g.1.1
      omega
    rw [ce.1.over hpc]
    by_cases q : gOver T1.1 p = true
    · rw [if_pos q, if_pos q]
      rcases g.2.2 with ⟨a, b, c, -⟩ | ⟨a, b, c⟩
      · rw [c] at q; cases q
      · refine tell_eq c.1.1 c.1.2.1 (fun x hx => ?_) hpc ce.1
        obtain ⟨k, k1, k2, -⟩ := c.2.2.2.1.2.2.1.2 x hx
        have := c.1.2.1
        rw [k1, n_at (by omega)]
        exact k2
    · rw [if_neg q, if_neg q]
      exact ce.1
theorem turns_eq {B : gB} (hB : IB B) : ∀ (i : Nat) (M M' : gM), IVR B M → gEq M M' → gEq (gTurns B i M) (gTurns B i M') := by
  intro i
  induction i with
  | zero => intro M M' _ e; exact e
  | succ i ih =>
    intro M M' h e
    unfold gTurns
    rw [e.rq]
    by_cases q : (grq M).length = 0
    · rw [if_pos q, if_pos q]
      exact e
    · rw [if_neg q, if_neg q]
      exact ih _ _ (turn_ok hB h q).1 (turn_eq hB h q e)
/-- invariants speak of what was made alone -/
theorem gEq.IVR {B : gB} {M M' : gM} (e : gEq M M') (h : IVR B M) : IVR B M' := by
  obtain ⟨h0, hr, hq⟩ := h
  have cc := e.cn
  refine ⟨⟨by rw [cc, e.cnt]; exact h0.1, by rw [cc]; exact h0.2.1, fun k hk => ?_⟩, fun k hk => ?_, hq.fr cc e.now e.rq e.aq fun k hk => ⟨e.f hk _, e.f hk _, e.f hk _, e.over hk⟩⟩
  · rw [cc] at hk ⊢
    obtain ⟨a1, a2, a3⟩ := h0.2.2 k hk
    rw [e.2 k hk]
    refine ⟨a1, a2, fun q => ?_⟩
    rw [e.f hk] at q ⊢
    obtain ⟨j, d1, d2, d3, d4, d5, d6⟩ := a3 q
    exact ⟨j, d1, d2, by rw [cc]; exact d3, by rw [e.f d3]; exact d4, by rw [e.f d3]; exact d5, by rw [e.f d3, e.line hk]; exact d6⟩
  · rw [cc] at hk
    obtain ⟨a, b⟩ := hr k hk
    refine ⟨by rw [e.f hk]; exact a, fun j hj w => ?_⟩
    rw [cc] at hj
    rw [e.f hk] at w
    rw [e.f hj]
    exact b j hj w
theorem gCopy_eq {M M2 : gM} : gEq M (gCopy M M2 (cN M)) := ⟨rfl, fun k hk => by unfold gCopy; dsimp only; rw [if_pos hk]⟩
