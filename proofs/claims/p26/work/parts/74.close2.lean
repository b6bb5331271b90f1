/-! CLOSE against the model -/
theorem tCo_inj {c n k : Nat} (hn : n ≤ 24) (hk : k ≤ 24) (h : tCo c n = tCo c k) : n = k := Classical.byContradiction fun z => by
  have := tCo_ne (c := c) z hn hk
  omega
theorem r_endClose {c n : Nat} {μ : MM} {M : gM} (h : tM c μ M) (hn : n ≤ 24) : ∃ ν, fX3_endClose c (tCo c n) μ = some ((gEndClose M n).1, ν) ∧ tM c ν (gEndClose M n).2 ∧ tF c μ ν ∧ tT c μ ν := by
  have hk := (h.lay hn).1
  have tail : ∀ {ν : MM} {N : gM}, tM c ν N → bX3_endClose_23 (tCo c n) ν = some (if gf N n 5 = 3 then 0 else if gf N n 5 = 4 then gf N n 7 else 8, ν) := fun {ν N} t => by
    have e5 : mI ν (tCo c n) 5 = gf N n 5 := t.rd hn (by omega) (by omega) (by omega)
    have e7 : mI ν (tCo c n) 7 = gf N n 7 := t.rd hn (by omega) (by omega) (by omega)
    unfold bX3_endClose_23
    rw [if_pos (t.lay hn).1, e5, e7]
    by_cases q : gf N n 5 = 3
    · rw [if_pos q, if_pos q]
    · rw [if_neg q, if_neg q]
      by_cases w : gf N n 5 = 4
      · rw [if_pos w, if_pos w]
      · rw [if_neg w, if_neg w]
  have e5 : mI μ (tCo c n) 5 = gf M n 5 := h.rd hn (by omega) (by omega) (by omega)
  have e7 : mI μ (tCo c n) 7 = gf M n 7 := h.rd hn (by omega) (by omega) (by omega)
  unfold fX3_endClose gEndClose
  rw [if_pos hk, e5, e7]
  by_cases q : gf M n 5 = 4
  · rw [if_pos q]
    by_cases w : gf M n 7 = 10
    · rw [if_pos w]
      simp only [if_pos (show gf M n 5 = 4 ∧ gf M n 7 = 10 from ⟨q, w⟩)]
      obtain ⟨ν, e, t1, F1, T1⟩ := r_end h hn 3 0
      rw [e]
      exact ⟨ν, tail t1, t1, F1, T1⟩
    · rw [if_neg w]
      simp only [if_neg (show ¬ (gf M n 5 = 4 ∧ gf M n 7 = 10) from fun z => w z.2)]
      exact ⟨μ, tail h, h, tF.rf, tT.rf⟩
  · rw [if_neg q]
    simp only [if_neg (show ¬ (gf M n 5 = 4 ∧ gf M n 7 = 10) from fun z => q z.1)]
    exact ⟨μ, tail h, h, tF.rf, tT.rf⟩
theorem r_closeUpL {c d top : Nat} {B : gB} {M0 : gM} (hB : IB B) (hd : d + 38 ≤ c ∨ c + 131 ≤ d) (ht : top < cN M0) (ht2 : top ≤ 24) (h4 : gf M0 top 4 = 0) : ∀ (i f x : Nat) (T : gT) (one : Nat) (told : Int32) (n : Nat) (μ : MM), n ≤ i → x + i = 24 → i < f → CU B M0 top T one told n → tM c μ T.1 → tB d μ B → mP μ c 0 = d → mI μ c 9 = T.2.2.1.1 → mI μ c 10 = T.2.2.1.2 → mI μ c 11 = (if T.2.2.2.1 then 1 else 0) →
    ∃ ν, lX3_closeAll_63 f c (tCo c top) (tCo c one) told (Int32.ofNat x) μ = some ((gCloseUp B top i T one told).1, ν) ∧ tM c ν (gCloseUp B top i T one told).2 ∧ tF c μ ν := by
  intro i
  induction i with
  | zero =>
    intro f x T one told n μ hn hx hf h hm _ _ _ _ _
    obtain ⟨f, rfl⟩ : ∃ g, f = g + 1 := ⟨f - 1, by omega⟩
    refine ⟨μ, ?_, hm, tF.rf⟩
    show bX3_closeAll_63 _ c (tCo c top) (tCo c one) told (Int32.ofNat x) μ = _
    unfold bX3_closeAll_63
    rw [if_pos (by have : x = 24 := by omega
                   subst this; decide)]
    rfl
  | succ i ih =>
    intro f x T one told n μ hn hx hf h hm hb h0 h9 h10 h11
    obtain ⟨f, rfl⟩ : ∃ g, f = g + 1 := ⟨f - 1, by omega⟩
    have h24 := h.1.2.1
    have hon := h.2.2.1
    have z : ¬ (24 : Int32) ≤ Int32.ofNat x := by
      have := mt (g_le (a := 24) (b := x) (by omega) (by omega)).mp (by omega)
      exact this
    show ∃ ν, bX3_closeAll_63 (fun h0 h2 h3 x4 x5 μ => lX3_closeAll_63 f h0 h2 h3 x4 x5 μ) c (tCo c top) (tCo c one) told (Int32.ofNat x) μ = _ ∧ _
    unfold bX3_closeAll_63 gCloseUp
    rw [if_neg z]
    by_cases q : one = top
    · rw [if_pos (by rw [q]), if_pos q]
      exact ⟨μ, rfl, hm, tF.rf⟩
    · rw [if_neg (fun e => q (tCo_inj (by omega) ht2 e)), if_neg q, if_pos (hm.lay (by omega)).1, if_pos hm.1.1.1, show mI μ (tCo c one) 10 = gf T.1 one 10 from hm.rd (by omega) (by omega) (by omega) (by omega), r_at hm.1]
      simp only [Option.bind_some]
      obtain ⟨o, m, e1, e2, e3, e4, e5, e6⟩ := cu_step hB h q (gKq.s4 h ht h4)
      simp only [e3]
      obtain ⟨μ1, f1, t1, F1, T1⟩ := r_part hm (show o ≤ 24 by omega) (show one ≤ 24 by omega)
      rw [f1]
      simp only [Option.bind_some]
      have w0 : (0 : Int32).toInt = 0 := rfl
      obtain ⟨μ2, f2, t2, F2, T2⟩ := r_leave t1 (show o ≤ 24 by omega) (way := if told = 0 then 10 else told) (val := 0) (fun y => by have := Int32.le_iff_toInt_le.mp y; have := e4.1; omega) (fun y => absurd y e4.n4)
      have F12 := F1.tr F2
      have T12 := T1.tr T2
      obtain ⟨μ3, f3, t3, X3, F3⟩ := r_goOn (T := (gLeave (gPart T.1 o one) o (if told = 0 then 10 else told) 0, o, T.2.2)) hB hd e5 t2 (hb.fr F12 hd) ((F12.2.2.2.2 c 0 (by omega)).trans h0) ((T12.1 9 (by omega)).trans h9) ((T12.1 10 (by omega)).trans h10) ((T12.1 11 (by omega)).trans h11)
      obtain ⟨μ4, f4, t4, F4, T4⟩ := r_endClose t3 (show o ≤ 24 by omega)
      have FF := (F12.tr F3).tr F4
      generalize hT' : gCallT B (gLeave (gPart T.1 o one) o (if told = 0 then 10 else told) 0, o, T.2.2) o = T' at *
      obtain ⟨x1, x2, x3, x4, x5⟩ := X3
      obtain ⟨ν, g1, g2, g3⟩ := ih f (x + 1) _ o _ m μ4 (by omega) (by omega) (by omega) e6 t4 (hb.fr FF hd) ((FF.2.2.2.2 c 0 (by omega)).trans h0) ((T4.1 9 (by omega)).trans x2) ((T4.1 10 (by omega)).trans x3) ((T4.1 11 (by omega)).trans x4)
      refine ⟨ν, ?_, g2, FF.tr g3⟩
      rw [g_suc]
      by_cases y : told = 0
      · rw [if_pos y] at f2
        rw [if_pos y, if_pos (hm.lay (show o ≤ 24 by omega)).1, f2]
        simp only [Option.bind_some]
        rw [f3]
        simp only [Option.bind_some]
        rw [f4]
        exact g1
      · rw [if_neg y] at f2
        rw [if_neg y, if_pos (hm.lay (show o ≤ 24 by omega)).1, f2]
        simp only [Option.bind_some]
        rw [f3]
        simp only [Option.bind_some]
        rw [f4]
        exact g1
theorem r_close {c d : Nat} {μ : MM} {B : gB} {M : gM} {g : Int32} (hB : IB B) (hd : d + 38 ≤ c ∨ c + 131 ≤ d) (hm : tM c μ M) (hb : tB d μ B) (h0 : mP μ c 0 = d) (h : IVR B M) (ht : gAt g < cN M) (h4 : gf M (gAt g) 4 = 0) :
    ∃ ν, fX3_closeAll c g μ = some ((gClose B M g).1, ν) ∧ tM c ν (gClose B M g).2 ∧ tF c μ ν := by
  have hk := gAt_le g
  have hn := gIn_le (M := M) 24 (gAt g) hk
  unfold fX3_closeAll gClose
  rw [r_at hm.1]
  simp only [Option.bind_some]
  rw [if_pos (hm.lay hk).1, f_over hm hk]
  simp only [Option.bind_some]
  cases q : gOver M (gAt g) with
  | true =>
    rw [if_neg b1]
    simp only [if_true]
    exact ⟨μ, rfl, hm, tF.rf⟩
  | false =>
    rw [if_pos b0]
    simp only [Bool.false_eq_true, if_false]
    rw [show mI μ (tCo c (gAt g)) 5 = gf M (gAt g) 5 from hm.rd hk (by omega) (by omega) (by omega)]
    by_cases z : gf M (gAt g) 5 = 0
    · rw [if_pos z]
      simp only [if_pos z]
      obtain ⟨ν, e, t1, F1, T1⟩ := r_end hm hk 3 0
      rw [e]
      exact ⟨ν, rfl, t1, F1⟩
    · rw [if_neg z]
      simp only [if_neg z]
      obtain ⟨n, hn24, hI, hc⟩ := cu_first hB h ht h4 q
      obtain ⟨μ1, f1, t1, F1, y9, y10, y11⟩ := r_begin hm (-1)
      rw [f1]
      simp only [Option.bind_some]
      rw [r_inmost t1 hk]
      simp only [Option.bind_some]
      rw [if_pos (hm.lay hn).1]
      obtain ⟨μ2, f2, t2, F2, T2⟩ := r_leave t1 hn (way := 10) (val := 0) (fun y => absurd y (by decide)) (fun y => absurd y (by decide))
      have F12 := F1.tr F2
      obtain ⟨μ3, f3, t3, X3, F3⟩ := r_goOn (T := (gLeave M (gInmost M 24 (gAt g)) 10 0, gInmost M 24 (gAt g), (-1, 0), false, false)) hB hd hI t2 (hb.fr F12 hd) ((F12.2.2.2.2 c 0 (by omega)).trans h0) ((T2.1 9 (by omega)).trans y9) ((T2.1 10 (by omega)).trans y10) ((T2.1 11 (by omega)).trans y11)
      obtain ⟨μ4, f4, t4, F4, T4⟩ := r_endClose t3 hn
      have FF := (F12.tr F3).tr F4
      generalize hT' : gCallT B (gLeave M (gInmost M 24 (gAt g)) 10 0, gInmost M 24 (gAt g), (-1, 0), false, false) (gInmost M 24 (gAt g)) = T' at *
      obtain ⟨x1, x2, x3, x4, x5⟩ := X3
      obtain ⟨ν, g1, g2, g3⟩ := r_closeUpL hB hd ht hk h4 24 FU 0 _ _ _ n μ4 hn24 rfl (by unfold FU; omega) hc t4 (hb.fr FF hd) ((FF.2.2.2.2 c 0 (by omega)).trans h0) ((T4.1 9 (by omega)).trans x2) ((T4.1 10 (by omega)).trans x3) ((T4.1 11 (by omega)).trans x4)
      refine ⟨ν, ?_, g2, FF.tr g3⟩
      rw [f2]
      simp only [Option.bind_some]
      rw [f3]
      simp only [Option.bind_some]
      rw [f4]
      exact g1
