/-! RESUME and THROW: the model's invariants, and against the model -/
theorem gKq.low {M M' : gM} {t : Int32} {top low : Nat} (h : gKq M M' t top) (hl : low ≤ top) : gKq M M' t low := ⟨h.1, h.2.1, h.2.2.1, h.2.2.2.1, fun e k hk hkt => h.2.2.2.2 e k hk (by omega)⟩
/-- the top one is over, and belongs to none: all rest -/
theorem IVC.done {B : gB} {T : gT} {top : Nat} (h : IVC B T top) (ho : gOver T.1 top = true) (h4 : gf T.1 top 4 ≠ 2) : IV0 B T.1 ∧ IRest T.1 := by
  obtain ⟨-, e⟩ := h.rest ho
  have h24 := h.1.2.1
  refine ⟨h.1, fun k hk => ⟨(e k hk).1, fun j hj w => ?_⟩⟩
  rcases (e k hk).2 j hj w with q | q
  · subst q
    obtain ⟨i, d1, d2, d3, d4, -⟩ := (h.1.2.2 k hk).2.2 (by rw [w]; exact n_neg (by omega))
    have : i = j := n_inj (by omega) (by omega) (d1.symm.trans w)
    subst this
    exact absurd d4 h4
  · exact q
/-- a generator's call of goOn -/
theorem gen_ok {B : gB} {M : gM} {top deep : Nat} {x : gCo} (hB : IB B) (h : IVR B M) (ht : top < cN M) (h4 : gf M top 4 = 0) (hd : deep = gInmost M 24 top) (hx1 : sameC x (M.1 deep)) (hx : okX x) (h5 : x.1 5 = 2 ∨ x.1 5 = 3 ∨ x.1 5 = 4) (ho : gOver M deep = false) :
    IVC B (gCoS M deep x, deep, (-1, 0), false, false) top ∧ IVR B (gCall B (gCoS M deep x) (-1) top deep) ∧ gKq M (gCall B (gCoS M deep x) (-1) top deep) (-1) top ∧ (gf (gCall B (gCoS M deep x) (-1) top deep) top 5 = 1 ∨ gf (gCall B (gCoS M deep x) (-1) top deep) top 5 = 3 ∨ gf (gCall B (gCoS M deep x) (-1) top deep) top 5 = 4) := by
  obtain ⟨hp, hdn, hd9, hdd⟩ := inm_ok h.1 24 top (by omega) ht
  rw [← hd] at hp hdn hd9 hdd
  have hI : IVC B (gCoS M deep x, deep, (-1, 0), false, false) top := enter h.1 h.2.1.semi hdn hd9 hp h.2.2 ⟨ht, Or.inr ⟨by rw [h4]; decide, rfl⟩⟩ hx1 hx h5 ⟨by decide, by decide⟩
  have htd : top ≤ deep := by rcases hdd with q | q <;> omega
  have k0 : gKq M (gCoS M deep x) (-1) top := (gKp.rf.co (hx1 3 (by omega) (by omega) (by omega) (by omega)) (hx1 4 (by omega) (by omega) (by omega) (by omega)) (hx1 16 (by omega) (by omega) (by omega) (by omega))).q2 ho htd
  obtain ⟨g1, g2, g3⟩ := call_ok hB hI
  have e : gCall B (gCoS M deep x) (-1) top deep = (gCallT B (gCoS M deep x, deep, (-1, 0), false, false) top).1 := rfl
  rw [e]
  generalize gCallT B (gCoS M deep x, deep, (-1, 0), false, false) top = T' at g1 g2 g3 ⊢
  have g1 : gKq (gCoS M deep x) T'.1 (-1) top := g1
  have g2 : T'.2.2.1.1 = -1 := g2
  refine ⟨hI, ?_, k0.tr g1, ?_⟩
  · rcases g3 with ⟨a, b, -⟩ | ⟨a, b, e⟩
    · exact b
    · have s4 : gf T'.1 top 4 = 0 := (g1.2.2.2.1 top ht).2.1.trans ((k0.2.2.2.1 top ht).2.1.trans h4)
      obtain ⟨d1, d2⟩ := e.done b (by rw [s4]; decide)
      have := e.2.2.2.1
      rw [g2] at this
      exact ⟨d1, d2, this⟩
  · rcases g3 with ⟨a, b, -, e, -⟩ | ⟨a, b, e⟩
    · exact Or.inl e
    · unfold gOver at b
      simp only [Bool.or_eq_true, beq_iff_eq] at b
      exact Or.inr b
theorem deep_ok {B : gB} {M : gM} {top : Nat} (h : IVR B M) (ht : top < cN M) (ho : gOver M top = false) : gInmost M 24 top < cN M ∧ gOver M (gInmost M 24 top) = false ∧ (gf M (gInmost M 24 top) 5 = 0 ∨ gf M (gInmost M 24 top) 5 = 1) ∧ okX (M.1 (gInmost M 24 top)) ∧ top ≤ gInmost M 24 top := by
  obtain ⟨hp, hdn, hd9, hdd⟩ := inm_ok h.1 24 top (by omega) ht
  have hR := (h.1.2.2 _ hdn).1
  have h2 := (h.2.1 _ hdn).1
  have s : gOver M (gInmost M 24 top) = false := by
    rcases hdd with q | ⟨q1, q2, o, q3, q4, q5⟩
    · rw [q]; exact ho
    · unfold gOver
      rw [(h.2.1 o (by omega)).2 _ hdn q5]
      rfl
  refine ⟨hdn, s, ?_, hR.1, by rcases hdd with q | q <;> omega⟩
  rcases hR.2.2.1 with q | q | q | q | q
  · exact Or.inl q
  · exact Or.inr q
  · exact absurd q h2
  · unfold gOver at s; rw [show gf M _ 5 = 3 from q] at s; cases s
  · unfold gOver at s; rw [show gf M _ 5 = 4 from q] at s; cases s
/-- what resume's way into goOn makes of the inmost one -/
def cRes (x : gCo) (v : Int32) : gCo := if x.1 5 = 0 then cGo x 0 else cGo (cF x 7 v) (x.1 6 + 1)
theorem cRes_ok {x : gCo} {v : Int32} (hx : okX x) (hv : okT v) : okX (cRes x v) ∧ sameC (cRes x v) x ∧ (cRes x v).1 5 = 2 := by
  have no : ∀ {P : Prop}, ((2 : Int32) = 3 ∨ (2 : Int32) = 4) → P := fun z => absurd z (by decide)
  unfold cRes
  split
  · exact ⟨⟨hx.1, hx.2.1, hx.2.2.1, fun z => no z, fun z => no (Or.inr z)⟩, (sameC.F (Or.inr (Or.inl rfl))).tr (sameC.F (Or.inl rfl)), rfl⟩
  · exact ⟨⟨hv, hx.2.1, hx.2.2.1, fun z => no z, fun z => no (Or.inr z)⟩, ((sameC.F (Or.inr (Or.inl rfl))).tr (sameC.F (Or.inl rfl))).tr (sameC.F (Or.inr (Or.inr (Or.inl rfl)))), rfl⟩
theorem res_co {M : gM} {n : Nat} {v : Int32} : (if gf M n 5 = 0 then gGo M n 0 else gGo (gfS M n 7 v) n (gf (gfS M n 7 v) n 6 + 1)) = gCoS M n (cRes (M.1 n) v) := by
  unfold cRes
  show (if (M.1 n).1 5 = 0 then _ else _) = _
  by_cases q : (M.1 n).1 5 = 0
  · rw [if_pos q, if_pos q, go_co]
  · rw [if_neg q, if_neg q, go_co, co_F, co_co, co_at, gf_co, if_pos rfl]
    rfl
theorem resume_eq {B : gB} {M : gM} {g v : Int32} : gResume B M g v = (gTold (gCall B (gCoS M (gInmost M 24 (gAt g)) (cRes (M.1 (gInmost M 24 (gAt g))) v)) (-1) (gAt g) (gInmost M 24 (gAt g))) (gAt g), gCall B (gCoS M (gInmost M 24 (gAt g)) (cRes (M.1 (gInmost M 24 (gAt g))) v)) (-1) (gAt g) (gInmost M 24 (gAt g))) := by
  rw [← res_co]
  rfl
theorem throw_eq {B : gB} {M : gM} {g k : Int32} : gThrow B M g k = (gTold (gCall B (gCoS M (gInmost M 24 (gAt g)) (cLeave (M.1 (gInmost M 24 (gAt g))) k 0)) (-1) (gAt g) (gInmost M 24 (gAt g))) (gAt g), gCall B (gCoS M (gInmost M 24 (gAt g)) (cLeave (M.1 (gInmost M 24 (gAt g))) k 0)) (-1) (gAt g) (gInmost M 24 (gAt g))) := by
  rw [← leave_co]
  rfl
/-- what is told: isGiven's words -/
def okGiven (M : gM) (top : Nat) (g : Int32) : Prop := (gf M top 5 = 1 ∧ okT g) ∨ (gf M top 5 = 3 ∧ g = -20000) ∨ (gf M top 5 = 4 ∧ g = -20000 - gf M top 7 ∧ okW (gf M top 7))
theorem told_ok {B : gB} {M : gM} {top : Nat} (h : IV0 B M) (ht : top < cN M) (h5 : gf M top 5 = 1 ∨ gf M top 5 = 3 ∨ gf M top 5 = 4) : okGiven M top (gTold M top) := by
  unfold okGiven gTold
  rcases h5 with q | q | q
  · obtain ⟨-, hn, -⟩ := inm_ok h 24 top (by omega) ht
    rw [if_neg (by rw [q]; decide), if_neg (by rw [q]; decide)]
    exact Or.inl ⟨q, (h.2.2 _ hn).1.1.1⟩
  · rw [if_pos q]
    exact Or.inr (Or.inl ⟨q, rfl⟩)
  · rw [if_neg (by rw [q]; decide), if_pos q]
    exact Or.inr (Or.inr ⟨q, rfl, (h.2.2 _ ht).1.1.2.2.2.2 q⟩)
theorem resume_ok {B : gB} {M : gM} {g v : Int32} (hB : IB B) (h : IVR B M) (ht : gAt g < cN M) (h4 : gf M (gAt g) 4 = 0) (ho : gOver M (gAt g) = false) (hv : okT v) : IVR B (gResume B M g v).2 ∧ gKq M (gResume B M g v).2 (-1) 0 ∧ okGiven (gResume B M g v).2 (gAt g) (gResume B M g v).1 := by
  obtain ⟨d1, d2, d3, d4, d5⟩ := deep_ok h ht ho
  obtain ⟨x1, x2, x3⟩ := cRes_ok (v := v) d4 hv
  rw [resume_eq]
  obtain ⟨-, a, b, e⟩ := gen_ok hB h ht h4 rfl x2 x1 (Or.inl x3) d2
  exact ⟨a, b.low (Nat.zero_le _), told_ok a.1 (Nat.lt_of_lt_of_le ht b.1) e⟩
theorem throw_ok {B : gB} {M : gM} {g k : Int32} (hB : IB B) (h : IVR B M) (ht : gAt g < cN M) (h4 : gf M (gAt g) 4 = 0) (ho : gOver M (gAt g) = false) (hk : okW k) : IVR B (gThrow B M g k).2 ∧ gKq M (gThrow B M g k).2 (-1) 0 ∧ okGiven (gThrow B M g k).2 (gAt g) (gThrow B M g k).1 := by
  obtain ⟨d1, d2, d3, d4, d5⟩ := deep_ok h ht ho
  obtain ⟨x1, x2, -, x3⟩ := cLeave_ok (way := k) (val := 0) (Or.inl hk) d4
  rw [throw_eq]
  obtain ⟨-, a, b, e⟩ := gen_ok hB h ht h4 rfl x2 x1 (by rcases x3 with q | q; exact Or.inl q.1; exact Or.inr q.1) d2
  exact ⟨a, b.low (Nat.zero_le _), told_ok a.1 (Nat.lt_of_lt_of_le ht b.1) e⟩
theorem r_told {c n : Nat} {μ : MM} {M : gM} (h : tM c μ M) (hn : n ≤ 24) : fX3_toldOf c (tCo c n) μ = some (gTold M n, μ) := by
  have e5 : mI μ (tCo c n) 5 = gf M n 5 := h.rd hn (by omega) (by omega) (by omega)
  have e7 : mI μ (tCo c n) 7 = gf M n 7 := h.rd hn (by omega) (by omega) (by omega)
  unfold fX3_toldOf gTold
  rw [if_pos (h.lay hn).1, e5, e7]
  by_cases q : gf M n 5 = 3
  · rw [if_pos q, if_pos q]
  · rw [if_neg q, if_neg q]
    by_cases w : gf M n 5 = 4
    · rw [if_pos w, if_pos w]
    · rw [if_neg w, if_neg w, r_inmost h hn]
      simp only [Option.bind_some]
      have hk := gIn_le (M := M) 24 n hn
      rw [if_pos (h.lay hk).1, show mI μ (tCo c (gInmost M 24 n)) 7 = gf M (gInmost M 24 n) 7 from h.rd hk (by omega) (by omega) (by omega)]
/-- a generator's call of goOn, and what is told -/
theorem r_gen {c d top deep : Nat} {μ : MM} {B : gB} {M : gM} (hB : IB B) (hd : d + 38 ≤ c ∨ c + 131 ≤ d) (hm : tM c μ M) (hb : tB d μ B) (h0 : mP μ c 0 = d) (h9 : mI μ c 9 = -1) (h10 : mI μ c 10 = 0) (h11 : mI μ c 11 = 0) (ht : top ≤ 24) (hI : IVC B (M, deep, (-1, 0), false, false) top) :
    ∃ ν, fX3_goOn c (tCo c top) (tCo c deep) μ = some ν ∧ fX3_toldOf c (tCo c top) ν = some (gTold (gCall B M (-1) top deep) top, ν) ∧ tM c ν (gCall B M (-1) top deep) ∧ tF c μ ν := by
  obtain ⟨ν, e, t1, -, F1⟩ := r_goOn (T := (M, deep, (-1, 0), false, false)) hB hd hI hm hb h0 h9 h10 h11
  exact ⟨ν, e, r_told t1 ht, t1, F1⟩
theorem r_resume {c d : Nat} {μ : MM} {B : gB} {M : gM} {g v : Int32} (hB : IB B) (hd : d + 38 ≤ c ∨ c + 131 ≤ d) (hm : tM c μ M) (hb : tB d μ B) (h0 : mP μ c 0 = d) (h : IVR B M) (ht : gAt g < cN M) (h4 : gf M (gAt g) 4 = 0) (ho : gOver M (gAt g) = false) (hv : okT v) :
    ∃ ν, fX3_resumeWith c g v μ = some ((gResume B M g v).1, ν) ∧ tM c ν (gResume B M g v).2 ∧ tF c μ ν := by
  obtain ⟨d1, d2, d3, d4, d5⟩ := deep_ok h ht ho
  obtain ⟨x1, x2, x3⟩ := cRes_ok (v := v) d4 hv
  obtain ⟨hI, -⟩ := gen_ok hB h ht h4 rfl x2 x1 (Or.inl x3) d2
  have hk := gAt_le g
  have hn := gIn_le (M := M) 24 (gAt g) hk
  rw [resume_eq]
  rw [← res_co] at hI ⊢
  unfold fX3_resumeWith
  rw [r_at hm.1]
  simp only [Option.bind_some]
  rw [r_inmost hm hk]
  simp only [Option.bind_some]
  obtain ⟨ν, e, t1, F1, y9, y10, y11⟩ := r_begin hm (-1)
  rw [e]
  simp only [Option.bind_some]
  rw [if_pos (hm.lay hn).1, show mI ν (tCo c (gInmost M 24 (gAt g))) 5 = gf M (gInmost M 24 (gAt g)) 5 from t1.rd hn (by omega) (by omega) (by omega)]
  by_cases q : gf M (gInmost M 24 (gAt g)) 5 = 0
  · rw [if_pos q] at hI ⊢
    rw [if_pos q]
    obtain ⟨ω, e2, t2, F2, T2⟩ := r_go t1 hn 0
    obtain ⟨θ, e3, e4, t3, F3⟩ := r_gen hB hd t2 (hb.fr (F1.tr F2) hd) (((F1.tr F2).2.2.2.2 c 0 (by omega)).trans h0) ((T2.1 9 (by omega)).trans y9) ((T2.1 10 (by omega)).trans y10) ((T2.1 11 (by omega)).trans y11) hk hI
    refine ⟨θ, ?_, t3, (F1.tr F2).tr F3⟩
    rw [e2]
    simp only [Option.bind_some]
    rw [e3]
    simp only [Option.bind_some]
    rw [e4]
    rfl
  · rw [if_neg q] at hI ⊢
    rw [if_neg q]
    obtain ⟨u1, u2, u3⟩ := r_F t1 hn 7 v (by omega) (by omega) (by omega)
    obtain ⟨ω, e2, t2, F2, T2⟩ := r_go u1 hn (gf (gfS M (gInmost M 24 (gAt g)) 7 v) (gInmost M 24 (gAt g)) 6 + 1)
    obtain ⟨θ, e3, e4, t3, F3⟩ := r_gen hB hd t2 (hb.fr ((F1.tr u2).tr F2) hd) ((((F1.tr u2).tr F2).2.2.2.2 c 0 (by omega)).trans h0) (((u3.tr T2).1 9 (by omega)).trans y9) (((u3.tr T2).1 10 (by omega)).trans y10) (((u3.tr T2).1 11 (by omega)).trans y11) hk hI
    refine ⟨θ, ?_, t3, ((F1.tr u2).tr F2).tr F3⟩
    dsimp only [st]
    rw [show mI (sI ν (tCo c (gInmost M 24 (gAt g))) 7 v) (tCo c (gInmost M 24 (gAt g))) 6 = gf (gfS M (gInmost M 24 (gAt g)) 7 v) (gInmost M 24 (gAt g)) 6 from u1.rd hn (by omega) (by omega) (by omega), e2]
    simp only [Option.bind_some]
    rw [e3]
    simp only [Option.bind_some]
    rw [e4]
    rfl
theorem r_throw {c d : Nat} {μ : MM} {B : gB} {M : gM} {g k : Int32} (hB : IB B) (hd : d + 38 ≤ c ∨ c + 131 ≤ d) (hm : tM c μ M) (hb : tB d μ B) (h0 : mP μ c 0 = d) (h : IVR B M) (ht : gAt g < cN M) (h4 : gf M (gAt g) 4 = 0) (ho : gOver M (gAt g) = false) (hw : okW k) :
    ∃ ν, fX3_throwInto c g k μ = some ((gThrow B M g k).1, ν) ∧ tM c ν (gThrow B M g k).2 ∧ tF c μ ν := by
  obtain ⟨d1, d2, d3, d4, d5⟩ := deep_ok h ht ho
  obtain ⟨x1, x2, -, x3⟩ := cLeave_ok (way := k) (val := 0) (Or.inl hw) d4
  obtain ⟨hI, -⟩ := gen_ok hB h ht h4 rfl x2 x1 (by rcases x3 with q | q; exact Or.inl q.1; exact Or.inr q.1) d2
  have hk := gAt_le g
  have hn := gIn_le (M := M) 24 (gAt g) hk
  have w0 : (0 : Int32).toInt = 0 := rfl
  rw [throw_eq]
  rw [← leave_co] at hI ⊢
  unfold fX3_throwInto
  rw [r_at hm.1]
  simp only [Option.bind_some]
  rw [r_inmost hm hk]
  simp only [Option.bind_some]
  obtain ⟨ν, e, t1, F1, y9, y10, y11⟩ := r_begin hm (-1)
  rw [e]
  simp only [Option.bind_some]
  rw [if_pos (hm.lay hn).1]
  obtain ⟨ω, e2, t2, F2, T2⟩ := r_leave t1 hn (way := k) (val := 0) (fun z => by have := Int32.le_iff_toInt_le.mp z; have := hw.1; omega) (fun z => absurd z hw.n4)
  obtain ⟨θ, e3, e4, t3, F3⟩ := r_gen hB hd t2 (hb.fr (F1.tr F2) hd) (((F1.tr F2).2.2.2.2 c 0 (by omega)).trans h0) ((T2.1 9 (by omega)).trans y9) ((T2.1 10 (by omega)).trans y10) ((T2.1 11 (by omega)).trans y11) hk hI
  refine ⟨θ, ?_, t3, (F1.tr F2).tr F3⟩
  rw [e2]
  simp only [Option.bind_some]
  rw [e3]
  simp only [Option.bind_some]
  rw [e4]
  rfl
