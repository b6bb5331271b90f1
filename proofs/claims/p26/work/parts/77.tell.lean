/-! those that await one that is over, and those that it spawned -/
theorem nd_get {l : List Int32} (h : l.Nodup) {i j : Nat} {x : Int32} (hi : l[i]? = some x) (hj : l[j]? = some x) : i = j := by
  induction l generalizing i j with
  | nil => simp at hi
  | cons y r ih =>
    rw [List.nodup_cons] at h
    cases i with
    | zero =>
      cases j with
      | zero => rfl
      | succ j =>
        simp at hi hj
        subst hi
        exact absurd (List.mem_of_getElem? hj) h.1
    | succ i =>
      cases j with
      | zero =>
        simp at hi hj
        subst hj
        exact absurd (List.mem_of_getElem? hi) h.1
      | succ j =>
        simp at hi hj
        rw [ih h.2 hi hj]
theorem erase_mem {l : List Int32} (h : l.Nodup) {k : Nat} {y : Int32} (hk : l[k]? = some y) (x : Int32) : x ∈ l.eraseIdx k ↔ x ≠ y ∧ x ∈ l := by
  rw [List.mem_eraseIdx_iff_getElem?]
  constructor
  · rintro ⟨i, hi, e⟩
    refine ⟨fun z => hi ?_, List.mem_of_getElem? e⟩
    subst z
    exact nd_get h e hk
  · rintro ⟨a, b⟩
    obtain ⟨i, e⟩ := List.getElem?_of_mem b
    refine ⟨i, fun z => a ?_, e⟩
    subst z
    rw [e] at hk
    exact Option.some.inj hk
theorem sameQ.tr {M M' M'' : gM} (h : sameQ M M') (g : sameQ M' M'') : sameQ M M'' := by
  have hc := h.cn
  refine ⟨g.1.trans h.1, fun k hk => ?_⟩
  obtain ⟨a1, a2, a3⟩ := h.2 k hk
  obtain ⟨b1, b2, b3⟩ := g.2 k (by omega)
  refine ⟨fun j x y z => (b1 j x y z).trans (a1 j x y z), b2.trans a2, ?_⟩
  rcases b3 with q | q
  · rw [q]; exact a3
  · exact Or.inr q
theorem tellA_ok {p : Nat} : ∀ (rest place : Nat) (M : gM), cN M ≤ 24 → p < cN M → place + rest = (gaq M).length → IQ M (Int32.ofNat p) → (∀ i x, i < place → (gaq M)[i]? = some x → gf M (gAt x) 13 ≠ Int32.ofNat p) →
    sameQ M (gTellA (Int32.ofNat p) rest place M) ∧ gnow (gTellA (Int32.ofNat p) rest place M) = gnow M ∧ gtrn (gTellA (Int32.ofNat p) rest place M) = gtrn M ∧ IQ (gTellA (Int32.ofNat p) rest place M) (Int32.ofNat p) ∧ (∀ x, x ∈ gaq (gTellA (Int32.ofNat p) rest place M) → gf (gTellA (Int32.ofNat p) rest place M) (gAt x) 13 ≠ Int32.ofNat p) := by
  intro rest
  induction rest with
  | zero =>
    intro place M h24 hp hl hq hi
    refine ⟨sameQ.rf, rfl, rfl, hq, fun x hx => ?_⟩
    obtain ⟨i, e⟩ := List.getElem?_of_mem hx
    exact hi i x (by have := (List.getElem?_eq_some_iff.mp e).1; have : i < (gaq M).length := this; omega) e
  | succ rest ih =>
    intro place M h24 hp hl hq hi
    have hlt : place < (gaq M).length := by omega
    have ex : (gaq M)[place]? = some (gaq M)[place] := List.getElem?_eq_getElem hlt
    obtain ⟨k, k1, k2, k3⟩ := hq.2.2.1.2 _ (List.getElem_mem hlt)
    rw [k1] at ex
    have ea : gAt (Int32.ofNat k) = k := n_at (by omega)
    unfold gTellA
    rw [ex]
    simp only [Option.getD_some, ea]
    by_cases q : gf M k 13 = Int32.ofNat p
    · rw [if_pos q, n_num (by omega)]
      have s1 : sameQ M (grqS (gfS (gaqS M ((gaq M).eraseIdx place)) k 13 (-1)) (gAdd (grq (gfS (gaqS M ((gaq M).eraseIdx place)) k 13 (-1))) (Int32.ofNat k))) := ((sameQ.rf (M := M)).q.F (Or.inr (Or.inl rfl)) : sameQ M (gfS (gaqS M ((gaq M).eraseIdx place)) k 13 (-1))).q
      have fr : ∀ i j, gf (grqS (gfS (gaqS M ((gaq M).eraseIdx place)) k 13 (-1)) (gAdd (grq (gfS (gaqS M ((gaq M).eraseIdx place)) k 13 (-1))) (Int32.ofNat k))) i j = (if i = k ∧ j = 13 then -1 else gf M i j) := fun i j => by
        show gf (gfS (gaqS M ((gaq M).eraseIdx place)) k 13 (-1)) i j = _
        rw [gf_gfS]
        rfl
      have eq1 : gaq (grqS (gfS (gaqS M ((gaq M).eraseIdx place)) k 13 (-1)) (gAdd (grq (gfS (gaqS M ((gaq M).eraseIdx place)) k 13 (-1))) (Int32.ofNat k))) = (gaq M).eraseIdx place := rfl
      have c1 : cN (grqS (gfS (gaqS M ((gaq M).eraseIdx place)) k 13 (-1)) (gAdd (grq (gfS (gaqS M ((gaq M).eraseIdx place)) k 13 (-1))) (Int32.ofNat k))) = cN M := rfl
      have nn : gnow (grqS (gfS (gaqS M ((gaq M).eraseIdx place)) k 13 (-1)) (gAdd (grq (gfS (gaqS M ((gaq M).eraseIdx place)) k 13 (-1))) (Int32.ofNat k))) = gnow M ∧ gtrn (grqS (gfS (gaqS M ((gaq M).eraseIdx place)) k 13 (-1)) (gAdd (grq (gfS (gaqS M ((gaq M).eraseIdx place)) k 13 (-1))) (Int32.ofNat k))) = gtrn M := ⟨rfl, rfl⟩
      have q12 : gf M k 12 = -1 := (hq.2.2.2.1 k k2 k3).2.2.2.1
      have h1 : IQ (grqS (gfS (gaqS M ((gaq M).eraseIdx place)) k 13 (-1)) (gAdd (grq (gfS (gaqS M ((gaq M).eraseIdx place)) k 13 (-1))) (Int32.ofNat k))) (Int32.ofNat p) := by
        refine hq.free (p := k) (l := (gaq M).eraseIdx place) h24 k2 (Or.inr k3) (hq.2.2.1.1.eraseIdx place) (erase_mem hq.2.2.1.1 ex) rfl rfl rfl rfl (fun i hi => ⟨?_, over_f ?_, fun z => ⟨?_, ?_⟩⟩) ?_ ?_
        · exact (fr i 4).trans (if_neg (by omega))
        · exact (fr i 5).trans (if_neg (by omega))
        · exact (fr i 12).trans (if_neg (by omega))
        · exact (fr i 13).trans (if_neg (by omega))
        · exact ((fr k 12).trans (if_neg (by omega))).trans q12
        · exact (fr k 13).trans (if_pos ⟨rfl, rfl⟩)
      generalize grqS (gfS (gaqS M ((gaq M).eraseIdx place)) k 13 (-1)) (gAdd (grq (gfS (gaqS M ((gaq M).eraseIdx place)) k 13 (-1))) (Int32.ofNat k)) = M3 at s1 fr eq1 c1 h1 nn ⊢
      obtain ⟨a1, a2, a3, a4, a5⟩ := ih place M3 (by omega) (by omega) (by rw [eq1, List.length_eraseIdx_of_lt hlt]; omega) h1 (fun i x hi2 e => by
        rw [eq1, List.getElem?_eraseIdx, if_pos hi2] at e
        rw [fr]
        split
        · exact fun z => n_neg (by omega) z.symm
        · exact hi i x hi2 e)
      exact ⟨s1.tr a1, a2.trans nn.1, a3.trans nn.2, a4, a5⟩
    · rw [if_neg q]
      refine ih (place + 1) M h24 hp (by omega) hq (fun i x hi2 e => ?_)
      by_cases z : i = place
      · subst z
        rw [ex] at e
        rw [← Option.some.inj e, ea]
        exact q
      · exact hi i x (by omega) e
/-- none awaits it any more -/
theorem IQ.told {M : gM} {p : Nat} (h : IQ M (Int32.ofNat p)) (h24 : cN M ≤ 24) (hp : p < cN M) (ho : gOver M p = true) (hn : ∀ x, x ∈ gaq M → gf M (gAt x) 13 ≠ Int32.ofNat p) : IQ M (-1) := by
  obtain ⟨q0, ⟨q1, q2⟩, ⟨q3, q4⟩, q5, q6, q7, q8⟩ := h
  refine ⟨q0, ⟨q1, fun x hx => ?_⟩, ⟨q3, q4⟩, fun k hk z => ?_, fun k hk z => ?_, fun k hk f1 f2 f3 f4 f5 => ?_, q8⟩
  · obtain ⟨-, k, p2, p3, p4⟩ := q2 x hx
    exact ⟨by rw [p2]; exact n_neg (by omega), k, p2, p3, p4⟩
  · obtain ⟨p1, p2, p3, p4, p5, j, p6, p7, p8, p9⟩ := q5 k hk z
    refine ⟨p1, p2, n_neg (by omega), p4, p5, j, p6, p7, p8, Or.inl ?_⟩
    rcases p9 with q | q
    · exact q
    · have := hn _ p5
      rw [n_at (by omega), p6, q] at this
      exact absurd rfl this
  · obtain ⟨p1, p2, p3, p4⟩ := q6 k hk z
    exact ⟨p1, p2, n_neg (by omega), p4⟩
  · exact q7 k hk f1 f2 (fun z => by have := n_inj (by omega) (by omega) z; subst this; rw [ho] at f2; cases f2) f4 f5
theorem tellB_ok {B : gB} {t : Int32} {ov : Nat} : ∀ (i n : Nat) (M : gM), n + i ≤ 25 → IVR B M → IVR B (gTellB t ov i (Int32.ofNat n) M) ∧ gKq M (gTellB t ov i (Int32.ofNat n) M) (-1) 0 := by
  intro i
  induction i with
  | zero => intro n M _ h; exact ⟨h, gKq.rf⟩
  | succ i ih =>
    intro n M hn h
    unfold gTellB
    by_cases q : Int32.ofNat n < gcnt M ∧ gf M ov 5 = 4
    · rw [if_pos q, g_suc]
      have hnc : n < cN M := by
        have h24 := h.1.2.1
        have := q.1
        rw [h.1.1] at this
        exact (g_lt (by omega) (by omega)).mp this
      by_cases y : (gHas M (Int32.ofNat n) 1 && gf M (gAt (Int32.ofNat n)) 16 == t) = true
      · rw [if_pos y]
        obtain ⟨a1, a2, -⟩ := ask_ok h hnc
        obtain ⟨b1, b2⟩ := ih (n + 1) _ (by omega) a1
        exact ⟨b1, a2.tr b2⟩
      · rw [if_neg y]
        exact ih (n + 1) M (by omega) h
    · rw [if_neg q]
      exact ⟨h, gKq.rf⟩
theorem tell_ok {B : gB} {M : gM} {p : Nat} (h0 : IV0 B M) (hr : IRest M) (hq : IQ M (Int32.ofNat p)) (hp : p < cN M) (ho : gOver M p = true) : IVR B (gTell M p) ∧ gKq M (gTell M p) (-1) 0 := by
  have h24 := h0.2.1
  obtain ⟨a1, a2, a3, a4, a5⟩ := tellA_ok (gaq M).length 0 M h24 hp (Nat.zero_add _) hq (fun i x hi => absurd hi (Nat.not_lt_zero _))
  unfold gTell
  rw [n_num (by omega)]
  generalize gTellA (Int32.ofNat p) (gaq M).length 0 M = M1 at a1 a2 a3 a4 a5 ⊢
  have c1 := a1.cn
  have o1 : gOver M1 p = true := by rw [over_f ((a1.2 p hp).1 5 (by omega) (by omega) (by omega))]; exact ho
  have r1 : IVR B M1 := ⟨a1.IV0 h0, a1.rest hr, a4.told (by omega) (by omega) o1 a5⟩
  obtain ⟨b1, b2⟩ := tellB_ok (t := Int32.ofNat p) (ov := p) 25 0 M1 (by omega) r1
  exact ⟨b1, (a1.kq a2 a3).tr b2⟩
/-- against the model -/
theorem r_rem9 {c place : Nat} {μ : MM} {M : gM} (h : tM c μ M) (hl : place < (gaq M).length) : ∃ ν, fX4_removeAt (c + 9) (Int32.ofNat place) μ = some ν ∧ tM c ν (gaqS M ((gaq M).eraseIdx place)) ∧ tF c μ ν ∧ tT c μ ν := by
  obtain ⟨ν, e, a, b⟩ := f_rem h.1.2.2.2.2 h.2.2.2.1 hl
  exact ⟨ν, e, h.step (b.F (by omega) (by omega)) (h.2.setQ9 a fun y j hy => b.2.2.2.2 y j (by omega)), b.F (by omega) (by omega), b.T (by omega)⟩
theorem gAsk_cnt {M : gM} {n : Int32} : gcnt (gAsk M n).2 = gcnt M := by
  unfold gAsk
  dsimp only
  by_cases q : gOver M (gAt n) = true
  · rw [if_pos q]
  · rw [if_neg q]
    dsimp only
    split <;> rfl
theorem r_tellB {c ov m : Nat} (hov : ov ≤ 24) (hm : m ≤ 24) : ∀ (i f n : Nat) (M : gM) (μ : MM), n + i = 25 → i < f → gcnt M = Int32.ofNat m → tM c μ M → ∃ ν, lX3_tellOthers_80 f c (tCo c ov) (Int32.ofNat n) μ = some ν ∧ tM c ν (gTellB (gNum ov) ov i (Int32.ofNat n) M) ∧ tF c μ ν ∧ tT c μ ν := by
  intro i
  induction i with
  | zero =>
    intro f n M μ hn hf hc h
    obtain ⟨f, rfl⟩ : ∃ g, f = g + 1 := ⟨f - 1, by omega⟩
    refine ⟨μ, ?_, h, tF.rf, tT.rf⟩
    show bX3_tellOthers_80 _ c (tCo c ov) (Int32.ofNat n) μ = _
    unfold bX3_tellOthers_80
    rw [if_pos h.1.1.1, show mI μ c 5 = gcnt M from h.2.1.1, hc, if_pos ((g_le (by omega) (by omega)).mpr (by omega))]
  | succ i ih =>
    intro f n M μ hn hf hc h
    obtain ⟨f, rfl⟩ : ∃ g, f = g + 1 := ⟨f - 1, by omega⟩
    show ∃ ν, bX3_tellOthers_80 (fun h0 h1 x3 μ => lX3_tellOthers_80 f h0 h1 x3 μ) c (tCo c ov) (Int32.ofNat n) μ = some ν ∧ _
    unfold bX3_tellOthers_80 gTellB
    rw [if_pos h.1.1.1, show mI μ c 5 = gcnt M from h.2.1.1]
    by_cases q : gcnt M ≤ Int32.ofNat n
    · rw [if_pos q, if_neg (fun z : Int32.ofNat n < gcnt M ∧ gf M ov 5 = 4 => Int32.not_lt.mpr q z.1)]
      exact ⟨μ, rfl, h, tF.rf, tT.rf⟩
    · rw [if_neg q, if_pos (h.lay hov).1, show mI μ (tCo c ov) 5 = gf M ov 5 from h.rd hov (by omega) (by omega) (by omega)]
      by_cases y : gf M ov 5 = 4
      · rw [if_pos y, if_pos ⟨Int32.not_le.mp q, y⟩, f_has h]
        simp only [Option.bind_some]
        have hk := gAt_le (Int32.ofNat n)
        rw [g_suc]
        cases w : gHas M (Int32.ofNat n) 1 with
        | false =>
          rw [if_pos b0, if_neg (by simp)]
          exact ih f (n + 1) M μ (by omega) (by omega) hc h
        | true =>
          rw [if_neg b1, r_at h.1]
          simp only [Option.bind_some]
          rw [if_pos (h.lay hk).1, show mI μ (tCo c (gAt (Int32.ofNat n))) 16 = gf M (gAt (Int32.ofNat n)) 16 from h.rd hk (by omega) (by omega) (by omega), show mI μ (tCo c ov) 0 = gNum ov from (h.2.2.2.2 _ hov).1]
          by_cases v : gf M (gAt (Int32.ofNat n)) 16 = gNum ov
          · rw [if_pos v, if_pos (by simp [v])]
            obtain ⟨ω, e1, t1, F1, T1⟩ := r_ask h (Int32.ofNat n)
            rw [e1]
            simp only [Option.bind_some]
            obtain ⟨ν, e2, t2, F2, T2⟩ := ih f (n + 1) _ ω (by omega) (by omega) (gAsk_cnt.trans hc) t1
            exact ⟨ν, e2, t2, F1.tr F2, T1.tr T2⟩
          · rw [if_neg v, if_neg (by simp [v])]
            exact ih f (n + 1) M μ (by omega) (by omega) hc h
      · rw [if_neg y, if_neg (fun z : Int32.ofNat n < gcnt M ∧ gf M ov 5 = 4 => y z.2)]
        exact ⟨μ, rfl, h, tF.rf, tT.rf⟩
theorem r_tellA {c ov m : Nat} (hov : ov ≤ 24) (hm : m ≤ 24) : ∀ (rest f place : Nat) (M : gM) (μ : MM), place + rest = (gaq M).length → rest < f → gcnt M = Int32.ofNat m → tM c μ M → ∃ ν, lX3_tellOthers_10 f c (tCo c ov) (Int32.ofNat place) (Int32.ofNat rest) μ = some ν ∧ tM c ν (gTellB (gNum ov) ov 25 0 (gTellA (gNum ov) rest place M)) ∧ tF c μ ν ∧ tT c μ ν := by
  intro rest
  induction rest with
  | zero =>
    intro f place M μ hl hf hc h
    obtain ⟨f, rfl⟩ : ∃ g, f = g + 1 := ⟨f - 1, by omega⟩
    show ∃ ν, bX3_tellOthers_10 _ c (tCo c ov) (Int32.ofNat place) (Int32.ofNat 0) μ = some ν ∧ _
    unfold bX3_tellOthers_10
    rw [if_pos (by decide)]
    exact r_tellB hov hm 25 FU 0 M μ (by omega) (by unfold FU; omega) hc h
  | succ rest ih =>
    intro f place M μ hl hf hc h
    obtain ⟨f, rfl⟩ : ∃ g, f = g + 1 := ⟨f - 1, by omega⟩
    have h24 : (gaq M).length ≤ 24 := h.2.2.2.1.1
    show ∃ ν, bX3_tellOthers_10 (fun h0 h1 x2 x3 μ => lX3_tellOthers_10 f h0 h1 x2 x3 μ) c (tCo c ov) (Int32.ofNat place) (Int32.ofNat (rest + 1)) μ = some ν ∧ _
    unfold bX3_tellOthers_10 gTellA
    have z : ¬ Int32.ofNat (rest + 1) ≤ 0 := by
      have := mt (g_le (a := rest + 1) (b := 0) (by omega) (by omega)).mp (by omega)
      exact this
    have zp : Int32.ofNat (rest + 1) + (-1) = Int32.ofNat rest := by
      rw [← Int32.sub_eq_add_neg]
      exact g_prd (by omega)
    rw [if_neg z, if_pos h.1.1.1, show mP μ c 4 = c + 9 from h.1.1.2.2.2.2.1, if_pos h.1.2.2.2.2.1, f_num h.1.2.2.2.2 h.2.2.2.1 place (by omega)]
    simp only [Option.bind_some]
    rw [r_at h.1]
    simp only [Option.bind_some]
    generalize hx : ((gaq M)[place]?).getD (-1) = x
    have hk := gAt_le x
    rw [if_pos (h.lay hk).1, if_pos (h.lay hov).1, show mI μ (tCo c (gAt x)) 13 = gf M (gAt x) 13 from h.rd hk (by omega) (by omega) (by omega), show mI μ (tCo c ov) 0 = gNum ov from (h.2.2.2.2 _ hov).1, zp]
    by_cases q : gf M (gAt x) 13 = gNum ov
    · rw [if_pos q, if_pos q, show mP μ c 4 = c + 9 from h.1.1.2.2.2.2.1, if_pos h.1.2.2.2.2.1]
      obtain ⟨μ1, f1, t1, F1, T1⟩ := r_rem9 h (place := place) (by omega)
      obtain ⟨t2, F2, T2⟩ := r_F t1 hk 13 (-1) (by omega) (by omega) (by omega)
      obtain ⟨μ3, f3, t3, F3, T3⟩ := r_add7 t2 (gNum (gAt x))
      rw [f1]
      simp only [Option.bind_some]
      obtain ⟨ν, e4, t4, F4, T4⟩ := ih f place (grqS (gfS (gaqS M ((gaq M).eraseIdx place)) (gAt x) 13 (-1)) (gAdd (grq (gfS (gaqS M ((gaq M).eraseIdx place)) (gAt x) 13 (-1))) (gNum (gAt x)))) μ3 (by show place + rest = ((gaq M).eraseIdx place).length; rw [List.length_eraseIdx_of_lt (by omega)]; omega) (by omega) hc t3
      refine ⟨ν, ?_, t4, ((F1.tr F2).tr F3).tr F4, ((T1.tr T2).tr T3).tr T4⟩
      dsimp only [st]
      rw [show mP (sI μ1 (tCo c (gAt x)) 13 (-1)) c 3 = c + 7 from t2.1.1.2.2.2.1, if_pos h.1.2.2.2.1.1, show mI (sI μ1 (tCo c (gAt x)) 13 (-1)) (tCo c (gAt x)) 0 = gNum (gAt x) from (t2.2.2.2.2 _ hk).1, f3]
      exact e4
    · rw [if_neg q, if_neg q, g_suc]
      exact ih f (place + 1) M μ (by omega) (by omega) hc h
theorem r_tell {c ov m : Nat} {μ : MM} {M : gM} (hov : ov ≤ 24) (hm : m ≤ 24) (hc : gcnt M = Int32.ofNat m) (h : tM c μ M) : ∃ ν, fX3_tellOthers c (tCo c ov) μ = some ν ∧ tM c ν (gTell M ov) ∧ tF c μ ν ∧ tT c μ ν := by
  have h24 : (gaq M).length ≤ 24 := h.2.2.2.1.1
  unfold fX3_tellOthers gTell
  rw [show mP μ c 4 = c + 9 from h.1.1.2.2.2.2.1, if_pos h.1.2.2.2.2.1, h.2.2.2.1.2.1]
  exact r_tellA hov hm (gaq M).length FU 0 M μ (Nat.zero_add _) (by unfold FU; omega) hc h
