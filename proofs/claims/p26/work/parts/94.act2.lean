theorem pre_rw {h : Nat} {μ : MM} {B : gB} {M : gM} (Y : yI h μ B M) : Int32.ofNat (cN M) = gcnt M := Y.cn.1.symm
theorem a_resume {h N : Nat} {μ : MM} {B : gB} {M : gM} {x : Int32} (Y : yI h μ B M) (hj : gBl x 14 = 3 ∨ gBl x 14 = 4 ∨ gBl x 14 = 5) : yA h N μ B M (fL_act h x μ) := by
  obtain ⟨hc, h24⟩ := Y.cn
  obtain ⟨one, o1, o2, e1, e2, e3, -⟩ := act_pre (x := x) Y
  have c99 : (99 : Int32).toInt = 99 := rfl
  have c30 : (30 : Int32).toInt = 30 := rfl
  obtain ⟨d1, d2⟩ := below_ok (x := x >>> (6 &&& 31)) (n := 99) (by decide) μ
  rw [c99] at d2
  have ev : (Int32.ofNat (gBl (x >>> (6 &&& 31)) 99) - 30).toInt = (gBl (x >>> (6 &&& 31)) 99 : Int) - 30 := by
    rw [i_sub (by rw [Int32.toInt_ofNat_of_lt (by omega), c30]; omega) (by rw [Int32.toInt_ofNat_of_lt (by omega), c30]; omega), Int32.toInt_ofNat_of_lt (by omega), c30]
  have j0 : ¬ Int32.ofNat (gBl x 14) = 0 := by rcases hj with q | q | q <;> rw [q] <;> decide
  have j1 : ¬ (Int32.ofNat (gBl x 14) = 1 ∨ Int32.ofNat (gBl x 14) = 2) := by rcases hj with q | q | q <;> rw [q] <;> decide
  have j3 : Int32.ofNat (gBl x 14) = 3 ∨ Int32.ofNat (gBl x 14) = 4 ∨ Int32.ofNat (gBl x 14) = 5 := by rcases hj with q | q | q <;> rw [q] <;> decide
  obtain ⟨w1, w2, w3⟩ := y_wouldGive (k := one) (v := Int32.ofNat (gBl (x >>> (6 &&& 31)) 99) - 30) Y o2 ⟨by rw [ev]; omega, by rw [ev]; omega⟩
  unfold fL_act
  rw [if_pos Y.1.1.1, e1]
  simp only [Option.bind_some]
  rw [if_pos trivial, e2]
  simp only [Option.bind_some]
  rw [e3]
  simp only [Option.bind_some]
  rw [if_neg j0, if_neg j1, if_pos j3, d1]
  simp only [Option.bind_some]
  have bad : fX6_wouldGive h (Int32.ofNat one) (Int32.ofNat (gBl (x >>> (6 &&& 31)) 99) - 30) μ = some (1, 0, μ) → yA h N μ B M ((fX6_wouldGive h (Int32.ofNat one) (Int32.ofNat (gBl (x >>> (6 &&& 31)) 99) - 30) μ).bind fun y189 => if y189.1 = 0 then ((fX6_resume h (Int32.ofNat one) (Int32.ofNat (gBl (x >>> (6 &&& 31)) 99) - 30) y189.2.2).bind fun y190 => if y190.1 = 0 then (if y190.2.1 = y189.2.1 then ((fL_isGiven h (Int32.ofNat one) y190.2.1 y190.2.2).bind fun y192 => if y192.1 = 0 then (some (.inl (0, y192.2))) else (some (.inl (1, y192.2)))) else (some (.inl (0, y190.2.2)))) else if y190.1 = 1 then some (.inr fun z => bL_act_554 h x (Int32.ofNat (cN M)) (sX y190.2.2 z)) else if y190.1 = 3 then some (.inr fun z => bL_act_581 h x (Int32.ofNat (cN M)) (Int32.ofNat one) (sX y190.2.2 z)) else none) else if y189.1 = 1 then some (.inr fun z => bL_act_554 h x (Int32.ofNat (cN M)) (sX y189.2.2 z)) else if y189.1 = 3 then some (.inr fun z => bL_act_581 h x (Int32.ofNat (cN M)) (Int32.ofNat one) (sX y189.2.2 z)) else none) := fun f => by
    rw [f]
    simp only [Option.bind_some]
    rw [if_neg (by decide), if_pos trivial]
    refine yA.inr rfl Y yF.rf fun z => ?_
    rw [← hc]
    exact h_554 (Y.agree yS.X) (by rcases hj with q | q | q <;> omega)
  cases hh : gHas M (Int32.ofNat one) 0 with
  | false => exact bad (w1 hh)
  | true =>
    cases ho : gOver M one with
    | true => exact bad (w2 hh ho)
    | false =>
      obtain ⟨ν, f1, Y1, F1⟩ := w3 hh ho
      obtain ⟨ω, f2, Y2, F2⟩ := y_resume (v := Int32.ofNat (gBl (x >>> (6 &&& 31)) 99) - 30) Y1 hh o2 ho ⟨by rw [ev]; omega, by rw [ev]; omega⟩
      obtain ⟨k1, k2, k3⟩ := gen_of Y.2.2 hh o2
      obtain ⟨r1, r2, r3⟩ := resume_ok (g := Int32.ofNat one) (v := Int32.ofNat (gBl (x >>> (6 &&& 31)) 99) - 30) Y.2.1 Y.2.2 (by rw [k2]; exact k1) (by rw [k2]; exact k3) (by rw [k2]; exact ho) ⟨by rw [ev]; omega, by rw [ev]; omega⟩
      rw [k2] at r3
      rw [f1]
      simp only [Option.bind_some]
      rw [if_pos trivial, f2]
      simp only [Option.bind_some]
      rw [if_pos trivial, if_pos trivial, y_isGiven Y2 (Nat.lt_of_lt_of_le k1 r2.1) r3]
      simp only [Option.bind_some]
      rw [if_neg (by decide)]
      exact yA.inl rfl Y2 (F1.tr F2) r2.v.kL
theorem a_raise {h N : Nat} {μ : MM} {B : gB} {M : gM} {x : Int32} (Y : yI h μ B M) (hj : gBl x 14 = 6) : yA h N μ B M (fL_act h x μ) := by
  obtain ⟨hc, h24⟩ := Y.cn
  obtain ⟨one, o1, o2, e1, e2, e3, -⟩ := act_pre (x := x) Y
  have c7 : (7 : Int32).toInt = 7 := rfl
  have c1 : (1 : Int32).toInt = 1 := rfl
  obtain ⟨d1, d2⟩ := below_ok (x := x >>> (6 &&& 31)) (n := 7) (by decide) μ
  rw [c7] at d2
  have ev : ((1 : Int32) + Int32.ofNat (gBl (x >>> (6 &&& 31)) 7)).toInt = 1 + (gBl (x >>> (6 &&& 31)) 7 : Int) := by
    have eg : (Int32.ofNat (gBl (x >>> (6 &&& 31)) 7)).toInt = (gBl (x >>> (6 &&& 31)) 7 : Int) := Int32.toInt_ofNat_of_lt (by omega)
    rw [i_add (by rw [eg, c1]; omega) (by rw [eg, c1]; omega), eg, c1]
    rfl
  rw [hj] at e3
  obtain ⟨w1, w2, w3⟩ := y_raise (k := one) (v := (1 : Int32) + Int32.ofNat (gBl (x >>> (6 &&& 31)) 7)) Y o2 ⟨by rw [ev]; omega, by rw [ev]; omega⟩
  unfold fL_act
  rw [if_pos Y.1.1.1, e1]
  simp only [Option.bind_some]
  rw [if_pos trivial, e2]
  simp only [Option.bind_some]
  rw [e3]
  simp only [Option.bind_some]
  rw [if_neg (by decide), if_neg (by decide), if_neg (by decide), if_pos (by decide), d1]
  simp only [Option.bind_some]
  cases hh : gHas M (Int32.ofNat one) 0 with
  | false =>
    rw [w1 hh]
    simp only [Option.bind_some]
    rw [if_neg (by decide), if_pos trivial]
    refine yA.inr rfl Y yF.rf fun z => ?_
    rw [← hc]
    exact h_554 (Y.agree yS.X) (by omega)
  | true =>
    obtain ⟨k1, k2, k3⟩ := gen_of Y.2.2 hh o2
    cases ho : gOver M one with
    | true =>
      rw [w2 hh ho]
      simp only [Option.bind_some]
      rw [if_neg (by decide), if_neg (by decide), if_pos trivial]
      refine yA.inr rfl Y yF.rf fun z => ?_
      exact h_581b (Y.agree yS.X) hj k1 ho
    | false =>
      obtain ⟨ν, f1, Y1, F1⟩ := w3 hh ho
      obtain ⟨r1, r2, r3⟩ := throw_ok (g := Int32.ofNat one) (k := (1 : Int32) + Int32.ofNat (gBl (x >>> (6 &&& 31)) 7)) Y.2.1 Y.2.2 (by rw [k2]; exact k1) (by rw [k2]; exact k3) (by rw [k2]; exact ho) ⟨by rw [ev]; omega, by rw [ev]; omega⟩
      rw [k2] at r3
      rw [f1]
      simp only [Option.bind_some]
      rw [if_pos trivial, y_isGiven Y1 (Nat.lt_of_lt_of_le k1 r2.1) r3]
      simp only [Option.bind_some]
      rw [if_pos (by decide)]
      exact yA.inl rfl Y1 F1 r2.v.kL
theorem a_close {h N : Nat} {μ : MM} {B : gB} {M : gM} {x : Int32} (Y : yI h μ B M) (hj : gBl x 14 = 7) : yA h N μ B M (fL_act h x μ) := by
  obtain ⟨hc, h24⟩ := Y.cn
  obtain ⟨one, o1, o2, e1, e2, e3, -⟩ := act_pre (x := x) Y
  rw [hj] at e3
  obtain ⟨w1, w2⟩ := y_wouldClose (k := one) Y o2
  unfold fL_act
  rw [if_pos Y.1.1.1, e1]
  simp only [Option.bind_some]
  rw [if_pos trivial, e2]
  simp only [Option.bind_some]
  rw [e3]
  simp only [Option.bind_some]
  rw [if_neg (by decide), if_neg (by decide), if_neg (by decide), if_neg (by decide), if_pos (by decide)]
  cases hh : gHas M (Int32.ofNat one) 0 with
  | false =>
    rw [w1 hh]
    simp only [Option.bind_some]
    rw [if_neg (by decide), if_pos trivial]
    refine yA.inr rfl Y yF.rf fun z => ?_
    rw [← hc]
    exact h_554 (Y.agree yS.X) (by omega)
  | true =>
    obtain ⟨k1, k2, k3⟩ := gen_of Y.2.2 hh o2
    obtain ⟨ν, f1, Y1, F1⟩ := w2 hh
    obtain ⟨ω, f2, Y2, F2⟩ := (y_close (k := one) Y1 o2).2 hh
    obtain ⟨r1, r2, r3⟩ := close_ok (g := Int32.ofNat one) Y.2.1 Y.2.2 (by rw [k2]; exact k1) (by rw [k2]; exact k3)
    rw [k2] at r3
    have kk : one < cN (gClose B M (Int32.ofNat one)).2 := Nat.lt_of_lt_of_le k1 r2.1
    rw [f1]
    simp only [Option.bind_some]
    rw [if_pos trivial, f2]
    simp only [Option.bind_some]
    rw [if_pos trivial, if_pos trivial, r_of Y2.1 Y2.cn.1 Y2.cn.2 kk 1 (by decide)]
    simp only [Option.bind_some]
    have eq1 : gOfV (gClose B M (Int32.ofNat one)).2 one 1 = gf (gClose B M (Int32.ofNat one)).2 one 5 := rfl
    have eq4 : gOfV (gClose B M (Int32.ofNat one)).2 one 4 = gf (gClose B M (Int32.ofNat one)).2 one 7 := rfl
    have fin : ∀ {x : Option actR}, x = some (.inl (1, ω)) → yA h N μ B M x := fun e => yA.inl e Y2 (F1.tr F2) r2.v.kL
    rw [if_pos trivial, eq1]
    rcases r3 with ⟨a, b⟩ | ⟨a, b⟩ | ⟨a, b⟩
    · rw [if_pos a, if_pos b]
      exact fin rfl
    · rw [if_neg (by rw [a]; decide), r_of Y2.1 Y2.cn.1 Y2.cn.2 kk 1 (by decide)]
      simp only [Option.bind_some]
      rw [if_pos trivial, eq1, if_pos a, if_pos b]
      exact fin rfl
    · rw [if_neg (by rw [a]; decide), r_of Y2.1 Y2.cn.1 Y2.cn.2 kk 1 (by decide)]
      simp only [Option.bind_some]
      rw [if_pos trivial, eq1, if_neg (by rw [a]; decide), r_of Y2.1 Y2.cn.1 Y2.cn.2 kk 4 (by decide)]
      simp only [Option.bind_some]
      rw [if_pos trivial, eq4]
      by_cases z : gf (gClose B M (Int32.ofNat one)).2 one 7 = (gClose B M (Int32.ofNat one)).1
      · rw [if_pos z]
        exact fin rfl
      · rw [if_neg z, if_pos (b.resolve_left (fun w => z w.symm))]
        exact fin rfl
theorem a_run {h N : Nat} {μ : MM} {B : gB} {M : gM} {x : Int32} (Y : yI h μ B M) (hj : gBl x 14 = 8 ∨ gBl x 14 = 9 ∨ gBl x 14 = 10) : yA h N μ B M (fL_act h x μ) := by
  obtain ⟨hc, h24⟩ := Y.cn
  obtain ⟨one, o1, o2, e1, e2, e3, -⟩ := act_pre (x := x) Y
  have c12 : (12 : Int32).toInt = 12 := rfl
  have d0 := fun μ => (below_ok (x := x >>> (4 &&& 31)) (n := 12) (by decide) μ).1
  have d2 := (below_ok (x := x >>> (4 &&& 31)) (n := 12) (by decide) μ).2
  rw [c12] at d2
  generalize gBl (x >>> (4 &&& 31)) 12 = m at d0 d2
  have ev : 1 + Int32.ofNat m = Int32.ofNat (m + 1) := by rw [Int32.add_comm, g_suc]
  have jn : ∀ {v : Int32}, v = 0 ∨ v = 1 ∨ v = 2 ∨ v = 3 ∨ v = 4 ∨ v = 5 ∨ v = 6 ∨ v = 7 → ¬ Int32.ofNat (gBl x 14) = v := fun {v} hv => by
    rcases hj with q | q | q <;> rw [q] <;> rcases hv with z | z | z | z | z | z | z | z <;> rw [z] <;> decide
  have j8 : Int32.ofNat (gBl x 14) = 8 ∨ Int32.ofNat (gBl x 14) = 9 ∨ Int32.ofNat (gBl x 14) = 10 := by rcases hj with q | q | q <;> rw [q] <;> decide
  obtain ⟨ν, f1, Y1, F1⟩ := y_run (m := m + 1) Y ⟨by omega, by omega⟩
  obtain ⟨t1, t2, t3, t4, t5⟩ := turns_ok Y.2.1 (m + 1) M Y.2.2
  unfold fL_act
  rw [if_pos Y.1.1.1, e1]
  simp only [Option.bind_some]
  rw [if_pos trivial, e2]
  simp only [Option.bind_some]
  rw [e3]
  simp only [Option.bind_some]
  rw [if_neg (jn (by decide)), if_neg (fun z => z.elim (jn (by decide)) (jn (by decide))), if_neg (fun z => z.elim (jn (by decide)) (fun z => z.elim (jn (by decide)) (jn (by decide)))), if_neg (jn (by decide)), if_neg (jn (by decide)), if_pos j8, r_many Y.1 hc h24 11 (by decide)]
  simp only [Option.bind_some]
  rw [if_pos trivial, d0]
  simp only [Option.bind_some]
  rw [ev, f1]
  simp only [Option.bind_some]
  rw [if_pos trivial, r_many Y1.1 Y1.cn.1 Y1.cn.2 11 (by decide)]
  simp only [Option.bind_some]
  have q1 : gMn B (gTurns B (m + 1) M) 11 = gMn B M 11 + Int32.ofNat (gDone B (m + 1) M) := t3
  rw [if_pos trivial, if_pos q1, d0]
  simp only [Option.bind_some]
  have n1 : ¬ Int32.ofNat (m + 1) < Int32.ofNat (gDone B (m + 1) M) := mt (g_lt (by omega) (by omega)).mp (by omega)
  rw [ev, if_neg n1, d0]
  simp only [Option.bind_some]
  rw [ev]
  by_cases z : Int32.ofNat (gDone B (m + 1) M) = Int32.ofNat (m + 1)
  · rw [if_pos z]
    exact yA.inl rfl Y1 F1 t2.kL
  · rw [if_neg z, r_many Y1.1 Y1.cn.1 Y1.cn.2 8 (by decide)]
    simp only [Option.bind_some]
    have zl : (grq (gTurns B (m + 1) M)).length = 0 := t5.resolve_left (fun w => z (by rw [w]))
    have q8 : gMn B (gTurns B (m + 1) M) 8 = 0 := by
      show Int32.ofNat (grq (gTurns B (m + 1) M)).length = 0
      rw [zl]
      rfl
    rw [if_pos trivial, if_pos q8]
    exact yA.inl rfl Y1 F1 t2.kL
theorem a_tick {h N : Nat} {μ : MM} {B : gB} {M : gM} {x : Int32} (Y : yI h μ B M) (hj : gBl x 14 = 11) (hn : (gnow M).toInt ≤ 100000) : yA h N μ B M (fL_act h x μ) := by
  obtain ⟨hc, h24⟩ := Y.cn
  obtain ⟨one, o1, o2, e1, e2, e3, -⟩ := act_pre (x := x) Y
  rw [hj] at e3
  have c4 : (4 : Int32).toInt = 4 := rfl
  have d0 := fun μ => (below_ok (x := x >>> (4 &&& 31)) (n := 4) (by decide) μ).1
  have d2 := (below_ok (x := x >>> (4 &&& 31)) (n := 4) (by decide) μ).2
  rw [c4] at d2
  generalize gBl (x >>> (4 &&& 31)) 4 = m at d0 d2
  have ev : 1 + Int32.ofNat m = Int32.ofNat (m + 1) := by rw [Int32.add_comm, g_suc]
  obtain ⟨⟨ν, f1, Y1, F1⟩, t2, t3, t4, t5⟩ := y_tick (m := m + 1) Y ⟨by omega, by omega⟩ hn
  unfold fL_act
  rw [if_pos Y.1.1.1, e1]
  simp only [Option.bind_some]
  rw [if_pos trivial, e2]
  simp only [Option.bind_some]
  rw [e3]
  simp only [Option.bind_some]
  rw [if_neg (by decide), if_neg (by decide), if_neg (by decide), if_neg (by decide), if_neg (by decide), if_neg (by decide), if_pos (by decide), r_many Y.1 hc h24 9 (by decide)]
  simp only [Option.bind_some]
  rw [if_pos trivial, r_many Y.1 hc h24 8 (by decide)]
  simp only [Option.bind_some]
  rw [if_pos trivial, d0]
  simp only [Option.bind_some]
  rw [ev, f1]
  simp only [Option.bind_some]
  rw [if_pos trivial, r_many Y1.1 Y1.cn.1 Y1.cn.2 9 (by decide)]
  simp only [Option.bind_some]
  rw [if_pos trivial, d0]
  simp only [Option.bind_some]
  have q9 : gMn B (gTicks (m + 1) M) 9 = gMn B M 9 + 1 + Int32.ofNat m := by
    show gnow (gTicks (m + 1) M) = gnow M + 1 + Int32.ofNat m
    rw [t2, ← ev, Int32.add_assoc]
  rw [if_pos q9, r_many Y1.1 Y1.cn.1 Y1.cn.2 8 (by decide)]
  simp only [Option.bind_some]
  have q8 : gMn B (gTicks (m + 1) M) 8 = gMn B M 8 + Int32.ofNat (gWok (m + 1) M) := by
    show Int32.ofNat (grq (gTicks (m + 1) M)).length = Int32.ofNat (grq M).length + Int32.ofNat (gWok (m + 1) M)
    rw [t4, Int32.ofNat_add]
  rw [if_pos trivial, if_pos q8]
  refine yA.inl rfl Y1 F1 ⟨t5.v.1, fun k hk => (t5.v.2 k hk).2.2.2, by rw [t3]; omega⟩
