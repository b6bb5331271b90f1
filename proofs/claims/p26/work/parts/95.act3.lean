theorem a_cancel {h N : Nat} {μ : MM} {B : gB} {M : gM} {x : Int32} (Y : yI h μ B M) (hj : gBl x 14 = 12 ∨ gBl x 14 = 13) : yA h N μ B M (fL_act h x μ) := by
  obtain ⟨hc, h24⟩ := Y.cn
  obtain ⟨one, o1, o2, e1, e2, e3, -⟩ := act_pre (x := x) Y
  have jn : ∀ {v : Int32}, v = 0 ∨ v = 1 ∨ v = 2 ∨ v = 3 ∨ v = 4 ∨ v = 5 ∨ v = 6 ∨ v = 7 ∨ v = 8 ∨ v = 9 ∨ v = 10 ∨ v = 11 → ¬ Int32.ofNat (gBl x 14) = v := fun {v} hv => by
    rcases hj with q | q <;> rw [q] <;> rcases hv with z | z | z | z | z | z | z | z | z | z | z | z <;> rw [z] <;> decide
  have bad : ∀ z, bL_act_554 h x (Int32.ofNat (cN M)) (sX μ z) = some (1, sX μ z) := fun z => by
    rw [← hc]
    exact h_554 (Y.agree yS.X) (by rcases hj with q | q <;> omega)
  unfold fL_act
  rw [if_pos Y.1.1.1, e1]
  simp only [Option.bind_some]
  rw [if_pos trivial, e2]
  simp only [Option.bind_some]
  rw [e3]
  simp only [Option.bind_some]
  rw [if_neg (jn (by decide)), if_neg (fun z => z.elim (jn (by decide)) (jn (by decide))), if_neg (fun z => z.elim (jn (by decide)) (fun z => z.elim (jn (by decide)) (jn (by decide)))), if_neg (jn (by decide)), if_neg (jn (by decide)), if_neg (fun z => z.elim (jn (by decide)) (fun z => z.elim (jn (by decide)) (jn (by decide)))), if_neg (jn (by decide))]
  by_cases hk : one < cN M
  · rw [r_of Y.1 hc h24 hk 1 (by decide)]
    simp only [Option.bind_some]
    have eq1 : gOfV M one 1 = gf M one 5 := rfl
    rw [if_pos trivial, eq1]
    by_cases h4 : gf M one 4 = 1
    · have hh : gHas M (Int32.ofNat one) 1 = true := by rw [has_nat hc h24 hk, h4]; rfl
      obtain ⟨ν, f1, Y1, F1⟩ := (y_cancel (k := one) Y o2).2 hh
      obtain ⟨a1, a2, a3, a4, a5⟩ := ask_ok Y.2.2 hk
      have hk' : one < cN (gAsk M (Int32.ofNat one)).2 := Nat.lt_of_lt_of_le hk a2.1
      have h4' : gf (gAsk M (Int32.ofNat one)).2 one 4 = 1 := ((a2.2.2.2.1 one hk).2.1).trans h4
      have t4 := r_ofTask Y.1 hc h24 hk h4 4 (by decide)
      have t4' := r_ofTask Y1.1 Y1.cn.1 Y1.cn.2 hk' h4' 4 (by decide)
      have eT : gOfT M one 4 = (if gf M one 15 = 0 then 0 else 1) := rfl
      have eT' : gOfT (gAsk M (Int32.ofNat one)).2 one 4 = (if gf (gAsk M (Int32.ofNat one)).2 one 15 = 0 then 0 else 1) := rfl
      have k9 : kL M (gAsk M (Int32.ofNat one)).2 := a2.v.kL
      cases ho : gOver M one with
      | true =>
        have n2 : ¬ gf M one 5 ≤ 2 := by
          unfold gOver at ho
          simp only [Bool.or_eq_true, beq_iff_eq] at ho
          rcases ho with q | q <;> rw [q] <;> decide
        have v0 := a4 ho
        rw [if_neg n2, t4]
        simp only [Option.bind_some]
        rw [if_pos trivial, eT]
        by_cases z : gf M one 15 = 0
        · rw [if_pos z, if_neg (by decide), f1]
          simp only [Option.bind_some]
          rw [if_pos trivial, if_neg (by decide), v0, if_pos rfl, if_neg (by decide)]
          exact yA.inl rfl Y1 F1 k9
        · rw [if_neg z, if_pos rfl, f1]
          simp only [Option.bind_some]
          rw [if_pos trivial, if_neg (by decide), v0, if_pos rfl, if_neg (by decide)]
          exact yA.inl rfl Y1 F1 k9
      | false =>
        have n2 : gf M one 5 ≤ 2 := by
          rcases (Y.2.2.1.2.2 one hk).1.2.2.1 with q | q | q | q | q
          · rw [show gf M one 5 = 0 from q]; decide
          · rw [show gf M one 5 = 1 from q]; decide
          · rw [show gf M one 5 = 2 from q]; decide
          · unfold gOver at ho; rw [show gf M one 5 = 3 from q] at ho; cases ho
          · unfold gOver at ho; rw [show gf M one 5 = 4 from q] at ho; cases ho
        obtain ⟨v0, v1⟩ := a5 ho
        rw [v1] at eT'
        have eT2 : gOfT (gAsk M (Int32.ofNat one)).2 one 4 = 1 := eT'
        rw [if_pos n2, t4]
        simp only [Option.bind_some]
        rw [if_pos trivial, eT]
        by_cases z : gf M one 15 = 0
        · rw [if_pos z] at v0
          rw [if_pos z, if_neg (by decide), f1]
          simp only [Option.bind_some]
          rw [if_pos trivial, if_pos trivial, if_pos trivial, v0, if_pos rfl, if_pos trivial, t4']
          simp only [Option.bind_some]
          rw [if_pos trivial, if_pos eT2]
          exact yA.inl rfl Y1 F1 k9
        · rw [if_neg z] at v0
          rw [if_neg z, if_pos rfl, f1]
          simp only [Option.bind_some]
          rw [if_pos trivial, if_pos trivial, if_neg (by decide), v0, if_pos rfl, if_pos trivial, t4']
          simp only [Option.bind_some]
          rw [if_pos trivial, if_pos eT2]
          exact yA.inl rfl Y1 F1 k9
    · have hh : gHas M (Int32.ofNat one) 1 = false := by rw [has_nat hc h24 hk]; simpa using h4
      have t0 := r_ofTask0 Y.1 hh 4
      by_cases n2 : gf M one 5 ≤ 2
      · rw [if_pos n2, t0]
        simp only [Option.bind_some]
        rw [if_neg (by decide), if_pos trivial]
        exact yA.inr rfl Y yF.rf bad
      · rw [if_neg n2, t0]
        simp only [Option.bind_some]
        rw [if_neg (by decide), if_pos trivial]
        exact yA.inr rfl Y yF.rf bad
  · rw [r_of0 Y.1 hc h24 hk o2]
    simp only [Option.bind_some]
    rw [if_neg (by decide), if_pos trivial]
    exact yA.inr rfl Y yF.rf bad
/-- act holds -/
theorem a_all {h N : Nat} {μ : MM} {B : gB} {M : gM} (Y : yI h μ B M) (hn : (gnow M).toInt ≤ 100000) (x : Int32) : yA h N μ B M (fL_act h x μ) := by
  obtain ⟨one, -, -, -, -, -, hj⟩ := act_pre (x := x) Y
  obtain q | q | q | q | q | q | q | q | q | q | q | q | q | q : gBl x 14 = 0 ∨ gBl x 14 = 1 ∨ gBl x 14 = 2 ∨ gBl x 14 = 3 ∨ gBl x 14 = 4 ∨ gBl x 14 = 5 ∨ gBl x 14 = 6 ∨ gBl x 14 = 7 ∨ gBl x 14 = 8 ∨ gBl x 14 = 9 ∨ gBl x 14 = 10 ∨ gBl x 14 = 11 ∨ gBl x 14 = 12 ∨ gBl x 14 = 13 := by omega
  · exact a_gen Y q
  · exact a_start Y (Or.inl q)
  · exact a_start Y (Or.inr q)
  · exact a_resume Y (Or.inl q)
  · exact a_resume Y (Or.inr (Or.inl q))
  · exact a_resume Y (Or.inr (Or.inr q))
  · exact a_raise Y q
  · exact a_close Y q
  · exact a_run Y (Or.inl q)
  · exact a_run Y (Or.inr (Or.inl q))
  · exact a_run Y (Or.inr (Or.inr q))
  · exact a_tick Y q hn
  · exact a_cancel Y (Or.inl q)
  · exact a_cancel Y (Or.inr q)
