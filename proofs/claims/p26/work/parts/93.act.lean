/-! act, over the model -/
def kL (M M' : gM) : Prop := cN M ≤ cN M' ∧ (∀ k, k < cN M → gOver M k = true → gf M' k 5 = gf M k 5 ∧ gf M' k 7 = gf M k 7) ∧ (gnow M').toInt ≤ (gnow M).toInt + 4
theorem gKv.kL {M M' : gM} (h : gKv M M') : kL M M' := ⟨h.1, fun k hk => (h.2.2 k hk).2.2.2, by rw [h.2.1]; omega⟩
theorem kL.rf {M : gM} : kL M M := gKv.rf.kL
def yA (h N : Nat) (μ : MM) (B : gB) (M : gM) (x : Option actR) : Prop := ∃ y, x = some y ∧ (∀ g, y = .inr g → ∀ z, mX μ ≤ z → ∃ r, g z = some r) ∧ ∀ r, actOf μ y r → r.1 = 1 ∧ ∃ M', yI h r.2 B M' ∧ yG h N μ r.2 ∧ kL M M'
theorem yA.inl {h N : Nat} {μ ν : MM} {B : gB} {M M' : gM} {x : Option actR} (e : x = some (.inl (1, ν))) (Y : yI h ν B M') (F : yF h μ ν) (k : kL M M') : yA h N μ B M x := by
  refine ⟨_, e, fun g q => (by cases q), fun r q => ?_⟩
  rcases q with q | ⟨g, z, q, -⟩
  · injection q with q
    subst q
    exact ⟨rfl, M', Y, F.g, k⟩
  · cases q
theorem yA.inr {h N : Nat} {μ ν : MM} {B : gB} {M : gM} {x : Option actR} {g : Nat → Option (Int32 × MM)} (e : x = some (.inr g)) (Y : yI h ν B M) (F : yF h μ ν) (hg : ∀ z, g z = some (1, sX ν z)) : yA h N μ B M x := by
  refine ⟨_, e, fun g' q => ?_, fun r q => ?_⟩
  · injection q with q
    subst q
    exact fun z _ => ⟨_, hg z⟩
  · rcases q with q | ⟨g', z, q, hz, q2⟩
    · cases q
    · injection q with q
      subst q
      rw [hg z] at q2
      injection q2 with q2
      subst q2
      exact ⟨rfl, M, Y.agree yS.X, F.g.tr (yG.X (by rw [F.2.2.1]; exact hz)), kL.rf⟩
theorem h_554 {h : Nat} {μ : MM} {B : gB} {M : gM} {x : Int32} (Y : yI h μ B M) (hj : 2 < gBl x 14) : bL_act_554 h x (gcnt M) μ = some (1, μ) := by
  have c14 : (14 : Int32).toInt = 14 := rfl
  obtain ⟨b1, b2⟩ := below_ok (x := x) (n := 14) (by decide) μ
  rw [c14] at b2
  unfold bL_act_554
  rw [b1]
  simp only [Option.bind_some]
  have n2 : ¬ Int32.ofNat (gBl x 14) ≤ (2 : Int32) := mt (g_le (a := gBl x 14) (b := 2) (by omega) (by omega)).mp (by omega)
  rw [if_neg n2, if_pos Y.1.1.1, r_many Y.1 Y.cn.1 Y.cn.2 1 (by decide)]
  simp only [Option.bind_some]
  rw [if_pos trivial, if_pos (show gMn B M 1 = gcnt M from rfl)]
theorem h_581a {h : Nat} {μ : MM} {x w : Int32} (hj : gBl x 14 < 3) : bL_act_581 h x 24 w μ = some (1, μ) := by
  obtain ⟨b1, b2⟩ := below_ok (x := x) (n := 14) (by decide) μ
  unfold bL_act_581
  rw [b1]
  simp only [Option.bind_some]
  have n2 : ¬ (3 : Int32) ≤ Int32.ofNat (gBl x 14) := mt (g_le (a := 3) (b := gBl x 14) (by omega) (by omega)).mp (by omega)
  rw [if_neg n2, if_pos trivial]
theorem h_581b {h k : Nat} {μ : MM} {B : gB} {M : gM} {x a : Int32} (Y : yI h μ B M) (hj : gBl x 14 = 6) (hk : k < cN M) (ho : gOver M k = true) : bL_act_581 h x a (Int32.ofNat k) μ = some (1, μ) := by
  have b1 := (below_ok (x := x) (n := 14) (by decide) μ).1
  rw [hj] at b1
  unfold bL_act_581
  rw [b1]
  simp only [Option.bind_some]
  rw [if_pos (by decide), b1]
  simp only [Option.bind_some]
  rw [if_pos (by decide), if_pos Y.1.1.1, r_of Y.1 Y.cn.1 Y.cn.2 hk 1 (by decide)]
  simp only [Option.bind_some]
  have n2 : ¬ gOfV M k 1 ≤ 2 := by
    show ¬ gf M k 5 ≤ 2
    unfold gOver at ho
    simp only [Bool.or_eq_true, beq_iff_eq] at ho
    rcases ho with q | q <;> rw [q] <;> decide
  rw [if_pos trivial, if_neg n2]
theorem idx_last {l : List Int32} {v : Int32} (h : v ∉ l) : (l ++ [v]).idxOf v = l.length := by
  rw [List.idxOf_append, if_neg h, List.idxOf_cons_self]
  omega
theorem gen_make {B : gB} {M : gM} {b : Int32} (hI : IVR B M) (hc : cN M < 24) : gf (gMake M b 0 (-1)) (cN M) 4 = 0 ∧ gf (gMake M b 0 (-1)) (cN M) 5 = 0 := by
  obtain ⟨m1, m2, m3, m4, m5, m6, m7, m8, m9⟩ := mk_of (M := M) (b := b) (so := 0) (sp := -1) hI.1.1 hc
  unfold gf
  rw [m5]
  exact ⟨rfl, rfl⟩
theorem task_make {B : gB} {M : gM} {b : Int32} (hI : IVR B M) (hc : cN M < 24) : gf (gMake M b 1 (-1)) (cN M) 4 = 1 ∧ grq (gMake M b 1 (-1)) = grq M ++ [Int32.ofNat (cN M)] ∧ Int32.ofNat (cN M) ∉ grq M := by
  obtain ⟨m1, m2, m3, m4, m5, m6, m7, m8, m9⟩ := mk_of (M := M) (b := b) (so := 1) (sp := -1) hI.1.1 hc
  have hv : Int32.ofNat (cN M) ∉ grq M := fun z => by
    obtain ⟨-, k, p2, p3, -⟩ := hI.2.2.2.1.2 _ z
    have := n_inj (by omega) (by omega) p2
    omega
  refine ⟨by unfold gf; rw [m5]; rfl, ?_, hv⟩
  rw [m9, if_pos rfl]
  exact gAdd_app (n := cN M + 1) (by omega) hI.2.2.2.1.1 hv (fun x hx => by obtain ⟨-, k, e, hk, -⟩ := hI.2.2.2.1.2 x hx; exact ⟨k, e, by omega⟩) ⟨_, rfl, by omega⟩
/-- the first reads: how many there are, one of them, the kind of act -/
theorem act_pre {h : Nat} {μ : MM} {B : gB} {M : gM} {x : Int32} (Y : yI h μ B M) : ∃ one, (one < cN M ∨ (one = 0 ∧ cN M = 0)) ∧ one < 1000 ∧ (fX6_many h 1 μ = some (0, Int32.ofNat (cN M), μ)) ∧ fL_below (x >>> (4 &&& 31)) (jmax 1 (Int32.ofNat (cN M))) μ = some (Int32.ofNat one, μ) ∧ fL_below x 14 μ = some (Int32.ofNat (gBl x 14), μ) ∧ gBl x 14 < 14 := by
  obtain ⟨hc, h24⟩ := Y.cn
  have c14 : (14 : Int32).toInt = 14 := rfl
  have c1 : (1 : Int32).toInt = 1 := rfl
  have ej : (jmax 1 (Int32.ofNat (cN M))).toInt = (if 1 < (cN M : Int) then (cN M : Int) else 1) := by rw [jmax_T, Int32.toInt_ofNat_of_lt (by omega), c1]
  obtain ⟨b1, b2⟩ := below_ok (x := x) (n := 14) (by decide) μ
  obtain ⟨d1, d2⟩ := below_ok (x := x >>> (4 &&& 31)) (n := jmax 1 (Int32.ofNat (cN M))) (by rw [ej]; split <;> omega) μ
  rw [ej] at d2
  refine ⟨_, ?_, ?_, ?_, d1, b1, by rw [c14] at b2; omega⟩
  · split at d2 <;> omega
  · split at d2 <;> omega
  · rw [r_many Y.1 hc h24 1 (by decide)]
    show some (0, gcnt M, μ) = _
    rw [hc]
theorem a_gen {h N : Nat} {μ : MM} {B : gB} {M : gM} {x : Int32} (Y : yI h μ B M) (hj : gBl x 14 = 0) : yA h N μ B M (fL_act h x μ) := by
  obtain ⟨hc, h24⟩ := Y.cn
  obtain ⟨one, o1, o2, e1, e2, e3, -⟩ := act_pre (x := x) Y
  rw [hj] at e3
  have c5 : (5 : Int32).toInt = 5 := rfl
  obtain ⟨d1, d2⟩ := below_ok (x := x >>> (4 &&& 31)) (n := 5) (by decide) μ
  rw [c5] at d2
  obtain ⟨g1, g2⟩ := y_generator (i := gBl (x >>> (4 &&& 31)) 5) Y (by omega)
  unfold fL_act
  rw [if_pos Y.1.1.1, e1]
  simp only [Option.bind_some]
  rw [if_pos trivial, e2]
  simp only [Option.bind_some]
  rw [e3]
  simp only [Option.bind_some]
  rw [if_pos (by decide), d1]
  simp only [Option.bind_some]
  by_cases q : cN M < 24
  · obtain ⟨ν, f1, Y1, F1⟩ := g1 q
    obtain ⟨m1, m2, m3⟩ := make_rest (so := 0) Y.2.2 q (nat_T (i := gBl (x >>> (4 &&& 31)) 5) (by omega)) (Or.inl rfl)
    obtain ⟨n1, n2⟩ := gen_make (b := Int32.ofNat (gBl (x >>> (4 &&& 31)) 5)) Y.2.2 q
    rw [f1]
    simp only [Option.bind_some]
    rw [if_pos trivial, if_pos trivial, r_of Y1.1 Y1.cn.1 Y1.cn.2 (by omega) 2 (by decide)]
    simp only [Option.bind_some]
    rw [if_pos trivial, if_pos (show gOfV _ (cN M) 2 = 0 from n1), r_of Y1.1 Y1.cn.1 Y1.cn.2 (by omega) 1 (by decide)]
    simp only [Option.bind_some]
    rw [if_pos trivial, if_pos (show gOfV _ (cN M) 1 = 0 from n2)]
    exact yA.inl rfl Y1 F1 m2.kL
  · have h3 : cN M = 24 := by omega
    rw [g2 q]
    simp only [Option.bind_some]
    rw [if_neg (by decide), if_neg (by decide), if_pos trivial]
    refine yA.inr rfl Y yF.rf fun z => ?_
    rw [h3]
    exact h_581a (by omega)
theorem a_start {h N : Nat} {μ : MM} {B : gB} {M : gM} {x : Int32} (Y : yI h μ B M) (hj : gBl x 14 = 1 ∨ gBl x 14 = 2) : yA h N μ B M (fL_act h x μ) := by
  obtain ⟨hc, h24⟩ := Y.cn
  obtain ⟨one, o1, o2, e1, e2, e3, -⟩ := act_pre (x := x) Y
  have c5 : (5 : Int32).toInt = 5 := rfl
  obtain ⟨d1, d2⟩ := below_ok (x := x >>> (4 &&& 31)) (n := 5) (by decide) μ
  rw [c5] at d2
  obtain ⟨g1, g2⟩ := y_start (i := gBl (x >>> (4 &&& 31)) 5) Y (by omega)
  have j0 : ¬ Int32.ofNat (gBl x 14) = 0 := by rcases hj with q | q <;> rw [q] <;> decide
  have j1 : Int32.ofNat (gBl x 14) = 1 ∨ Int32.ofNat (gBl x 14) = 2 := by rcases hj with q | q <;> rw [q] <;> decide
  unfold fL_act
  rw [if_pos Y.1.1.1, e1]
  simp only [Option.bind_some]
  rw [if_pos trivial, e2]
  simp only [Option.bind_some]
  rw [e3]
  simp only [Option.bind_some]
  rw [if_neg j0, if_pos j1, d1]
  simp only [Option.bind_some]
  by_cases q : cN M < 24
  · obtain ⟨ν, f1, Y1, F1⟩ := g1 q
    obtain ⟨m1, m2, m3⟩ := make_rest (so := 1) Y.2.2 q (nat_T (i := gBl (x >>> (4 &&& 31)) 5) (by omega)) (Or.inr rfl)
    obtain ⟨n1, n2, n3⟩ := task_make (b := Int32.ofNat (gBl (x >>> (4 &&& 31)) 5)) Y.2.2 q
    rw [f1]
    simp only [Option.bind_some]
    rw [if_pos trivial, if_pos trivial, r_ofTask Y1.1 Y1.cn.1 Y1.cn.2 (by omega) n1 0 (by decide)]
    simp only [Option.bind_some]
    rw [if_pos trivial, r_many Y1.1 Y1.cn.1 Y1.cn.2 8 (by decide)]
    simp only [Option.bind_some]
    have eq1 : gOfT (gMake M (Int32.ofNat (gBl (x >>> (4 &&& 31)) 5)) 1 (-1)) (cN M) 0 = Int32.ofNat (grq M).length := by
      unfold gOfT
      rw [if_pos rfl, n2, if_pos (List.mem_append_right _ (List.mem_singleton.mpr rfl)), idx_last n3]
    have eq2 : gMn B (gMake M (Int32.ofNat (gBl (x >>> (4 &&& 31)) 5)) 1 (-1)) 8 = Int32.ofNat ((grq M).length + 1) := by
      show Int32.ofNat (grq (gMake M (Int32.ofNat (gBl (x >>> (4 &&& 31)) 5)) 1 (-1))).length = _
      rw [n2, List.length_append]
      rfl
    rw [if_pos trivial, eq1, eq2, g_prd (by omega), Nat.add_sub_cancel, if_pos rfl]
    exact yA.inl rfl Y1 F1 m2.kL
  · have h3 : cN M = 24 := by omega
    rw [g2 q]
    simp only [Option.bind_some]
    rw [if_neg (by decide), if_neg (by decide), if_pos trivial]
    refine yA.inr rfl Y yF.rf fun z => ?_
    rw [h3]
    exact h_581a (by rcases hj with q | q <;> omega)
