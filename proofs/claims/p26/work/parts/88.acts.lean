/-! THE FACE: what one does, and what would be -/
def yI (h : Nat) (μ : MM) (B : gB) (M : gM) : Prop := yT h μ B M ∧ IB B ∧ IVR B M
theorem yI.cn {h : Nat} {μ : MM} {B : gB} {M : gM} (Y : yI h μ B M) : gcnt M = Int32.ofNat (cN M) ∧ cN M ≤ 24 := ⟨Y.2.2.1.1, Y.2.2.1.2.1⟩
theorem make_rest {B : gB} {M : gM} {b so : Int32} (h : IVR B M) (hc : cN M < 24) (hb : 0 ≤ b.toInt ∧ b.toInt < 5) (hs : so = 0 ∨ so = 1) : IVR B (gMake M b so (-1)) ∧ gKv M (gMake M b so (-1)) ∧ cN (gMake M b so (-1)) = cN M + 1 := by
  obtain ⟨⟨h01, h02, h03⟩, hr, hq⟩ := h
  obtain ⟨m1, m2, m3, m4, m5, m6, m7, m8, m9⟩ := mk_of (M := M) (b := b) (so := so) (sp := -1) h01 hc
  have fo : ∀ k j, k < cN M → gf (gMake M b so (-1)) k j = gf M k j := fun k j hk => by unfold gf; rw [m4 k (by omega)]
  have z9 : gf (gMake M b so (-1)) (cN M) 9 = -1 := by unfold gf; rw [m5]; rfl
  have z5 : gf (gMake M b so (-1)) (cN M) 5 = 0 := by unfold gf; rw [m5]; rfl
  have z4 : gf (gMake M b so (-1)) (cN M) 4 = so := by unfold gf; rw [m5]; rfl
  refine ⟨⟨⟨by rw [m2, m3], by omega, fun k hk => ?_⟩, fun k hk => ?_, ?_⟩, ⟨by omega, m6, fun k hk => ⟨fo k 3 hk, fo k 4 hk, fo k 16 hk, fun _ => ⟨fo k 5 hk, fo k 7 hk⟩⟩⟩, m3⟩
  · rw [m3] at hk ⊢
    by_cases z : k = cN M
    · rw [z]
      refine ⟨by rw [m5]; exact okR.new, by rw [m5]; exact okC.new hb (by rcases hs with q | q <;> simp [q]) (by show (-1 : Int) < _; omega), fun w => absurd z9 w⟩
    · have hk' : k < cN M := by omega
      obtain ⟨a1, a2, a3⟩ := h03 k hk'
      rw [m4 k z]
      refine ⟨a1.mono (by omega), a2, fun w => ?_⟩
      rw [fo k 9 hk'] at w ⊢
      obtain ⟨j, d1, d2, d3, d4, d5, d6⟩ := a3 w
      refine ⟨j, d1, d2, by rw [m3]; omega, by rw [fo j 4 d3]; exact d4, by rw [fo j 10 d3]; exact d5, ?_⟩
      rw [fo j 3 d3, d6]
      unfold gAtLn
      rw [fo k 3 hk', fo k 6 hk']
  · rw [m3] at hk ⊢
    by_cases z : k = cN M
    · rw [z, z5, z9]
      exact ⟨by decide, fun j hj w => absurd w.symm (n_neg (by omega))⟩
    · have hk' : k < cN M := by omega
      obtain ⟨a1, a2⟩ := hr k hk'
      refine ⟨by rw [fo k 5 hk']; exact a1, fun j hj w => ?_⟩
      rw [fo k 9 hk'] at w
      obtain ⟨i, d1, d2, d3, -⟩ := (h03 k hk').2.2 (by rw [w]; exact n_neg (by omega))
      have hji : j = i := n_inj (by omega) (by omega) (w.symm.trans d1)
      subst hji
      rw [fo j 5 d3]
      exact a2 j d3 w
  · refine hq.new hc m3 m6 m8 (fun k hk => ⟨fo k 4 hk, fo k 12 hk, fo k 13 hk, over_f (fo k 5 hk)⟩) ?_ ?_ (fun w => n_neg (by omega) w.symm) ?_
    · unfold gf; rw [m5]; rfl
    · unfold gf; rw [m5]; rfl
    · rw [z4, m9]
      rcases hs with q | q
      · rw [q]; exact Or.inl ⟨by decide, by rw [if_neg (by decide)]⟩
      · rw [q]
        refine Or.inr ⟨rfl, ?_, by rw [if_pos rfl]⟩
        rw [q] at z5
        unfold gOver
        rw [z5]
        rfl
theorem b_in {h i : Nat} {μ : MM} {B : gB} {M : gM} (Y : yT h μ B M) (hB : B.1 = 5) (hi : i < 5) : fX0_has (h + 1) (Int32.ofNat i) μ = some (1, μ) := by
  have z1 : (0 : Int32) ≤ Int32.ofNat i := (g_le (a := 0) (b := i) (by omega) (by omega)).mpr (by omega)
  have z2 : Int32.ofNat i < (5 : Int32) := (g_lt (a := i) (b := 5) (by omega) (by omega)).mpr (by omega)
  rw [f_bhas Y.2.1, hB, if_pos ⟨z1, z2⟩]
theorem f_isFull {c : Nat} {μ : MM} {M : gM} (h : tM c μ M) (hc : gcnt M = Int32.ofNat (cN M)) (h24 : cN M ≤ 24) : fX3_isFull c μ = some (if cN M < 24 then 0 else 1, μ) := by
  unfold fX3_isFull
  rw [show mI μ c 5 = gcnt M from h.2.1.1, hc]
  have l : Int32.ofNat (cN M) < (24 : Int32) ↔ cN M < 24 := g_lt (a := cN M) (b := 24) (by omega) (by omega)
  by_cases q : cN M < 24
  · rw [if_pos (l.mpr q), if_pos q]
  · rw [if_neg (mt l.mp q), if_neg q]
theorem nat_T {i : Nat} (h : i < 5) : 0 ≤ (Int32.ofNat i).toInt ∧ (Int32.ofNat i).toInt < 5 := by rw [Int32.toInt_ofNat_of_lt (by omega)]; omega
/-- what a call makes: its answer, and what holds then -/
def yR (h : Nat) (μ : MM) (B : gB) (k : Nat) (v : Int32) (M' : gM) (x : Option (Nat × Int32 × MM)) : Prop := ∃ ν, x = some (k, v, ν) ∧ yI h ν B M' ∧ yF h μ ν
theorem y_generator {h i : Nat} {μ : MM} {B : gB} {M : gM} (Y : yI h μ B M) (hi : i < 5) : (cN M < 24 → yR h μ B 0 (Int32.ofNat (cN M)) (gMake M (Int32.ofNat i) 0 (-1)) (fX6_generator h (Int32.ofNat i) μ)) ∧ (¬ cN M < 24 → fX6_generator h (Int32.ofNat i) μ = some (3, 0, μ)) := by
  obtain ⟨hc, h24⟩ := Y.cn
  obtain ⟨Y1, hB, hI⟩ := Y
  have t := Y1.2.2.1
  unfold fX6_generator
  rw [Y1.1.2.1, if_pos Y1.2.1.1.1.1, b_in Y1 hB.1 hi]
  simp only [Option.bind_some]
  rw [if_neg (by decide), Y1.1.2.2.1, if_pos t.1.1.1, f_isFull t hc h24]
  simp only [Option.bind_some]
  refine ⟨fun q => ?_, fun q => ?_⟩
  · rw [if_pos q, if_pos rfl, Y1.1.2.2.1, if_pos t.1.1.1]
    obtain ⟨ν, e, t1, F1, -⟩ := r_make t (Int32.ofNat i) 0 (-1)
    have hk := gAt_le (gcnt M)
    rw [e]
    simp only [Option.bind_some]
    rw [if_pos (t.lay hk).1, show mI ν (tCo (h + 39) (gAt (gcnt M))) 0 = gNum (gAt (gcnt M)) from (t1.2.2.2.2 _ hk).1, hc, n_at q, n_num q]
    obtain ⟨y1, y2⟩ := Y1.m t1 F1
    exact ⟨ν, rfl, ⟨y1, hB, (make_rest hI q (nat_T hi) (Or.inl rfl)).1⟩, y2⟩
  · rw [if_neg q, if_neg (by decide)]
theorem y_start {h i : Nat} {μ : MM} {B : gB} {M : gM} (Y : yI h μ B M) (hi : i < 5) : (cN M < 24 → yR h μ B 0 (Int32.ofNat (cN M)) (gMake M (Int32.ofNat i) 1 (-1)) (fX6_start h (Int32.ofNat i) μ)) ∧ (¬ cN M < 24 → fX6_start h (Int32.ofNat i) μ = some (3, 0, μ)) := by
  obtain ⟨hc, h24⟩ := Y.cn
  obtain ⟨Y1, hB, hI⟩ := Y
  have t := Y1.2.2.1
  unfold fX6_start
  rw [Y1.1.2.1, if_pos Y1.2.1.1.1.1, b_in Y1 hB.1 hi]
  simp only [Option.bind_some]
  rw [if_neg (by decide), Y1.1.2.2.1, if_pos t.1.1.1, f_isFull t hc h24]
  simp only [Option.bind_some]
  refine ⟨fun q => ?_, fun q => ?_⟩
  · rw [if_pos q, if_pos rfl, Y1.1.2.2.1, if_pos t.1.1.1]
    obtain ⟨ν, e, t1, F1, -⟩ := r_make t (Int32.ofNat i) 1 (-1)
    have hk := gAt_le (gcnt M)
    rw [e]
    simp only [Option.bind_some]
    rw [if_pos (t.lay hk).1, show mI ν (tCo (h + 39) (gAt (gcnt M))) 0 = gNum (gAt (gcnt M)) from (t1.2.2.2.2 _ hk).1, hc, n_at q, n_num q]
    obtain ⟨y1, y2⟩ := Y1.m t1 F1
    exact ⟨ν, rfl, ⟨y1, hB, (make_rest hI q (nat_T hi) (Or.inr rfl)).1⟩, y2⟩
  · rw [if_neg q, if_neg (by decide)]
theorem gen_of {B : gB} {M : gM} {k : Nat} (hI : IVR B M) (hh : gHas M (Int32.ofNat k) 0 = true) (hk2 : k < 1000) : k < cN M ∧ gAt (Int32.ofNat k) = k ∧ gf M k 4 = 0 := by
  have h24 := hI.1.2.1
  by_cases q : k < cN M
  · rw [has_nat hI.1.1 h24 q] at hh
    exact ⟨q, n_at (by omega), by simpa using hh⟩
  · rw [has_lt hI.1.1 h24 q hk2] at hh
    cases hh
theorem task_of {B : gB} {M : gM} {k : Nat} (hI : IVR B M) (hh : gHas M (Int32.ofNat k) 1 = true) (hk2 : k < 1000) : k < cN M ∧ gAt (Int32.ofNat k) = k ∧ gf M k 4 = 1 := by
  have h24 := hI.1.2.1
  by_cases q : k < cN M
  · rw [has_nat hI.1.1 h24 q] at hh
    exact ⟨q, n_at (by omega), by simpa using hh⟩
  · rw [has_lt hI.1.1 h24 q hk2] at hh
    cases hh
theorem f_within1 {x a b : Int32} {μ : MM} (h : a ≤ x ∧ x ≤ b) : fX6_within x a b μ = some (1, μ) := by rw [f_within, if_pos h]
theorem i_le {a b : Int32} (h : a.toInt ≤ b.toInt) : a ≤ b := Int32.le_iff_toInt_le.mpr h
theorem y_resume {h k : Nat} {μ : MM} {B : gB} {M : gM} {v : Int32} (Y : yI h μ B M) (hh : gHas M (Int32.ofNat k) 0 = true) (hk2 : k < 1000) (ho : gOver M k = false) (hv : -999 ≤ v.toInt ∧ v.toInt ≤ 999) : yR h μ B 0 (gResume B M (Int32.ofNat k) v).1 (gResume B M (Int32.ofNat k) v).2 (fX6_resume h (Int32.ofNat k) v μ) := by
  obtain ⟨hc, h24⟩ := Y.cn
  obtain ⟨Y1, hB, hI⟩ := Y
  obtain ⟨k1, k2, k3⟩ := gen_of hI hh hk2
  have t := Y1.2.2.1
  have k24 : k ≤ 24 := by omega
  have hw : (-999 : Int32) ≤ v ∧ v ≤ 999 := ⟨i_le hv.1, i_le hv.2⟩
  unfold fX6_resume
  rw [Y1.1.2.2.1, if_pos t.1.1.1, f_has t]
  simp only [Option.bind_some]
  rw [hh, if_neg b1, f_within1 hw]
  simp only [Option.bind_some]
  rw [if_neg (by decide), Y1.1.2.2.1, if_pos t.1.1.1, r_at t.1, k2]
  simp only [Option.bind_some]
  rw [if_pos (t.lay k24).1, f_over t k24]
  simp only [Option.bind_some]
  rw [ho, if_pos b0, Y1.1.2.2.1, if_pos t.1.1.1]
  obtain ⟨ν, e, t1, F1⟩ := r_resume (g := Int32.ofNat k) (v := v) hB (by omega) t Y1.2.1 Y1.2.2.2.1 hI (by rw [k2]; exact k1) (by rw [k2]; exact k3) (by rw [k2]; exact ho) ⟨by omega, by omega⟩
  rw [e]
  obtain ⟨y1, y2⟩ := Y1.m t1 F1
  obtain ⟨a1, -⟩ := resume_ok (g := Int32.ofNat k) (v := v) hB hI (by rw [k2]; exact k1) (by rw [k2]; exact k3) (by rw [k2]; exact ho) ⟨by omega, by omega⟩
  exact ⟨ν, rfl, ⟨y1, hB, a1⟩, y2⟩
theorem y_raise {h k : Nat} {μ : MM} {B : gB} {M : gM} {v : Int32} (Y : yI h μ B M) (hk2 : k < 1000) (hv : 1 ≤ v.toInt ∧ v.toInt ≤ 7) : (gHas M (Int32.ofNat k) 0 = false → fX6_raise h (Int32.ofNat k) v μ = some (1, 0, μ)) ∧ (gHas M (Int32.ofNat k) 0 = true → gOver M k = true → fX6_raise h (Int32.ofNat k) v μ = some (3, 0, μ)) ∧ (gHas M (Int32.ofNat k) 0 = true → gOver M k = false → yR h μ B 0 (gThrow B M (Int32.ofNat k) v).1 (gThrow B M (Int32.ofNat k) v).2 (fX6_raise h (Int32.ofNat k) v μ)) := by
  obtain ⟨hc, h24⟩ := Y.cn
  obtain ⟨Y1, hB, hI⟩ := Y
  have t := Y1.2.2.1
  have hw : (1 : Int32) ≤ v ∧ v ≤ 7 := ⟨i_le hv.1, i_le hv.2⟩
  unfold fX6_raise
  rw [Y1.1.2.2.1, if_pos t.1.1.1, f_has t]
  simp only [Option.bind_some]
  refine ⟨fun hh => by rw [hh, if_pos b0], fun hh ho => ?_, fun hh ho => ?_⟩
  · obtain ⟨k1, k2, k3⟩ := gen_of hI hh hk2
    have k24 : k ≤ 24 := by omega
    rw [hh, if_neg b1, f_within1 hw]
    simp only [Option.bind_some]
    rw [if_neg (by decide), Y1.1.2.2.1, if_pos t.1.1.1, r_at t.1, k2]
    simp only [Option.bind_some]
    rw [if_pos (t.lay k24).1, f_over t k24]
    simp only [Option.bind_some]
    rw [ho, if_neg b1]
  · obtain ⟨k1, k2, k3⟩ := gen_of hI hh hk2
    have k24 : k ≤ 24 := by omega
    rw [hh, if_neg b1, f_within1 hw]
    simp only [Option.bind_some]
    rw [if_neg (by decide), Y1.1.2.2.1, if_pos t.1.1.1, r_at t.1, k2]
    simp only [Option.bind_some]
    rw [if_pos (t.lay k24).1, f_over t k24]
    simp only [Option.bind_some]
    rw [ho, if_pos b0, Y1.1.2.2.1, if_pos t.1.1.1]
    obtain ⟨ν, e, t1, F1⟩ := r_throw (g := Int32.ofNat k) (k := v) hB (by omega) t Y1.2.1 Y1.2.2.2.1 hI (by rw [k2]; exact k1) (by rw [k2]; exact k3) (by rw [k2]; exact ho) ⟨by omega, by omega⟩
    rw [e]
    obtain ⟨y1, y2⟩ := Y1.m t1 F1
    obtain ⟨a1, -⟩ := throw_ok (g := Int32.ofNat k) (k := v) hB hI (by rw [k2]; exact k1) (by rw [k2]; exact k3) (by rw [k2]; exact ho) ⟨by omega, by omega⟩
    exact ⟨ν, rfl, ⟨y1, hB, a1⟩, y2⟩
theorem y_close {h k : Nat} {μ : MM} {B : gB} {M : gM} (Y : yI h μ B M) (hk2 : k < 1000) : (gHas M (Int32.ofNat k) 0 = false → fX6_close h (Int32.ofNat k) μ = some (1, 0, μ)) ∧ (gHas M (Int32.ofNat k) 0 = true → yR h μ B 0 (gClose B M (Int32.ofNat k)).1 (gClose B M (Int32.ofNat k)).2 (fX6_close h (Int32.ofNat k) μ)) := by
  obtain ⟨hc, h24⟩ := Y.cn
  obtain ⟨Y1, hB, hI⟩ := Y
  have t := Y1.2.2.1
  unfold fX6_close
  rw [Y1.1.2.2.1, if_pos t.1.1.1, f_has t]
  simp only [Option.bind_some]
  refine ⟨fun hh => by rw [hh, if_pos b0], fun hh => ?_⟩
  obtain ⟨k1, k2, k3⟩ := gen_of hI hh hk2
  rw [hh, if_neg b1, Y1.1.2.2.1, if_pos t.1.1.1]
  obtain ⟨ν, e, t1, F1⟩ := r_close (g := Int32.ofNat k) hB (by omega) t Y1.2.1 Y1.2.2.2.1 hI (by rw [k2]; exact k1) (by rw [k2]; exact k3)
  rw [e]
  obtain ⟨y1, y2⟩ := Y1.m t1 F1
  obtain ⟨a1, -⟩ := close_ok (g := Int32.ofNat k) hB hI (by rw [k2]; exact k1) (by rw [k2]; exact k3)
  exact ⟨ν, rfl, ⟨y1, hB, a1⟩, y2⟩
theorem y_run {h m : Nat} {μ : MM} {B : gB} {M : gM} (Y : yI h μ B M) (hm : 1 ≤ m ∧ m ≤ 50) : yR h μ B 0 (Int32.ofNat (gDone B m M)) (gTurns B m M) (fX6_run h (Int32.ofNat m) μ) := by
  obtain ⟨Y1, hB, hI⟩ := Y
  have t := Y1.2.2.1
  have hw : (1 : Int32) ≤ Int32.ofNat m ∧ Int32.ofNat m ≤ 50 := ⟨(g_le (a := 1) (b := m) (by omega) (by omega)).mpr hm.1, (g_le (a := m) (b := 50) (by omega) (by omega)).mpr hm.2⟩
  unfold fX6_run
  rw [f_within1 hw]
  simp only [Option.bind_some]
  rw [if_neg (by decide), Y1.1.2.2.1, if_pos t.1.1.1]
  obtain ⟨ν, e, t1, F1⟩ := r_turns (m := m) hB (by omega) (by omega) hI t Y1.2.1 Y1.2.2.2.1
  rw [e]
  obtain ⟨y1, y2⟩ := Y1.m t1 F1
  exact ⟨ν, rfl, ⟨y1, hB, (turns_ok hB m M hI).1⟩, y2⟩
theorem y_cancel {h k : Nat} {μ : MM} {B : gB} {M : gM} (Y : yI h μ B M) (hk2 : k < 1000) : (gHas M (Int32.ofNat k) 1 = false → fX6_cancel h (Int32.ofNat k) μ = some (1, 0, μ)) ∧ (gHas M (Int32.ofNat k) 1 = true → yR h μ B 0 (gAsk M (Int32.ofNat k)).1 (gAsk M (Int32.ofNat k)).2 (fX6_cancel h (Int32.ofNat k) μ)) := by
  obtain ⟨hc, h24⟩ := Y.cn
  obtain ⟨Y1, hB, hI⟩ := Y
  have t := Y1.2.2.1
  unfold fX6_cancel
  rw [Y1.1.2.2.1, if_pos t.1.1.1, f_has t]
  simp only [Option.bind_some]
  refine ⟨fun hh => by rw [hh, if_pos b0], fun hh => ?_⟩
  obtain ⟨k1, k2, k3⟩ := task_of hI hh hk2
  rw [hh, if_neg b1, Y1.1.2.2.1, if_pos t.1.1.1]
  obtain ⟨ν, e, t1, F1, -⟩ := r_ask t (Int32.ofNat k)
  rw [e]
  obtain ⟨y1, y2⟩ := Y1.m t1 F1
  obtain ⟨a1, a2, a3, a4, a5⟩ := ask_ok hI k1
  refine ⟨ν, ?_, ⟨y1, hB, a1⟩, y2⟩
  simp only [Option.bind_some]
  rw [if_pos]
  cases o : gOver M k with
  | true => exact Or.inl (a4 o)
  | false =>
    rw [(a5 o).1]
    split
    · exact Or.inr rfl
    · exact Or.inl rfl
/-- time -/
def gTicks : Nat → gM → gM
  | 0, M => M
  | i + 1, M => gTicks i (gTick M)
def gWok : Nat → gM → Nat
  | 0, _ => 0
  | i + 1, M => gWoken M + gWok i (gTick M)
theorem sameQ.v {M M' : gM} (h : sameQ M M') : cN M ≤ cN M' ∧ ∀ k, k < cN M → gf M' k 3 = gf M k 3 ∧ gf M' k 4 = gf M k 4 ∧ gf M' k 16 = gf M k 16 ∧ (gOver M k = true → gf M' k 5 = gf M k 5 ∧ gf M' k 7 = gf M k 7) := by
  have := h.cn
  refine ⟨by omega, fun k hk => ?_⟩
  have f := (h.2 k hk).1
  exact ⟨f 3 (by omega) (by omega) (by omega), f 4 (by omega) (by omega) (by omega), f 16 (by omega) (by omega) (by omega), fun _ => ⟨f 5 (by omega) (by omega) (by omega), f 7 (by omega) (by omega) (by omega)⟩⟩
theorem y_tickL {h m : Nat} {B : gB} (hm : m < 1000) : ∀ (i f x w : Nat) (μ : MM) (M : gM), x + i = m → i < f → yI h μ B M → (gnow M).toInt + i ≤ 900000 → (∃ ν, lX6_tick_24 f h (Int32.ofNat m) (Int32.ofNat w) (Int32.ofNat x) μ = some (0, Int32.ofNat (w + gWok i M), ν) ∧ yI h ν B (gTicks i M) ∧ yF h μ ν) ∧ (gnow (gTicks i M)) = gnow M + Int32.ofNat i ∧ (gnow (gTicks i M)).toInt = (gnow M).toInt + i ∧ (grq (gTicks i M)).length = (grq M).length + gWok i M ∧ sameQ M (gTicks i M) := by
  intro i
  induction i with
  | zero =>
    intro f x w μ M hx hf Y _
    obtain ⟨f, rfl⟩ : ∃ g, f = g + 1 := ⟨f - 1, by omega⟩
    refine ⟨⟨μ, ?_, Y, yF.rf⟩, by show gnow M = gnow M + 0; rw [Int32.add_zero], by show (gnow M).toInt = (gnow M).toInt + ((0 : Nat) : Int); omega, rfl, sameQ.rf⟩
    show bX6_tick_24 _ h (Int32.ofNat m) (Int32.ofNat w) (Int32.ofNat x) μ = _
    unfold bX6_tick_24
    rw [if_pos ((g_le (by omega) (by omega)).mpr (by omega))]
    rfl
  | succ i ih =>
    intro f x w μ M hx hf Y hn
    obtain ⟨f, rfl⟩ : ∃ g, f = g + 1 := ⟨f - 1, by omega⟩
    obtain ⟨hc, h24⟩ := Y.cn
    obtain ⟨Y1, hB, hI⟩ := Y
    have t := Y1.2.2.1
    obtain ⟨ν, e, t1, F1⟩ := r_tick hc h24 t
    obtain ⟨y1, y2⟩ := Y1.m t1 F1
    obtain ⟨a1, a2, a3, a4, a5, a6⟩ := tick_ok hI (by omega)
    obtain ⟨⟨ω, b1, b2, b3⟩, b4, b5, b6, b7⟩ := ih f (x + 1) (w + gWoken M) ν (gTick M) (by omega) (by omega) ⟨y1, hB, a1⟩ (by rw [a3]; omega)
    refine ⟨⟨ω, ?_, b2, y2.tr b3⟩, ?_, ?_, ?_, a6.tr b7⟩
    · show bX6_tick_24 (fun h0 x1 x2 x3 μ => lX6_tick_24 f h0 x1 x2 x3 μ) h (Int32.ofNat m) (Int32.ofNat w) (Int32.ofNat x) μ = _
      unfold bX6_tick_24
      rw [if_neg (mt (g_le (by omega) (by omega)).mp (by omega)), if_pos Y1.1.1, Y1.1.2.2.1, if_pos t.1.1.1, e]
      simp only [Option.bind_some]
      rw [g_suc, ← Int32.ofNat_add, b1, show w + gWoken M + gWok i (gTick M) = w + gWok (i + 1) M by show _ = w + (gWoken M + gWok i (gTick M)); omega]
    · show gnow (gTicks i (gTick M)) = _
      rw [b4, a2, ← g_suc, Int32.add_assoc, Int32.add_comm 1]
    · show (gnow (gTicks i (gTick M))).toInt = _
      rw [b5, a3]; omega
    · show (grq (gTicks i (gTick M))).length = _
      rw [b6, a5]
      show _ = (grq M).length + (gWoken M + gWok i (gTick M))
      omega
theorem y_tick {h m : Nat} {μ : MM} {B : gB} {M : gM} (Y : yI h μ B M) (hm : 1 ≤ m ∧ m ≤ 20) (hn : (gnow M).toInt ≤ 100000) : yR h μ B 0 (Int32.ofNat (gWok m M)) (gTicks m M) (fX6_tick h (Int32.ofNat m) μ) ∧ (gnow (gTicks m M)) = gnow M + Int32.ofNat m ∧ (gnow (gTicks m M)).toInt = (gnow M).toInt + m ∧ (grq (gTicks m M)).length = (grq M).length + gWok m M ∧ sameQ M (gTicks m M) := by
  obtain ⟨⟨ν, a1, a2, a3⟩, a4⟩ := y_tickL (m := m) (by omega) m FU 0 0 μ M (Nat.zero_add _) (by unfold FU; omega) Y (by omega)
  refine ⟨⟨ν, ?_, a2, a3⟩, a4⟩
  have hw : (1 : Int32) ≤ Int32.ofNat m ∧ Int32.ofNat m ≤ 20 := ⟨(g_le (a := 1) (b := m) (by omega) (by omega)).mpr hm.1, (g_le (a := m) (b := 20) (by omega) (by omega)).mpr hm.2⟩
  unfold fX6_tick
  rw [f_within1 hw]
  simp only [Option.bind_some]
  rw [if_neg (by decide)]
  rw [Nat.zero_add] at a1
  exact a1
