/-- shield and spawner -/
theorem t_273 {h k bb : Nat} {μ : MM} {B : gB} {M : gM} {kk12 : Nat → Nat → Int32 → Int32 → Int32 → MM → Option (Int32 × MM)} {x2 x3 : Int32} (Y : yI h μ B M) (hk : k < cN M) (h4 : gf M k 4 = 1) : bL_areTasksRight_273 kk12 h bb x2 x3 (Int32.ofNat k) μ = kk12 h bb x2 x3 (Int32.ofNat (k + 1)) μ := by
  obtain ⟨hc, h24⟩ := Y.cn
  have t3 : fX6_ofTask h (Int32.ofNat k) 3 μ = some (0, gf M k 14, μ) := r_ofTask Y.1 hc h24 hk h4 3 (by decide)
  have t5 : fX6_ofTask h (Int32.ofNat k) 5 μ = some (0, gf M k 16, μ) := r_ofTask Y.1 hc h24 hk h4 5 (by decide)
  obtain ⟨-, -, c3, c4, -⟩ := (Y.2.2.1.2.2 k hk).2.1
  have c3 : (gf M k 16).toInt < k := c3
  have c4 : 0 ≤ (gf M k 14).toInt := c4
  have n0 : ¬ gf M k 14 < 0 := fun z => by
    have := Int32.lt_iff_toInt_lt.mp z
    have : (0 : Int32).toInt = 0 := rfl
    omega
  have n1 : gf M k 16 < Int32.ofNat k := Int32.lt_iff_toInt_lt.mpr (by rw [Int32.toInt_ofNat_of_lt (by omega)]; exact c3)
  unfold bL_areTasksRight_273
  rw [if_pos Y.1.1.1, t3, Option.bind_some, if_pos rfl, if_neg n0, t5, Option.bind_some, if_pos rfl, if_pos n1, g_suc]
/-- the row of those that each awaits -/
theorem t_210 {h k bb : Nat} {μ : MM} {B : gB} {M : gM} {kk12 : Nat → Nat → Int32 → Int32 → Int32 → MM → Option (Int32 × MM)} {x2 x3 : Int32} (Y : yI h μ B M) (hk : k < cN M) (h4 : gf M k 4 = 1) : ∀ (n f s : Nat) (x : Int32), n < f → s + n ≤ 24 → (x = -1 ∧ n = 0 ∨ ∃ j, x = Int32.ofNat j ∧ j < cN M ∧ j ≠ k ∧ gf M j 4 = 1 ∧ gTm (fun i => gf M i 13) (cN M) (n - 1) j ∧ 1 ≤ n ∧ ∃ m, n ≤ m ∧ gTm (fun i => gf M i 13) (cN M) m k) →
    lL_areTasksRight_210 kk12 f h bb x2 x3 (Int32.ofNat k) (gf M k 13) x (Int32.ofNat s) μ = kk12 h bb x2 x3 (Int32.ofNat (k + 1)) μ := by
  obtain ⟨hc, h24⟩ := Y.cn
  intro n
  induction n with
  | zero =>
    intro f s x hf hs hx
    obtain ⟨f, rfl⟩ : ∃ g, f = g + 1 := ⟨f - 1, by omega⟩
    have ex : x = -1 := by
      rcases hx with q | ⟨j, -, -, -, -, -, q, -⟩
      · exact q.1
      · omega
    show bL_areTasksRight_210 kk12 _ h bb x2 x3 (Int32.ofNat k) (gf M k 13) x (Int32.ofNat s) μ = _
    unfold bL_areTasksRight_210
    rw [ex, if_pos lt0_neg]
    rcases task_one Y.2.2 hk h4 with ⟨a, b, c, d⟩ | ⟨a, b, c, d⟩ | ⟨a, b, c, d⟩ | ⟨a, b, c, j, d, dj, d4, dov⟩
    · rw [d, if_pos lt0_neg]; exact t_273 Y hk h4
    · rw [d, if_pos lt0_neg]; exact t_273 Y hk h4
    · rw [d, if_pos lt0_neg]; exact t_273 Y hk h4
    · have o1 : fX6_of h (Int32.ofNat j) 1 μ = some (0, gf M j 5, μ) := r_of Y.1 hc h24 dj 1 (by decide)
      have n5 : ¬ (2 : Int32) < gf M j 5 := by
        rcases (Y.2.2.1.2.2 j dj).1.2.2.1 with q | q | q | q | q
        · rw [show gf M j 5 = 0 from q]; decide
        · rw [show gf M j 5 = 1 from q]; decide
        · rw [show gf M j 5 = 2 from q]; decide
        · unfold gOver at dov; rw [show gf M j 5 = 3 from q] at dov; cases dov
        · unfold gOver at dov; rw [show gf M j 5 = 4 from q] at dov; cases dov
      rw [d, if_neg (lt0_nat (by omega)), if_pos Y.1.1.1, o1, Option.bind_some, if_pos rfl, if_neg n5]
      exact t_273 Y hk h4
  | succ n ih =>
    intro f s x hf hs hx
    obtain ⟨f, rfl⟩ : ∃ g, f = g + 1 := ⟨f - 1, by omega⟩
    obtain ⟨j, ej, hj, hjk, j4, ht, -, m, hm, hmt⟩ : ∃ j, x = Int32.ofNat j ∧ j < cN M ∧ j ≠ k ∧ gf M j 4 = 1 ∧ gTm (fun i => gf M i 13) (cN M) (n + 1 - 1) j ∧ 1 ≤ n + 1 ∧ ∃ m, n + 1 ≤ m ∧ gTm (fun i => gf M i 13) (cN M) m k := by
      rcases hx with q | q
      · omega
      · exact q
    have o2 : fX6_of h (Int32.ofNat j) 2 μ = some (0, gf M j 4, μ) := r_of Y.1 hc h24 hj 2 (by decide)
    have t2 : fX6_ofTask h (Int32.ofNat j) 2 μ = some (0, gf M j 13, μ) := r_ofTask Y.1 hc h24 hj j4 2 (by decide)
    have n24 : ¬ (24 : Int32) < Int32.ofNat s := by
      have := mt (g_lt (a := 24) (b := s) (by omega) (by omega)).mp (by omega)
      exact this
    show bL_areTasksRight_210 kk12 (fun h0 h1 x2 x3 x4 x6 x9 x10 μ => lL_areTasksRight_210 kk12 f h0 h1 x2 x3 x4 x6 x9 x10 μ) h bb x2 x3 (Int32.ofNat k) (gf M k 13) x (Int32.ofNat s) μ = _
    unfold bL_areTasksRight_210
    rw [ej, if_neg (lt0_nat (by omega)), if_neg (fun z => hjk (n_inj (by omega) (by omega) z)), if_neg n24, if_pos Y.1.1.1, o2, Option.bind_some, if_pos rfl, if_pos j4, t2, Option.bind_some, if_pos rfl, g_suc]
    refine ih f (s + 1) (gf M j 13) (by omega) (by omega) ?_
    cases n with
    | zero => exact Or.inl ⟨ht, rfl⟩
    | succ n =>
      obtain ⟨i, e1, hi, ht2⟩ := ht
      have e1 : gf M j 13 = Int32.ofNat i := e1
      refine Or.inr ⟨i, e1, hi, fun z => ?_, ?_, ht2, by omega, m, by omega, hmt⟩
      · subst z
        have := gTm.one h24 _ _ _ ht2 hmt
        omega
      · rcases task_one Y.2.2 hj j4 with ⟨a, b, c, d⟩ | ⟨a, b, c, d⟩ | ⟨a, b, c, d⟩ | ⟨a, b, c, i2, d, di, d4, dov⟩
        · rw [d] at e1; exact absurd e1.symm (n_neg (by omega))
        · rw [d] at e1; exact absurd e1.symm (n_neg (by omega))
        · rw [d] at e1; exact absurd e1.symm (n_neg (by omega))
        · have : i2 = i := n_inj (by omega) (by omega) (d.symm.trans e1)
          subst this
          exact d4
/-- the place among the ready ones is marked -/
theorem t_165 {h k bb : Nat} {μ : MM} {B : gB} {M : gM} {kk12 : Nat → Nat → Int32 → Int32 → Int32 → MM → Option (Int32 × MM)} {x2 x3 : Int32} (Y : yI h μ B M) (hbb : h + 301 ≤ bb) (hk : k < cN M) (h4 : gf M k 4 = 1) (hb : mK μ bb = 23 ∧ mN μ bb = 24) (hz : Int32.ofNat k ∈ grq M → mI μ bb ((grq M).idxOf (Int32.ofNat k)) = 0) :
    bL_areTasksRight_165 kk12 h bb x2 x3 (Int32.ofNat k) (gPl M k) (gf M k 13) μ = (if Int32.ofNat k ∈ grq M then kk12 h bb (x2 + 1) x3 (Int32.ofNat (k + 1)) (sI μ bb ((grq M).idxOf (Int32.ofNat k)) 1) else kk12 h bb x2 x3 (Int32.ofNat (k + 1)) μ) := by
  obtain ⟨hc, h24⟩ := Y.cn
  have m8 : fX6_many h 8 μ = some (0, Int32.ofNat (grq M).length, μ) := r_many Y.1 hc h24 8 (by decide)
  have hl : (grq M).length ≤ 24 := Y.1.2.2.1.2.2.1.1
  have chain : ∀ {ν : MM} (x2 : Int32), yI h ν B M → lL_areTasksRight_210 kk12 FU h bb x2 x3 (Int32.ofNat k) (gf M k 13) (gf M k 13) 0 ν = kk12 h bb x2 x3 (Int32.ofNat (k + 1)) ν := fun {ν} x2 Yν => by
    obtain ⟨n, hn⟩ := Y.2.2.2.2.2.2.2.2.2.2 k hk
    have hnl := gTm.len h24 hk hn
    refine t_210 Yν hk h4 n FU 0 (gf M k 13) (by unfold FU; omega) (by omega) ?_
    cases n with
    | zero => exact Or.inl ⟨hn, rfl⟩
    | succ n =>
      obtain ⟨j, e1, hj, ht⟩ := id hn
      have e1 : gf M k 13 = Int32.ofNat j := e1
      refine Or.inr ⟨j, e1, hj, fun z => ?_, ?_, ht, by omega, n + 1, Nat.le_refl _, hn⟩
      · subst z
        have := gTm.one h24 _ _ _ ht hn
        omega
      · rcases task_one Y.2.2 hk h4 with ⟨a, b, c, d⟩ | ⟨a, b, c, d⟩ | ⟨a, b, c, d⟩ | ⟨a, b, c, i2, d, di, d4, dov⟩
        · rw [d] at e1; exact absurd e1.symm (n_neg (by omega))
        · rw [d] at e1; exact absurd e1.symm (n_neg (by omega))
        · rw [d] at e1; exact absurd e1.symm (n_neg (by omega))
        · have : i2 = j := n_inj (by omega) (by omega) (d.symm.trans e1)
          subst this
          exact d4
  unfold bL_areTasksRight_165
  rw [if_pos Y.1.1.1, m8, Option.bind_some, if_pos rfl]
  by_cases q : Int32.ofNat k ∈ grq M
  · have hi := List.idxOf_lt_length_of_mem q
    have ep : gPl M k = Int32.ofNat ((grq M).idxOf (Int32.ofNat k)) := by unfold gPl; rw [if_pos q]
    have n0 := lt0_nat (n := (grq M).idxOf (Int32.ofNat k)) (by omega)
    rw [ep, if_neg (mt (g_le (by omega) (by omega)).mp (by omega)), if_neg n0, if_pos hb.1, hb.2, g_nat (by omega), if_pos (fun z => z.elim n0 (by omega)), if_pos (hz q), if_neg n0, if_pos (fun z => z.elim n0 (by omega)), if_pos q]
    exact chain (x2 + 1) (Y.agree (yS.I hbb))
  · have ep : gPl M k = -1 := by unfold gPl; rw [if_neg q]
    have nl : ¬ Int32.ofNat (grq M).length ≤ (-1 : Int32) := fun z => by
      have := Int32.le_iff_toInt_le.mp z
      rw [Int32.toInt_ofNat_of_lt (by omega)] at this
      have : (-1 : Int32).toInt = -1 := rfl
      omega
    rw [ep, if_neg nl, if_pos lt0_neg, if_pos lt0_neg, if_neg q]
    exact chain x2 Y
/-- how many of those below n are ready -/
def gCtR (M : gM) : Nat → Nat
  | 0 => 0
  | n + 1 => gCtR M n + (if Int32.ofNat n ∈ grq M then 1 else 0)
theorem ctR_len : ∀ (n : Nat) (l : List Int32), n ≤ 24 → l.Nodup → (∀ x ∈ l, ∃ k, x = Int32.ofNat k ∧ k < n) → ∀ c : Nat → Nat, c 0 = 0 → (∀ k, k < n → c (k + 1) = c k + (if Int32.ofNat k ∈ l then 1 else 0)) → c n = l.length := by
  intro n
  induction n with
  | zero =>
    intro l _ _ h c h0 _
    cases l with
    | nil => exact h0
    | cons x r => obtain ⟨k, -, hk⟩ := h x List.mem_cons_self; omega
  | succ n ih =>
    intro l hn hl h c h0 hs
    rw [hs n (Nat.lt_succ_self n)]
    by_cases q : Int32.ofNat n ∈ l
    · rw [if_pos q]
      have hlen := List.length_erase_of_mem q
      have hpos : 0 < l.length := List.length_pos_of_mem q
      have h1 := ih (l.erase (Int32.ofNat n)) (by omega) (hl.erase _) (fun x hx => by
        rw [hl.mem_erase_iff] at hx
        obtain ⟨k, e, hk⟩ := h x hx.2
        refine ⟨k, e, ?_⟩
        have : k ≠ n := fun z => hx.1 (by rw [e, z])
        omega) c h0 (fun k hk => by
        rw [hs k (by omega)]
        have e : (Int32.ofNat k ∈ l.erase (Int32.ofNat n)) ↔ Int32.ofNat k ∈ l := by
          rw [hl.mem_erase_iff]
          exact ⟨fun z => z.2, fun z => ⟨fun w => by have := n_inj (by omega) (by omega) w; omega, z⟩⟩
        by_cases z : Int32.ofNat k ∈ l
        · rw [if_pos z, if_pos (e.mpr z)]
        · rw [if_neg z, if_neg (mt e.mp z)])
      omega
    · rw [if_neg q]
      have h1 := ih l (by omega) hl (fun x hx => by
        obtain ⟨k, e, hk⟩ := h x hx
        refine ⟨k, e, ?_⟩
        have : k ≠ n := fun z => q (by rw [← z, ← e]; exact hx)
        omega) c h0 (fun k hk => hs k (by omega))
      omega
theorem ctO_up {M M' : gM} (h : gKv M M') : gCtO M (cN M) ≤ gCtO M' (cN M') := by
  have a : ∀ n, n ≤ cN M → gCtO M n ≤ gCtO M' n := by
    intro n
    induction n with
    | zero => intro _; exact Nat.le_refl _
    | succ n ih =>
      intro hn
      show gCtO M n + (if gf M n 4 = 1 ∧ gOver M n = true then 1 else 0) ≤ gCtO M' n + (if gf M' n 4 = 1 ∧ gOver M' n = true then 1 else 0)
      have := ih (by omega)
      obtain ⟨b1, b2, b3, b4⟩ := h.2.2 n (by omega)
      by_cases q : gf M n 4 = 1 ∧ gOver M n = true
      · rw [if_pos q, if_pos ⟨b2.trans q.1, by rw [over_f (b4 q.2).1]; exact q.2⟩]
        omega
      · rw [if_neg q]
        omega
  have b : ∀ m n, gCtO M' n ≤ gCtO M' (n + m) := by
    intro m
    induction m with
    | zero => intro n; exact Nat.le_refl _
    | succ m ih =>
      intro n
      have := ih n
      show gCtO M' n ≤ gCtO M' (n + m) + _
      omega
  have := a (cN M) (Nat.le_refl _)
  have c := b (cN M' - cN M) (cN M)
  rw [show cN M + (cN M' - cN M) = cN M' by have := h.1; omega] at c
  omega
theorem ov_up {B : gB} {M : gM} (hB : IB B) (hI : IVR B M) : gCtO M (cN M) ≤ gOvIn B M 1 ∧ gOvIn B M 1 ≤ gOvIn B M 50 ∧ gOvIn B M 50 ≤ 1000 ∧ gOvIn B M 1 ≤ 1000 ∧ gCtO M (cN M) ≤ 1000 := by
  have lim : ∀ (M : gM) (n : Nat), gCtO M n ≤ n := by
    intro M n
    induction n with
    | zero => exact Nat.le_refl _
    | succ n ih =>
      show gCtO M n + (if gf M n 4 = 1 ∧ gOver M n = true then 1 else 0) ≤ n + 1
      split <;> omega
  obtain ⟨a1, a2, -⟩ := turns_ok hB 1 M hI
  obtain ⟨b1, b2, -⟩ := turns_ok hB 50 M hI
  have e : gOvIn B M 1 ≤ gOvIn B M 50 := by
    unfold gOvIn
    by_cases q : (grq M).length = 0
    · have e1 : gTurns B 1 M = M := by show (if (grq M).length = 0 then M else gTurns B 0 (gTurn B M)) = M; rw [if_pos q]
      have e2 : gTurns B 50 M = M := by show (if (grq M).length = 0 then M else gTurns B 49 (gTurn B M)) = M; rw [if_pos q]
      rw [e1, e2]
      exact Nat.le_refl _
    · have e1 : gTurns B 1 M = gTurn B M := by show (if (grq M).length = 0 then M else gTurns B 0 (gTurn B M)) = _; rw [if_neg q]; rfl
      have e2 : gTurns B 50 M = gTurns B 49 (gTurn B M) := by show (if (grq M).length = 0 then M else gTurns B 49 (gTurn B M)) = _; rw [if_neg q]
      rw [e1, e2]
      exact ctO_up (turns_ok hB 49 (gTurn B M) (turn_ok hB hI q).1).2.1
  have l1 := lim (gTurns B 1 M) (cN (gTurns B 1 M))
  have l2 := lim (gTurns B 50 M) (cN (gTurns B 50 M))
  have l3 := lim M (cN M)
  have := a1.1.2.1
  have := b1.1.2.1
  have := hI.1.2.1
  exact ⟨ctO_up a2, e, by unfold gOvIn; omega, by unfold gOvIn; omega, by omega⟩
theorem t_loop {h N bb : Nat} {μ0 : MM} {B : gB} {M : gM} (hbb : h + 301 ≤ bb) (hN : N ≤ bb) : ∀ (i f k : Nat) (μ : MM), k + i = cN M → i < f → yI h μ B M → yG h N μ0 μ → mK μ bb = 23 ∧ mN μ bb = 24 → (∀ p, mI μ bb p ≠ 0 → ∃ j, j < k ∧ Int32.ofNat j ∈ grq M ∧ (grq M).idxOf (Int32.ofNat j) = p) →
    ∃ ν, lL_areTasksRight_12 f h bb (Int32.ofNat (gCtR M k)) (Int32.ofNat (gCtO M k)) (Int32.ofNat k) μ = some (1, ν) ∧ yI h ν B M ∧ yG h N μ0 ν := by
  intro i
  induction i with
  | zero =>
    intro f k μ hk hf Y F hb hm
    obtain ⟨f, rfl⟩ : ∃ g, f = g + 1 := ⟨f - 1, by omega⟩
    obtain rfl : k = cN M := by omega
    obtain ⟨hc, h24⟩ := Y.cn
    obtain ⟨v1, v2, v3, v4, v5⟩ := ov_up Y.2.1 Y.2.2
    have m1 : fX6_many h 1 μ = some (0, gcnt M, μ) := r_many Y.1 hc h24 1 (by decide)
    have m8 : fX6_many h 8 μ = some (0, Int32.ofNat (grq M).length, μ) := r_many Y.1 hc h24 8 (by decide)
    have er : gCtR M (cN M) = (grq M).length := ctR_len (cN M) (grq M) h24 Y.2.2.2.2.2.1.1 (fun x hx => by obtain ⟨-, k, e, hk, -⟩ := Y.2.2.2.2.2.1.2 x hx; exact ⟨k, e, hk⟩) (gCtR M) rfl (fun k _ => rfl)
    obtain ⟨ν1, f1, Y1, F1⟩ := y_overIn Y (m := 1) ⟨by omega, by omega⟩
    obtain ⟨ν2, f2, Y2, F2⟩ := y_overIn Y1 (m := 50) ⟨by omega, by omega⟩
    obtain ⟨ν3, f3, Y3, F3⟩ := y_overIn Y2 (m := 1) ⟨by omega, by omega⟩
    have f1 : fX6_overIn h 1 μ = some (0, Int32.ofNat (gOvIn B M 1), ν1) := f1
    have f2 : fX6_overIn h 50 ν1 = some (0, Int32.ofNat (gOvIn B M 50), ν2) := f2
    have f3 : fX6_overIn h 1 ν2 = some (0, Int32.ofNat (gOvIn B M 1), ν3) := f3
    refine ⟨ν3, ?_, Y3, F.tr ((F1.tr F2).tr F3).g⟩
    show bL_areTasksRight_12 _ h bb _ _ (Int32.ofNat (cN M)) μ = _
    unfold bL_areTasksRight_12
    rw [if_pos Y.1.1.1, m1, Option.bind_some, if_pos rfl, hc, if_pos ((g_le (by omega) (by omega)).mpr (Nat.le_refl _)), m8, Option.bind_some, if_pos rfl, if_pos (by rw [er]), f1, Option.bind_some, if_pos rfl, if_neg (mt (g_lt (by omega) (by omega)).mp (by omega)), f2, Option.bind_some, if_pos rfl, f3, Option.bind_some, if_pos rfl, if_neg (mt (g_lt (by omega) (by omega)).mp (by omega))]
  | succ i ih =>
    intro f k μ hk hf Y F hb hm
    obtain ⟨f, rfl⟩ : ∃ g, f = g + 1 := ⟨f - 1, by omega⟩
    obtain ⟨hc, h24⟩ := Y.cn
    have hkc : k < cN M := by omega
    have sR : gCtR M (k + 1) = gCtR M k + (if Int32.ofNat k ∈ grq M then 1 else 0) := rfl
    have sO : gCtO M (k + 1) = gCtO M k + (if gf M k 4 = 1 ∧ gOver M k = true then 1 else 0) := rfl
    show ∃ ν, bL_areTasksRight_12 (fun h0 h1 x2 x3 x4 μ => lL_areTasksRight_12 f h0 h1 x2 x3 x4 μ) h bb (Int32.ofNat (gCtR M k)) (Int32.ofNat (gCtO M k)) (Int32.ofNat k) μ = some (1, ν) ∧ _
    by_cases h4 : gf M k 4 = 1
    · rw [t_task Y hkc h4]
      have hz : Int32.ofNat k ∈ grq M → mI μ bb ((grq M).idxOf (Int32.ofNat k)) = 0 := fun q => Classical.byContradiction fun z => by
        obtain ⟨j, j1, j2, j3⟩ := hm _ z
        have g1 : (grq M)[(grq M).idxOf (Int32.ofNat j)]? = some (Int32.ofNat j) := by rw [List.getElem?_eq_getElem (List.idxOf_lt_length_of_mem j2), List.getElem_idxOf]
        have g2 : (grq M)[(grq M).idxOf (Int32.ofNat k)]? = some (Int32.ofNat k) := by rw [List.getElem?_eq_getElem (List.idxOf_lt_length_of_mem q), List.getElem_idxOf]
        rw [j3, g2] at g1
        have := n_inj (by omega) (by omega) (Option.some.inj g1)
        omega
      rw [t_165 Y hbb hkc h4 hb hz]
      have eO : Int32.ofNat (gCtO M k) + (if gOver M k = true then 1 else 0) = Int32.ofNat (gCtO M (k + 1)) := by
        rw [sO]
        by_cases o : gOver M k = true
        · rw [if_pos o, if_pos ⟨h4, o⟩, g_suc]
        · rw [if_neg o, if_neg (fun z => o z.2), Int32.add_zero]
          rfl
      rw [eO]
      by_cases q : Int32.ofNat k ∈ grq M
      · rw [if_pos q] at sR ⊢
        have eR : Int32.ofNat (gCtR M k) + 1 = Int32.ofNat (gCtR M (k + 1)) := by rw [sR, g_suc]
        rw [eR]
        refine ih f (k + 1) _ (by omega) (by omega) (Y.agree (yS.I hbb)) (F.tr (yG.I hN)) hb (fun p hp => ?_)
        rw [mI_sI] at hp
        by_cases z : bb = bb ∧ p = (grq M).idxOf (Int32.ofNat k)
        · exact ⟨k, by omega, q, z.2.symm⟩
        · rw [if_neg z] at hp
          obtain ⟨j, j1, j2, j3⟩ := hm p hp
          exact ⟨j, by omega, j2, j3⟩
      · rw [if_neg q] at sR ⊢
        have eR : gCtR M (k + 1) = gCtR M k := by rw [sR]; rfl
        rw [← eR]
        exact ih f (k + 1) μ (by omega) (by omega) Y F hb (fun p hp => by
          obtain ⟨j, j1, j2, j3⟩ := hm p hp
          exact ⟨j, by omega, j2, j3⟩)
    · have m1 : fX6_many h 1 μ = some (0, gcnt M, μ) := r_many Y.1 hc h24 1 (by decide)
      have o2 : fX6_of h (Int32.ofNat k) 2 μ = some (0, gf M k 4, μ) := r_of Y.1 hc h24 hkc 2 (by decide)
      have nm : Int32.ofNat k ∉ grq M := fun z => by
        obtain ⟨-, j, p2, p3, p4, -⟩ := Y.2.2.2.2.2.1.2 _ z
        have : k = j := n_inj (by omega) (by omega) p2
        subst this
        exact h4 p4
      have eR : gCtR M (k + 1) = gCtR M k := by rw [sR, if_neg nm]; rfl
      have eO : gCtO M (k + 1) = gCtO M k := by rw [sO, if_neg (fun z => h4 z.1)]; rfl
      unfold bL_areTasksRight_12
      rw [if_pos Y.1.1.1, m1, Option.bind_some, if_pos rfl, hc, if_neg (mt (g_le (by omega) (by omega)).mp (by omega)), o2, Option.bind_some, if_pos rfl, if_neg h4, g_suc, ← eR, ← eO]
      exact ih f (k + 1) μ (by omega) (by omega) Y F hb (fun p hp => by
        obtain ⟨j, j1, j2, j3⟩ := hm p hp
        exact ⟨j, by omega, j2, j3⟩)
theorem t_all {h N : Nat} {μ : MM} {B : gB} {M : gM} (Y : yI h μ B M) (hN : N ≤ mX μ) (hh : h + 301 ≤ N) : ∃ ν, fL_areTasksRight h μ = some (1, ν) ∧ yI h ν B M ∧ yG h N μ ν := by
  unfold fL_areTasksRight
  obtain ⟨ν, e, Y1, F1⟩ := t_loop (h := h) (N := N) (bb := mX μ) (μ0 := μ) (M := M) (by omega) hN (cN M) FU 0 (sN μ 23 24) (Nat.zero_add _) (by have := Y.cn.2; unfold FU; omega) (Y.agree (yS.N (by omega))) (yG.N hN) ⟨by rw [mK_sN, if_pos rfl], by rw [mN_sN, if_pos rfl]⟩ (fun p hp => absurd (by rw [mI_sN, if_pos rfl]) hp)
  exact ⟨ν, e, Y1, F1⟩
