/-! areCoroutinesRight, over the model -/
theorem jabs_ok {v : Int32} (h : okT v) : jabs v ≤ (9999 : Int32) := by
  unfold jabs
  have c9 : (9999 : Int32).toInt = 9999 := rfl
  have c0 : (0 : Int32).toInt = 0 := rfl
  obtain ⟨h1, h2⟩ := h
  split
  · exact Int32.le_iff_toInt_le.mpr (by rw [c9]; exact h2)
  · refine Int32.le_iff_toInt_le.mpr ?_
    rw [i_sub (by rw [c0]; omega) (by rw [c0]; omega), c9, c0]
    omega
theorem close_over {B : gB} {M : gM} {k : Nat} (hk : k < 24) (ho : gOver M k = true) : (gClose B M (Int32.ofNat k)).1 = 0 := by
  unfold gClose
  rw [n_at hk]
  simp only [ho]
  rfl
set_option maxHeartbeats 1000000 in
theorem c_388 {h k w s t : Nat} {B : gB} {M : gM} {kk14 : Nat → Nat → Nat → Nat → Int32 → Int32 → MM → Option (Int32 × MM)} {x4 : Int32} (hk : k < cN M) : ∀ (i f n : Nat) (μ : MM), n + i = 4 → i < f → yI h μ B M → ∃ ν, lL_areCoroutinesRight_388 kk14 f h w s t x4 (Int32.ofNat k) (gf M k 5) (Int32.ofNat n) μ = kk14 h w s t x4 (Int32.ofNat (k + 1)) ν ∧ yI h ν B M ∧ yF h μ ν := by
  intro i
  induction i with
  | zero =>
    intro f n μ hn hf Y
    obtain ⟨f, rfl⟩ : ∃ g, f = g + 1 := ⟨f - 1, by omega⟩
    obtain rfl : n = 4 := by omega
    obtain ⟨hc, h24⟩ := Y.cn
    have o2 : fX6_of h (Int32.ofNat k) 2 μ = some (0, gf M k 4, μ) := r_of Y.1 hc h24 hk 2 (by decide)
    show ∃ ν, bL_areCoroutinesRight_388 kk14 _ h w s t x4 (Int32.ofNat k) (gf M k 5) (Int32.ofNat 4) μ = _ ∧ _
    unfold bL_areCoroutinesRight_388
    rw [if_pos (show (4 : Int32) ≤ Int32.ofNat 4 by decide), if_pos Y.1.1.1, o2, Option.bind_some, if_pos rfl]
    dsimp only
    by_cases h4 : gf M k 4 = 0
    · rw [if_pos h4]
      have hh : gHas M (Int32.ofNat k) 0 = true := by rw [has_nat hc h24 hk, h4]; rfl
      have hl : gLeft B M k ≤ 20 := by
        unfold gLeft
        split
        · omega
        · exact left_le 20 0 M (by omega)
      obtain ⟨μ1, e1, Y1, F1⟩ := y_left Y hh (by omega)
      obtain ⟨μ2, e2, Y2, F2⟩ := y_left Y1 hh (by omega)
      rw [e1, Option.bind_some, if_pos rfl, if_neg (lt0_nat (by omega)), e2, Option.bind_some, if_pos rfl, if_neg (show ¬ (20 : Int32) < Int32.ofNat (gLeft B M k) from mt (g_lt (a := 20) (by omega) (by omega)).mp (by omega))]
      dsimp only
      by_cases ho : gf M k 5 ≤ 2
      · rw [if_pos ho, g_suc]
        exact ⟨μ2, rfl, Y2, F1.tr F2⟩
      · rw [if_neg ho]
        have hov : gOver M k = true := by
          unfold gOver
          rcases (Y.2.2.1.2.2 k hk).1.2.2.1 with q | q | q | q | q
          · exact absurd (show gf M k 5 ≤ 2 by rw [show gf M k 5 = 0 from q]; decide) ho
          · exact absurd (show gf M k 5 ≤ 2 by rw [show gf M k 5 = 1 from q]; decide) ho
          · exact absurd (show gf M k 5 ≤ 2 by rw [show gf M k 5 = 2 from q]; decide) ho
          · rw [show gf M k 5 = 3 from q]; rfl
          · rw [show gf M k 5 = 4 from q]; rfl
        obtain ⟨μ3, e3, Y3, F3⟩ := y_left Y2 hh (by omega)
        obtain ⟨μ4, e4, Y4, F4⟩ := (y_wouldClose Y3 (k := k) (by omega)).2 hh
        have gl0 : gLeft B M k = 0 := by unfold gLeft; rw [if_pos hov]
        rw [close_over (by omega) hov] at e4
        rw [e3, Option.bind_some, if_pos rfl, e4, Option.bind_some, if_pos rfl, gl0, if_pos (show Int32.ofNat 0 + 0 = 0 from rfl), g_suc]
        exact ⟨μ4, rfl, Y4, ((F1.tr F2).tr F3).tr F4⟩
    · rw [if_neg h4, g_suc]
      exact ⟨μ, rfl, Y, yF.rf⟩
  | succ i ih =>
    intro f n μ hn hf Y
    obtain ⟨f, rfl⟩ : ∃ g, f = g + 1 := ⟨f - 1, by omega⟩
    obtain ⟨hc, h24⟩ := Y.cn
    obtain ⟨ν, e, r⟩ := ih f (n + 1) μ (by omega) (by omega) Y
    refine ⟨ν, ?_, r⟩
    show bL_areCoroutinesRight_388 kk14 (fun h0 h1 h2 h3 x4 x5 x6 x9 μ => lL_areCoroutinesRight_388 kk14 f h0 h1 h2 h3 x4 x5 x6 x9 μ) h w s t x4 (Int32.ofNat k) (gf M k 5) (Int32.ofNat n) μ = _
    unfold bL_areCoroutinesRight_388
    rw [if_neg (show ¬ (4 : Int32) ≤ Int32.ofNat n from mt (g_le (a := 4) (by omega) (by omega)).mp (by omega)), if_pos Y.1.1.1, r_loc Y.1 hc h24 hk (by omega), Option.bind_some, if_pos rfl, if_pos (show jabs (gl M k n) ≤ 9999 from jabs_ok ((Y.2.2.1.2.2 k hk).1.1.2.1 n (by omega))), g_suc]
    exact e
theorem sgn_ok {x : Int32 × Int32} (h : okS x) : ¬ x.1 < (-4 : Int32) ∧ ¬ (11 : Int32) < x.1 ∧ x.1 ≠ 0 := by
  have c4 : (-4 : Int32).toInt = -4 := rfl
  have c11 : (11 : Int32).toInt = 11 := rfl
  rcases h with e | e | e | ⟨e, -⟩ | e
  · rw [e]; decide
  · rw [e]; decide
  · rw [e]; decide
  · rw [e]; decide
  · obtain ⟨a, b⟩ := e
    refine ⟨fun q => ?_, fun q => ?_, fun q => ?_⟩
    · have := Int32.lt_iff_toInt_lt.mp q; omega
    · have := Int32.lt_iff_toInt_lt.mp q; omega
    · rw [q] at a; exact absurd a (by decide)
theorem c_328 {h k w s t : Nat} {B : gB} {M : gM} {kk14 : Nat → Nat → Nat → Nat → Int32 → Int32 → MM → Option (Int32 × MM)} {x4 : Int32} (hk : k < cN M) : ∀ (i f n : Nat) (μ : MM), n + i = (gk M k).length → i < f → yI h μ B M → ∃ ν, lL_areCoroutinesRight_328 kk14 f h w s t x4 (Int32.ofNat k) (gf M k 5) (Int32.ofNat n) μ = kk14 h w s t x4 (Int32.ofNat (k + 1)) ν ∧ yI h ν B M ∧ yF h μ ν := by
  intro i
  induction i with
  | zero =>
    intro f n μ hn hf Y
    obtain ⟨f, rfl⟩ : ∃ g, f = g + 1 := ⟨f - 1, by omega⟩
    obtain ⟨hc, h24⟩ := Y.cn
    have hl : (gk M k).length ≤ 6 := (Y.2.2.1.2.2 k hk).1.1.2.2.1.1
    have o5 : fX6_of h (Int32.ofNat k) 5 μ = some (0, Int32.ofNat (gk M k).length, μ) := r_of Y.1 hc h24 hk 5 (by decide)
    show ∃ ν, bL_areCoroutinesRight_328 kk14 _ h w s t x4 (Int32.ofNat k) (gf M k 5) (Int32.ofNat n) μ = _ ∧ _
    unfold bL_areCoroutinesRight_328
    rw [if_pos Y.1.1.1, o5, Option.bind_some, if_pos rfl, if_pos ((g_le (by omega) (by omega)).mpr (by omega))]
    exact c_388 hk 4 FU 0 μ rfl (by unfold FU; omega) Y
  | succ i ih =>
    intro f n μ hn hf Y
    obtain ⟨f, rfl⟩ : ∃ g, f = g + 1 := ⟨f - 1, by omega⟩
    obtain ⟨hc, h24⟩ := Y.cn
    have hl : (gk M k).length ≤ 6 := (Y.2.2.1.2.2 k hk).1.1.2.2.1.1
    have o5 : fX6_of h (Int32.ofNat k) 5 μ = some (0, Int32.ofNat (gk M k).length, μ) := r_of Y.1 hc h24 hk 5 (by decide)
    obtain ⟨ν, e, r⟩ := ih f (n + 1) μ (by omega) (by omega) Y
    refine ⟨ν, ?_, r⟩
    have hx : n < (gk M k).reverse.length := by rw [List.length_reverse]; omega
    have hs : (gk M k).reverse[n]? = some (((gk M k).reverse[n]).1, ((gk M k).reverse[n]).2) := List.getElem?_eq_getElem hx
    have o := r_stack Y.1 hc h24 hk hs
    obtain ⟨s1, s2, s3⟩ := sgn_ok ((Y.2.2.1.2.2 k hk).1.1.2.2.1.2 ((gk M k).reverse[n]) (List.mem_reverse.mp (List.getElem_mem hx)))
    show bL_areCoroutinesRight_328 kk14 (fun h0 h1 h2 h3 x4 x5 x6 x9 μ => lL_areCoroutinesRight_328 kk14 f h0 h1 h2 h3 x4 x5 x6 x9 μ) h w s t x4 (Int32.ofNat k) (gf M k 5) (Int32.ofNat n) μ = _
    unfold bL_areCoroutinesRight_328
    rw [if_pos Y.1.1.1, o5, Option.bind_some, if_pos rfl, if_neg (mt (g_le (by omega) (by omega)).mp (by omega)), o, Option.bind_some, if_pos rfl, if_neg s1, o, Option.bind_some, if_pos rfl, if_neg s2, o, Option.bind_some, if_pos rfl, if_neg s3, g_suc]
    exact e
/-! the own rows -/
def oA (h N a : Nat) : Prop := a < N ∧ (a < h ∨ h + 301 ≤ a)
/-- the cell at a holds a line -/
def oC (h N : Nat) (μ : MM) (a : Nat) (x : Int32 × Int32 × Int32) : Prop := oA h N a ∧ mK μ a = 20 ∧ mN μ a = 3 ∧ mI μ a 0 = x.1 ∧ mI μ a 1 = x.2.1
def oR (h N w : Nat) (μ : MM) (B : gB) : Prop := (oA h N w ∧ mK μ w = 8) ∧ (oA h N (mP μ w 0) ∧ mK μ (mP μ w 0) = 25 ∧ mN μ (mP μ w 0) = 8) ∧ ∀ b, b < 5 → (oA h N (mP μ (mP μ w 0) b) ∧ mK μ (mP μ (mP μ w 0) b) = 24 ∧ mN μ (mP μ (mP μ w 0) b) = 12) ∧ ∀ (i : Nat) (x : Int32 × Int32 × Int32), (B.2 b)[i]? = some x → oC h N μ (mP μ (mP μ (mP μ w 0) b) i) x
theorem oA.g {h N a : Nat} {μ ν : MM} (A : oA h N a) (F : yG h N μ ν) : mK ν a = mK μ a ∧ mN ν a = mN μ a ∧ (∀ j, mI ν a j = mI μ a j) ∧ ∀ j, mP ν a j = mP μ a j := by
  obtain ⟨a1, a2, a3, a4⟩ := F.2 a A.1
  have := A.2
  exact ⟨a1, a2, a3 (by omega), fun j => a4 j (by omega) (by omega)⟩
theorem oC.g {h N a : Nat} {μ ν : MM} {x : Int32 × Int32 × Int32} (C : oC h N μ a x) (F : yG h N μ ν) : oC h N ν a x := by
  obtain ⟨c1, c2, c3, c4, c5⟩ := C
  obtain ⟨a1, a2, a3, a4⟩ := c1.g F
  exact ⟨c1, a1.trans c2, a2.trans c3, (a3 0).trans c4, (a3 1).trans c5⟩
theorem oR.g {h N w : Nat} {μ ν : MM} {B : gB} (C : oR h N w μ B) (F : yG h N μ ν) : oR h N w ν B := by
  obtain ⟨⟨c1, c2⟩, ⟨d1, d2, d3⟩, e⟩ := C
  obtain ⟨a1, a2, a3, a4⟩ := c1.g F
  obtain ⟨b1, b2, b3, b4⟩ := d1.g F
  refine ⟨⟨c1, a1.trans c2⟩, ?_, fun b hb => ?_⟩
  · rw [a4]
    exact ⟨d1, b1.trans d2, b2.trans d3⟩
  · obtain ⟨⟨e1, e2, e3⟩, e4⟩ := e b hb
    obtain ⟨f1, f2, f3, f4⟩ := e1.g F
    rw [a4, b4]
    refine ⟨⟨e1, f1.trans e2, f2.trans e3⟩, fun i x hx => ?_⟩
    rw [f4]
    exact (e4 i x hx).g F
/-- a line that a coroutine waits at, in the own rows -/
theorem oR.at {h N w k : Nat} {μ : MM} {B : gB} {M : gM} (C : oR h N w μ B) (hI : IV0 B M) (hB : IB B) (hk : k < cN M) (h5 : gf M k 5 = 1) :
    ∃ b i, gf M k 3 = Int32.ofNat b ∧ gf M k 6 = Int32.ofNat i ∧ b < 5 ∧ i < 12 ∧ oC h N μ (mP μ (mP μ (mP μ w 0) b) i) (gAtLn B M k) := by
  obtain ⟨x1, x2, x3⟩ := hI.2.2 k hk
  obtain ⟨w1, -⟩ := x1.2.2.2.1 h5
  obtain ⟨⟨y1, y2⟩, -⟩ := x2
  have y1 : 0 ≤ (gf M k 3).toInt := y1
  have y2 : (gf M k 3).toInt < 5 := y2
  have eb : gf M k 3 = Int32.ofNat (gf M k 3).toInt.toNat := by
    apply Int32.toInt_inj.mp
    rw [Int32.toInt_ofNat_of_lt (by omega)]
    omega
  have hb : (gf M k 3).toInt.toNat < 5 := by omega
  generalize (gf M k 3).toInt.toNat = b at *
  have gb : gBody (gf M k 3) = b := by rw [eb]; exact body_at (by omega)
  have w1 : gHL (B.2 (gBody (gf M k 3))) (gf M k 6) = true := w1
  rw [gb] at w1
  unfold gHL at w1
  rw [decide_eq_true_iff] at w1
  obtain ⟨w1, w2⟩ := w1
  have hl := (hB.2 b (by omega)).1
  have w3 := Int32.le_iff_toInt_le.mp w1
  have w4 := Int32.lt_iff_toInt_lt.mp w2
  rw [Int32.toInt_ofNat_of_lt (by omega)] at w4
  have c0 : (0 : Int32).toInt = 0 := rfl
  have ei : gf M k 6 = Int32.ofNat (gf M k 6).toInt.toNat := by
    apply Int32.toInt_inj.mp
    rw [Int32.toInt_ofNat_of_lt (by omega)]
    omega
  have hi : (gf M k 6).toInt.toNat < (B.2 b).length := by omega
  have et : (gf M k 6).toNatClampNeg = (gf M k 6).toInt.toNat := rfl
  have eL : gAtLn B M k = (B.2 b)[(gf M k 6).toInt.toNat] := by
    unfold gAtLn gLn
    rw [gb, if_pos w1, et, List.getElem?_eq_getElem hi]
    rfl
  refine ⟨b, (gf M k 6).toInt.toNat, eb, ei, hb, by omega, ?_⟩
  exact (C.2.2 b hb).2 _ _ (by rw [eL]; exact List.getElem?_eq_getElem hi)
