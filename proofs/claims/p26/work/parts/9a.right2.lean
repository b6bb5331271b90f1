theorem c_262 {h N k w s t : Nat} {μ : MM} {B : gB} {M : gM} {kk14 : Nat → Nat → Nat → Nat → Int32 → Int32 → MM → Option (Int32 × MM)} {x4 : Int32} (hk : k < cN M) (Y : yI h μ B M) (C : oR h N w μ B) : ∃ ν, bL_areCoroutinesRight_262 kk14 h w s t x4 (Int32.ofNat k) (gf M k 5) (gOfV M k 3) (gf M k 9) μ = kk14 h w s t x4 (Int32.ofNat (k + 1)) ν ∧ yI h ν B M ∧ yF h μ ν := by
  obtain ⟨hc, h24⟩ := Y.cn
  have hl : (gk M k).length ≤ 6 := (Y.2.2.1.2.2 k hk).1.1.2.2.1.1
  have L := c_328 (kk14 := kk14) (w := w) (s := s) (t := t) (x4 := x4) hk (gk M k).length FU 0 μ (by omega) (by unfold FU; omega) Y
  unfold bL_areCoroutinesRight_262
  by_cases h9 : gf M k 9 = -1
  · rw [h9, if_pos lt0_neg]
    exact L
  · obtain ⟨j, e9, j1, j2, j3, j4, j5⟩ := (Y.2.2.1.2.2 k hk).2.2 h9
    have h5 : gf M k 5 = 1 := Classical.byContradiction fun q => h9 ((Y.2.2.1.2.2 k hk).1.2.2.2.2 q)
    have j6 : gf M j 5 = 1 := (Y.2.2.2.1 k hk).2 j j2 e9
    obtain ⟨b, i, eb, ei, hb, hi, cC⟩ := C.at Y.2.2.1 Y.2.1 hk h5
    obtain ⟨⟨r1, r2, r3⟩, -⟩ := C.2.2 b hb
    have o2 : fX6_of h (Int32.ofNat j) 2 μ = some (0, gf M j 4, μ) := r_of Y.1 hc h24 j2 2 (by decide)
    have o1 : fX6_of h (Int32.ofNat j) 1 μ = some (0, gf M j 5, μ) := r_of Y.1 hc h24 j2 1 (by decide)
    have o0 : fX6_of h (Int32.ofNat j) 0 μ = some (0, gf M j 3, μ) := r_of Y.1 hc h24 j2 0 (by decide)
    have p0 : fX6_of h (Int32.ofNat k) 0 μ = some (0, gf M k 3, μ) := r_of Y.1 hc h24 hk 0 (by decide)
    have e3 : gOfV M k 3 = Int32.ofNat i := by
      show (if gf M k 5 = 1 then gf M k 6 else -1) = _
      rw [if_pos h5, ei]
    have z1 : ¬ (Int32.ofNat b < 0 ∨ mN μ (mP μ w 0) ≤ b) := fun q => q.elim (lt0_nat (by omega)) (by rw [C.2.1.2.2]; omega)
    have z2 : ¬ (Int32.ofNat i < 0 ∨ mN μ (mP μ (mP μ w 0) b) ≤ i) := fun q => q.elim (lt0_nat (by omega)) (by rw [r3]; omega)
    have z3 : ¬ ((1 : Int32) < 0 ∨ mN μ (mP μ (mP μ (mP μ w 0) b) i) ≤ (1 : Int32).toNatClampNeg) := fun q => q.elim (by decide) (by rw [cC.2.2.1]; decide)
    have z4 : gf M j 3 = mI μ (mP μ (mP μ (mP μ w 0) b) i) (1 : Int32).toNatClampNeg := j5.trans cC.2.2.2.2.symm
    have z1 : ¬ (gf M k 3 < 0 ∨ mN μ (mP μ w 0) ≤ (gf M k 3).toNatClampNeg) := by rw [eb, g_nat (by omega)]; exact z1
    have gb : (gf M k 3).toNatClampNeg = b := by rw [eb, g_nat (by omega)]
    rw [e9, if_neg (lt0_nat (by omega)), if_pos Y.1.1.1, o2, Option.bind_some, if_pos rfl, if_pos j3, o1, Option.bind_some, if_pos rfl, if_pos j6, if_neg (mt (g_le (by omega) (by omega)).mp (by omega)), o0, Option.bind_some, if_pos rfl, if_pos C.1.2, p0, Option.bind_some, if_pos rfl]
    dsimp only
    rw [gb, if_pos C.2.1.2.1]
    rw [gb] at z1
    rw [if_pos z1, if_pos r2, e3, g_nat (by omega), if_pos z2, if_pos cC.2.1, if_pos z3, if_pos z4]
    exact L
theorem c_218 {h N k w s t : Nat} {μ : MM} {B : gB} {M : gM} {kk14 : Nat → Nat → Nat → Nat → Int32 → Int32 → MM → Option (Int32 × MM)} {x4 x9 : Int32} (hk : k < cN M) (Y : yI h μ B M) (C : oR h N w μ B) (h1 : x9 = 10 ↔ gf M k 9 ≠ -1) (h2 : gf M k 4 = 0 → x9 ≤ 10) : ∃ ν, bL_areCoroutinesRight_218 kk14 h w s t x4 (Int32.ofNat k) (gf M k 5) (gOfV M k 3) (gf M k 9) x9 μ = kk14 h w s t x4 (Int32.ofNat (k + 1)) ν ∧ yI h ν B M ∧ yF h μ ν := by
  obtain ⟨hc, h24⟩ := Y.cn
  have L := c_262 (kk14 := kk14) (w := w) (s := s) (t := t) (x4 := x4) hk Y C
  have o2 : fX6_of h (Int32.ofNat k) 2 μ = some (0, gf M k 4, μ) := r_of Y.1 hc h24 hk 2 (by decide)
  unfold bL_areCoroutinesRight_218
  by_cases h9 : gf M k 9 = -1
  · have n10 : ¬ x9 = 10 := fun q => h1.mp q h9
    rw [if_neg n10, if_pos (show gf M k 9 < 0 by rw [h9]; exact lt0_neg), if_pos (rfl : (0 : Int32) = 0), if_pos Y.1.1.1, o2, Option.bind_some, if_pos rfl]
    dsimp only
    by_cases h4 : gf M k 4 = 0
    · rw [if_pos h4, if_pos (h2 h4)]
      exact L
    · rw [if_neg h4]
      exact L
  · obtain ⟨j, e9, j1, j2, -⟩ := (Y.2.2.1.2.2 k hk).2.2 h9
    rw [if_pos (h1.mpr h9), if_neg (show ¬ gf M k 9 < 0 by rw [e9]; exact lt0_nat (by omega)), if_pos (rfl : (1 : Int32) = 1), if_pos Y.1.1.1, o2, Option.bind_some, if_pos rfl]
    dsimp only
    by_cases h4 : gf M k 4 = 0
    · rw [if_pos h4, if_pos (h2 h4)]
      exact L
    · rw [if_neg h4]
      exact L
theorem c_152 {h N k w s t : Nat} {μ : MM} {B : gB} {M : gM} {kk14 : Nat → Nat → Nat → Nat → Int32 → Int32 → MM → Option (Int32 × MM)} {x4 : Int32} (hk : k < cN M) (Y : yI h μ B M) (C : oR h N w μ B) : ∃ ν, bL_areCoroutinesRight_152 kk14 h w s t x4 (Int32.ofNat k) (gf M k 5) (gOfV M k 3) (gf M k 9) μ = kk14 h w s t x4 (Int32.ofNat (k + 1)) ν ∧ yI h ν B M ∧ yF h μ ν := by
  obtain ⟨hc, h24⟩ := Y.cn
  have hl : (gk M k).length ≤ 6 := (Y.2.2.1.2.2 k hk).1.1.2.2.1.1
  have o5 : fX6_of h (Int32.ofNat k) 5 μ = some (0, Int32.ofNat (gk M k).length, μ) := r_of Y.1 hc h24 hk 5 (by decide)
  have p0 : fX6_of h (Int32.ofNat k) 0 μ = some (0, gf M k 3, μ) := r_of Y.1 hc h24 hk 0 (by decide)
  unfold bL_areCoroutinesRight_152
  rw [if_pos Y.1.1.1, o5, Option.bind_some, if_pos rfl, if_pos (show Int32.ofNat (gk M k).length ≤ (6 : Int32) from (g_le (b := 6) (by omega) (by omega)).mpr hl)]
  dsimp only
  by_cases h5 : gf M k 5 = 1
  · obtain ⟨b, i, eb, ei, hb, hi, cC⟩ := C.at Y.2.2.1 Y.2.1 hk h5
    obtain ⟨⟨r1, r2, r3⟩, -⟩ := C.2.2 b hb
    have e3 : gOfV M k 3 = Int32.ofNat i := by
      show (if gf M k 5 = 1 then gf M k 6 else -1) = _
      rw [if_pos h5, ei]
    obtain ⟨-, w2, w3, w4, -⟩ := (Y.2.2.1.2.2 k hk).1.2.2.2.1 h5
    have L := fun (q1 : (gAtLn B M k).1 = 10 ↔ gf M k 9 ≠ -1) (q2 : gf M k 4 = 0 → (gAtLn B M k).1 ≤ 10) => c_218 (kk14 := kk14) (w := w) (s := s) (t := t) (x4 := x4) (x9 := (gAtLn B M k).1) hk Y C q1 q2
    have L := L w3 (fun q => by
      rcases w4 q with z | z
      · rw [show (gAtLn B M k).1 = 3 from z]; decide
      · rw [show (gAtLn B M k).1 = 10 from z]; decide)
    have gb : (gf M k 3).toNatClampNeg = b := by rw [eb, g_nat (by omega)]
    have z1 : ¬ (gf M k 3 < 0 ∨ mN μ (mP μ w 0) ≤ b) := fun q => q.elim (by rw [eb]; exact lt0_nat (by omega)) (by rw [C.2.1.2.2]; omega)
    have z2 : ¬ (Int32.ofNat i < 0 ∨ mN μ (mP μ (mP μ w 0) b) ≤ i) := fun q => q.elim (lt0_nat (by omega)) (by rw [r3]; omega)
    have z3 : ¬ ((0 : Int32) < 0 ∨ mN μ (mP μ (mP μ (mP μ w 0) b) i) ≤ (0 : Int32).toNatClampNeg) := fun q => q.elim (by decide) (by rw [cC.2.2.1]; decide)
    have z4 : mI μ (mP μ (mP μ (mP μ w 0) b) i) (0 : Int32).toNatClampNeg = (gAtLn B M k).1 := cC.2.2.2.1
    rw [if_pos h5, if_pos C.1.2, p0, Option.bind_some, if_pos rfl]
    dsimp only
    rw [gb, if_pos C.2.1.2.1, if_pos z1, if_pos r2]
    rw [e3] at L ⊢
    rw [g_nat (by omega), if_pos z2, if_pos cC.2.1, if_pos z3, z4]
    rcases w2 with q | q | q | q
    · have q : (gAtLn B M k).1 = 3 := q
      rw [if_pos q]
      exact L
    · have q : (gAtLn B M k).1 = 10 := q
      rw [if_neg (show ¬ (gAtLn B M k).1 = 3 by rw [q]; decide), if_pos q]
      exact L
    · have q : (gAtLn B M k).1 = 12 := q
      rw [if_neg (show ¬ (gAtLn B M k).1 = 3 by rw [q]; decide), if_neg (show ¬ (gAtLn B M k).1 = 10 by rw [q]; decide), if_pos q]
      exact L
    · have q : (gAtLn B M k).1 = 13 := q
      rw [if_neg (show ¬ (gAtLn B M k).1 = 3 by rw [q]; decide), if_neg (show ¬ (gAtLn B M k).1 = 10 by rw [q]; decide), if_neg (show ¬ (gAtLn B M k).1 = 12 by rw [q]; decide), if_pos q]
      exact L
  · rw [if_neg h5]
    exact c_262 hk Y C
theorem c_136 {h N k w s t : Nat} {μ : MM} {B : gB} {M : gM} {kk14 : Nat → Nat → Nat → Nat → Int32 → Int32 → MM → Option (Int32 × MM)} {x4 : Int32} (hk : k < cN M) (Y : yI h μ B M) (C : oR h N w μ B) : ∃ ν, bL_areCoroutinesRight_136 kk14 h w s t x4 (Int32.ofNat k) (gf M k 5) (gOfV M k 3) (gf M k 9) μ = kk14 h w s t x4 (Int32.ofNat (k + 1)) ν ∧ yI h ν B M ∧ yF h μ ν := by
  obtain ⟨hc, h24⟩ := Y.cn
  have o5 : fX6_of h (Int32.ofNat k) 5 μ = some (0, Int32.ofNat (gk M k).length, μ) := r_of Y.1 hc h24 hk 5 (by decide)
  have L := c_152 (kk14 := kk14) (w := w) (s := s) (t := t) (x4 := x4) hk Y C
  unfold bL_areCoroutinesRight_136
  by_cases ho : gf M k 5 ≤ 2
  · rw [if_pos ho]
    exact L
  · have h34 : gf M k 5 = 3 ∨ gf M k 5 = 4 := by
      rcases (Y.2.2.1.2.2 k hk).1.2.2.1 with q | q | q | q | q
      · exact absurd (show gf M k 5 ≤ 2 by rw [show gf M k 5 = 0 from q]; decide) ho
      · exact absurd (show gf M k 5 ≤ 2 by rw [show gf M k 5 = 1 from q]; decide) ho
      · exact absurd (show gf M k 5 ≤ 2 by rw [show gf M k 5 = 2 from q]; decide) ho
      · exact Or.inl q
      · exact Or.inr q
    have e0 : gk M k = [] := (Y.2.2.1.2.2 k hk).1.1.2.2.2.1 h34
    rw [if_neg ho, if_pos Y.1.1.1, o5, Option.bind_some, if_pos rfl, e0, if_pos (show Int32.ofNat ([] : List (Int32 × Int32)).length = 0 from rfl)]
    exact L
theorem c_110 {h N k w s t : Nat} {μ : MM} {B : gB} {M : gM} {kk14 : Nat → Nat → Nat → Nat → Int32 → Int32 → MM → Option (Int32 × MM)} {x4 : Int32} (hk : k < cN M) (Y : yI h μ B M) (C : oR h N w μ B) : ∃ ν, bL_areCoroutinesRight_110 kk14 h w s t x4 (Int32.ofNat k) (gf M k 5) (gOfV M k 3) (gf M k 9) μ = kk14 h w s t x4 (Int32.ofNat (k + 1)) ν ∧ yI h ν B M ∧ yF h μ ν := by
  obtain ⟨hc, h24⟩ := Y.cn
  have o5 : fX6_of h (Int32.ofNat k) 5 μ = some (0, Int32.ofNat (gk M k).length, μ) := r_of Y.1 hc h24 hk 5 (by decide)
  have o7 : fX6_of h (Int32.ofNat k) 7 μ = some (0, gf M k 11, μ) := r_of Y.1 hc h24 hk 7 (by decide)
  have L := c_136 (kk14 := kk14) (w := w) (s := s) (t := t) (x4 := x4) hk Y C
  unfold bL_areCoroutinesRight_110
  by_cases h5 : gf M k 5 = 0
  · obtain ⟨e0, e11⟩ := (Y.2.2.1.2.2 k hk).1.2.1 h5
    have e0 : gk M k = [] := e0
    have e11 : gf M k 11 = 0 := e11
    rw [if_pos h5, if_pos Y.1.1.1, o7, Option.bind_some, if_pos rfl, if_pos e11, o5, Option.bind_some, if_pos rfl, e0, if_pos (show Int32.ofNat ([] : List (Int32 × Int32)).length = 0 from rfl)]
    exact L
  · rw [if_neg h5]
    exact L
