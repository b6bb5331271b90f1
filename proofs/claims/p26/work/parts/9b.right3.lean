theorem y_mean {h : Nat} {μ : MM} {B : gB} {M : gM} (Y : yI h μ B M) : fX6_meanLines h μ = some (if 0 < gcnt M then FP.ddiv (FP.i2d (gSum M (cN M))) (FP.i2d (gcnt M)) else FP.dconst0, μ) := by
  obtain ⟨hc, h24⟩ := Y.cn
  have t := Y.1.2.2.1
  unfold fX6_meanLines
  rw [Y.1.1.2.2.1, if_pos t.1.1.1, show mI μ (h + 39) 5 = gcnt M from t.2.1.1]
  by_cases h0 : 0 < gcnt M
  · have c1 : 1 ≤ (gcnt M).toInt := Int32.lt_iff_toInt_lt.mp h0
    have c2 : (gcnt M).toInt ≤ 24 := by rw [hc, Int32.toInt_ofNat_of_lt (by omega)]; omega
    rw [if_pos h0, if_pos h0, r_lines t hc h24, Option.bind_some]
    dsimp only
    rw [Y.1.1.2.2.1, if_pos t.1.1.1, show mI μ (h + 39) 5 = gcnt M from t.2.1.1, if_pos (nn_guard (d_mean (gSum M (cN M)) (gcnt M) c1 c2).1)]
  · rw [if_neg h0, if_neg h0]
/-- what is left of a look at the mean -/
def gEndM (d : UInt64) (n x4 : Int32) (μ : MM) : Option (Int32 × MM) := if (FP.dmul d (FP.i2d (jmax 1 n))) &&& 0x7fffffffffffffff ≤ 0x7ff0000000000000 then if (FP.dsub (FP.dmul d (FP.i2d (jmax 1 n))) (FP.i2d x4)) &&& 0x7fffffffffffffff ≤ 0x7ff0000000000000 then (dabs (FP.dsub (FP.dmul d (FP.i2d (jmax 1 n))) (FP.i2d x4))).bind fun y40 => if 0 ≤ (Op.cmpValue (FP.dcmp y40 (4517329193108106637 : UInt64)) .g) then (some (0, μ)) else (some (1, μ)) else none else none
theorem end_mean {B : gB} {M : gM} (hc : gcnt M = Int32.ofNat (cN M)) (h24 : cN M ≤ 24) (μ : MM) : gEndM (if 0 < gcnt M then FP.ddiv (FP.i2d (gSum M (cN M))) (FP.i2d (gcnt M)) else FP.dconst0) (gcnt M) (gSum M (cN M)) μ = some (1, μ) := by
  unfold gEndM
  by_cases h0 : 0 < gcnt M
  · have c1 : 1 ≤ (gcnt M).toInt := Int32.lt_iff_toInt_lt.mp h0
    have c2 : (gcnt M).toInt ≤ 24 := by rw [hc, Int32.toInt_ofNat_of_lt (by omega)]; omega
    have ej : jmax 1 (gcnt M) = gcnt M := by
      apply Int32.toInt_inj.mp
      rw [jmax_T, show (1 : Int32).toInt = 1 from rfl]
      split <;> omega
    obtain ⟨m1, m2, m3, m4, m5⟩ := d_mean (gSum M (cN M)) (gcnt M) c1 c2
    rw [if_pos h0, ej, if_pos (nn_guard m2), if_pos (nn_guard m3)]
    obtain ⟨y, e1, e2⟩ := dabs_lt m3 m4 m5
    rw [e1, Option.bind_some, e2, if_neg (by decide)]
  · have e0 : cN M = 0 := Classical.byContradiction fun q => h0 (by rw [hc]; exact (g_lt (a := 0) (by omega) (by omega)).mpr (by omega))
    rw [if_neg h0, hc, e0]
    show (if (FP.dmul FP.dconst0 (FP.i2d (jmax 1 (Int32.ofNat 0)))) &&& 0x7fffffffffffffff ≤ 0x7ff0000000000000 then if (FP.dsub (FP.dmul FP.dconst0 (FP.i2d (jmax 1 (Int32.ofNat 0)))) (FP.i2d 0)) &&& 0x7fffffffffffffff ≤ 0x7ff0000000000000 then _ else _ else _) = _
    rw [if_pos (by decide +kernel), if_pos (by decide +kernel)]
    obtain ⟨y, e1, e2⟩ := dabs_lt (x := FP.dsub (FP.dmul FP.dconst0 (FP.i2d (jmax 1 (Int32.ofNat 0)))) (FP.i2d 0)) (by decide +kernel) (by decide +kernel) (by decide +kernel)
    rw [show gSum M 0 = 0 from rfl, e1, Option.bind_some, e2, if_neg (by decide)]
/-- each is of one of the five bodies -/
theorem ct_bodies {B : gB} {M : gM} (hI : IV0 B M) : ∀ n, n ≤ cN M → gCt M 3 (Int32.ofNat 0) n + gCt M 3 (Int32.ofNat 1) n + gCt M 3 (Int32.ofNat 2) n + gCt M 3 (Int32.ofNat 3) n + gCt M 3 (Int32.ofNat 4) n = n := by
  intro n
  induction n with
  | zero => intro _; rfl
  | succ n ih =>
    intro hn
    have := ih (by omega)
    obtain ⟨-, ⟨⟨y1, y2⟩, -⟩, -⟩ := hI.2.2 n (by omega)
    have y1 : 0 ≤ (gf M n 3).toInt := y1
    have y2 : (gf M n 3).toInt < 5 := y2
    have eb : gf M n 3 = Int32.ofNat (gf M n 3).toInt.toNat := by
      apply Int32.toInt_inj.mp
      rw [Int32.toInt_ofNat_of_lt (by omega)]
      omega
    have st : ∀ s, gCt M 3 s (n + 1) = gCt M 3 s n + (if gf M n 3 = s then 1 else 0) := fun _ => rfl
    rw [st, st, st, st, st]
    have hb : (gf M n 3).toInt.toNat < 5 := by omega
    rw [eb]
    generalize (gf M n 3).toInt.toNat = b at *
    have c : b = 0 ∨ b = 1 ∨ b = 2 ∨ b = 3 ∨ b = 4 := by omega
    rcases c with e | e | e | e | e <;> subst e
    · rw [if_pos rfl, if_neg (by decide), if_neg (by decide), if_neg (by decide), if_neg (by decide)]; omega
    · rw [if_neg (by decide), if_pos rfl, if_neg (by decide), if_neg (by decide), if_neg (by decide)]; omega
    · rw [if_neg (by decide), if_neg (by decide), if_pos rfl, if_neg (by decide), if_neg (by decide)]; omega
    · rw [if_neg (by decide), if_neg (by decide), if_neg (by decide), if_pos rfl, if_neg (by decide)]; omega
    · rw [if_neg (by decide), if_neg (by decide), if_neg (by decide), if_neg (by decide), if_pos rfl]; omega
def gBs (M : gM) : Nat → Nat
  | 0 => 0
  | b + 1 => gBs M b + gCt M 3 (Int32.ofNat b) (cN M)
theorem gBs5 {B : gB} {M : gM} (hI : IV0 B M) : gBs M 5 = cN M := by
  have := ct_bodies hI (cN M) (Nat.le_refl _)
  show 0 + gCt M 3 (Int32.ofNat 0) (cN M) + gCt M 3 (Int32.ofNat 1) (cN M) + gCt M 3 (Int32.ofNat 2) (cN M) + gCt M 3 (Int32.ofNat 3) (cN M) + gCt M 3 (Int32.ofNat 4) (cN M) = _
  omega
/-- the two rows of counts -/
def cA (M : gM) (k s t : Nat) (μ : MM) : Prop := (mK μ s = 20 ∧ mN μ s = 5 ∧ ∀ j, j < 5 → mI μ s j = Int32.ofNat (gCt M 5 (Int32.ofNat j) k)) ∧ mK μ t = 20 ∧ mN μ t = 3 ∧ ∀ j, j < 3 → mI μ t j = Int32.ofNat (gCt M 4 (Int32.ofNat j) k)
theorem c_485 {h s t : Nat} {μ : MM} {B : gB} {M : gM} (Y : yI h μ B M) (A : cA M (cN M) s t μ) : ∀ (i f b : Nat), b + i = 5 → i < f → lL_areCoroutinesRight_485 f h s t (gSum M (cN M)) (Int32.ofNat (gBs M b)) (Int32.ofNat b) μ = some (1, μ) := by
  obtain ⟨hc, h24⟩ := Y.cn
  obtain ⟨⟨a1, a2, a3⟩, a4, a5, a6⟩ := A
  intro i
  induction i with
  | zero =>
    intro f b hb hf
    obtain ⟨f, rfl⟩ : ∃ g, f = g + 1 := ⟨f - 1, by omega⟩
    obtain rfl : b = 5 := by omega
    have m1 : fX6_many h 1 μ = some (0, gcnt M, μ) := r_many Y.1 hc h24 1 (by decide)
    have m2 : fX6_many h 2 μ = some (0, Int32.ofNat (gCt M 4 0 (cN M)), μ) := r_many Y.1 hc h24 2 (by decide)
    have m3 : fX6_many h 3 μ = some (0, Int32.ofNat (gCt M 4 1 (cN M)), μ) := r_many Y.1 hc h24 3 (by decide)
    have m4 : fX6_many h 4 μ = some (0, Int32.ofNat (gCt M 5 0 (cN M)), μ) := r_many Y.1 hc h24 4 (by decide)
    have m5 : fX6_many h 5 μ = some (0, Int32.ofNat (gCt M 5 1 (cN M)), μ) := r_many Y.1 hc h24 5 (by decide)
    have m6 : fX6_many h 6 μ = some (0, Int32.ofNat (gCt M 5 3 (cN M)), μ) := r_many Y.1 hc h24 6 (by decide)
    have m7 : fX6_many h 7 μ = some (0, Int32.ofNat (gCt M 5 4 (cN M)), μ) := r_many Y.1 hc h24 7 (by decide)
    have m10 : fX6_many h 10 μ = some (0, gSum M (cN M), μ) := r_many Y.1 hc h24 10 (by decide)
    have t0 : ∀ z : Int32, z.toNatClampNeg < 3 → ¬ z < 0 → ¬ (z < 0 ∨ mN μ t ≤ z.toNatClampNeg) := fun z z1 z2 q => q.elim z2 (by rw [a5]; omega)
    have s0 : ∀ z : Int32, z.toNatClampNeg < 5 → ¬ z < 0 → ¬ (z < 0 ∨ mN μ s ≤ z.toNatClampNeg) := fun z z1 z2 q => q.elim z2 (by rw [a2]; omega)
    have e1 : Int32.ofNat (gBs M 5) = gcnt M := by rw [gBs5 Y.2.2.1, hc]
    have E := end_mean (B := B) hc h24 μ
    unfold gEndM at E
    show bL_areCoroutinesRight_485 _ h s t (gSum M (cN M)) (Int32.ofNat (gBs M 5)) 5 μ = some (1, μ)
    unfold bL_areCoroutinesRight_485
    rw [if_pos (by decide), if_pos Y.1.1.1, m1, Option.bind_some, if_pos rfl, if_pos e1, m2, Option.bind_some, if_pos rfl, if_pos a4, if_pos (t0 0 (by decide) (by decide)), if_pos (show Int32.ofNat (gCt M 4 0 (cN M)) = mI μ t (0 : Int32).toNatClampNeg from (a6 0 (by decide)).symm), m3, Option.bind_some, if_pos rfl, if_pos (t0 1 (by decide) (by decide)), if_pos (show Int32.ofNat (gCt M 4 1 (cN M)) = mI μ t (1 : Int32).toNatClampNeg from (a6 1 (by decide)).symm), m4, Option.bind_some, if_pos rfl, if_pos a1, if_pos (s0 0 (by decide) (by decide)), if_pos (show Int32.ofNat (gCt M 5 0 (cN M)) = mI μ s (0 : Int32).toNatClampNeg from (a3 0 (by decide)).symm), m5, Option.bind_some, if_pos rfl, if_pos (s0 1 (by decide) (by decide)), if_pos (show Int32.ofNat (gCt M 5 1 (cN M)) = mI μ s (1 : Int32).toNatClampNeg from (a3 1 (by decide)).symm), m6, Option.bind_some, if_pos rfl, if_pos (s0 3 (by decide) (by decide)), if_pos (show Int32.ofNat (gCt M 5 3 (cN M)) = mI μ s (3 : Int32).toNatClampNeg from (a3 3 (by decide)).symm), m7, Option.bind_some, if_pos rfl, if_pos (s0 4 (by decide) (by decide)), if_pos (show Int32.ofNat (gCt M 5 4 (cN M)) = mI μ s (4 : Int32).toNatClampNeg from (a3 4 (by decide)).symm), m10, Option.bind_some, if_pos rfl, if_pos rfl, y_mean Y, Option.bind_some]
    dsimp only
    rw [m1, Option.bind_some, if_pos rfl]
    exact E
  | succ i ih =>
    intro f b hb hf
    obtain ⟨f, rfl⟩ : ∃ g, f = g + 1 := ⟨f - 1, by omega⟩
    show bL_areCoroutinesRight_485 (fun h0 h2 h3 x4 x5 x6 μ => lL_areCoroutinesRight_485 f h0 h2 h3 x4 x5 x6 μ) h s t (gSum M (cN M)) (Int32.ofNat (gBs M b)) (Int32.ofNat b) μ = some (1, μ)
    unfold bL_areCoroutinesRight_485
    rw [if_neg (show ¬ (5 : Int32) ≤ Int32.ofNat b from mt (g_le (a := 5) (by omega) (by omega)).mp (by omega)), if_pos Y.1.1.1, y_ofBody1 Y (by omega), Option.bind_some, if_pos rfl, g_suc]
    have := ih f (b + 1) (by omega) (by omega)
    rw [show gBs M (b + 1) = gBs M b + gCt M 3 (Int32.ofNat b) (cN M) from rfl, Int32.ofNat_add] at this
    exact this
