/-! THE FACE: an object at h (its bodies h + 1, its machine h + 39, its trial h + 170) -/
def yT (h : Nat) (μ : MM) (B : gB) (M : gM) : Prop := (mK μ h = 7 ∧ mP μ h 0 = h + 1 ∧ mP μ h 1 = h + 39 ∧ mP μ h 2 = h + 170) ∧ tB (h + 1) μ B ∧ tM (h + 39) μ M ∧ mP μ (h + 39) 0 = h + 1 ∧ mP μ (h + 170) 0 = h + 1 ∧ ∃ M2, tM (h + 170) μ M2
/-- what a call leaves as it was -/
def yF (h : Nat) (μ ν : MM) : Prop := mK ν = mK μ ∧ mN ν = mN μ ∧ mX ν = mX μ ∧ (∀ a j, (a < h + 1 ∨ h + 301 ≤ a) → mI ν a j = mI μ a j) ∧ ∀ a j, ¬ (a = h + 39 ∧ j = 8) → ¬ (a = h + 170 ∧ j = 8) → mP ν a j = mP μ a j
theorem yF.rf {h : Nat} {μ : MM} : yF h μ μ := ⟨rfl, rfl, rfl, fun _ _ _ => rfl, fun _ _ _ _ => rfl⟩
theorem yF.tr {h : Nat} {μ ν ω : MM} (a : yF h μ ν) (b : yF h ν ω) : yF h μ ω := ⟨b.1.trans a.1, b.2.1.trans a.2.1, b.2.2.1.trans a.2.2.1, fun x j q => (b.2.2.2.1 x j q).trans (a.2.2.2.1 x j q), fun x j q r => (b.2.2.2.2 x j q r).trans (a.2.2.2.2 x j q r)⟩
theorem yF.m {h : Nat} {μ ν : MM} (F : tF (h + 39) μ ν) : yF h μ ν := ⟨F.1, F.2.1, F.2.2.1, fun a j q => F.2.2.2.1 a j (by omega), fun a j q _ => F.2.2.2.2 a j q⟩
theorem yF.t {h : Nat} {μ ν : MM} (F : tF (h + 170) μ ν) : yF h μ ν := ⟨F.1, F.2.1, F.2.2.1, fun a j q => F.2.2.2.1 a j (by omega), fun a j _ q => F.2.2.2.2 a j q⟩
theorem yT.m {h : Nat} {μ ν : MM} {B : gB} {M M' : gM} (Y : yT h μ B M) (t : tM (h + 39) ν M') (F : tF (h + 39) μ ν) : yT h ν B M' ∧ yF h μ ν := by
  obtain ⟨⟨y1, y2, y3, y4⟩, y5, y6, y7, y8, M2, y9⟩ := Y
  refine ⟨⟨⟨by rw [F.1]; exact y1, by rw [F.2.2.2.2 _ _ (by omega)]; exact y2, by rw [F.2.2.2.2 _ _ (by omega)]; exact y3, by rw [F.2.2.2.2 _ _ (by omega)]; exact y4⟩, y5.fr F (by omega), t, by rw [F.2.2.2.2 _ _ (by omega)]; exact y7, by rw [F.2.2.2.2 _ _ (by omega)]; exact y8, M2, y9.out F (by omega)⟩, yF.m F⟩
theorem yT.t {h : Nat} {μ ν : MM} {B : gB} {M M2 : gM} (Y : yT h μ B M) (t : tM (h + 170) ν M2) (F : tF (h + 170) μ ν) : yT h ν B M ∧ yF h μ ν := by
  obtain ⟨⟨y1, y2, y3, y4⟩, y5, y6, y7, y8, -⟩ := Y
  refine ⟨⟨⟨by rw [F.1]; exact y1, by rw [F.2.2.2.2 _ _ (by omega)]; exact y2, by rw [F.2.2.2.2 _ _ (by omega)]; exact y3, by rw [F.2.2.2.2 _ _ (by omega)]; exact y4⟩, y5.fr F (by omega), y6.out F (by omega), by rw [F.2.2.2.2 _ _ (by omega)]; exact y7, by rw [F.2.2.2.2 _ _ (by omega)]; exact y8, M2, t⟩, yF.t F⟩
theorem made_lt {M : gM} {k : Nat} (hc : gcnt M = Int32.ofNat (cN M)) (h24 : cN M ≤ 24) (hk : ¬ k < cN M) (hk2 : k < 1000) : gMade M (Int32.ofNat k) = false := by
  unfold gMade
  rw [decide_eq_false_iff_not, hc]
  exact fun q => hk ((g_lt (by omega) (by omega)).mp q.2)
theorem has_nat {M : gM} {k : Nat} {s : Int32} (hc : gcnt M = Int32.ofNat (cN M)) (h24 : cN M ≤ 24) (hk : k < cN M) : gHas M (Int32.ofNat k) s = (gf M k 4 == s) := by
  unfold gHas
  rw [made_nat hc h24 hk, n_at (by omega), Bool.true_and]
theorem has_lt {M : gM} {k : Nat} {s : Int32} (hc : gcnt M = Int32.ofNat (cN M)) (h24 : cN M ≤ 24) (hk : ¬ k < cN M) (hk2 : k < 1000) : gHas M (Int32.ofNat k) s = false := by
  unfold gHas
  rw [made_lt hc h24 hk hk2, Bool.false_and]
/-- of -/
def gOfV (M : gM) (n : Nat) (w : Int32) : Int32 := if w = 0 then gf M n 3 else if w = 1 then gf M n 5 else if w = 2 then gf M n 4 else if w = 3 then (if gf M n 5 = 1 then gf M n 6 else -1) else if w = 4 then gf M n 7 else if w = 5 then Int32.ofNat (gk M n).length else if w = 6 then gf M n 9 else gf M n 11
theorem r_of {h k : Nat} {μ : MM} {B : gB} {M : gM} (Y : yT h μ B M) (hc : gcnt M = Int32.ofNat (cN M)) (h24 : cN M ≤ 24) (hk : k < cN M) (w : Int32) (hw : w = 0 ∨ w = 1 ∨ w = 2 ∨ w = 3 ∨ w = 4 ∨ w = 5 ∨ w = 6 ∨ w = 7) : fX6_of h (Int32.ofNat k) w μ = some (0, gOfV M k w, μ) := by
  have t := Y.2.2.1
  have k24 : k ≤ 24 := by omega
  have lk := (t.lay k24).1
  unfold fX6_of gOfV
  rw [Y.1.2.2.1, if_pos t.1.1.1, f_made t]
  simp only [Option.bind_some]
  rw [made_nat hc h24 hk, if_neg b1, Y.1.2.2.1, if_pos t.1.1.1, r_at t.1, n_at (by omega)]
  simp only [Option.bind_some]
  by_cases q0 : w = 0
  · rw [if_pos q0, if_pos q0, if_pos lk, show mI μ (tCo (h + 39) k) 3 = gf M k 3 from t.rd k24 (by omega) (by omega) (by omega)]
  rw [if_neg q0, if_neg q0]
  by_cases q1 : w = 1
  · rw [if_pos q1, if_pos q1, if_pos lk, show mI μ (tCo (h + 39) k) 5 = gf M k 5 from t.rd k24 (by omega) (by omega) (by omega)]
  rw [if_neg q1, if_neg q1]
  by_cases q2 : w = 2
  · rw [if_pos q2, if_pos q2, if_pos lk, show mI μ (tCo (h + 39) k) 4 = gf M k 4 from t.rd k24 (by omega) (by omega) (by omega)]
  rw [if_neg q2, if_neg q2]
  by_cases q3 : w = 3
  · rw [if_pos q3, if_pos q3, if_pos lk, show mI μ (tCo (h + 39) k) 5 = gf M k 5 from t.rd k24 (by omega) (by omega) (by omega), show mI μ (tCo (h + 39) k) 6 = gf M k 6 from t.rd k24 (by omega) (by omega) (by omega)]
    by_cases z : gf M k 5 = 1
    · rw [if_pos z, if_pos z]
    · rw [if_neg z, if_neg z]
  rw [if_neg q3, if_neg q3]
  by_cases q4 : w = 4
  · rw [if_pos q4, if_pos q4, if_pos lk, show mI μ (tCo (h + 39) k) 7 = gf M k 7 from t.rd k24 (by omega) (by omega) (by omega)]
  rw [if_neg q4, if_neg q4]
  by_cases q5 : w = 5
  · rw [if_pos q5, if_pos q5, if_pos lk, (t.lay k24).2.2.1, if_pos (t.lay k24).2.2.2.2.2.1, (t.stk k24).2.1]
  rw [if_neg q5, if_neg q5]
  by_cases q6 : w = 6
  · rw [if_pos q6, if_pos q6, if_pos lk, show mI μ (tCo (h + 39) k) 9 = gf M k 9 from t.rd k24 (by omega) (by omega) (by omega)]
  rw [if_neg q6, if_neg q6]
  have q7 : w = 7 := by
    rcases hw with q | q | q | q | q | q | q | q
    · exact absurd q q0
    · exact absurd q q1
    · exact absurd q q2
    · exact absurd q q3
    · exact absurd q q4
    · exact absurd q q5
    · exact absurd q q6
    · exact q
  rw [if_pos q7, if_pos lk, show mI μ (tCo (h + 39) k) 11 = gf M k 11 from t.rd k24 (by omega) (by omega) (by omega)]
theorem r_of0 {h k : Nat} {μ : MM} {B : gB} {M : gM} (Y : yT h μ B M) (hc : gcnt M = Int32.ofNat (cN M)) (h24 : cN M ≤ 24) (hk : ¬ k < cN M) (hk2 : k < 1000) (w : Int32) : fX6_of h (Int32.ofNat k) w μ = some (1, 0, μ) := by
  have t := Y.2.2.1
  unfold fX6_of
  rw [Y.1.2.2.1, if_pos t.1.1.1, f_made t, made_lt hc h24 hk hk2]
  simp only [Option.bind_some]
  rw [if_pos b0]
/-- ofTask -/
def gOfT (M : gM) (n : Nat) (w : Int32) : Int32 := if w = 0 then (if Int32.ofNat n ∈ grq M then Int32.ofNat ((grq M).idxOf (Int32.ofNat n)) else -1) else if w = 1 then gf M n 12 else if w = 2 then gf M n 13 else if w = 3 then gf M n 14 else if w = 4 then (if gf M n 15 = 0 then 0 else 1) else if w = 5 then gf M n 16 else Int32.ofNat (gCtA M (Int32.ofNat n) (gaq M).length)
theorem r_ofTask {h k : Nat} {μ : MM} {B : gB} {M : gM} (Y : yT h μ B M) (hc : gcnt M = Int32.ofNat (cN M)) (h24 : cN M ≤ 24) (hk : k < cN M) (h4 : gf M k 4 = 1) (w : Int32) (hw : w = 0 ∨ w = 1 ∨ w = 2 ∨ w = 3 ∨ w = 4 ∨ w = 5 ∨ w = 6) : fX6_ofTask h (Int32.ofNat k) w μ = some (0, gOfT M k w, μ) := by
  have t := Y.2.2.1
  have k24 : k ≤ 24 := by omega
  have lk := (t.lay k24).1
  unfold fX6_ofTask gOfT
  rw [Y.1.2.2.1, if_pos t.1.1.1, f_has t, has_nat hc h24 hk, h4]
  simp only [Option.bind_some]
  rw [show ((1 : Int32) == 1) = true from rfl, if_neg b1, Y.1.2.2.1, if_pos t.1.1.1, r_at t.1, n_at (by omega)]
  simp only [Option.bind_some]
  by_cases q0 : w = 0
  · rw [if_pos q0, if_pos q0, Y.1.2.2.1, if_pos t.1.1.1, t.1.1.2.2.2.1, if_pos t.1.2.2.2.1.1, f_place t.1.2.2.2.1 t.2.2.1]
    rfl
  rw [if_neg q0, if_neg q0]
  by_cases q1 : w = 1
  · rw [if_pos q1, if_pos q1, if_pos lk, show mI μ (tCo (h + 39) k) 12 = gf M k 12 from t.rd k24 (by omega) (by omega) (by omega)]
  rw [if_neg q1, if_neg q1]
  by_cases q2 : w = 2
  · rw [if_pos q2, if_pos q2, if_pos lk, show mI μ (tCo (h + 39) k) 13 = gf M k 13 from t.rd k24 (by omega) (by omega) (by omega)]
  rw [if_neg q2, if_neg q2]
  by_cases q3 : w = 3
  · rw [if_pos q3, if_pos q3, if_pos lk, show mI μ (tCo (h + 39) k) 14 = gf M k 14 from t.rd k24 (by omega) (by omega) (by omega)]
  rw [if_neg q3, if_neg q3]
  by_cases q4 : w = 4
  · rw [if_pos q4, if_pos q4, if_pos lk, show mI μ (tCo (h + 39) k) 15 = gf M k 15 from t.rd k24 (by omega) (by omega) (by omega)]
    by_cases z : gf M k 15 = 0
    · rw [if_pos z, if_pos z]
    · rw [if_neg z, if_neg z]
  rw [if_neg q4, if_neg q4]
  by_cases q5 : w = 5
  · rw [if_pos q5, if_pos q5, if_pos lk, show mI μ (tCo (h + 39) k) 16 = gf M k 16 from t.rd k24 (by omega) (by omega) (by omega)]
  rw [if_neg q5, if_neg q5]
  have q6 : w = 6 := by
    rcases hw with q | q | q | q | q | q | q
    · exact absurd q q0
    · exact absurd q q1
    · exact absurd q q2
    · exact absurd q q3
    · exact absurd q q4
    · exact absurd q q5
    · exact q
  rw [if_pos q6, Y.1.2.2.1, if_pos t.1.1.1, r_howAwait t]
  rfl
theorem r_ofTask0 {h k : Nat} {μ : MM} {B : gB} {M : gM} (Y : yT h μ B M) (hh : gHas M (Int32.ofNat k) 1 = false) (w : Int32) : fX6_ofTask h (Int32.ofNat k) w μ = some (1, 0, μ) := by
  have t := Y.2.2.1
  unfold fX6_ofTask
  rw [Y.1.2.2.1, if_pos t.1.1.1, f_has t, hh]
  simp only [Option.bind_some]
  rw [if_pos b0]
theorem r_loc {h k i : Nat} {μ : MM} {B : gB} {M : gM} (Y : yT h μ B M) (hc : gcnt M = Int32.ofNat (cN M)) (h24 : cN M ≤ 24) (hk : k < cN M) (hi : i < 4) : fX6_local h (Int32.ofNat k) (Int32.ofNat i) μ = some (0, gl M k i, μ) := by
  have t := Y.2.2.1
  have k24 : k ≤ 24 := by omega
  have z1 : (0 : Int32) ≤ Int32.ofNat i := (g_le (a := 0) (b := i) (by omega) (by omega)).mpr (by omega)
  have z2 : Int32.ofNat i ≤ (3 : Int32) := (g_le (a := i) (b := 3) (by omega) (by omega)).mpr (by omega)
  have fw : fX6_within (Int32.ofNat i) 0 3 μ = some (1, μ) := by rw [f_within, if_pos ⟨z1, z2⟩]
  unfold fX6_local
  rw [Y.1.2.2.1, if_pos t.1.1.1, f_made t]
  simp only [Option.bind_some]
  rw [made_nat hc h24 hk, if_neg b1, fw]
  simp only [Option.bind_some]
  rw [if_neg (by decide), Y.1.2.2.1, if_pos t.1.1.1, r_at t.1, n_at (by omega)]
  simp only [Option.bind_some]
  rw [if_pos (t.lay k24).1, r_local t k24]
  unfold gLoc
  have y1 : ¬ (Int32.ofNat i < 0 ∨ (4 : Int32) ≤ Int32.ofNat i) := fun q => q.elim (fun q => Int32.not_lt.mpr z1 q) (fun q => by
    have := (g_le (a := 4) (b := i) (by omega) (by omega)).mp q
    omega)
  rw [if_neg y1, g_nat (by omega)]
  rfl
theorem r_stack {h k i : Nat} {μ : MM} {B : gB} {M : gM} {s w : Int32} (Y : yT h μ B M) (hc : gcnt M = Int32.ofNat (cN M)) (h24 : cN M ≤ 24) (hk : k < cN M) (hi : (gk M k).reverse[i]? = some (s, w)) : fX6_stack h (Int32.ofNat k) (Int32.ofNat i) μ = some (0, s, μ) := by
  have t := Y.2.2.1
  have k24 : k ≤ 24 := by omega
  have hs := t.stk k24
  have hl : (gk M k).length ≤ 6 := hs.1
  have hil : i < (gk M k).length := by
    have := (List.getElem?_eq_some_iff.mp hi).1
    rwa [List.length_reverse] at this
  have z1 : ¬ Int32.ofNat i < 0 := by
    have := mt (g_lt (a := i) (b := 0) (by omega) (by omega)).mp (by omega)
    exact this
  obtain ⟨-, -, l3, -, -, l6, l7, -, l9, l10, -⟩ := t.lay k24
  have fh : fX5_has (tCo (h + 39) k + 2) (Int32.ofNat i) μ = some (1, μ) := by
    unfold fX5_has
    rw [if_neg z1, hs.2.1, if_neg (mt (g_le (by omega) (by omega)).mp (by omega))]
  unfold fX6_stack
  rw [Y.1.2.2.1, if_pos t.1.1.1, f_made t]
  simp only [Option.bind_some]
  rw [made_nat hc h24 hk, if_neg b1, Y.1.2.2.1, if_pos t.1.1.1, r_at t.1, n_at (by omega)]
  simp only [Option.bind_some]
  rw [if_pos (t.lay k24).1, l3, if_pos l6, fh]
  simp only [Option.bind_some]
  rw [if_neg (by decide), Y.1.2.2.1, if_pos t.1.1.1, r_at t.1, n_at (by omega)]
  simp only [Option.bind_some]
  rw [if_pos (t.lay k24).1, l3, if_pos l6]
  unfold fX5_signAt
  rw [fh]
  simp only [Option.bind_some]
  rw [if_neg (by decide), l7, if_pos l9, l10, g_nat (by omega), if_pos (fun q => q.elim z1 (by omega)), (hs.2.2 i s w hi).1]
  rfl
/-- many -/
def gMn (B : gB) (M : gM) (w : Int32) : Int32 := if w = 0 then B.1 else if w = 1 then gcnt M else if w = 2 then Int32.ofNat (gCt M 4 0 (cN M)) else if w = 3 then Int32.ofNat (gCt M 4 1 (cN M)) else if w = 4 then Int32.ofNat (gCt M 5 0 (cN M)) else if w = 5 then Int32.ofNat (gCt M 5 1 (cN M)) else if w = 6 then Int32.ofNat (gCt M 5 3 (cN M)) else if w = 7 then Int32.ofNat (gCt M 5 4 (cN M)) else if w = 8 then Int32.ofNat (grq M).length else if w = 9 then gnow M else if w = 10 then gSum M (cN M) else gtrn M
theorem r_many {h : Nat} {μ : MM} {B : gB} {M : gM} (Y : yT h μ B M) (hc : gcnt M = Int32.ofNat (cN M)) (h24 : cN M ≤ 24) (w : Int32) (hw : w = 0 ∨ w = 1 ∨ w = 2 ∨ w = 3 ∨ w = 4 ∨ w = 5 ∨ w = 6 ∨ w = 7 ∨ w = 8 ∨ w = 9 ∨ w = 10 ∨ w = 11) : fX6_many h w μ = some (0, gMn B M w, μ) := by
  have t := Y.2.2.1
  unfold fX6_many gMn
  by_cases q0 : w = 0
  · rw [if_pos q0, if_pos q0, Y.1.2.1, if_pos Y.2.1.1.1.1, Y.2.1.2.1]
  rw [if_neg q0, if_neg q0]
  by_cases q1 : w = 1
  · rw [if_pos q1, if_pos q1, Y.1.2.2.1, if_pos t.1.1.1, show mI μ (h + 39) 5 = gcnt M from t.2.1.1]
  rw [if_neg q1, if_neg q1]
  by_cases q2 : w = 2
  · rw [if_pos q2, if_pos q2, Y.1.2.2.1, if_pos t.1.1.1, r_howManyOfSort t hc h24]
    rfl
  rw [if_neg q2, if_neg q2]
  by_cases q3 : w = 3
  · rw [if_pos q3, if_pos q3, Y.1.2.2.1, if_pos t.1.1.1, r_howManyOfSort t hc h24]
    rfl
  rw [if_neg q3, if_neg q3]
  by_cases q4 : w = 4
  · rw [if_pos q4, if_pos q4, Y.1.2.2.1, if_pos t.1.1.1, r_howManyInState t hc h24]
    rfl
  rw [if_neg q4, if_neg q4]
  by_cases q5 : w = 5
  · rw [if_pos q5, if_pos q5, Y.1.2.2.1, if_pos t.1.1.1, r_howManyInState t hc h24]
    rfl
  rw [if_neg q5, if_neg q5]
  by_cases q6 : w = 6
  · rw [if_pos q6, if_pos q6, Y.1.2.2.1, if_pos t.1.1.1, r_howManyInState t hc h24]
    rfl
  rw [if_neg q6, if_neg q6]
  by_cases q7 : w = 7
  · rw [if_pos q7, if_pos q7, Y.1.2.2.1, if_pos t.1.1.1, r_howManyInState t hc h24]
    rfl
  rw [if_neg q7, if_neg q7]
  by_cases q8 : w = 8
  · rw [if_pos q8, if_pos q8, Y.1.2.2.1, if_pos t.1.1.1, t.1.1.2.2.2.1, if_pos t.1.2.2.2.1.1, t.2.2.1.2.1]
  rw [if_neg q8, if_neg q8]
  by_cases q9 : w = 9
  · rw [if_pos q9, if_pos q9, Y.1.2.2.1, if_pos t.1.1.1, show mI μ (h + 39) 6 = gnow M from t.2.1.2.1]
  rw [if_neg q9, if_neg q9]
  by_cases q10 : w = 10
  · rw [if_pos q10, if_pos q10, Y.1.2.2.1, if_pos t.1.1.1, r_lines t hc h24]
    rfl
  rw [if_neg q10, if_neg q10]
  have q11 : w = 11 := by
    rcases hw with q | q | q | q | q | q | q | q | q | q | q | q
    · exact absurd q q0
    · exact absurd q q1
    · exact absurd q q2
    · exact absurd q q3
    · exact absurd q q4
    · exact absurd q q5
    · exact absurd q q6
    · exact absurd q q7
    · exact absurd q q8
    · exact absurd q q9
    · exact absurd q q10
    · exact q
  rw [if_pos q11, Y.1.2.2.1, if_pos t.1.1.1, show mI μ (h + 39) 7 = gtrn M from t.2.1.2.2]
