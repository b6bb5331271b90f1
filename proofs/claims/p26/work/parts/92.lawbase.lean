/-! THE LAW: frames, below, isGiven -/
theorem Int.bmod32 {x : Int} (h1 : -2147483648 ≤ x) (h2 : x < 2147483648) : x.bmod (2 ^ 32) = x := by
  simp only [Int.bmod]
  split <;> omega
theorem i_mul {a b : Int32} (h1 : -2147483648 ≤ a.toInt * b.toInt) (h2 : a.toInt * b.toInt < 2147483648) : (a * b).toInt = a.toInt * b.toInt := by
  rw [Int32.toInt_mul, Int.bmod32 h1 h2]
theorem and_pos (x : Int32) : 0 ≤ (x &&& 2147483647).toInt := by
  have h : (x &&& 2147483647).toBitVec.msb = false := by
    rw [Int32.toBitVec_and, BitVec.msb_and, show (2147483647 : Int32).toBitVec.msb = false by decide, Bool.and_false]
  exact BitVec.toInt_nonneg_of_msb_false h
theorem rem_ok {a n : Int32} (ha : 0 ≤ a.toInt) (hn : 0 < n.toInt) : (a - a / n * n).toInt = a.toInt % n.toInt := by
  have h1 := Int32.toInt_lt a
  have h2 := Int32.toInt_lt n
  have hne : n ≠ -1 := fun e => by
    rw [e] at hn
    exact absurd hn (by decide)
  have hd : (a / n).toInt = a.toInt / n.toInt := by
    rw [Int32.toInt_div_of_ne_right _ _ hne, Int.tdiv_eq_ediv_of_nonneg ha]
  have hq : 0 ≤ a.toInt / n.toInt := Int.ediv_nonneg ha (by omega)
  have hm : a.toInt / n.toInt * n.toInt ≤ a.toInt := Int.ediv_mul_le _ (by omega)
  have hm0 : 0 ≤ a.toInt / n.toInt * n.toInt := Int.mul_nonneg hq (by omega)
  have e1 : (a / n * n).toInt = a.toInt / n.toInt * n.toInt := by
    rw [i_mul (by rw [hd]; omega) (by rw [hd]; omega), hd]
  rw [i_sub (by rw [e1]; omega) (by rw [e1]; omega), e1]
  have := Int.emod_add_mul_ediv a.toInt n.toInt
  rw [Int.mul_comm] at this
  omega
/-- below -/
def gBl (x n : Int32) : Nat := ((x &&& 2147483647).toInt % n.toInt).toNat
theorem below_ok {x n : Int32} (hn : 0 < n.toInt) (μ : MM) : fL_below x n μ = some (Int32.ofNat (gBl x n), μ) ∧ (gBl x n : Int) < n.toInt := by
  have h0 : n ≠ 0 := fun e => by
    rw [e] at hn
    exact absurd hn (by decide)
  have hp := and_pos x
  have h2 := Int32.toInt_lt n
  have hr := rem_ok hp hn
  have m1 := Int.emod_nonneg (x &&& 2147483647).toInt (show n.toInt ≠ 0 by omega)
  have m2 := Int.emod_lt_of_pos (x &&& 2147483647).toInt hn
  refine ⟨?_, by unfold gBl; omega⟩
  unfold fL_below
  rw [if_pos h0]
  have : ((x &&& 2147483647) - (x &&& 2147483647) / n * n) = Int32.ofNat (gBl x n) := by
    apply Int32.toInt_inj.mp
    rw [hr, Int32.toInt_ofNat_of_lt (by unfold gBl; omega)]
    unfold gBl
    omega
  rw [this]
/-- of what lies below N, a call leaves as it was all but the object's own ints -/
def yG (h N : Nat) (μ ν : MM) : Prop := mX μ ≤ mX ν ∧ ∀ a, a < N → mK ν a = mK μ a ∧ mN ν a = mN μ a ∧ (¬ (h + 1 ≤ a ∧ a < h + 301) → ∀ j, mI ν a j = mI μ a j) ∧ ∀ j, ¬ (a = h + 39 ∧ j = 8) → ¬ (a = h + 170 ∧ j = 8) → mP ν a j = mP μ a j
theorem yG.rf {h N : Nat} {μ : MM} : yG h N μ μ := ⟨Nat.le_refl _, fun _ _ => ⟨rfl, rfl, fun _ _ => rfl, fun _ _ _ => rfl⟩⟩
theorem yG.tr {h N : Nat} {μ ν ω : MM} (a : yG h N μ ν) (b : yG h N ν ω) : yG h N μ ω := ⟨Nat.le_trans a.1 b.1, fun x hx => by
  obtain ⟨a1, a2, a3, a4⟩ := a.2 x hx
  obtain ⟨b1, b2, b3, b4⟩ := b.2 x hx
  exact ⟨b1.trans a1, b2.trans a2, fun q j => (b3 q j).trans (a3 q j), fun j q r => (b4 j q r).trans (a4 j q r)⟩⟩
theorem yF.g {h N : Nat} {μ ν : MM} (F : yF h μ ν) : yG h N μ ν := ⟨by rw [F.2.2.1]; exact Nat.le_refl _, fun a _ => ⟨by rw [F.1], by rw [F.2.1], fun q j => F.2.2.2.1 a j (by omega), fun j q r => F.2.2.2.2 a j q r⟩⟩
/-- memories that agree about the object's cells -/
def yS (h : Nat) (μ ν : MM) : Prop := ∀ a, h ≤ a → a < h + 301 → mK ν a = mK μ a ∧ mN ν a = mN μ a ∧ (∀ j, mI ν a j = mI μ a j) ∧ ∀ j, mP ν a j = mP μ a j
theorem tM.agree {c : Nat} {μ ν : MM} {M : gM} (h : tM c μ M) (s : ∀ a, c ≤ a → a < c + 131 → mK ν a = mK μ a ∧ mN ν a = mN μ a ∧ (∀ j, mI ν a j = mI μ a j) ∧ ∀ j, mP ν a j = mP μ a j) : tM c ν M := by
  obtain ⟨⟨⟨a1, a2, a3, a4, a5, a6, a7⟩, b, d, ⟨e1, e2, e3, e4⟩, ⟨g1, g2, g3, g4⟩⟩, ⟨i1, i2, i3⟩, j1, j2, hc⟩ := h
  have k : ∀ a, c ≤ a → a < c + 131 → mK ν a = mK μ a := fun a x y => (s a x y).1
  have n : ∀ a, c ≤ a → a < c + 131 → mN ν a = mN μ a := fun a x y => (s a x y).2.1
  have i : ∀ a, c ≤ a → a < c + 131 → ∀ j, mI ν a j = mI μ a j := fun a x y => (s a x y).2.2.1
  have p : ∀ a, c ≤ a → a < c + 131 → ∀ j, mP ν a j = mP μ a j := fun a x y => (s a x y).2.2.2
  refine ⟨⟨⟨by rw [k _ (by omega) (by omega)]; exact a1, by rw [p _ (by omega) (by omega)]; exact a2, by rw [p _ (by omega) (by omega)]; exact a3, by rw [p _ (by omega) (by omega)]; exact a4, by rw [p _ (by omega) (by omega)]; exact a5, by rw [k _ (by omega) (by omega)]; exact a6, by rw [n _ (by omega) (by omega)]; exact a7⟩, fun m hm => by rw [p _ (by omega) (by omega)]; exact b m hm, fun m hm => ?_, ⟨by rw [k _ (by omega) (by omega)]; exact e1, by rw [p _ (by omega) (by omega)]; exact e2, by rw [k _ (by omega) (by omega)]; exact e3, by rw [n _ (by omega) (by omega)]; exact e4⟩, ⟨by rw [k _ (by omega) (by omega)]; exact g1, by rw [p _ (by omega) (by omega)]; exact g2, by rw [k _ (by omega) (by omega)]; exact g3, by rw [n _ (by omega) (by omega)]; exact g4⟩⟩, ⟨by rw [i _ (by omega) (by omega)]; exact i1, by rw [i _ (by omega) (by omega)]; exact i2, by rw [i _ (by omega) (by omega)]; exact i3⟩, j1.same fun a x hx => i a (by omega) (by omega) x, j2.same fun a x hx => i a (by omega) (by omega) x, fun m hm => ?_⟩
  · have h1 := tCo_in (c := c) hm
    obtain ⟨d1, d2, d3, d4, d5, d6, d7, d8, d9, d10, d11, d12⟩ := d m hm
    rw [tLayC, k _ (by omega) (by omega), p _ (by omega) (by omega), p _ (by omega) (by omega), k _ (by omega) (by omega), n _ (by omega) (by omega), k _ (by omega) (by omega), p _ (by omega) (by omega), p _ (by omega) (by omega), k _ (by omega) (by omega), n _ (by omega) (by omega), k _ (by omega) (by omega), n _ (by omega) (by omega)]
    exact ⟨d1, d2, d3, d4, d5, d6, d7, d8, d9, d10, d11, d12⟩
  · have h1 := tCo_in (c := c) hm
    exact (hc m hm).same fun a x q1 q2 _ => i a (by omega) (by omega) x
theorem tB.agree {d : Nat} {μ ν : MM} {B : gB} (h : tB d μ B) (s : ∀ a, d ≤ a → a < d + 38 → mK ν a = mK μ a ∧ mN ν a = mN μ a ∧ (∀ j, mI ν a j = mI μ a j) ∧ ∀ j, mP ν a j = mP μ a j) : tB d ν B := by
  obtain ⟨⟨⟨a1, a2, a3, a4, a5⟩, b, e⟩, g1, g2⟩ := h
  have k : ∀ a, d ≤ a → a < d + 38 → mK ν a = mK μ a := fun a x y => (s a x y).1
  have n : ∀ a, d ≤ a → a < d + 38 → mN ν a = mN μ a := fun a x y => (s a x y).2.1
  have i : ∀ a, d ≤ a → a < d + 38 → ∀ j, mI ν a j = mI μ a j := fun a x y => (s a x y).2.2.1
  have p : ∀ a, d ≤ a → a < d + 38 → ∀ j, mP ν a j = mP μ a j := fun a x y => (s a x y).2.2.2
  refine ⟨⟨⟨by rw [k _ (by omega) (by omega)]; exact a1, by rw [p _ (by omega) (by omega)]; exact a2, by rw [p _ (by omega) (by omega)]; exact a3, by rw [k _ (by omega) (by omega)]; exact a4, by rw [n _ (by omega) (by omega)]; exact a5⟩, fun m hm => by rw [p _ (by omega) (by omega)]; exact b m hm, fun m hm => ?_⟩, by rw [i _ (by omega) (by omega)]; exact g1, fun m hm => ?_⟩
  · have h1 := tBh_in (d := d) hm
    rw [k _ (by omega) (by omega), p _ (by omega) (by omega), p _ (by omega) (by omega), p _ (by omega) (by omega), k _ (by omega) (by omega), n _ (by omega) (by omega), k _ (by omega) (by omega), n _ (by omega) (by omega), k _ (by omega) (by omega), n _ (by omega) (by omega)]
    exact e m hm
  · have h1 := tBh_in (d := d) hm
    obtain ⟨k1, k2, k3⟩ := g2 m hm
    refine ⟨k1, by rw [i _ (by omega) (by omega)]; exact k2, fun x y hy => ?_⟩
    rw [i _ (by omega) (by omega), i _ (by omega) (by omega), i _ (by omega) (by omega)]
    exact k3 x y hy
theorem yT.agree {h : Nat} {μ ν : MM} {B : gB} {M : gM} (Y : yT h μ B M) (s : yS h μ ν) : yT h ν B M := by
  obtain ⟨⟨y1, y2, y3, y4⟩, y5, y6, y7, y8, M2, y9⟩ := Y
  refine ⟨⟨by rw [(s h (by omega) (by omega)).1]; exact y1, by rw [(s h (by omega) (by omega)).2.2.2]; exact y2, by rw [(s h (by omega) (by omega)).2.2.2]; exact y3, by rw [(s h (by omega) (by omega)).2.2.2]; exact y4⟩, y5.agree fun a x y => s a (by omega) (by omega), y6.agree fun a x y => s a (by omega) (by omega), by rw [(s (h + 39) (by omega) (by omega)).2.2.2]; exact y7, by rw [(s (h + 170) (by omega) (by omega)).2.2.2]; exact y8, M2, y9.agree fun a x y => s a (by omega) (by omega)⟩
theorem yI.agree {h : Nat} {μ ν : MM} {B : gB} {M : gM} (Y : yI h μ B M) (s : yS h μ ν) : yI h ν B M := ⟨Y.1.agree s, Y.2⟩
/-- a new cell -/
theorem yS.N {h k n : Nat} {μ : MM} (hx : h + 301 ≤ mX μ) : yS h μ (sN μ k n) := fun a h1 h2 => by
  have : a ≠ mX μ := by omega
  exact ⟨by rw [mK_sN, if_neg this], by rw [mN_sN, if_neg this], fun j => by rw [mI_sN, if_neg this], fun j => by show (if a = mX μ then 0 else mP μ a j) = _; rw [if_neg this]⟩
theorem yG.N {h N k n : Nat} {μ : MM} (hx : N ≤ mX μ) : yG h N μ (sN μ k n) := ⟨Nat.le_succ _, fun a ha => by
  have : a ≠ mX μ := by omega
  exact ⟨by rw [mK_sN, if_neg this], by rw [mN_sN, if_neg this], fun _ j => by rw [mI_sN, if_neg this], fun j _ _ => by show (if a = mX μ then 0 else mP μ a j) = _; rw [if_neg this]⟩⟩
/-- an int of another cell -/
theorem yS.I {h a j : Nat} {v : Int32} {μ : MM} (hx : h + 301 ≤ a) : yS h μ (sI μ a j v) := fun b h1 h2 => ⟨rfl, rfl, fun i => by rw [mI_sI, if_neg (by omega)], fun _ => rfl⟩
theorem yG.I {h N a j : Nat} {v : Int32} {μ : MM} (hx : N ≤ a) : yG h N μ (sI μ a j v) := ⟨Nat.le_refl _, fun b hb => ⟨rfl, rfl, fun _ i => by rw [mI_sI, if_neg (by omega)], fun _ _ _ => rfl⟩⟩
theorem yS.X {h z : Nat} {μ : MM} : yS h μ (sX μ z) := fun _ _ _ => ⟨rfl, rfl, fun _ => rfl, fun _ => rfl⟩
theorem yG.X {h N z : Nat} {μ : MM} (hz : mX μ ≤ z) : yG h N μ (sX μ z) := ⟨hz, fun _ _ => ⟨rfl, rfl, fun _ _ => rfl, fun _ _ _ => rfl⟩⟩
/-- isGiven -/
theorem y_isGiven {h k : Nat} {μ : MM} {B : gB} {M : gM} {g : Int32} (Y : yI h μ B M) (hk : k < cN M) (hg : okGiven M k g) : fL_isGiven h (Int32.ofNat k) g μ = some (1, μ) := by
  obtain ⟨hc, h24⟩ := Y.cn
  unfold fL_isGiven
  have o1 := r_of Y.1 hc h24 hk 1 (by decide)
  have o4 := r_of Y.1 hc h24 hk 4 (by decide)
  have e1 : gOfV M k 1 = gf M k 5 := rfl
  have e4 : gOfV M k 4 = gf M k 7 := rfl
  have c2 : (-20000 : Int32).toInt = -20000 := rfl
  have c3 : (9999 : Int32).toInt = 9999 := rfl
  have c4 : (-9999 : Int32).toInt = -9999 := rfl
  rw [if_pos Y.1.1.1, o1, e1]
  simp only [Option.bind_some]
  rw [if_pos trivial]
  rcases hg with ⟨a, b⟩ | ⟨a, b⟩ | ⟨a, b, d⟩
  · have n1 : ¬ g ≤ (-20000 : Int32) := fun z => by
      have := Int32.le_iff_toInt_le.mp z
      have := b.1
      omega
    have n2 : ¬ (9999 : Int32) < g := fun z => by
      have := Int32.lt_iff_toInt_lt.mp z
      have := b.2
      omega
    have n3 : ¬ g < (-9999 : Int32) := fun z => by
      have := Int32.lt_iff_toInt_lt.mp z
      have := b.1
      omega
    rw [if_neg n1, if_pos a, if_neg n2, if_neg n3]
  · rw [b, if_pos (by decide), if_pos rfl, if_pos a]
  · have e : g.toInt = -20000 - (gf M k 7).toInt := by
      rw [b]
      exact i_sub (by rw [c2]; have := d.1; have := d.2; omega) (by rw [c2]; have := d.1; have := d.2; omega)
    have n1 : g ≤ (-20000 : Int32) := Int32.le_iff_toInt_le.mpr (by rw [e, c2]; have := d.1; omega)
    have n2 : ¬ g = (-20000 : Int32) := fun z => by
      rw [z, c2] at e
      have := d.1
      omega
    rw [if_pos n1, if_neg n2, if_pos a, o4, e4]
    simp only [Option.bind_some]
    have e7 : gf M k 7 = -20000 - g := by
      apply Int32.toInt_inj.mp
      rw [i_sub (by rw [c2, e]; have := d.1; have := d.2; omega) (by rw [c2, e]; have := d.1; have := d.2; omega), c2, e]
      omega
    rw [if_pos trivial, if_pos e7]
