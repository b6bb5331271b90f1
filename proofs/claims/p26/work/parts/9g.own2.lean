theorem line_ok {h nb b : Nat} {μ : MM} {B : gB} {M : gM} {x a c : Int32} (Y : yT h μ B M) (h0 : gcnt M = 0) (hB : B.1 = Int32.ofNat nb) (hn : nb ≤ 5) (hb : b < nb) (hl : (B.2 b).length < 12) (F : gFit (B.2 b).length x a c) : ∃ ν, fX6_line h (Int32.ofNat b) x a c μ = some (0, Int32.ofNat (B.2 b).length, ν) ∧ yT h ν (addL B b (x, a, c)) M ∧ yF h μ ν := by
  obtain ⟨⟨y1, y2, y3, y4⟩, y5, y6, y7, y8, M2, y9⟩ := Y
  have hc0 : cN M = 0 := by unfold cN; rw [h0]; rfl
  have gb : gBody (Int32.ofNat b) = b := body_at (by omega)
  obtain ⟨ν, e, t, f1, f2, f3, f4, f5⟩ := r_addLine (x := x) (a := a) (b := c) y5 (show b < 8 by omega) hl
  have lay := y5.1.2.2 b (by omega)
  have len := (y5.2.2 b (by omega)).2.1
  have bh := f_bhas y5 (Int32.ofNat b)
  rw [if_pos ⟨Int32.le_iff_toInt_le.mpr (by rw [Int32.toInt_ofNat_of_lt (by omega)]; show (0 : Int) ≤ b; omega), by rw [hB]; exact (g_lt (by omega) (by omega)).mpr hb⟩] at bh
  have n10 : ¬ (1 : Int32) = 0 := by decide
  have hm := r_howManyMadeOf y6 (show gcnt M = Int32.ofNat (cN M) by rw [h0, hc0]; rfl) (by omega) (Int32.ofNat b)
  rw [hc0] at hm
  refine ⟨ν, ?_, ?_, f1, f2, f3, fun p j q => f5 p j (by omega), fun p j _ _ => by rw [f4]⟩
  · unfold fX6_line
    rw [y2, if_pos y5.1.1.1, bh, Option.bind_some, if_neg n10, y2, if_pos y5.1.1.1, r_bat y5, Option.bind_some]
    dsimp only
    rw [gb, if_pos lay.1, fits_ok len hl F, Option.bind_some, if_neg n10]
    dsimp only
    rw [len, if_neg (show ¬ (12 : Int32) ≤ Int32.ofNat (B.2 b).length from mt (g_le (a := 12) (by omega) (by omega)).mp (by omega)), y3, if_pos y6.1.1.1, hm, Option.bind_some, if_pos (show Int32.ofNat (gCt M 3 (Int32.ofNat b) 0) ≤ (0 : Int32) from (by decide : Int32.ofNat 0 ≤ (0 : Int32))), e, Option.bind_some]
  · have ag : ∀ p, p < h + 1 + 6 ∨ h + 1 + 38 ≤ p → mK ν p = mK μ p ∧ mN ν p = mN μ p ∧ (∀ j, mI ν p j = mI μ p j) ∧ ∀ j, mP ν p j = mP μ p j := fun p q => ⟨by rw [f1], by rw [f2], fun j => f5 p j q, fun j => by rw [f4]⟩
    exact ⟨⟨by rw [f1]; exact y1, by rw [f4]; exact y2, by rw [f4]; exact y3, by rw [f4]; exact y4⟩, t, y6.agree fun p q r => ag p (by omega), by rw [f4]; exact y7, by rw [f4]; exact y8, M2, y9.agree fun p q r => ag p (by omega)⟩
/-- the own cells while the bodies are built: itself h + 301, rows h + 302 .. h + 310, counts h + 311, the drawn kinds h + 312 -/
def bO (h : Nat) (μ : MM) (B : gB) : Prop := (h + 313 ≤ mX μ ∧ mK μ (h + 301) = 8 ∧ mP μ (h + 301) 0 = h + 302 ∧ mP μ (h + 301) 1 = h + 311 ∧ mI μ (h + 301) 2 = B.1) ∧ (mK μ (h + 302) = 25 ∧ mN μ (h + 302) = 8 ∧ ∀ b, b < 8 → mP μ (h + 302) b = h + 303 + b ∧ mK μ (h + 303 + b) = 24 ∧ mN μ (h + 303 + b) = 12) ∧ (mK μ (h + 311) = 20 ∧ mN μ (h + 311) = 8 ∧ ∀ b, b < 8 → mI μ (h + 311) b = Int32.ofNat (B.2 b).length) ∧ ∀ b, b < 8 → ∀ (i : Nat) (x : Int32 × Int32 × Int32), (B.2 b)[i]? = some x → (h + 313 ≤ mP μ (h + 303 + b) i ∧ mP μ (h + 303 + b) i < mX μ) ∧ mK μ (mP μ (h + 303 + b) i) = 20 ∧ mN μ (mP μ (h + 303 + b) i) = 3 ∧ mI μ (mP μ (h + 303 + b) i) 0 = x.1 ∧ mI μ (mP μ (h + 303 + b) i) 1 = x.2.1
def bD (h : Nat) (μ : MM) : Prop := mK μ (h + 312) = 20 ∧ mN μ (h + 312) = 20 ∧ ∀ j, j < 20 → ∃ v, mI μ (h + 312) j = Int32.ofNat v ∧ v < 16
def bI (h nb : Nat) (μ : MM) (B : gB) (M : gM) : Prop := yT h μ B M ∧ gcnt M = 0 ∧ (B.1 = Int32.ofNat nb ∧ nb ≤ 5 ∧ (∀ k, k ≤ 8 → (B.2 k).length ≤ 12 ∧ ∀ L ∈ B.2 k, okLn L) ∧ ∀ k, nb ≤ k → B.2 k = []) ∧ bO h μ B ∧ bD h μ
theorem yS.P {h a j v : Nat} {μ : MM} (hx : h + 301 ≤ a) : yS h μ (sP μ a j v) := fun b h1 h2 => ⟨rfl, rfl, fun _ => rfl, fun i => by rw [mP_sP, if_neg (by omega)]⟩
theorem yS.tr {h : Nat} {μ ν ω : MM} (a : yS h μ ν) (b : yS h ν ω) : yS h μ ω := fun p q r => ⟨(b p q r).1.trans (a p q r).1, (b p q r).2.1.trans (a p q r).2.1, fun j => ((b p q r).2.2.1 j).trans ((a p q r).2.2.1 j), fun j => ((b p q r).2.2.2 j).trans ((a p q r).2.2.2 j)⟩
set_option maxHeartbeats 1000000 in
theorem isLine_ok {h nb b : Nat} {μ : MM} {B : gB} {M : gM} {x a c : Int32} (I : bI h nb μ B M) (hb : b < nb) (hl : (B.2 b).length < 12) (F : gFit (B.2 b).length x a c) : ∃ ν B', fX7_isLine (h + 301) h (Int32.ofNat b) x a c μ = some (1, ν) ∧ bI h nb ν B' M := by
  obtain ⟨Y, h0, ⟨b1, b2, b3, b4⟩, ⟨⟨o1, o2, o3, o4, o5⟩, ⟨p1, p2, p3⟩, ⟨q1, q2, q3⟩, r⟩, d1, d2, d3⟩ := I
  obtain ⟨s1, s2, s3⟩ := p3 b (by omega)
  have q4 := q3 b (by omega)
  generalize el : (B.2 b).length = len at *
  have gb : (Int32.ofNat b).toNatClampNeg = b := g_nat (by omega)
  have gl : (Int32.ofNat len).toNatClampNeg = len := g_nat (by omega)
  have hx : ∃ q, mX μ = q := ⟨_, rfl⟩
  obtain ⟨q, hq⟩ := hx
  -- the memory when the line is told
  have e0 : ∃ ω, ω = sI (sP (sI (sI (sI (sN μ 20 3) q 0 x) q 1 a) q 2 c) (h + 303 + b) len q) (h + 311) b (Int32.ofNat len + 1) := ⟨_, rfl⟩
  obtain ⟨ω, eω⟩ := e0
  have wK : ∀ p, p ≠ q → mK ω p = mK μ p := fun p z => by rw [eω]; show mK (sN μ 20 3) p = _; rw [mK_sN, hq, if_neg z]
  have wN : ∀ p, p ≠ q → mN ω p = mN μ p := fun p z => by rw [eω]; show mN (sN μ 20 3) p = _; rw [mN_sN, hq, if_neg z]
  have wX : mX ω = q + 1 := by rw [eω]; show mX μ + 1 = _; rw [hq]
  have wKq : mK ω q = 20 := by rw [eω]; show mK (sN μ 20 3) q = _; rw [mK_sN, hq, if_pos rfl]
  have wNq : mN ω q = 3 := by rw [eω]; show mN (sN μ 20 3) q = _; rw [mN_sN, hq, if_pos rfl]
  have wI : ∀ p j, p ≠ q → ¬ (p = h + 311 ∧ j = b) → mI ω p j = mI μ p j := fun p j z z2 => by
    rw [eω, mI_sI, if_neg z2, mI_sP, mI_sI, if_neg (fun y => z y.1), mI_sI, if_neg (fun y => z y.1), mI_sI, if_neg (fun y => z y.1), mI_sN, hq, if_neg z]
  have wIb : mI ω (h + 311) b = Int32.ofNat len + 1 := by rw [eω, mI_sI, if_pos ⟨rfl, rfl⟩]
  have wI0 : mI ω q 0 = x := by rw [eω, mI_sI, if_neg (by omega), mI_sP, mI_sI, if_neg (by omega), mI_sI, if_neg (by omega), mI_sI, if_pos ⟨rfl, rfl⟩]
  have wI1 : mI ω q 1 = a := by rw [eω, mI_sI, if_neg (by omega), mI_sP, mI_sI, if_neg (by omega), mI_sI, if_pos ⟨rfl, rfl⟩]
  have wP : ∀ p j, p ≠ q → ¬ (p = h + 303 + b ∧ j = len) → mP ω p j = mP μ p j := fun p j z z2 => by
    rw [eω, mP_sI, mP_sP, if_neg z2, mP_sI, mP_sI, mP_sI, mP_sN, hq, if_neg z]
  have wPq : mP ω (h + 303 + b) len = q := by rw [eω, mP_sI, mP_sP, if_pos ⟨rfl, rfl⟩]
  have wS : yS h μ ω := fun p y z => ⟨wK p (by omega), wN p (by omega), fun j => wI p j (by omega) (by omega), fun j => wP p j (by omega) (by omega)⟩
  obtain ⟨ν, eν, Yν, f1, f2, f3, f4, f5⟩ := line_ok (x := x) (a := a) (c := c) (Y.agree wS) h0 b1 b2 hb (by omega) (by rw [el]; exact F)
  have nK : ∀ p, p ≠ q → mK ν p = mK μ p := fun p z => by rw [f1]; exact wK p z
  have nN : ∀ p, p ≠ q → mN ν p = mN μ p := fun p z => by rw [f2]; exact wN p z
  have nI : ∀ p j, h + 301 ≤ p → p ≠ q → ¬ (p = h + 311 ∧ j = b) → mI ν p j = mI μ p j := fun p j z z1 z2 => by rw [f4 p j (by omega)]; exact wI p j z1 z2
  have nP : ∀ p j, h + 301 ≤ p → p ≠ q → ¬ (p = h + 303 + b ∧ j = len) → mP ν p j = mP μ p j := fun p j z z1 z2 => by rw [f5 p j (by omega) (by omega)]; exact wP p j z1 z2
  have nPq : mP ν (h + 303 + b) len = q := by rw [f5 _ _ (by omega) (by omega)]; exact wPq
  have nIb : mI ν (h + 311) b = Int32.ofNat len + 1 := by rw [f4 _ _ (by omega)]; exact wIb
  refine ⟨ν, addL B b (x, a, c), ?_, Yν, h0, ⟨b1, b2, fun k hk => ?_, fun k hk => ?_⟩, ⟨⟨by rw [f3, wX]; omega, by rw [nK _ (by omega)]; exact o2, by rw [nP _ _ (by omega) (by omega) (by omega)]; exact o3, by rw [nP _ _ (by omega) (by omega) (by omega)]; exact o4, by rw [nI _ _ (by omega) (by omega) (by omega)]; exact o5⟩, ⟨by rw [nK _ (by omega)]; exact p1, by rw [nN _ (by omega)]; exact p2, fun k hk => ?_⟩, ⟨by rw [nK _ (by omega)]; exact q1, by rw [nN _ (by omega)]; exact q2, fun k hk => ?_⟩, fun k hk i y hy => ?_⟩, by rw [nK _ (by omega)]; exact d1, by rw [nN _ (by omega)]; exact d2, fun j hj => by rw [nI _ _ (by omega) (by omega) (by omega)]; exact d3 j hj⟩
  · have n12 : ¬ (Int32.ofNat len = 12) := fun z => by
      have : len = 12 := n_inj (by omega) (by omega) z
      omega
    have z8 : ¬ (Int32.ofNat b < 0 ∨ 8 ≤ b) := fun z => z.elim (lt0_nat (by omega)) (by omega)
    have z12 : ¬ (Int32.ofNat len < 0 ∨ 12 ≤ len) := fun z => z.elim (lt0_nat (by omega)) (by omega)
    have m4 : mK (sN μ 20 3) q = 20 := by rw [mK_sN, hq, if_pos rfl]
    have m5 : mN (sN μ 20 3) q = 3 := by rw [mN_sN, hq, if_pos rfl]
    have k4 : ∀ p, p ≠ q → mK (sN μ 20 3) p = mK μ p := fun p z => by rw [mK_sN, hq, if_neg z]
    have n4 : ∀ p, p ≠ q → mN (sN μ 20 3) p = mN μ p := fun p z => by rw [mN_sN, hq, if_neg z]
    have t0 : ∀ p j, p ≠ q → mP (sN μ 20 3) p j = mP μ p j := fun p j z => by rw [mP_sN, hq, if_neg z]
    have i4 : mI (sI (sI (sI (sN μ 20 3) q 0 x) q 1 a) q 2 c) (h + 311) b = Int32.ofNat len := by rw [mI_sI, if_neg (by omega), mI_sI, if_neg (by omega), mI_sI, if_neg (by omega), mI_sN, hq, if_neg (by omega)]; exact q4
    unfold fX7_isLine
    rw [o4, if_pos q1, gb, q2, if_pos z8, q4, if_neg n12, st_ap, hq, if_pos m4, show (0 : Int32).toNatClampNeg = 0 from rfl, show (1 : Int32).toNatClampNeg = 1 from rfl, show (2 : Int32).toNatClampNeg = 2 from rfl, m5, if_pos (by decide), st_ap, show mN (sI (sN μ 20 3) q 0 x) q = 3 from m5, if_pos (by decide), st_ap, show mN (sI (sI (sN μ 20 3) q 0 x) q 1 a) q = 3 from m5, if_pos (by decide), st_ap, if_pos (show mK (sN μ 20 3) (h + 301) = 8 by rw [k4 _ (by omega)]; exact o2)]
    rw [show mP (sI (sI (sI (sN μ 20 3) q 0 x) q 1 a) q 2 c) (h + 301) 0 = h + 302 from (t0 _ _ (by omega)).trans o3, show mP (sI (sI (sI (sN μ 20 3) q 0 x) q 1 a) q 2 c) (h + 301) 1 = h + 311 from (t0 _ _ (by omega)).trans o4, show mP (sI (sI (sI (sN μ 20 3) q 0 x) q 1 a) q 2 c) (h + 302) b = h + 303 + b from (t0 _ _ (by omega)).trans s1, if_pos (show mK (sN μ 20 3) (h + 302) = 25 by rw [k4 _ (by omega)]; exact p1), show mN (sI (sI (sI (sN μ 20 3) q 0 x) q 1 a) q 2 c) (h + 302) = 8 from (n4 _ (by omega)).trans p2, if_pos z8, if_pos (show mK (sN μ 20 3) (h + 311) = 20 by rw [k4 _ (by omega)]; exact q1), show mN (sI (sI (sI (sN μ 20 3) q 0 x) q 1 a) q 2 c) (h + 311) = 8 from (n4 _ (by omega)).trans q2, if_pos z8, if_pos (show mK (sN μ 20 3) (h + 303 + b) = 24 by rw [k4 _ (by omega)]; exact s2), i4, gl, show mN (sI (sI (sI (sN μ 20 3) q 0 x) q 1 a) q 2 c) (h + 303 + b) = 12 from (n4 _ (by omega)).trans s3, if_pos z12, st_ap]
    have t1 : mP (sP (sI (sI (sI (sN μ 20 3) q 0 x) q 1 a) q 2 c) (h + 303 + b) len q) (h + 301) 1 = h + 311 := by rw [mP_sP, if_neg (by omega)]; exact (t0 _ _ (by omega)).trans o4
    rw [t1, if_pos (show mK (sN μ 20 3) (h + 311) = 20 by rw [k4 _ (by omega)]; exact q1), show mN (sP (sI (sI (sI (sN μ 20 3) q 0 x) q 1 a) q 2 c) (h + 303 + b) len q) (h + 311) = 8 from (n4 _ (by omega)).trans q2, if_pos z8, if_pos z8, st_ap, if_pos (show mK (sN μ 20 3) h = 7 by rw [k4 _ (by omega)]; exact Y.1.1), show mI (sP (sI (sI (sI (sN μ 20 3) q 0 x) q 1 a) q 2 c) (h + 303 + b) len q) (h + 311) b = Int32.ofNat len from i4, ← eω, eν, Option.bind_some, if_pos rfl]
    dsimp only
    rw [show mP ν (h + 301) 1 = h + 311 by rw [nP _ _ (by omega) (by omega) (by omega)]; exact o4, if_pos (show mK (sN μ 20 3) (h + 311) = 20 by rw [k4 _ (by omega)]; exact q1), show mN ν (h + 311) = 8 by rw [nN _ (by omega)]; exact q2, if_pos z8, nIb, el, if_pos (show Int32.ofNat len = Int32.ofNat len + 1 - 1 by rw [g_suc, g_prd (by omega)]; rfl)]
  · show (if k = b then B.2 b ++ [(x, a, c)] else B.2 k).length ≤ 12 ∧ ∀ L ∈ (if k = b then B.2 b ++ [(x, a, c)] else B.2 k), okLn L
    by_cases e : k = b
    · rw [if_pos e]
      refine ⟨by rw [List.length_append, el]; show len + 1 ≤ 12; omega, fun L hL => ?_⟩
      rcases List.mem_append.mp hL with z | z
      · exact (b3 b (by omega)).2 L z
      · rw [List.mem_singleton.mp z]
        exact F.ln
    · rw [if_neg e]
      exact b3 k hk
  · show (if k = b then B.2 b ++ [(x, a, c)] else B.2 k) = []
    rw [if_neg (by omega)]
    exact b4 k hk
  · obtain ⟨u1, u2, u3⟩ := p3 k hk
    exact ⟨by rw [nP _ _ (by omega) (by omega) (by omega)]; exact u1, by rw [nK _ (by omega)]; exact u2, by rw [nN _ (by omega)]; exact u3⟩
  · show mI ν (h + 311) k = Int32.ofNat (if k = b then B.2 b ++ [(x, a, c)] else B.2 k).length
    by_cases e : k = b
    · subst e
      rw [if_pos rfl, nIb, g_suc, List.length_append, el]
      rfl
    · rw [if_neg e, nI _ _ (by omega) (by omega) (by omega)]
      exact q3 k hk
  · have hy : (if k = b then B.2 b ++ [(x, a, c)] else B.2 k)[i]? = some y := hy
    have old : ∀ (hh : (B.2 k)[i]? = some y), ¬ (k = b ∧ i = len) → (h + 313 ≤ mP ν (h + 303 + k) i ∧ mP ν (h + 303 + k) i < mX ν) ∧ mK ν (mP ν (h + 303 + k) i) = 20 ∧ mN ν (mP ν (h + 303 + k) i) = 3 ∧ mI ν (mP ν (h + 303 + k) i) 0 = y.1 ∧ mI ν (mP ν (h + 303 + k) i) 1 = y.2.1 := fun hh ne => by
      obtain ⟨⟨v1, v2⟩, v3, v4, v5, v6⟩ := r k hk i y hh
      rw [nP (h + 303 + k) i (by omega) (by omega) (by omega), f3, wX]
      exact ⟨⟨v1, by omega⟩, by rw [nK _ (by omega)]; exact v3, by rw [nN _ (by omega)]; exact v4, by rw [nI _ _ (by omega) (by omega) (by omega)]; exact v5, by rw [nI _ _ (by omega) (by omega) (by omega)]; exact v6⟩
    by_cases e : k = b
    · subst e
      rw [if_pos rfl] at hy
      by_cases hi : i < len
      · rw [List.getElem?_append_left (by omega)] at hy
        exact old hy (by omega)
      · have hi2 : i = len := by
          have := List.getElem?_eq_some_iff.mp hy
          obtain ⟨h1, -⟩ := this
          rw [List.length_append, el] at h1
          have : ([(x, a, c)] : List (Int32 × Int32 × Int32)).length = 1 := rfl
          omega
        rw [List.getElem?_append_right (by omega), el, hi2, Nat.sub_self] at hy
        have hy : (x, a, c) = y := Option.some.inj hy
        subst hy
        rw [hi2, nPq, f3, wX]
        exact ⟨⟨by omega, by omega⟩, by rw [f1]; exact wKq, by rw [f2]; exact wNq, by rw [f4 _ _ (by omega)]; exact wI0, by rw [f4 _ _ (by omega)]; exact wI1⟩
    · rw [if_neg e] at hy
      exact old hy (fun z => e z.1)
