/-! THE MEAN of the lines: the double's way back to the whole number is short of 1e-6 -/
theorem nn_guard {x : UInt64} (h : FP.Core.val64 x ≠ .nan) : x &&& 0x7fffffffffffffff ≤ 0x7ff0000000000000 := by
  have := (FP.Core.ne_nan x).mp h
  rw [UInt64.le_iff_toNat_le, FP.Core.mask_toNat]
  exact this
theorem dabs_lt {x : UInt64} (h : FP.Core.val64 x ≠ .nan) (h1 : FP.Core.zval FP.Core.b64 (FP.Core.val64 x) ≤ ((2 ^ 1054 : Nat) : Int)) (h2 : -((2 ^ 1054 : Nat) : Int) ≤ FP.Core.zval FP.Core.b64 (FP.Core.val64 x)) : ∃ y, dabs x = some y ∧ FP.dcmp y 4517329193108106637 = some .lt := by
  have hm := (FP.Core.ne_nan x).mp h
  have ey : (x &&& 0x7fffffffffffffff).toNat = x.toNat % 2 ^ 63 := FP.Core.mask_toNat x
  have ny : FP.Core.val64 (x &&& 0x7fffffffffffffff) ≠ .nan := by
    rw [FP.Core.ne_nan, ey, Nat.mod_mod]
    exact hm
  have zy : FP.Core.zmag FP.Core.b64 (FP.Core.val64 (x &&& 0x7fffffffffffffff)) = FP.Core.zmag FP.Core.b64 (FP.Core.val64 x) := by
    rw [FP.Core.zmag_bits ny, FP.Core.zmag_bits h, ey, Nat.mod_mod]
  have sy : FP.Core.sgn (FP.Core.val64 (x &&& 0x7fffffffffffffff)) = false := by
    rw [FP.Core.sgn_bits ny, ey, decide_eq_false_iff_not]
    have := Nat.mod_lt x.toNat (show 0 < 2 ^ 63 by decide)
    omega
  refine ⟨x &&& 0x7fffffffffffffff, by unfold dabs; rw [if_pos (nn_guard h)], ?_⟩
  refine FP.Core.dcmp_lt.mpr ⟨ny, by decide +kernel, ?_⟩
  have hk : ((2 ^ 1054 : Nat) : Int) < FP.Core.zval FP.Core.b64 (FP.Core.val64 4517329193108106637) := by decide +kernel
  refine Int.lt_of_le_of_lt ?_ hk
  unfold FP.Core.zval at h1 h2 ⊢
  rw [sy, zy]
  unfold FP.Core.signed at h1 h2 ⊢
  generalize ((2 ^ 1054 : Nat) : Int) = P at *
  cases FP.Core.sgn (FP.Core.val64 x) <;> simp only [if_true, Bool.false_eq_true, if_false] at h1 h2 ⊢ <;> omega
theorem quot_near {s t u : Bool} {cl d cq V : Nat} {ql r qq q' : Int} (hx : FP.Core.fits FP.Core.b64 (.fin s cl ql)) (hy : FP.Core.fits FP.Core.b64 (.fin t d r)) (hd : 0 < d) (hz : FP.Core.fits FP.Core.b64 (.fin u cq qq)) (h : FP.Core.roundRatio FP.Core.b64 (s != t) cl d (ql - r) = .fin u cq qq) (hV : V < 2 ^ 53) (hq : -1074 ≤ q') :
    ((FP.Core.zmag FP.Core.b64 (.fin s cl ql) * 2 ^ 1074 : Nat) - (FP.Core.zmag FP.Core.b64 (.fin u cq qq) * FP.Core.zmag FP.Core.b64 (.fin t d r) : Nat) : Int).natAbs ≤ ((FP.Core.zmag FP.Core.b64 (.fin s cl ql) * 2 ^ 1074 : Nat) - (V * 2 ^ (q' + 1074).toNat * FP.Core.zmag FP.Core.b64 (.fin t d r) : Nat) : Int).natAbs := by
  have m : FP.Core.b64.qmin = -1074 := FP.Core.qmin_b64
  have M : FP.Core.b64.qmax = 971 := by decide
  have x1 := hx.2.1
  have y1 := hy.2.1
  have y2 := hy.2.2.1
  have z1 := hz.2.1
  rw [m] at x1 y1 z1
  rw [M] at y2
  have n := FP.Core.roundRatio_nearest FP.Core.good_b64 (e0 := -2045) (q' := q') hd h hV (by rw [m]; exact hq) (by rw [m]; omega) (by omega)
  have key : ∀ (c : Nat) (q : Int), -1074 ≤ q → FP.Core.distance cl d (ql - r) c q (-2045) * 2 ^ (r + 1074).toNat = ((FP.Core.zmag FP.Core.b64 (.fin s cl ql) * 2 ^ 1074 : Nat) - (c * 2 ^ (q + 1074).toNat * FP.Core.zmag FP.Core.b64 (.fin t d r) : Nat) : Int).natAbs * 2 ^ 971 := fun c q hq => by
    have e1 : FP.Core.inUnits cl (ql - r) (-2045) * 2 ^ (r + 1074).toNat = FP.Core.zmag FP.Core.b64 (.fin s cl ql) * 2 ^ 1074 * 2 ^ 971 := by
      show cl * 2 ^ (ql - r - -2045).toNat * 2 ^ (r + 1074).toNat = cl * 2 ^ (ql - FP.Core.b64.qmin).toNat * 2 ^ 1074 * 2 ^ 971
      rw [m, Nat.mul_assoc, ← Nat.pow_add, Nat.mul_assoc, Nat.mul_assoc, ← Nat.pow_add, ← Nat.pow_add]
      congr 2
      omega
    have e2 : FP.Core.inUnits c q (-2045) * d * 2 ^ (r + 1074).toNat = c * 2 ^ (q + 1074).toNat * FP.Core.zmag FP.Core.b64 (.fin t d r) * 2 ^ 971 := by
      show c * 2 ^ (q - -2045).toNat * d * 2 ^ (r + 1074).toNat = c * 2 ^ (q + 1074).toNat * (d * 2 ^ (r - FP.Core.b64.qmin).toNat) * 2 ^ 971
      rw [m, show (q - -2045).toNat = (q + 1074).toNat + 971 by omega, Nat.pow_add, show (r - -1074).toNat = (r + 1074).toNat by omega]
      generalize 2 ^ 971 = K1
      generalize 2 ^ (q + 1074).toNat = K2
      generalize 2 ^ (r + 1074).toNat = K3
      ac_rfl
    have a1 : FP.Core.distance cl d (ql - r) c q (-2045) * 2 ^ (r + 1074).toNat = (((FP.Core.inUnits cl (ql - r) (-2045) : Nat) : Int) * ((2 ^ (r + 1074).toNat : Nat) : Int) - ((FP.Core.inUnits c q (-2045) * d : Nat) : Int) * ((2 ^ (r + 1074).toNat : Nat) : Int)).natAbs := by
      rw [← Int.sub_mul, Int.natAbs_mul, Int.natAbs_natCast]
      unfold FP.Core.distance
      rw [Int.natCast_mul]
    rw [a1, ← Int.natCast_mul, ← Int.natCast_mul, e1, e2]
    generalize FP.Core.zmag FP.Core.b64 (.fin s cl ql) * 2 ^ 1074 = X
    generalize c * 2 ^ (q + 1074).toNat * FP.Core.zmag FP.Core.b64 (.fin t d r) = Y
    rw [Int.natCast_mul, Int.natCast_mul, ← Int.sub_mul, Int.natAbs_mul, Int.natAbs_natCast]
  have n2 := Nat.mul_le_mul_right (2 ^ (r + 1074).toNat) n
  rw [key cq qq (by omega), key V q' hq] at n2
  have n3 := Nat.le_of_mul_le_mul_right n2 (Nat.two_pow_pos _)
  have : FP.Core.zmag FP.Core.b64 (.fin u cq qq) = cq * 2 ^ (qq + 1074).toNat := by
    show cq * 2 ^ (qq - FP.Core.b64.qmin).toNat = _
    rw [m, show (qq - -1074).toNat = (qq + 1074).toNat by omega]
  rw [this]
  exact n3
theorem mean_j {c : Nat} (h1 : 1 ≤ c) (h2 : c ≤ 24) : ∃ j, 21 ≤ j ∧ j ≤ 26 ∧ 2 ^ (31 + j) < c * 2 ^ 53 ∧ c ≤ 2 ^ (j - 21) := by
  by_cases a : c ≤ 1
  · exact ⟨21, by omega, by omega, by show 4503599627370496 < c * 9007199254740992; omega, by show c ≤ 1; omega⟩
  by_cases a : c ≤ 2
  · exact ⟨22, by omega, by omega, by show 9007199254740992 < c * 9007199254740992; omega, by show c ≤ 2; omega⟩
  by_cases a : c ≤ 4
  · exact ⟨23, by omega, by omega, by show 18014398509481984 < c * 9007199254740992; omega, by show c ≤ 4; omega⟩
  by_cases a : c ≤ 8
  · exact ⟨24, by omega, by omega, by show 36028797018963968 < c * 9007199254740992; omega, by show c ≤ 8; omega⟩
  by_cases a : c ≤ 16
  · exact ⟨25, by omega, by omega, by show 72057594037927936 < c * 9007199254740992; omega, by show c ≤ 16; omega⟩
  · exact ⟨26, by omega, by omega, by show 144115188075855872 < c * 9007199254740992; omega, by show c ≤ 32; omega⟩
/-- the quotient, times the divisor -/
theorem mean_q {a c Q V U : Nat} (hU : U = 2 ^ 1074) (ha : a ≤ 2 ^ 31) {j : Nat} (h1 : 21 ≤ j) (h2 : j ≤ 26) (h4 : c ≤ 2 ^ (j - 21)) (hV : V = a * 2 ^ j / c) (hc : 1 ≤ c) (h : ((a * U * U : Nat) - (Q * (c * U) : Nat) : Int).natAbs ≤ ((a * U * U : Nat) - (V * 2 ^ (1074 - j) * (c * U) : Nat) : Int).natAbs) : ((a * U : Nat) - (Q * c : Nat) : Int).natAbs ≤ 2 ^ 1053 := by
  have hp : 0 < U := by rw [hU]; exact Nat.two_pow_pos _
  have e1 : ∀ X Y : Nat, ((X * U : Nat) - (Y * U : Nat) : Int).natAbs = ((X : Int) - Y).natAbs * U := fun X Y => by
    rw [Int.natCast_mul, Int.natCast_mul, ← Int.sub_mul, Int.natAbs_mul, Int.natAbs_natCast]
  rw [← Nat.mul_assoc, ← Nat.mul_assoc, e1, e1] at h
  have h := Nat.le_of_mul_le_mul_right h hp
  refine Nat.le_trans h ?_
  have eU : U = 2 ^ j * 2 ^ (1074 - j) := by rw [hU, ← Nat.pow_add]; congr 1; omega
  have e2 : ((a * U : Nat) - (V * 2 ^ (1074 - j) * c : Nat) : Int).natAbs = ((a * 2 ^ j : Nat) - (V * c : Nat) : Int).natAbs * 2 ^ (1074 - j) := by
    rw [show V * 2 ^ (1074 - j) * c = V * c * 2 ^ (1074 - j) from Nat.mul_right_comm .., eU, ← Nat.mul_assoc]
    generalize 2 ^ (1074 - j) = K
    rw [Int.natCast_mul (a * 2 ^ j), Int.natCast_mul (V * c), ← Int.sub_mul, Int.natAbs_mul, Int.natAbs_natCast]
  rw [e2]
  have e3 : ((a * 2 ^ j : Nat) - (V * c : Nat) : Int).natAbs ≤ 2 ^ (j - 21) := by
    have d := Nat.div_add_mod (a * 2 ^ j) c
    have d2 := Nat.mod_lt (a * 2 ^ j) hc
    rw [← hV, Nat.mul_comm] at d
    omega
  have e4 : 2 ^ (j - 21) * 2 ^ (1074 - j) = 2 ^ 1053 := by rw [← Nat.pow_add]; congr 1; omega
  rw [← e4]
  exact Nat.mul_le_mul_right _ e3
