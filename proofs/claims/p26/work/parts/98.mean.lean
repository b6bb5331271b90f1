/-! THE MEAN of the lines: the double's way back to the whole number is short of 1e-6 -/
theorem nn_guard {x : UInt64} (h : FP.Core.val64 x ≠ .nan) : x &&& 0x7fffffffffffffff ≤ 0x7ff0000000000000 := by
  have := (FP.Core.ne_nan x).mp h
  rw [UInt64.le_iff_toNat_le, FP.Core.mask_toNat]
  exact this
theorem dabs_lt {x : UInt64} (h : FP.Core.val64 x ≠ .nan) (h1 : FP.Core.zval FP.Core.b64 (FP.Core.val64 x) ≤ ((2 ^ 1054 : Nat) : Int)) (h2 : -((2 ^ 1054 : Nat) : Int) ≤ FP.Core.zval FP.Core.b64 (FP.Core.val64 x)) : ∃ y, dabs x = some y ∧ FP.dcmp y 4517329193108106637 = some .lt := by
  have hm := (FP.Core.ne_nan x).mp h
  have ey : (x &&& 0x7fffffffffffffff).toNat = x.toNat % 2 ^ 63 := FP.Core.mask_toNat x
  have ny : FP.Core.val64 (x &&& 0x7fffffffffffffff) ≠ .nan := by
    rw [FP.Core.ne_nan, ey, Nat.mod_mod]
    exact hm
  have zy : FP.Core.zmag FP.Core.b64 (FP.Core.val64 (x &&& 0x7fffffffffffffff)) = FP.Core.zmag FP.Core.b64 (FP.Core.val64 x) := by
    rw [FP.Core.zmag_bits ny, FP.Core.zmag_bits h, ey, Nat.mod_mod]
  have sy : FP.Core.sgn (FP.Core.val64 (x &&& 0x7fffffffffffffff)) = false := by
    rw [FP.Core.sgn_bits ny, ey, decide_eq_false_iff_not]
    have := Nat.mod_lt x.toNat (show 0 < 2 ^ 63 by decide)
    omega
  refine ⟨x &&& 0x7fffffffffffffff, by unfold dabs; rw [if_pos (nn_guard h)], ?_⟩
  refine FP.Core.dcmp_lt.mpr ⟨ny, by decide +kernel, ?_⟩
  have hk : ((2 ^ 1054 : Nat) : Int) < FP.Core.zval FP.Core.b64 (FP.Core.val64 4517329193108106637) := by decide +kernel
  refine Int.lt_of_le_of_lt ?_ hk
  unfold FP.Core.zval at h1 h2 ⊢
  rw [sy, zy]
  unfold FP.Core.signed at h1 h2 ⊢
  generalize ((2 ^ 1054 : Nat) : Int) = P at *
  cases FP.Core.sgn (FP.Core.val64 x) <;> simp only [if_true, Bool.false_eq_true, if_false] at h1 h2 ⊢ <;> omega
theorem quot_near {s t u : Bool} {cl d cq V : Nat} {ql r qq q' : Int} (hx : FP.Core.fits FP.Core.b64 (.fin s cl ql)) (hy : FP.Core.fits FP.Core.b64 (.fin t d r)) (hd : 0 < d) (hz : FP.Core.fits FP.Core.b64 (.fin u cq qq)) (h : FP.Core.roundRatio FP.Core.b64 (s != t) cl d (ql - r) = .fin u cq qq) (hV : V < 2 ^ 53) (hq : -1074 ≤ q') :
    ((FP.Core.zmag FP.Core.b64 (.fin s cl ql) * 2 ^ 1074 : Nat) - (FP.Core.zmag FP.Core.b64 (.fin u cq qq) * FP.Core.zmag FP.Core.b64 (.fin t d r) : Nat) : Int).natAbs ≤ ((FP.Core.zmag FP.Core.b64 (.fin s cl ql) * 2 ^ 1074 : Nat) - (V * 2 ^ (q' + 1074).toNat * FP.Core.zmag FP.Core.b64 (.fin t d r) : Nat) : Int).natAbs := by
  have m : FP.Core.b64.qmin = -1074 := FP.Core.qmin_b64
  have M : FP.Core.b64.qmax = 971 := by decide
  have x1 := hx.2.1
  have y1 := hy.2.1
  have y2 := hy.2.2.1
  have z1 := hz.2.1
  rw [m] at x1 y1 z1
  rw [M] at y2
  have n := FP.Core.roundRatio_nearest FP.Core.good_b64 (e0 := -2045) (q' := q') hd h hV (by rw [m]; exact hq) (by rw [m]; omega) (by omega)
  have key : ∀ (c : Nat) (q : Int), -1074 ≤ q → FP.Core.distance cl d (ql - r) c q (-2045) * 2 ^ (r + 1074).toNat = ((FP.Core.zmag FP.Core.b64 (.fin s cl ql) * 2 ^ 1074 : Nat) - (c * 2 ^ (q + 1074).toNat * FP.Core.zmag FP.Core.b64 (.fin t d r) : Nat) : Int).natAbs * 2 ^ 971 := fun c q hq => by
    have e1 : FP.Core.inUnits cl (ql - r) (-2045) * 2 ^ (r + 1074).toNat = FP.Core.zmag FP.Core.b64 (.fin s cl ql) * 2 ^ 1074 * 2 ^ 971 := by
      show cl * 2 ^ (ql - r - -2045).toNat * 2 ^ (r + 1074).toNat = cl * 2 ^ (ql - FP.Core.b64.qmin).toNat * 2 ^ 1074 * 2 ^ 971
      rw [m, Nat.mul_assoc, ← Nat.pow_add, Nat.mul_assoc, Nat.mul_assoc, ← Nat.pow_add, ← Nat.pow_add]
      congr 2
      omega
    have e2 : FP.Core.inUnits c q (-2045) * d * 2 ^ (r + 1074).toNat = c * 2 ^ (q + 1074).toNat * FP.Core.zmag FP.Core.b64 (.fin t d r) * 2 ^ 971 := by
      show c * 2 ^ (q - -2045).toNat * d * 2 ^ (r + 1074).toNat = c * 2 ^ (q + 1074).toNat * (d * 2 ^ (r - FP.Core.b64.qmin).toNat) * 2 ^ 971
      rw [m, show (q - -2045).toNat = (q + 1074).toNat + 971 by omega, Nat.pow_add, show (r - -1074).toNat = (r + 1074).toNat by omega]
      generalize 2 ^ 971 = K1
      generalize 2 ^ (q + 1074).toNat = K2
      generalize 2 ^ (r + 1074).toNat = K3
      ac_rfl
    have a1 : FP.Core.distance cl d (ql - r) c q (-2045) * 2 ^ (r + 1074).toNat = (((FP.Core.inUnits cl (ql - r) (-2045) : Nat) : Int) * ((2 ^ (r + 1074).toNat : Nat) : Int) - ((FP.Core.inUnits c q (-2045) * d : Nat) : Int) * ((2 ^ (r + 1074).toNat : Nat) : Int)).natAbs := by
      rw [← Int.sub_mul, Int.natAbs_mul, Int.natAbs_natCast]
      unfold FP.Core.distance
      rw [Int.natCast_mul]
    rw [a1, ← Int.natCast_mul, ← Int.natCast_mul, e1, e2]
    generalize FP.Core.zmag FP.Core.b64 (.fin s cl ql) * 2 ^ 1074 = X
    generalize c * 2 ^ (q + 1074).toNat * FP.Core.zmag FP.Core.b64 (.fin t d r) = Y
    rw [Int.natCast_mul, Int.natCast_mul, ← Int.sub_mul, Int.natAbs_mul, Int.natAbs_natCast]
  have n2 := Nat.mul_le_mul_right (2 ^ (r + 1074).toNat) n
  rw [key cq qq (by omega), key V q' hq] at n2
  have n3 := Nat.le_of_mul_le_mul_right n2 (Nat.two_pow_pos _)
  have : FP.Core.zmag FP.Core.b64 (.fin u cq qq) = cq * 2 ^ (qq + 1074).toNat := by
    show cq * 2 ^ (qq - FP.Core.b64.qmin).toNat = _
    rw [m, show (qq - -1074).toNat = (qq + 1074).toNat by omega]
  rw [this]
  exact n3
theorem mean_j {c : Nat} (h1 : 1 ≤ c) (h2 : c ≤ 24) : ∃ j, 21 ≤ j ∧ j ≤ 26 ∧ 2 ^ (31 + j) < c * 2 ^ 53 ∧ c ≤ 2 ^ (j - 21) := by
  by_cases a : c ≤ 1
  · exact ⟨21, by omega, by omega, by show 4503599627370496 < c * 9007199254740992; omega, by show c ≤ 1; omega⟩
  by_cases a : c ≤ 2
  · exact ⟨22, by omega, by omega, by show 9007199254740992 < c * 9007199254740992; omega, by show c ≤ 2; omega⟩
  by_cases a : c ≤ 4
  · exact ⟨23, by omega, by omega, by show 18014398509481984 < c * 9007199254740992; omega, by show c ≤ 4; omega⟩
  by_cases a : c ≤ 8
  · exact ⟨24, by omega, by omega, by show 36028797018963968 < c * 9007199254740992; omega, by show c ≤ 8; omega⟩
  by_cases a : c ≤ 16
  · exact ⟨25, by omega, by omega, by show 72057594037927936 < c * 9007199254740992; omega, by show c ≤ 16; omega⟩
  · exact ⟨26, by omega, by omega, by show 144115188075855872 < c * 9007199254740992; omega, by show c ≤ 32; omega⟩
/-- the quotient, times the divisor -/
theorem mean_q {a c Q V U : Nat} (hU : U = 2 ^ 1074) (ha : a ≤ 2 ^ 31) {j : Nat} (h1 : 21 ≤ j) (h2 : j ≤ 26) (h4 : c ≤ 2 ^ (j - 21)) (hV : V = a * 2 ^ j / c) (hc : 1 ≤ c) (h : ((a * U * U : Nat) - (Q * (c * U) : Nat) : Int).natAbs ≤ ((a * U * U : Nat) - (V * 2 ^ (1074 - j) * (c * U) : Nat) : Int).natAbs) : ((a * U : Nat) - (Q * c : Nat) : Int).natAbs ≤ 2 ^ 1053 := by
  have hp : 0 < U := by rw [hU]; exact Nat.two_pow_pos _
  have e1 : ∀ X Y : Nat, ((X * U : Nat) - (Y * U : Nat) : Int).natAbs = ((X : Int) - Y).natAbs * U := fun X Y => by
    rw [Int.natCast_mul, Int.natCast_mul, ← Int.sub_mul, Int.natAbs_mul, Int.natAbs_natCast]
  rw [← Nat.mul_assoc, ← Nat.mul_assoc, e1, e1] at h
  have h := Nat.le_of_mul_le_mul_right h hp
  refine Nat.le_trans h ?_
  have eU : U = 2 ^ j * 2 ^ (1074 - j) := by rw [hU, ← Nat.pow_add]; congr 1; omega
  have e2 : ((a * U : Nat) - (V * 2 ^ (1074 - j) * c : Nat) : Int).natAbs = ((a * 2 ^ j : Nat) - (V * c : Nat) : Int).natAbs * 2 ^ (1074 - j) := by
    rw [show V * 2 ^ (1074 - j) * c = V * c * 2 ^ (1074 - j) from Nat.mul_right_comm .., eU, ← Nat.mul_assoc]
    generalize 2 ^ (1074 - j) = K
    rw [Int.natCast_mul (a * 2 ^ j), Int.natCast_mul (V * c), ← Int.sub_mul, Int.natAbs_mul, Int.natAbs_natCast]
  rw [e2]
  have e3 : ((a * 2 ^ j : Nat) - (V * c : Nat) : Int).natAbs ≤ 2 ^ (j - 21) := by
    have d := Nat.div_add_mod (a * 2 ^ j) c
    have d2 := Nat.mod_lt (a * 2 ^ j) hc
    rw [← hV, Nat.mul_comm] at d
    omega
  have e4 : 2 ^ (j - 21) * 2 ^ (1074 - j) = 2 ^ 1053 := by rw [← Nat.pow_add]; congr 1; omega
  rw [← e4]
  exact Nat.mul_le_mul_right _ e3
theorem int_fin (a : Int32) : ∃ s c q, FP.Core.val64 (FP.i2d a) = .fin s c q ∧ FP.Core.fits FP.Core.b64 (.fin s c q) ∧ FP.Core.signed s (FP.Core.zmag FP.Core.b64 (.fin s c q)) = a.toInt * ((2 ^ 1074 : Nat) : Int) ∧ FP.Core.zmag FP.Core.b64 (.fin s c q) = a.toInt.natAbs * 2 ^ 1074 := by
  obtain ⟨s, c, q, h⟩ := FP.Core.i2d_fin a
  have f := FP.Core.val64_fits (FP.i2d a)
  have z := FP.Core.DInt_zval (FP.Core.i2d_int a)
  have h' : FP.Core.val64 (FP.i2d a) = .fin s c q := h
  rw [h'] at f
  rw [show FP.Core.val64 (FP.Core.i2d a) = .fin s c q from h] at z
  have z' : FP.Core.signed s (FP.Core.zmag FP.Core.b64 (.fin s c q)) = a.toInt * ((2 ^ 1074 : Nat) : Int) := z
  refine ⟨s, c, q, h', f, z', ?_⟩
  have := congrArg Int.natAbs z'
  rw [FP.Core.natAbs_signed, Int.natAbs_mul, Int.natAbs_natCast] at this
  exact this
theorem near_two {Q c P Z U E : Nat} (hU : 0 < U) (h1 : ((Z : Nat) - (Q * c : Nat) : Int).natAbs ≤ E) (h2 : ((Q * (c * U) : Nat) - (P * U : Nat) : Int).natAbs ≤ ((Q * (c * U) : Nat) - (Z * U : Nat) : Int).natAbs) : ((P : Int) - Z).natAbs ≤ 2 * E := by
  have e1 : ∀ X Y : Nat, ((X * U : Nat) - (Y * U : Nat) : Int).natAbs = ((X : Int) - Y).natAbs * U := fun X Y => by
    rw [Int.natCast_mul, Int.natCast_mul, ← Int.sub_mul, Int.natAbs_mul, Int.natAbs_natCast]
  rw [← Nat.mul_assoc, e1, e1] at h2
  have h2 := Nat.le_of_mul_le_mul_right h2 hU
  omega
theorem dbl_pow : 2 * 2 ^ 1053 = 2 ^ 1054 := by rw [Nat.pow_succ 2 1053, Nat.mul_comm]
theorem d_mean (a c : Int32) (h1 : 1 ≤ c.toInt) (h2 : c.toInt ≤ 24) : FP.Core.val64 (FP.ddiv (FP.i2d a) (FP.i2d c)) ≠ .nan ∧ FP.Core.val64 (FP.dmul (FP.ddiv (FP.i2d a) (FP.i2d c)) (FP.i2d c)) ≠ .nan ∧ FP.Core.val64 (FP.dsub (FP.dmul (FP.ddiv (FP.i2d a) (FP.i2d c)) (FP.i2d c)) (FP.i2d a)) ≠ .nan ∧ FP.Core.zval FP.Core.b64 (FP.Core.val64 (FP.dsub (FP.dmul (FP.ddiv (FP.i2d a) (FP.i2d c)) (FP.i2d c)) (FP.i2d a))) ≤ ((2 ^ 1054 : Nat) : Int) ∧ -((2 ^ 1054 : Nat) : Int) ≤ FP.Core.zval FP.Core.b64 (FP.Core.val64 (FP.dsub (FP.dmul (FP.ddiv (FP.i2d a) (FP.i2d c)) (FP.i2d c)) (FP.i2d a))) := by
  obtain ⟨s, cl, ql, ea, fa, -, za⟩ := int_fin a
  obtain ⟨t, d, r, ec, fc, -, zc⟩ := int_fin c
  have hd : 0 < d := Nat.pos_of_ne_zero fun e => by
    have : FP.Core.zmag FP.Core.b64 (.fin t d r) = 0 := by
      show d * _ = 0
      rw [e, Nat.zero_mul]
    rw [this] at zc
    have := Nat.mul_pos (show 0 < c.toInt.natAbs by omega) (Nat.two_pow_pos 1074)
    omega
  have mq : (FP.ddiv (FP.i2d a) (FP.i2d c)).toNat % 2 ^ 63 < 1057 * 2 ^ 52 := by
    have g := FP.Core.i2d_big (v := c) (by omega)
    exact FP.Core.ddiv_mag (K := 1056) (L := 1023) (FP.Core.i2d_mag a) g.1 g.2 (by decide) (by decide)
  have mp : (FP.dmul (FP.ddiv (FP.i2d a) (FP.i2d c)) (FP.i2d c)).toNat % 2 ^ 63 < 1091 * 2 ^ 52 := FP.Core.dmul_mag (Ka := 1057) (Kb := 1056) mq (FP.Core.i2d_mag c) (by decide) (by decide)
  obtain ⟨u, cq, qq, eq⟩ := FP.Core.fin_of_lt mq (by decide)
  obtain ⟨v, cp, qp, ep⟩ := FP.Core.fin_of_lt mp (by decide)
  have vq : FP.Core.val64 (FP.ddiv (FP.i2d a) (FP.i2d c)) = FP.Core.roundRatio FP.Core.b64 (s != t) cl d (ql - r) := by
    have := FP.Core.val64_ddiv (FP.i2d a) (FP.i2d c)
    rw [ea, ec] at this
    refine Eq.trans this ?_
    show (if d = 0 then _ else _) = _
    rw [if_neg (by omega)]
  have fq := FP.Core.val64_fits (FP.ddiv (FP.i2d a) (FP.i2d c))
  have fp := FP.Core.val64_fits (FP.dmul (FP.ddiv (FP.i2d a) (FP.i2d c)) (FP.i2d c))
  rw [eq] at fq vq
  rw [ep] at fp
  have su : u = (s != t) := by
    have := FP.Core.sgn_roundRatio FP.Core.b64 (s != t) cl d (ql - r)
    rw [← vq] at this
    exact this
  have vp : FP.Core.roundRatio FP.Core.b64 (u != t) (cq * d) 1 (qq + r) = .fin v cp qp := by
    have := FP.Core.val64_dmul (FP.ddiv (FP.i2d a) (FP.i2d c)) (FP.i2d c)
    rw [eq, ec] at this
    exact this.symm.trans ep
  have sv : v = s := by
    have := FP.Core.sgn_roundRatio FP.Core.b64 (u != t) (cq * d) 1 (qq + r)
    rw [vp] at this
    rw [show v = (u != t) from this, su]
    cases s <;> cases t <;> rfl
  have m : FP.Core.b64.qmin = -1074 := FP.Core.qmin_b64
  have ha31 := FP.Core.int32_abs a
  obtain ⟨j, j1, j2, j3, j4⟩ := mean_j (c := c.toInt.natAbs) (by omega) (by omega)
  have hV : a.toInt.natAbs * 2 ^ j / c.toInt.natAbs < 2 ^ 53 := by
    rw [Nat.div_lt_iff_lt_mul (by omega)]
    refine Nat.lt_of_le_of_lt (Nat.mul_le_mul_right _ ha31) ?_
    rw [← Nat.pow_add, Nat.mul_comm (2 ^ 53)]
    exact j3
  have n1 := quot_near fa fc hd fq vq.symm hV (q' := -(j : Int)) (by omega)
  rw [za, zc, show (-(j : Int) + 1074).toNat = 1074 - j by omega] at n1
  have n2 := mean_q rfl ha31 j1 j2 j4 rfl (by omega) n1
  have pu := FP.Core.product_units fq fc
  have n3 := FP.Core.roundRatio_nearest FP.Core.good_b64 (e0 := -2148) (q' := 0) (c' := a.toInt.natAbs) (by decide) vp (Nat.lt_of_le_of_lt ha31 (by decide)) (by rw [m]; decide) (by rw [m]; decide) (by have := fq.2.1; have := fc.2.1; omega)
  have i1 : FP.Core.inUnits (cq * d) (qq + r) (-2148) = FP.Core.zmag FP.Core.b64 (.fin u cq qq) * (c.toInt.natAbs * 2 ^ 1074) := by
    rw [← zc, ← pu.2.2, m]
    rfl
  have i2 : FP.Core.inUnits cp qp (-2148) = FP.Core.zmag FP.Core.b64 (.fin v cp qp) * 2 ^ 1074 := by
    have := FP.Core.inUnits_move cp (q := qp) (e := -2148) (r := -1074) (by omega) (by have := fp.2.1; omega)
    rw [this]
    show _ = FP.Core.inUnits cp qp FP.Core.b64.qmin * _
    rw [m]
    rfl
  have i3 : FP.Core.inUnits a.toInt.natAbs 0 (-2148) = a.toInt.natAbs * 2 ^ 1074 * 2 ^ 1074 := by
    show a.toInt.natAbs * 2 ^ (0 - -2148 : Int).toNat = _
    rw [Nat.mul_assoc, ← Nat.pow_add]
    congr 1
  unfold FP.Core.distance at n3
  rw [i1, i2, i3] at n3
  have n4 : ((FP.Core.zmag FP.Core.b64 (.fin v cp qp) : Int) - (a.toInt.natAbs * 2 ^ 1074 : Nat)).natAbs ≤ 2 * 2 ^ 1053 := near_two (Nat.two_pow_pos 1074) n2 (by simpa only [Int.natCast_one, Int.mul_one] using n3)
  rw [dbl_pow, ← za] at n4
  obtain ⟨sg, n, e, x1, x2, x3⟩ := FP.Core.sum_units fp (FP.Core.negate_fits fa)
  have vd : FP.Core.val64 (FP.dsub (FP.dmul (FP.ddiv (FP.i2d a) (FP.i2d c)) (FP.i2d c)) (FP.i2d a)) = FP.Core.round FP.Core.b64 (.fin sg n e) := by
    have := FP.Core.val64_dsub (FP.dmul (FP.ddiv (FP.i2d a) (FP.i2d c)) (FP.i2d c)) (FP.i2d a)
    rw [ep, ea] at this
    exact this.trans (by rw [← x1]; rfl)
  have x4 : FP.Core.signed sg (FP.Core.inUnits n e FP.Core.b64.qmin) = FP.Core.zval FP.Core.b64 (.fin v cp qp) - FP.Core.zval FP.Core.b64 (.fin s cl ql) := by
    rw [x3]
    have := FP.Core.zval_negate FP.Core.b64 (.fin s cl ql)
    rw [show FP.Core.zval FP.Core.b64 (.fin (!s) cl ql) = -FP.Core.zval FP.Core.b64 (.fin s cl ql) from this]
    omega
  have x5 : FP.Core.zval FP.Core.b64 (.fin v cp qp) - FP.Core.zval FP.Core.b64 (.fin s cl ql) ≤ ((2 ^ 1054 : Nat) : Int) ∧ -((2 ^ 1054 : Nat) : Int) ≤ FP.Core.zval FP.Core.b64 (.fin v cp qp) - FP.Core.zval FP.Core.b64 (.fin s cl ql) := by
    rw [sv] at n4 ⊢
    show FP.Core.signed s _ - FP.Core.signed s _ ≤ _ ∧ _ ≤ FP.Core.signed s _ - FP.Core.signed s _
    generalize FP.Core.zmag FP.Core.b64 (.fin s cp qp) = X at *
    generalize FP.Core.zmag FP.Core.b64 (.fin s cl ql) = Y at *
    generalize 2 ^ 1054 = E at *
    unfold FP.Core.signed
    cases s <;> simp only [if_true, Bool.false_eq_true, if_false] <;> omega
  have zV : FP.Core.zval FP.Core.b64 (FP.Core.val64 4517110426252607488) = ((2 ^ 1054 : Nat) : Int) := by decide +kernel
  have zW : FP.Core.zval FP.Core.b64 (FP.Core.val64 13740482463107383296) = -((2 ^ 1054 : Nat) : Int) := by decide +kernel
  refine ⟨by rw [eq]; exact FP.Core.Datum.noConfusion, by rw [ep]; exact FP.Core.Datum.noConfusion, by rw [vd, Ne, FP.Core.round_nan]; exact FP.Core.Datum.noConfusion, ?_, ?_⟩
  · rw [vd, ← zV]
    refine FP.Core.zval_round_le FP.Core.good_b64 (e0 := FP.Core.b64.qmin) (FP.Core.val64_fits _) (by decide +kernel) (Int.le_refl _) x2 ?_
    rw [x4, zV, Int.sub_self, Int.toNat_zero, Nat.pow_zero, Int.natCast_one, Int.mul_one]
    exact x5.1
  · rw [vd, ← zW]
    refine FP.Core.zval_round_ge FP.Core.good_b64 (e0 := FP.Core.b64.qmin) (FP.Core.val64_fits _) (by decide +kernel) (Int.le_refl _) x2 ?_
    rw [x4, zW, Int.sub_self, Int.toNat_zero, Nat.pow_zero, Int.natCast_one, Int.mul_one]
    exact x5.2
