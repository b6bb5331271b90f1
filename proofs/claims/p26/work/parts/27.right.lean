theorem fdL_104 : mmFd RL 104 7 0 := ⟨RX7, TX7, 3, rfl, by decide, by decide, rfl, wsX7_in, (Or.inr ⟨"YieldMoorLaw", (wl_t 720 (by decide +kernel) (by decide +kernel))⟩)⟩
theorem cvL_108 : mmCV RL 108 6 yX6_stack cX6_stack 3 (some (.int)) 2 := ⟨TX6, 3, rfl, by decide, (wl_t 859 (by decide +kernel) (by decide +kernel)), (wl_t 424 (by decide +kernel) (by decide +kernel)), (wl_t 425 (by decide +kernel) (by decide +kernel)), (wl_t 1 (by decide +kernel) (by decide +kernel)), (wl_t 426 (by decide +kernel) (by decide +kernel)), rfl, rfl, ⟨by decide +kernel, by decide +kernel⟩, by decide +kernel⟩
theorem cvL_117 : mmCV RL 117 6 yX6_left cX6_left 3 (some (.int)) 1 := ⟨TX6, 3, rfl, by decide, (wl_t 864 (by decide +kernel) (by decide +kernel)), (wl_t 442 (by decide +kernel) (by decide +kernel)), (wl_t 443 (by decide +kernel) (by decide +kernel)), (wl_t 1 (by decide +kernel) (by decide +kernel)), (wl_t 444 (by decide +kernel) (by decide +kernel)), rfl, rfl, ⟨by decide +kernel, by decide +kernel⟩, by decide +kernel⟩
theorem cvL_111 : mmCV RL 111 6 yX6_local cX6_local 3 (some (.int)) 2 := ⟨TX6, 3, rfl, by decide, (wl_t 860 (by decide +kernel) (by decide +kernel)), (wl_t 412 (by decide +kernel) (by decide +kernel)), (wl_t 413 (by decide +kernel) (by decide +kernel)), (wl_t 1 (by decide +kernel) (by decide +kernel)), (wl_t 414 (by decide +kernel) (by decide +kernel)), rfl, rfl, ⟨by decide +kernel, by decide +kernel⟩, by decide +kernel⟩
theorem maL_114 : mmMa RL 114 := ⟨(wl_t 861 (by decide +kernel) (by decide +kernel)), (wl_t 862 (by decide +kernel) (by decide +kernel)), (wl_t 13 (by decide +kernel) (by decide +kernel)), (wl_t 863 (by decide +kernel) (by decide +kernel))⟩
theorem cvL_123 : mmCV RL 123 6 yX6_meanLines cX6_meanLines 1 (some (.double)) 0 := ⟨TX6, 3, rfl, by decide, (wl_t 866 (by decide +kernel) (by decide +kernel)), (wl_t 867 (by decide +kernel) (by decide +kernel)), (wl_t 868 (by decide +kernel) (by decide +kernel)), (wl_t 1 (by decide +kernel) (by decide +kernel)), (wl_t 869 (by decide +kernel) (by decide +kernel)), rfl, rfl, ⟨by decide +kernel, by decide +kernel⟩, by decide +kernel⟩
theorem kdL_130 : Cond.constantDouble RL 130 4517329193108106637 ∈ WL := (wl_t 880 (by decide +kernel) (by decide +kernel))
theorem cvL_120 : mmCV RL 120 6 yX6_ofBody cX6_ofBody 3 (some (.int)) 2 := ⟨TX6, 3, rfl, by decide, (wl_t 865 (by decide +kernel) (by decide +kernel)), (wl_t 370 (by decide +kernel) (by decide +kernel)), (wl_t 371 (by decide +kernel) (by decide +kernel)), (wl_t 1 (by decide +kernel) (by decide +kernel)), (wl_t 372 (by decide +kernel) (by decide +kernel)), rfl, rfl, ⟨by decide +kernel, by decide +kernel⟩, by decide +kernel⟩
-- X6_meanLines
def fX6_meanLines (h0 : Nat) (μ : MM) : Option (UInt64 × MM) :=
  if mK μ (mP μ h0 1) = 4 then if 0 < (mI μ (mP μ h0 1) 5) then ((fX3_linesDoneInAll (mP μ h0 1) μ).bind fun y3 => if mK μ (mP y3.2 h0 1) = 4 then if (FP.ddiv (FP.i2d y3.1) (FP.i2d (mI y3.2 (mP y3.2 h0 1) 5))) &&& 0x7fffffffffffffff ≤ 0x7ff0000000000000 then some ((FP.ddiv (FP.i2d y3.1) (FP.i2d (mI y3.2 (mP y3.2 h0 1) 5))), y3.2) else none else none) else (some (FP.dconst0, μ)) else none
set_option maxRecDepth 100000 in
set_option maxHeartbeats 4000000 in
theorem kX6_meanLines_kn {μ : MM} {res : UInt64 × MM} {h0 : Nat} (hf : fX6_meanLines h0 μ = some res) : mmKN μ res.2 := by
  have hK : mmKN μ μ := mmKN.rf
  unfold fX6_meanLines at hf
  obtain ⟨g1, hf⟩ := gd hf
  rcases it_or hf with ⟨c2, hf⟩ | ⟨c2, hf⟩
  · skip
    obtain ⟨y3, hy3, hf⟩ := bd hf
    have hK : mmKN μ y3.2 := hK.tr (kX3_linesDoneInAll_kn hy3)
    obtain ⟨g4, hf⟩ := gd hf
    obtain ⟨g5, hf⟩ := gd hf
    obtain rfl := Option.some.inj hf
    exact hK
  · skip
    obtain rfl := Option.some.inj hf
    exact hK
abbrev rmX6_meanLines : Room := { frames := 2, cells := 0, slots := 0, locals := 43 }
set_option maxRecDepth 100000 in
set_option maxHeartbeats 4000000 in
theorem kX6_meanLines_c (l : Launch) (G : mmG) (A : Nat → Prop) {μ : MM} {res : UInt64 × MM} {h0 : Nat} (hk0 : mK μ h0 = 7) (hf : fX6_meanLines h0 μ = some res) : Met l yX6_meanLines [.code yX6_meanLines cX6_meanLines 1 (some (.double))] rmX6_meanLines (mmPc G A μ [rf h0]) (mmQ G A res.2 (some (.double res.1))) 0 0 A := by
  refine mm_ofW (by decide +kernel) (by simp [lg_sl, rf_cat, int_cat]) ?_
  intro p e s m below meth c ls S hR hA hS hr hlocks hl hnm
  have hl : lv_has ls 1 [(0, rf h0)] := by simpa [lv_args, rf_cat, int_cat] using hl
  have E0 : mmEnv p m c cX6_meanLines 1 s _ RX6 G A meth (some (.double)) := ⟨S, hA, hr, hlocks⟩
  have hK : mmKN μ μ := mmKN.rf
  unfold fX6_meanLines at hf
  refine mm_aload_n S dX6_meanLines_0 rfl (lv_at hl 0 rfl) ?_
  refine mm_getp S hR fdX6_21 (hK.k hk0) rfl dX6_meanLines_1 ?_
  obtain ⟨g1, hf⟩ := gd hf
  refine mm_geti S hR fdX6_221 (hK.k g1) rfl dX6_meanLines_4 ?_
  refine lv_if_gt (tgt := 12) S.1 S.2.1 dX6_meanLines_7 (by decide) (fun c2 => ?_) (fun c2 => ?_)
  · have hf := it_t hf c2
    refine mm_aload_n S dX6_meanLines_12 rfl (lv_at hl 0 rfl) ?_
    refine mm_getp S hR fdX6_21 (hK.k hk0) rfl dX6_meanLines_13 ?_
    obtain ⟨y3, hy3, hf⟩ := bd hf
    refine mm_callVi S hR hS hA (As := []) (rest := []) cvX6_232 (hK.k g1) (kX3_linesDoneInAll_c l G A (hK.k g1) hy3) rfl rfl ⟨Nat.le_of_ble_eq_true rfl, Nat.le_of_ble_eq_true rfl⟩ rfl hl.1 rfl (lv_room (by simp [rf_cat, int_cat, long_cat, dbl_cat])) dX6_meanLines_16 ⟨Nat.zero_le _, Nat.zero_le _⟩ (fun H locs hR hS => ?_)
    have hK : mmKN μ y3.2 := hK.tr (kX3_linesDoneInAll_kn hy3)
    refine lv_i2d S.1 S.2.1 dX6_meanLines_19 ?_
    refine mm_aload_n S dX6_meanLines_20 rfl (lv_at hl 0 rfl) ?_
    refine mm_getp S hR fdX6_21 (hK.k hk0) rfl dX6_meanLines_21 ?_
    obtain ⟨g4, hf⟩ := gd hf
    refine mm_geti S hR fdX6_221 (hK.k g4) rfl dX6_meanLines_24 ?_
    refine lv_i2d S.1 S.2.1 dX6_meanLines_27 ?_
    obtain ⟨g5, hf⟩ := gd hf
    refine lv_ddiv S.1 S.2.1 dX6_meanLines_28 g5 ?_
    obtain rfl := Option.some.inj hf
    exact mm_dret S hR hS hr hlocks dX6_meanLines_29
  · have hf := it_f hf c2
    refine lv_dconst0 S.1 S.2.1 dX6_meanLines_10 ?_
    obtain rfl := Option.some.inj hf
    exact mm_dret S hR hS hr hlocks dX6_meanLines_11
-- L_areCoroutinesRight
def bL_areCoroutinesRight_485 (kk485 : Nat → Nat → Nat → Int32 → Int32 → Int32 → MM → Option (Int32 × MM)) (h0 : Nat) (h2 : Nat) (h3 : Nat) (x4 : Int32) (x5 : Int32) (x6 : Int32) (μ : MM) : Option (Int32 × MM) :=
  if (5 : Int32) ≤ x6 then (if mK μ h0 = 7 then (fX6_many h0 1 μ).bind fun y2 => if y2.1 = 0 then if x5 = y2.2.1 then ((fX6_many h0 2 y2.2.2).bind fun y6 => if y6.1 = 0 then if mK μ h3 = 20 then if ¬ ((0 : Int32) < 0 ∨ mN y6.2.2 h3 ≤ (0 : Int32).toNatClampNeg) then if y6.2.1 = (mI y6.2.2 h3 (0 : Int32).toNatClampNeg) then ((fX6_many h0 3 y6.2.2).bind fun y11 => if y11.1 = 0 then if ¬ ((1 : Int32) < 0 ∨ mN y11.2.2 h3 ≤ (1 : Int32).toNatClampNeg) then if y11.2.1 = (mI y11.2.2 h3 (1 : Int32).toNatClampNeg) then ((fX6_many h0 4 y11.2.2).bind fun y15 => if y15.1 = 0 then if mK μ h2 = 20 then if ¬ ((0 : Int32) < 0 ∨ mN y15.2.2 h2 ≤ (0 : Int32).toNatClampNeg) then if y15.2.1 = (mI y15.2.2 h2 (0 : Int32).toNatClampNeg) then ((fX6_many h0 5 y15.2.2).bind fun y20 => if y20.1 = 0 then if ¬ ((1 : Int32) < 0 ∨ mN y20.2.2 h2 ≤ (1 : Int32).toNatClampNeg) then if y20.2.1 = (mI y20.2.2 h2 (1 : Int32).toNatClampNeg) then ((fX6_many h0 6 y20.2.2).bind fun y24 => if y24.1 = 0 then if ¬ ((3 : Int32) < 0 ∨ mN y24.2.2 h2 ≤ (3 : Int32).toNatClampNeg) then if y24.2.1 = (mI y24.2.2 h2 (3 : Int32).toNatClampNeg) then ((fX6_many h0 7 y24.2.2).bind fun y28 => if y28.1 = 0 then if ¬ ((4 : Int32) < 0 ∨ mN y28.2.2 h2 ≤ (4 : Int32).toNatClampNeg) then if y28.2.1 = (mI y28.2.2 h2 (4 : Int32).toNatClampNeg) then ((fX6_many h0 10 y28.2.2).bind fun y32 => if y32.1 = 0 then if y32.2.1 = x4 then ((fX6_meanLines h0 y32.2.2).bind fun y35 => (fX6_many h0 1 y35.2).bind fun y36 => if y36.1 = 0 then if (FP.dmul y35.1 (FP.i2d (jmax 1 y36.2.1))) &&& 0x7fffffffffffffff ≤ 0x7ff0000000000000 then if (FP.dsub (FP.dmul y35.1 (FP.i2d (jmax 1 y36.2.1))) (FP.i2d x4)) &&& 0x7fffffffffffffff ≤ 0x7ff0000000000000 then (dabs (FP.dsub (FP.dmul y35.1 (FP.i2d (jmax 1 y36.2.1))) (FP.i2d x4))).bind fun y40 => if 0 ≤ (Op.cmpValue (FP.dcmp y40 (4517329193108106637 : UInt64)) .g) then (some (0, y36.2.2)) else (some (1, y36.2.2)) else none else none else none) else (some (0, y32.2.2)) else none) else (some (0, y28.2.2)) else none else none) else (some (0, y24.2.2)) else none else none) else (some (0, y20.2.2)) else none else none) else (some (0, y15.2.2)) else none else none else none) else (some (0, y11.2.2)) else none else none) else (some (0, y6.2.2)) else none else none else none) else (some (0, y2.2.2)) else none else none) else (if mK μ h0 = 7 then (fX6_ofBody h0 x6 1 μ).bind fun y42 => if y42.1 = 0 then kk485 h0 h2 h3 x4 (x5 + y42.2.1) (x6 + 1) y42.2.2 else none else none)
def lL_areCoroutinesRight_485  : Nat → Nat → Nat → Nat → Int32 → Int32 → Int32 → MM → Option (Int32 × MM)
  | 0, _, _, _, _, _, _, _ => none
  | n + 1, h0, h2, h3, x4, x5, x6, μ => bL_areCoroutinesRight_485  (fun h0 h2 h3 x4 x5 x6 μ => lL_areCoroutinesRight_485  n h0 h2 h3 x4 x5 x6 μ) h0 h2 h3 x4 x5 x6 μ
def bL_areCoroutinesRight_388 (kk14 : Nat → Nat → Nat → Nat → Int32 → Int32 → MM → Option (Int32 × MM)) (kk388 : Nat → Nat → Nat → Nat → Int32 → Int32 → Int32 → Int32 → MM → Option (Int32 × MM)) (h0 : Nat) (h1 : Nat) (h2 : Nat) (h3 : Nat) (x4 : Int32) (x5 : Int32) (x6 : Int32) (x9 : Int32) (μ : MM) : Option (Int32 × MM) :=
  if (4 : Int32) ≤ x9 then (if mK μ h0 = 7 then (fX6_of h0 x5 2 μ).bind fun y2 => if y2.1 = 0 then if y2.2.1 = 0 then ((fX6_left h0 x5 y2.2.2).bind fun y6 => if y6.1 = 0 then if y6.2.1 < 0 then (some (0, y6.2.2)) else ((fX6_left h0 x5 y6.2.2).bind fun y9 => if y9.1 = 0 then if (20 : Int32) < y9.2.1 then (some (0, y9.2.2)) else (if x6 ≤ (2 : Int32) then (kk14 h0 h1 h2 h3 x4 (x5 + 1) y9.2.2) else ((fX6_left h0 x5 y9.2.2).bind fun y13 => if y13.1 = 0 then (fX6_wouldClose h0 x5 y13.2.2).bind fun y15 => if y15.1 = 0 then if (y13.2.1 + y15.2.1) = 0 then (kk14 h0 h1 h2 h3 x4 (x5 + 1) y15.2.2) else (some (0, y15.2.2)) else none else none)) else none) else none) else (kk14 h0 h1 h2 h3 x4 (x5 + 1) y2.2.2) else none else none) else (if mK μ h0 = 7 then (fX6_local h0 x5 x9 μ).bind fun y18 => if y18.1 = 0 then if (jabs y18.2.1) ≤ (9999 : Int32) then (kk388 h0 h1 h2 h3 x4 x5 x6 (x9 + 1) y18.2.2) else (some (0, y18.2.2)) else none else none)
def lL_areCoroutinesRight_388 (kk14 : Nat → Nat → Nat → Nat → Int32 → Int32 → MM → Option (Int32 × MM)) : Nat → Nat → Nat → Nat → Nat → Int32 → Int32 → Int32 → Int32 → MM → Option (Int32 × MM)
  | 0, _, _, _, _, _, _, _, _, _ => none
  | n + 1, h0, h1, h2, h3, x4, x5, x6, x9, μ => bL_areCoroutinesRight_388 kk14 (fun h0 h1 h2 h3 x4 x5 x6 x9 μ => lL_areCoroutinesRight_388 kk14 n h0 h1 h2 h3 x4 x5 x6 x9 μ) h0 h1 h2 h3 x4 x5 x6 x9 μ
def bL_areCoroutinesRight_328 (kk14 : Nat → Nat → Nat → Nat → Int32 → Int32 → MM → Option (Int32 × MM)) (kk328 : Nat → Nat → Nat → Nat → Int32 → Int32 → Int32 → Int32 → MM → Option (Int32 × MM)) (h0 : Nat) (h1 : Nat) (h2 : Nat) (h3 : Nat) (x4 : Int32) (x5 : Int32) (x6 : Int32) (x9 : Int32) (μ : MM) : Option (Int32 × MM) :=
  if mK μ h0 = 7 then (fX6_of h0 x5 5 μ).bind fun y1 => if y1.1 = 0 then if y1.2.1 ≤ x9 then (lL_areCoroutinesRight_388 kk14 FU h0 h1 h2 h3 x4 x5 x6 0 y1.2.2) else ((fX6_stack h0 x5 x9 y1.2.2).bind fun y5 => if y5.1 = 0 then if y5.2.1 < ((-4) : Int32) then (some (0, y5.2.2)) else ((fX6_stack h0 x5 x9 y5.2.2).bind fun y8 => if y8.1 = 0 then if (11 : Int32) < y8.2.1 then (some (0, y8.2.2)) else ((fX6_stack h0 x5 x9 y8.2.2).bind fun y11 => if y11.1 = 0 then if y11.2.1 = 0 then (some (0, y11.2.2)) else (kk328 h0 h1 h2 h3 x4 x5 x6 (x9 + 1) y11.2.2) else none) else none) else none) else none else none
def lL_areCoroutinesRight_328 (kk14 : Nat → Nat → Nat → Nat → Int32 → Int32 → MM → Option (Int32 × MM)) : Nat → Nat → Nat → Nat → Nat → Int32 → Int32 → Int32 → Int32 → MM → Option (Int32 × MM)
  | 0, _, _, _, _, _, _, _, _, _ => none
  | n + 1, h0, h1, h2, h3, x4, x5, x6, x9, μ => bL_areCoroutinesRight_328 kk14 (fun h0 h1 h2 h3 x4 x5 x6 x9 μ => lL_areCoroutinesRight_328 kk14 n h0 h1 h2 h3 x4 x5 x6 x9 μ) h0 h1 h2 h3 x4 x5 x6 x9 μ
def bL_areCoroutinesRight_262 (kk14 : Nat → Nat → Nat → Nat → Int32 → Int32 → MM → Option (Int32 × MM)) (h0 : Nat) (h1 : Nat) (h2 : Nat) (h3 : Nat) (x4 : Int32) (x5 : Int32) (x6 : Int32) (x7 : Int32) (x8 : Int32) (μ : MM) : Option (Int32 × MM) :=
  if x8 < 0 then (lL_areCoroutinesRight_328 kk14 FU h0 h1 h2 h3 x4 x5 x6 0 μ) else (if mK μ h0 = 7 then (fX6_of h0 x8 2 μ).bind fun y2 => if y2.1 = 0 then if y2.2.1 = (2 : Int32) then ((fX6_of h0 x8 1 y2.2.2).bind fun y6 => if y6.1 = 0 then if y6.2.1 = (1 : Int32) then (if x8 ≤ x5 then (some (0, y6.2.2)) else ((fX6_of h0 x8 0 y6.2.2).bind fun y10 => if y10.1 = 0 then if mK μ h1 = 8 then (fX6_of h0 x5 0 y10.2.2).bind fun y13 => if y13.1 = 0 then if mK μ (mP y10.2.2 h1 0) = 25 then if ¬ (y13.2.1 < 0 ∨ mN y13.2.2 (mP y10.2.2 h1 0) ≤ y13.2.1.toNatClampNeg) then if mK μ (mP y13.2.2 (mP y10.2.2 h1 0) y13.2.1.toNatClampNeg) = 24 then if ¬ (x7 < 0 ∨ mN y13.2.2 (mP y13.2.2 (mP y10.2.2 h1 0) y13.2.1.toNatClampNeg) ≤ x7.toNatClampNeg) then if mK μ (mP y13.2.2 (mP y13.2.2 (mP y10.2.2 h1 0) y13.2.1.toNatClampNeg) x7.toNatClampNeg) = 20 then if ¬ ((1 : Int32) < 0 ∨ mN y13.2.2 (mP y13.2.2 (mP y13.2.2 (mP y10.2.2 h1 0) y13.2.1.toNatClampNeg) x7.toNatClampNeg) ≤ (1 : Int32).toNatClampNeg) then if y10.2.1 = (mI y13.2.2 (mP y13.2.2 (mP y13.2.2 (mP y10.2.2 h1 0) y13.2.1.toNatClampNeg) x7.toNatClampNeg) (1 : Int32).toNatClampNeg) then (lL_areCoroutinesRight_328 kk14 FU h0 h1 h2 h3 x4 x5 x6 0 y13.2.2) else (some (0, y13.2.2)) else none else none else none else none else none else none else none else none else none)) else (some (0, y6.2.2)) else none) else (some (0, y2.2.2)) else none else none)
def bL_areCoroutinesRight_218 (kk14 : Nat → Nat → Nat → Nat → Int32 → Int32 → MM → Option (Int32 × MM)) (h0 : Nat) (h1 : Nat) (h2 : Nat) (h3 : Nat) (x4 : Int32) (x5 : Int32) (x6 : Int32) (x7 : Int32) (x8 : Int32) (x9 : Int32) (μ : MM) : Option (Int32 × MM) :=
  if x9 = (10 : Int32) then (if x8 < 0 then (if (1 : Int32) = (0 : Int32) then (if mK μ h0 = 7 then (fX6_of h0 x5 2 μ).bind fun y17 => if y17.1 = 0 then if y17.2.1 = 0 then (if x9 ≤ (10 : Int32) then (bL_areCoroutinesRight_262 kk14 h0 h1 h2 h3 x4 x5 x6 x7 x8 y17.2.2) else (some (0, y17.2.2))) else (bL_areCoroutinesRight_262 kk14 h0 h1 h2 h3 x4 x5 x6 x7 x8 y17.2.2) else none else none) else (some (0, μ))) else (if (1 : Int32) = (1 : Int32) then (if mK μ h0 = 7 then (fX6_of h0 x5 2 μ).bind fun y23 => if y23.1 = 0 then if y23.2.1 = 0 then (if x9 ≤ (10 : Int32) then (bL_areCoroutinesRight_262 kk14 h0 h1 h2 h3 x4 x5 x6 x7 x8 y23.2.2) else (some (0, y23.2.2))) else (bL_areCoroutinesRight_262 kk14 h0 h1 h2 h3 x4 x5 x6 x7 x8 y23.2.2) else none else none) else (some (0, μ)))) else (if x8 < 0 then (if (0 : Int32) = (0 : Int32) then (if mK μ h0 = 7 then (fX6_of h0 x5 2 μ).bind fun y4 => if y4.1 = 0 then if y4.2.1 = 0 then (if x9 ≤ (10 : Int32) then (bL_areCoroutinesRight_262 kk14 h0 h1 h2 h3 x4 x5 x6 x7 x8 y4.2.2) else (some (0, y4.2.2))) else (bL_areCoroutinesRight_262 kk14 h0 h1 h2 h3 x4 x5 x6 x7 x8 y4.2.2) else none else none) else (some (0, μ))) else (if (0 : Int32) = (1 : Int32) then (if mK μ h0 = 7 then (fX6_of h0 x5 2 μ).bind fun y10 => if y10.1 = 0 then if y10.2.1 = 0 then (if x9 ≤ (10 : Int32) then (bL_areCoroutinesRight_262 kk14 h0 h1 h2 h3 x4 x5 x6 x7 x8 y10.2.2) else (some (0, y10.2.2))) else (bL_areCoroutinesRight_262 kk14 h0 h1 h2 h3 x4 x5 x6 x7 x8 y10.2.2) else none else none) else (some (0, μ))))
def bL_areCoroutinesRight_152 (kk14 : Nat → Nat → Nat → Nat → Int32 → Int32 → MM → Option (Int32 × MM)) (h0 : Nat) (h1 : Nat) (h2 : Nat) (h3 : Nat) (x4 : Int32) (x5 : Int32) (x6 : Int32) (x7 : Int32) (x8 : Int32) (μ : MM) : Option (Int32 × MM) :=
  if mK μ h0 = 7 then (fX6_of h0 x5 5 μ).bind fun y1 => if y1.1 = 0 then if y1.2.1 ≤ (6 : Int32) then (if x6 = (1 : Int32) then (if mK μ h1 = 8 then (fX6_of h0 x5 0 y1.2.2).bind fun y7 => if y7.1 = 0 then if mK μ (mP y1.2.2 h1 0) = 25 then if ¬ (y7.2.1 < 0 ∨ mN y7.2.2 (mP y1.2.2 h1 0) ≤ y7.2.1.toNatClampNeg) then if mK μ (mP y7.2.2 (mP y1.2.2 h1 0) y7.2.1.toNatClampNeg) = 24 then if ¬ (x7 < 0 ∨ mN y7.2.2 (mP y7.2.2 (mP y1.2.2 h1 0) y7.2.1.toNatClampNeg) ≤ x7.toNatClampNeg) then if mK μ (mP y7.2.2 (mP y7.2.2 (mP y1.2.2 h1 0) y7.2.1.toNatClampNeg) x7.toNatClampNeg) = 20 then if ¬ ((0 : Int32) < 0 ∨ mN y7.2.2 (mP y7.2.2 (mP y7.2.2 (mP y1.2.2 h1 0) y7.2.1.toNatClampNeg) x7.toNatClampNeg) ≤ (0 : Int32).toNatClampNeg) then if (mI y7.2.2 (mP y7.2.2 (mP y7.2.2 (mP y1.2.2 h1 0) y7.2.1.toNatClampNeg) x7.toNatClampNeg) (0 : Int32).toNatClampNeg) = (3 : Int32) then (bL_areCoroutinesRight_218 kk14 h0 h1 h2 h3 x4 x5 x6 x7 x8 (mI y7.2.2 (mP y7.2.2 (mP y7.2.2 (mP y1.2.2 h1 0) y7.2.1.toNatClampNeg) x7.toNatClampNeg) (0 : Int32).toNatClampNeg) y7.2.2) else (if (mI y7.2.2 (mP y7.2.2 (mP y7.2.2 (mP y1.2.2 h1 0) y7.2.1.toNatClampNeg) x7.toNatClampNeg) (0 : Int32).toNatClampNeg) = (10 : Int32) then (bL_areCoroutinesRight_218 kk14 h0 h1 h2 h3 x4 x5 x6 x7 x8 (mI y7.2.2 (mP y7.2.2 (mP y7.2.2 (mP y1.2.2 h1 0) y7.2.1.toNatClampNeg) x7.toNatClampNeg) (0 : Int32).toNatClampNeg) y7.2.2) else (if (mI y7.2.2 (mP y7.2.2 (mP y7.2.2 (mP y1.2.2 h1 0) y7.2.1.toNatClampNeg) x7.toNatClampNeg) (0 : Int32).toNatClampNeg) = (12 : Int32) then (bL_areCoroutinesRight_218 kk14 h0 h1 h2 h3 x4 x5 x6 x7 x8 (mI y7.2.2 (mP y7.2.2 (mP y7.2.2 (mP y1.2.2 h1 0) y7.2.1.toNatClampNeg) x7.toNatClampNeg) (0 : Int32).toNatClampNeg) y7.2.2) else (if (mI y7.2.2 (mP y7.2.2 (mP y7.2.2 (mP y1.2.2 h1 0) y7.2.1.toNatClampNeg) x7.toNatClampNeg) (0 : Int32).toNatClampNeg) = (13 : Int32) then (bL_areCoroutinesRight_218 kk14 h0 h1 h2 h3 x4 x5 x6 x7 x8 (mI y7.2.2 (mP y7.2.2 (mP y7.2.2 (mP y1.2.2 h1 0) y7.2.1.toNatClampNeg) x7.toNatClampNeg) (0 : Int32).toNatClampNeg) y7.2.2) else (some (0, y7.2.2))))) else none else none else none else none else none else none else none else none) else (bL_areCoroutinesRight_262 kk14 h0 h1 h2 h3 x4 x5 x6 x7 x8 y1.2.2)) else (some (0, y1.2.2)) else none else none
def bL_areCoroutinesRight_136 (kk14 : Nat → Nat → Nat → Nat → Int32 → Int32 → MM → Option (Int32 × MM)) (h0 : Nat) (h1 : Nat) (h2 : Nat) (h3 : Nat) (x4 : Int32) (x5 : Int32) (x6 : Int32) (x7 : Int32) (x8 : Int32) (μ : MM) : Option (Int32 × MM) :=
  if x6 ≤ (2 : Int32) then (bL_areCoroutinesRight_152 kk14 h0 h1 h2 h3 x4 x5 x6 x7 x8 μ) else (if mK μ h0 = 7 then (fX6_of h0 x5 5 μ).bind fun y2 => if y2.1 = 0 then if y2.2.1 = 0 then (bL_areCoroutinesRight_152 kk14 h0 h1 h2 h3 x4 x5 x6 x7 x8 y2.2.2) else (some (0, y2.2.2)) else none else none)
def bL_areCoroutinesRight_110 (kk14 : Nat → Nat → Nat → Nat → Int32 → Int32 → MM → Option (Int32 × MM)) (h0 : Nat) (h1 : Nat) (h2 : Nat) (h3 : Nat) (x4 : Int32) (x5 : Int32) (x6 : Int32) (x7 : Int32) (x8 : Int32) (μ : MM) : Option (Int32 × MM) :=
  if x6 = 0 then (if mK μ h0 = 7 then (fX6_of h0 x5 7 μ).bind fun y2 => if y2.1 = 0 then if y2.2.1 = 0 then ((fX6_of h0 x5 5 y2.2.2).bind fun y6 => if y6.1 = 0 then if y6.2.1 = 0 then (bL_areCoroutinesRight_136 kk14 h0 h1 h2 h3 x4 x5 x6 x7 x8 y6.2.2) else (some (0, y6.2.2)) else none) else (some (0, y2.2.2)) else none else none) else (bL_areCoroutinesRight_136 kk14 h0 h1 h2 h3 x4 x5 x6 x7 x8 μ)
def bL_areCoroutinesRight_14 (kk14 : Nat → Nat → Nat → Nat → Int32 → Int32 → MM → Option (Int32 × MM)) (h0 : Nat) (h1 : Nat) (h2 : Nat) (h3 : Nat) (x4 : Int32) (x5 : Int32) (μ : MM) : Option (Int32 × MM) :=
  if mK μ h0 = 7 then (fX6_many h0 1 μ).bind fun y1 => if y1.1 = 0 then if y1.2.1 ≤ x5 then (lL_areCoroutinesRight_485  FU h0 h2 h3 x4 0 0 y1.2.2) else ((fX6_of h0 x5 1 y1.2.2).bind fun y5 => if y5.1 = 0 then (fX6_of h0 x5 3 y5.2.2).bind fun y7 => if y7.1 = 0 then (fX6_of h0 x5 6 y7.2.2).bind fun y9 => if y9.1 = 0 then if mK μ h2 = 20 then if ¬ (y5.2.1 < 0 ∨ mN y9.2.2 h2 ≤ y5.2.1.toNatClampNeg) then if ¬ (y5.2.1 < 0 ∨ mN y9.2.2 h2 ≤ y5.2.1.toNatClampNeg) then st (sI y9.2.2 h2 y5.2.1.toNatClampNeg ((mI y9.2.2 h2 y5.2.1.toNatClampNeg) + 1)) fun μ14 => (fX6_of h0 x5 2 μ14).bind fun y15 => if y15.1 = 0 then if mK μ h3 = 20 then if ¬ (y15.2.1 < 0 ∨ mN y15.2.2 h3 ≤ y15.2.1.toNatClampNeg) then if ¬ (y15.2.1 < 0 ∨ mN y15.2.2 h3 ≤ y15.2.1.toNatClampNeg) then st (sI y15.2.2 h3 y15.2.1.toNatClampNeg ((mI y15.2.2 h3 y15.2.1.toNatClampNeg) + 1)) fun μ20 => (fX6_of h0 x5 7 μ20).bind fun y21 => if y21.1 = 0 then if y5.2.1 = (2 : Int32) then (some (0, y21.2.2)) else (if y5.2.1 = (1 : Int32) then (bL_areCoroutinesRight_110 kk14 h0 h1 h2 h3 (x4 + y21.2.1) x5 y5.2.1 y7.2.1 y9.2.1 y21.2.2) else (if y7.2.1 = ((-1) : Int32) then (if y9.2.1 = ((-1) : Int32) then (bL_areCoroutinesRight_110 kk14 h0 h1 h2 h3 (x4 + y21.2.1) x5 y5.2.1 y7.2.1 y9.2.1 y21.2.2) else (some (0, y21.2.2))) else (some (0, y21.2.2)))) else none else none else none else none else none else none else none else none else none else none else none) else none else none
def lL_areCoroutinesRight_14  : Nat → Nat → Nat → Nat → Nat → Int32 → Int32 → MM → Option (Int32 × MM)
  | 0, _, _, _, _, _, _, _ => none
  | n + 1, h0, h1, h2, h3, x4, x5, μ => bL_areCoroutinesRight_14  (fun h0 h1 h2 h3 x4 x5 μ => lL_areCoroutinesRight_14  n h0 h1 h2 h3 x4 x5 μ) h0 h1 h2 h3 x4 x5 μ
def fL_areCoroutinesRight (h0 : Nat) (h1 : Nat) (μ : MM) : Option (Int32 × MM) :=
  st (sN μ 20 5) fun μ1 => st (sN μ1 20 3) fun μ2 => lL_areCoroutinesRight_14  FU h0 h1 (mX μ) (mX μ1) 0 0 μ2
abbrev rmL_areCoroutinesRight : Room := { frames := 7, cells := 2, slots := 8, locals := 167 }
set_option maxRecDepth 100000 in
set_option maxHeartbeats 4000000 in
theorem wbL_areCoroutinesRight_485 {p : Program} {l : Launch} {e : Env} {s : State} {m : MethodId} {args : Array Value} {below : List Frame} {meth : Method} {c : Code} {G : mmG} {A : Nat → Prop} {res : Int32 × MM} (E0 : mmEnv p m c cL_areCoroutinesRight 10 s args RL G A meth (some (.boolean))) (kk485 : Nat → Nat → Nat → Int32 → Int32 → Int32 → MM → Option (Int32 × MM)) (hkk485 : ∀ (h0 : Nat) (h2 : Nat) (h3 : Nat) (x4 : Int32) (x5 : Int32) (x6 : Int32) (μ : MM), kk485 h0 h2 h3 x4 x5 x6 μ = some res → mmGoalA p l e rmL_areCoroutinesRight s m args below meth c G A 2 8 2 8 485 10 [(0, rf h0), (2, rf h2), (3, rf h3), (4, .int x4), (5, .int x5), (6, .int x6)] μ (mmQ G A res.2 (some (.int res.1)))) : ∀ (h0 : Nat) (h2 : Nat) (h3 : Nat) (x4 : Int32) (x5 : Int32) (x6 : Int32) (μ : MM), bL_areCoroutinesRight_485 kk485 h0 h2 h3 x4 x5 x6 μ = some res → mmGoalA p l e rmL_areCoroutinesRight s m args below meth c G A 2 8 2 8 485 10 [(0, rf h0), (2, rf h2), (3, rf h3), (4, .int x4), (5, .int x5), (6, .int x6)] μ (mmQ G A res.2 (some (.int res.1))) := by
  obtain ⟨S, hA, hr, hlocks⟩ := id E0
  intro h0 h2 h3 x4 x5 x6 μ hf H locs ls hR hS hl
  have hK : mmKN μ μ := mmKN.rf
  unfold bL_areCoroutinesRight_485 at hf
  refine lv_iload S.1 S.2.1 dL_areCoroutinesRight_485 (lv_at hl 5 rfl) ?_
  refine lv_iconst (v := 5) S.1 S.2.1 dL_areCoroutinesRight_487 (by decide) ?_
  refine lv_icmp_ge (tgt := 509) S.1 S.2.1 dL_areCoroutinesRight_488 (by decide) (fun c1 => ?_) (fun c1 => ?_)
  · have hf := it_t hf c1
    refine lv_iload S.1 S.2.1 dL_areCoroutinesRight_509 (lv_at hl 4 rfl) ?_
    refine mm_aload_n S dL_areCoroutinesRight_511 rfl (lv_at hl 0 rfl) ?_
    refine lv_iconst (v := 1) S.1 S.2.1 dL_areCoroutinesRight_512 (by decide) ?_
    obtain ⟨g4, hf⟩ := gd hf
    obtain ⟨y2, hy2, hf⟩ := bd hf
    obtain ⟨g3, hf⟩ := gd hf
    refine mm_callVi S hR hS hA (As := [.int 1]) (rest := [.int x5]) cvL_39 (hK.k g4) (kX6_many_c l G A (hK.k g4) hy2 g3) rfl rfl ⟨Nat.le_of_ble_eq_true rfl, Nat.le_of_ble_eq_true rfl⟩ rfl hl.1 rfl (lv_room (by simp [rf_cat, int_cat, long_cat, dbl_cat])) dL_areCoroutinesRight_513 ⟨Nat.le_of_ble_eq_true rfl, Nat.le_of_ble_eq_true rfl⟩ (fun H locs hR hS => ?_)
    have hK : mmKN μ y2.2.2 := hK.tr (kX6_many_kn hy2)
    refine lv_icmp_ne (tgt := 631) S.1 S.2.1 dL_areCoroutinesRight_516 (by decide) (fun c5 => ?_) (fun c5 => ?_)
    · have hf := it_f hf c5
      refine lv_iconst (v := 0) S.1 S.2.1 dL_areCoroutinesRight_631 (by decide) ?_
      obtain rfl := Option.some.inj hf
      refine W.widen (k := 2) (n := 8) (Nat.le_of_ble_eq_true rfl) (Nat.le_of_ble_eq_true rfl) ?_
      exact mm_zret S hR hS hr hlocks (Or.inl rfl) dL_areCoroutinesRight_632
    · have hf := it_t hf c5
      refine mm_aload_n S dL_areCoroutinesRight_519 rfl (lv_at hl 0 rfl) ?_
      refine lv_iconst (v := 2) S.1 S.2.1 dL_areCoroutinesRight_520 (by decide) ?_
      obtain ⟨y6, hy6, hf⟩ := bd hf
      obtain ⟨g7, hf⟩ := gd hf
      refine mm_callVi S hR hS hA (As := [.int 2]) (rest := []) cvL_39 (hK.k g4) (kX6_many_c l G A (hK.k g4) hy6 g7) rfl rfl ⟨Nat.le_of_ble_eq_true rfl, Nat.le_of_ble_eq_true rfl⟩ rfl hl.1 rfl (lv_room (by simp [rf_cat, int_cat, long_cat, dbl_cat])) dL_areCoroutinesRight_521 ⟨Nat.le_of_ble_eq_true rfl, Nat.le_of_ble_eq_true rfl⟩ (fun H locs hR hS => ?_)
      have hK : mmKN μ y6.2.2 := hK.tr (kX6_many_kn hy6)
      refine mm_aload_n S dL_areCoroutinesRight_524 rfl (lv_at hl 2 rfl) ?_
      refine lv_iconst (v := 0) S.1 S.2.1 dL_areCoroutinesRight_525 (by decide) ?_
      obtain ⟨g8, hf⟩ := gd hf
      obtain ⟨g9, hf⟩ := gd hf
      refine mm_iald S hR (hK.k g8) g9 dL_areCoroutinesRight_526 ?_
      refine lv_icmp_ne (tgt := 631) S.1 S.2.1 dL_areCoroutinesRight_527 (by decide) (fun c10 => ?_) (fun c10 => ?_)
      · have hf := it_f hf c10
        refine lv_iconst (v := 0) S.1 S.2.1 dL_areCoroutinesRight_631 (by decide) ?_
        obtain rfl := Option.some.inj hf
        refine W.widen (k := 2) (n := 8) (Nat.le_of_ble_eq_true rfl) (Nat.le_of_ble_eq_true rfl) ?_
        exact mm_zret S hR hS hr hlocks (Or.inl rfl) dL_areCoroutinesRight_632
      · have hf := it_t hf c10
        refine mm_aload_n S dL_areCoroutinesRight_530 rfl (lv_at hl 0 rfl) ?_
        refine lv_iconst (v := 3) S.1 S.2.1 dL_areCoroutinesRight_531 (by decide) ?_
        obtain ⟨y11, hy11, hf⟩ := bd hf
        obtain ⟨g12, hf⟩ := gd hf
        refine mm_callVi S hR hS hA (As := [.int 3]) (rest := []) cvL_39 (hK.k g4) (kX6_many_c l G A (hK.k g4) hy11 g12) rfl rfl ⟨Nat.le_of_ble_eq_true rfl, Nat.le_of_ble_eq_true rfl⟩ rfl hl.1 rfl (lv_room (by simp [rf_cat, int_cat, long_cat, dbl_cat])) dL_areCoroutinesRight_532 ⟨Nat.le_of_ble_eq_true rfl, Nat.le_of_ble_eq_true rfl⟩ (fun H locs hR hS => ?_)
        have hK : mmKN μ y11.2.2 := hK.tr (kX6_many_kn hy11)
        refine mm_aload_n S dL_areCoroutinesRight_535 rfl (lv_at hl 2 rfl) ?_
        refine lv_iconst (v := 1) S.1 S.2.1 dL_areCoroutinesRight_536 (by decide) ?_
        obtain ⟨g13, hf⟩ := gd hf
        refine mm_iald S hR (hK.k g8) g13 dL_areCoroutinesRight_537 ?_
        refine lv_icmp_ne (tgt := 631) S.1 S.2.1 dL_areCoroutinesRight_538 (by decide) (fun c14 => ?_) (fun c14 => ?_)
        · have hf := it_f hf c14
          refine lv_iconst (v := 0) S.1 S.2.1 dL_areCoroutinesRight_631 (by decide) ?_
          obtain rfl := Option.some.inj hf
          refine W.widen (k := 2) (n := 8) (Nat.le_of_ble_eq_true rfl) (Nat.le_of_ble_eq_true rfl) ?_
          exact mm_zret S hR hS hr hlocks (Or.inl rfl) dL_areCoroutinesRight_632
        · have hf := it_t hf c14
          refine mm_aload_n S dL_areCoroutinesRight_541 rfl (lv_at hl 0 rfl) ?_
          refine lv_iconst (v := 4) S.1 S.2.1 dL_areCoroutinesRight_542 (by decide) ?_
          obtain ⟨y15, hy15, hf⟩ := bd hf
          obtain ⟨g16, hf⟩ := gd hf
          refine mm_callVi S hR hS hA (As := [.int 4]) (rest := []) cvL_39 (hK.k g4) (kX6_many_c l G A (hK.k g4) hy15 g16) rfl rfl ⟨Nat.le_of_ble_eq_true rfl, Nat.le_of_ble_eq_true rfl⟩ rfl hl.1 rfl (lv_room (by simp [rf_cat, int_cat, long_cat, dbl_cat])) dL_areCoroutinesRight_543 ⟨Nat.le_of_ble_eq_true rfl, Nat.le_of_ble_eq_true rfl⟩ (fun H locs hR hS => ?_)
          have hK : mmKN μ y15.2.2 := hK.tr (kX6_many_kn hy15)
          refine mm_aload_n S dL_areCoroutinesRight_546 rfl (lv_at hl 1 rfl) ?_
          refine lv_iconst (v := 0) S.1 S.2.1 dL_areCoroutinesRight_547 (by decide) ?_
          obtain ⟨g17, hf⟩ := gd hf
          obtain ⟨g18, hf⟩ := gd hf
          refine mm_iald S hR (hK.k g17) g18 dL_areCoroutinesRight_548 ?_
          refine lv_icmp_ne (tgt := 631) S.1 S.2.1 dL_areCoroutinesRight_549 (by decide) (fun c19 => ?_) (fun c19 => ?_)
          · have hf := it_f hf c19
            refine lv_iconst (v := 0) S.1 S.2.1 dL_areCoroutinesRight_631 (by decide) ?_
            obtain rfl := Option.some.inj hf
            refine W.widen (k := 2) (n := 8) (Nat.le_of_ble_eq_true rfl) (Nat.le_of_ble_eq_true rfl) ?_
            exact mm_zret S hR hS hr hlocks (Or.inl rfl) dL_areCoroutinesRight_632
          · have hf := it_t hf c19
            refine mm_aload_n S dL_areCoroutinesRight_552 rfl (lv_at hl 0 rfl) ?_
            refine lv_iconst (v := 5) S.1 S.2.1 dL_areCoroutinesRight_553 (by decide) ?_
            obtain ⟨y20, hy20, hf⟩ := bd hf
            obtain ⟨g21, hf⟩ := gd hf
            refine mm_callVi S hR hS hA (As := [.int 5]) (rest := []) cvL_39 (hK.k g4) (kX6_many_c l G A (hK.k g4) hy20 g21) rfl rfl ⟨Nat.le_of_ble_eq_true rfl, Nat.le_of_ble_eq_true rfl⟩ rfl hl.1 rfl (lv_room (by simp [rf_cat, int_cat, long_cat, dbl_cat])) dL_areCoroutinesRight_554 ⟨Nat.le_of_ble_eq_true rfl, Nat.le_of_ble_eq_true rfl⟩ (fun H locs hR hS => ?_)
            have hK : mmKN μ y20.2.2 := hK.tr (kX6_many_kn hy20)
            refine mm_aload_n S dL_areCoroutinesRight_557 rfl (lv_at hl 1 rfl) ?_
            refine lv_iconst (v := 1) S.1 S.2.1 dL_areCoroutinesRight_558 (by decide) ?_
            obtain ⟨g22, hf⟩ := gd hf
            refine mm_iald S hR (hK.k g17) g22 dL_areCoroutinesRight_559 ?_
            refine lv_icmp_ne (tgt := 631) S.1 S.2.1 dL_areCoroutinesRight_560 (by decide) (fun c23 => ?_) (fun c23 => ?_)
            · have hf := it_f hf c23
              refine lv_iconst (v := 0) S.1 S.2.1 dL_areCoroutinesRight_631 (by decide) ?_
              obtain rfl := Option.some.inj hf
              refine W.widen (k := 2) (n := 8) (Nat.le_of_ble_eq_true rfl) (Nat.le_of_ble_eq_true rfl) ?_
              exact mm_zret S hR hS hr hlocks (Or.inl rfl) dL_areCoroutinesRight_632
            · have hf := it_t hf c23
              refine mm_aload_n S dL_areCoroutinesRight_563 rfl (lv_at hl 0 rfl) ?_
              refine lv_bipush (v := 6) S.1 S.2.1 dL_areCoroutinesRight_564 (by decide) ?_
              obtain ⟨y24, hy24, hf⟩ := bd hf
              obtain ⟨g25, hf⟩ := gd hf
              refine mm_callVi S hR hS hA (As := [.int 6]) (rest := []) cvL_39 (hK.k g4) (kX6_many_c l G A (hK.k g4) hy24 g25) rfl rfl ⟨Nat.le_of_ble_eq_true rfl, Nat.le_of_ble_eq_true rfl⟩ rfl hl.1 rfl (lv_room (by simp [rf_cat, int_cat, long_cat, dbl_cat])) dL_areCoroutinesRight_566 ⟨Nat.le_of_ble_eq_true rfl, Nat.le_of_ble_eq_true rfl⟩ (fun H locs hR hS => ?_)
              have hK : mmKN μ y24.2.2 := hK.tr (kX6_many_kn hy24)
              refine mm_aload_n S dL_areCoroutinesRight_569 rfl (lv_at hl 1 rfl) ?_
              refine lv_iconst (v := 3) S.1 S.2.1 dL_areCoroutinesRight_570 (by decide) ?_
              obtain ⟨g26, hf⟩ := gd hf
              refine mm_iald S hR (hK.k g17) g26 dL_areCoroutinesRight_571 ?_
              refine lv_icmp_ne (tgt := 631) S.1 S.2.1 dL_areCoroutinesRight_572 (by decide) (fun c27 => ?_) (fun c27 => ?_)
              · have hf := it_f hf c27
                refine lv_iconst (v := 0) S.1 S.2.1 dL_areCoroutinesRight_631 (by decide) ?_
                obtain rfl := Option.some.inj hf
                refine W.widen (k := 2) (n := 8) (Nat.le_of_ble_eq_true rfl) (Nat.le_of_ble_eq_true rfl) ?_
                exact mm_zret S hR hS hr hlocks (Or.inl rfl) dL_areCoroutinesRight_632
              · have hf := it_t hf c27
                refine mm_aload_n S dL_areCoroutinesRight_575 rfl (lv_at hl 0 rfl) ?_
                refine lv_bipush (v := 7) S.1 S.2.1 dL_areCoroutinesRight_576 (by decide) ?_
                obtain ⟨y28, hy28, hf⟩ := bd hf
                obtain ⟨g29, hf⟩ := gd hf
                refine mm_callVi S hR hS hA (As := [.int 7]) (rest := []) cvL_39 (hK.k g4) (kX6_many_c l G A (hK.k g4) hy28 g29) rfl rfl ⟨Nat.le_of_ble_eq_true rfl, Nat.le_of_ble_eq_true rfl⟩ rfl hl.1 rfl (lv_room (by simp [rf_cat, int_cat, long_cat, dbl_cat])) dL_areCoroutinesRight_578 ⟨Nat.le_of_ble_eq_true rfl, Nat.le_of_ble_eq_true rfl⟩ (fun H locs hR hS => ?_)
                have hK : mmKN μ y28.2.2 := hK.tr (kX6_many_kn hy28)
                refine mm_aload_n S dL_areCoroutinesRight_581 rfl (lv_at hl 1 rfl) ?_
                refine lv_iconst (v := 4) S.1 S.2.1 dL_areCoroutinesRight_582 (by decide) ?_
                obtain ⟨g30, hf⟩ := gd hf
                refine mm_iald S hR (hK.k g17) g30 dL_areCoroutinesRight_583 ?_
                refine lv_icmp_ne (tgt := 631) S.1 S.2.1 dL_areCoroutinesRight_584 (by decide) (fun c31 => ?_) (fun c31 => ?_)
                · have hf := it_f hf c31
                  refine lv_iconst (v := 0) S.1 S.2.1 dL_areCoroutinesRight_631 (by decide) ?_
                  obtain rfl := Option.some.inj hf
                  refine W.widen (k := 2) (n := 8) (Nat.le_of_ble_eq_true rfl) (Nat.le_of_ble_eq_true rfl) ?_
                  exact mm_zret S hR hS hr hlocks (Or.inl rfl) dL_areCoroutinesRight_632
                · have hf := it_t hf c31
                  refine mm_aload_n S dL_areCoroutinesRight_587 rfl (lv_at hl 0 rfl) ?_
                  refine lv_bipush (v := 10) S.1 S.2.1 dL_areCoroutinesRight_588 (by decide) ?_
                  obtain ⟨y32, hy32, hf⟩ := bd hf
                  obtain ⟨g33, hf⟩ := gd hf
                  refine mm_callVi S hR hS hA (As := [.int 10]) (rest := []) cvL_39 (hK.k g4) (kX6_many_c l G A (hK.k g4) hy32 g33) rfl rfl ⟨Nat.le_of_ble_eq_true rfl, Nat.le_of_ble_eq_true rfl⟩ rfl hl.1 rfl (lv_room (by simp [rf_cat, int_cat, long_cat, dbl_cat])) dL_areCoroutinesRight_590 ⟨Nat.le_of_ble_eq_true rfl, Nat.le_of_ble_eq_true rfl⟩ (fun H locs hR hS => ?_)
                  have hK : mmKN μ y32.2.2 := hK.tr (kX6_many_kn hy32)
                  refine lv_iload S.1 S.2.1 dL_areCoroutinesRight_593 (lv_at hl 3 rfl) ?_
                  refine lv_icmp_ne (tgt := 631) S.1 S.2.1 dL_areCoroutinesRight_595 (by decide) (fun c34 => ?_) (fun c34 => ?_)
                  · have hf := it_f hf c34
                    refine lv_iconst (v := 0) S.1 S.2.1 dL_areCoroutinesRight_631 (by decide) ?_
                    obtain rfl := Option.some.inj hf
                    refine W.widen (k := 2) (n := 8) (Nat.le_of_ble_eq_true rfl) (Nat.le_of_ble_eq_true rfl) ?_
                    exact mm_zret S hR hS hr hlocks (Or.inl rfl) dL_areCoroutinesRight_632
                  · have hf := it_t hf c34
                    refine mm_aload_n S dL_areCoroutinesRight_598 rfl (lv_at hl 0 rfl) ?_
                    obtain ⟨y35, hy35, hf⟩ := bd hf
                    refine mm_callVd S hR hS hA (As := []) (rest := []) cvL_123 (hK.k g4) (kX6_meanLines_c l G A (hK.k g4) hy35) rfl rfl ⟨Nat.le_of_ble_eq_true rfl, Nat.le_of_ble_eq_true rfl⟩ rfl hl.1 rfl (lv_room (by simp [rf_cat, int_cat, long_cat, dbl_cat])) dL_areCoroutinesRight_599 ⟨Nat.le_of_ble_eq_true rfl, Nat.le_of_ble_eq_true rfl⟩ (fun H locs hR hS => ?_)
                    have hK : mmKN μ y35.2 := hK.tr (kX6_meanLines_kn hy35)
                    refine lv_iconst (v := 1) S.1 S.2.1 dL_areCoroutinesRight_602 (by decide) ?_
                    refine mm_aload_n S dL_areCoroutinesRight_603 rfl (lv_at hl 0 rfl) ?_
                    refine lv_iconst (v := 1) S.1 S.2.1 dL_areCoroutinesRight_604 (by decide) ?_
                    obtain ⟨y36, hy36, hf⟩ := bd hf
                    obtain ⟨g37, hf⟩ := gd hf
                    refine mm_callVi S hR hS hA (As := [.int 1]) (rest := [.int 1, .double y35.1]) cvL_39 (hK.k g4) (kX6_many_c l G A (hK.k g4) hy36 g37) rfl rfl ⟨Nat.le_of_ble_eq_true rfl, Nat.le_of_ble_eq_true rfl⟩ rfl hl.1 rfl (lv_room (by simp [rf_cat, int_cat, long_cat, dbl_cat])) dL_areCoroutinesRight_605 ⟨Nat.le_of_ble_eq_true rfl, Nat.le_of_ble_eq_true rfl⟩ (fun H locs hR hS => ?_)
                    have hK : mmKN μ y36.2.2 := hK.tr (kX6_many_kn hy36)
                    refine mm_max S mnL_57 hl.1 (Nat.le_of_ble_eq_true rfl) (by simp [rf_cat, int_cat, long_cat, dbl_cat]) ⟨Nat.le_of_ble_eq_true rfl, Nat.le_of_ble_eq_true rfl⟩ dL_areCoroutinesRight_608 ?_
                    refine lv_i2d S.1 S.2.1 dL_areCoroutinesRight_611 ?_
                    obtain ⟨g38, hf⟩ := gd hf
                    refine lv_dmul S.1 S.2.1 dL_areCoroutinesRight_612 g38 ?_
                    refine lv_iload S.1 S.2.1 dL_areCoroutinesRight_613 (lv_at hl 3 rfl) ?_
                    refine lv_i2d S.1 S.2.1 dL_areCoroutinesRight_615 ?_
                    obtain ⟨g39, hf⟩ := gd hf
                    refine lv_dsub S.1 S.2.1 dL_areCoroutinesRight_616 g39 ?_
                    obtain ⟨y40, hy40, hf⟩ := bd hf
                    refine mm_dabs S hy40 hl.1 (Nat.le_of_ble_eq_true rfl) (Nat.le_of_ble_eq_true rfl) (by simp [rf_cat, int_cat, long_cat, dbl_cat]) ⟨Nat.le_of_ble_eq_true rfl, Nat.le_of_ble_eq_true rfl⟩ dL_areCoroutinesRight_617 ?_
                    refine lv_ldc2d (v := 4517329193108106637) S.1 S.2.1 S.2.2.2.1 (S.2.2.2.2.1 _ kdL_130) dL_areCoroutinesRight_620 ?_
                    refine lv_dcmp S.1 S.2.1 dL_areCoroutinesRight_623 ?_
                    refine lv_if_ge (tgt := 631) S.1 S.2.1 dL_areCoroutinesRight_624 (by decide) (fun c41 => ?_) (fun c41 => ?_)
                    · have hf := it_t hf c41
                      refine lv_iconst (v := 0) S.1 S.2.1 dL_areCoroutinesRight_631 (by decide) ?_
                      obtain rfl := Option.some.inj hf
                      refine W.widen (k := 2) (n := 8) (Nat.le_of_ble_eq_true rfl) (Nat.le_of_ble_eq_true rfl) ?_
                      exact mm_zret S hR hS hr hlocks (Or.inl rfl) dL_areCoroutinesRight_632
                    · have hf := it_f hf c41
                      refine lv_iconst (v := 1) S.1 S.2.1 dL_areCoroutinesRight_627 (by decide) ?_
                      refine lv_goto (tgt := 632) S.1 S.2.1 dL_areCoroutinesRight_628 (by decide) ?_
                      obtain rfl := Option.some.inj hf
                      refine W.widen (k := 2) (n := 8) (Nat.le_of_ble_eq_true rfl) (Nat.le_of_ble_eq_true rfl) ?_
                      exact mm_zret S hR hS hr hlocks (Or.inr rfl) dL_areCoroutinesRight_632
  · have hf := it_f hf c1
    refine lv_iload S.1 S.2.1 dL_areCoroutinesRight_491 (lv_at hl 4 rfl) ?_
    refine mm_aload_n S dL_areCoroutinesRight_493 rfl (lv_at hl 0 rfl) ?_
    refine lv_iload S.1 S.2.1 dL_areCoroutinesRight_494 (lv_at hl 5 rfl) ?_
    refine lv_iconst (v := 1) S.1 S.2.1 dL_areCoroutinesRight_496 (by decide) ?_
    obtain ⟨g44, hf⟩ := gd hf
    obtain ⟨y42, hy42, hf⟩ := bd hf
    obtain ⟨g43, hf⟩ := gd hf
    refine mm_callVi S hR hS hA (As := [.int x6, .int 1]) (rest := [.int x5]) cvL_120 (hK.k g44) (kX6_ofBody_c l G A (hK.k g44) hy42 g43) rfl rfl ⟨Nat.le_of_ble_eq_true rfl, Nat.le_of_ble_eq_true rfl⟩ rfl hl.1 rfl (lv_room (by simp [rf_cat, int_cat, long_cat, dbl_cat])) dL_areCoroutinesRight_497 ⟨Nat.le_of_ble_eq_true rfl, Nat.le_of_ble_eq_true rfl⟩ (fun H locs hR hS => ?_)
    have hK : mmKN μ y42.2.2 := hK.tr (kX6_ofBody_kn hy42)
    refine lv_iadd S.1 S.2.1 dL_areCoroutinesRight_500 ?_
    refine lv_istore (i := 5) (lv' := [(5, .int (x5 + y42.2.1)), (0, rf h0), (2, rf h2), (3, rf h3), (4, .int x4), (6, .int x6)]) S.1 S.2.1 dL_areCoroutinesRight_501 hl (by decide) rfl (fun ls hl => ?_)
    refine lv_iinc (v := (x6 + 1)) (lv' := [(6, .int (x6 + 1)), (5, .int (x5 + y42.2.1)), (0, rf h0), (2, rf h2), (3, rf h3), (4, .int x4)]) S.1 S.2.1 dL_areCoroutinesRight_503 hl (k := 5) rfl (by rfl) (by decide) rfl (fun ls hl => ?_)
    refine lv_goto (tgt := 485) S.1 S.2.1 dL_areCoroutinesRight_506 (by decide) ?_
    exact hkk485 h0 h2 h3 x4 (x5 + y42.2.1) (x6 + 1) y42.2.2 hf _ _ _ hR hS (lv_sub hl [2, 3, 4, 5, 1, 0] rfl)
theorem wlL_areCoroutinesRight_485 {p : Program} {l : Launch} {e : Env} {s : State} {m : MethodId} {args : Array Value} {below : List Frame} {meth : Method} {c : Code} {G : mmG} {A : Nat → Prop} {res : Int32 × MM} (E0 : mmEnv p m c cL_areCoroutinesRight 10 s args RL G A meth (some (.boolean)))  : ∀ (n : Nat) (h0 : Nat) (h2 : Nat) (h3 : Nat) (x4 : Int32) (x5 : Int32) (x6 : Int32) (μ : MM), lL_areCoroutinesRight_485  n h0 h2 h3 x4 x5 x6 μ = some res → mmGoalA p l e rmL_areCoroutinesRight s m args below meth c G A 2 8 2 8 485 10 [(0, rf h0), (2, rf h2), (3, rf h3), (4, .int x4), (5, .int x5), (6, .int x6)] μ (mmQ G A res.2 (some (.int res.1))) := by
  intro n
  induction n with
  | zero => intro h0 h2 h3 x4 x5 x6 μ hf; cases hf
  | succ n ih => intro h0 h2 h3 x4 x5 x6 μ hf; exact wbL_areCoroutinesRight_485 E0  _ ih h0 h2 h3 x4 x5 x6 μ hf
set_option maxRecDepth 100000 in
set_option maxHeartbeats 4000000 in
theorem wbL_areCoroutinesRight_388 {p : Program} {l : Launch} {e : Env} {s : State} {m : MethodId} {args : Array Value} {below : List Frame} {meth : Method} {c : Code} {G : mmG} {A : Nat → Prop} {res : Int32 × MM} (E0 : mmEnv p m c cL_areCoroutinesRight 10 s args RL G A meth (some (.boolean))) (kk14 : Nat → Nat → Nat → Nat → Int32 → Int32 → MM → Option (Int32 × MM)) (hkk14 : ∀ (h0 : Nat) (h1 : Nat) (h2 : Nat) (h3 : Nat) (x4 : Int32) (x5 : Int32) (μ : MM), kk14 h0 h1 h2 h3 x4 x5 μ = some res → mmGoalA p l e rmL_areCoroutinesRight s m args below meth c G A 2 8 2 8 14 10 [(0, rf h0), (1, rf h1), (2, rf h2), (3, rf h3), (4, .int x4), (5, .int x5)] μ (mmQ G A res.2 (some (.int res.1)))) (kk388 : Nat → Nat → Nat → Nat → Int32 → Int32 → Int32 → Int32 → MM → Option (Int32 × MM)) (hkk388 : ∀ (h0 : Nat) (h1 : Nat) (h2 : Nat) (h3 : Nat) (x4 : Int32) (x5 : Int32) (x6 : Int32) (x9 : Int32) (μ : MM), kk388 h0 h1 h2 h3 x4 x5 x6 x9 μ = some res → mmGoalA p l e rmL_areCoroutinesRight s m args below meth c G A 2 8 2 8 388 10 [(0, rf h0), (1, rf h1), (2, rf h2), (3, rf h3), (4, .int x4), (5, .int x5), (6, .int x6), (9, .int x9)] μ (mmQ G A res.2 (some (.int res.1)))) : ∀ (h0 : Nat) (h1 : Nat) (h2 : Nat) (h3 : Nat) (x4 : Int32) (x5 : Int32) (x6 : Int32) (x9 : Int32) (μ : MM), bL_areCoroutinesRight_388 kk14 kk388 h0 h1 h2 h3 x4 x5 x6 x9 μ = some res → mmGoalA p l e rmL_areCoroutinesRight s m args below meth c G A 2 8 2 8 388 10 [(0, rf h0), (1, rf h1), (2, rf h2), (3, rf h3), (4, .int x4), (5, .int x5), (6, .int x6), (9, .int x9)] μ (mmQ G A res.2 (some (.int res.1))) := by
  obtain ⟨S, hA, hr, hlocks⟩ := id E0
  intro h0 h1 h2 h3 x4 x5 x6 x9 μ hf H locs ls hR hS hl
  have hK : mmKN μ μ := mmKN.rf
  unfold bL_areCoroutinesRight_388 at hf
  refine lv_iload S.1 S.2.1 dL_areCoroutinesRight_388 (lv_at hl 7 rfl) ?_
  refine lv_iconst (v := 4) S.1 S.2.1 dL_areCoroutinesRight_390 (by decide) ?_
  refine lv_icmp_ge (tgt := 419) S.1 S.2.1 dL_areCoroutinesRight_391 (by decide) (fun c1 => ?_) (fun c1 => ?_)
  · have hf := it_t hf c1
    refine mm_aload_n S dL_areCoroutinesRight_419 rfl (lv_at hl 0 rfl) ?_
    refine lv_iload S.1 S.2.1 dL_areCoroutinesRight_420 (lv_at hl 5 rfl) ?_
    refine lv_iconst (v := 2) S.1 S.2.1 dL_areCoroutinesRight_422 (by decide) ?_
    obtain ⟨g4, hf⟩ := gd hf
    obtain ⟨y2, hy2, hf⟩ := bd hf
    obtain ⟨g3, hf⟩ := gd hf
    refine mm_callVi S hR hS hA (As := [.int x5, .int 2]) (rest := []) cvL_43 (hK.k g4) (kX6_of_c l G A (hK.k g4) hy2 g3) rfl rfl ⟨Nat.le_of_ble_eq_true rfl, Nat.le_of_ble_eq_true rfl⟩ rfl hl.1 rfl (lv_room (by simp [rf_cat, int_cat, long_cat, dbl_cat])) dL_areCoroutinesRight_423 ⟨Nat.le_of_ble_eq_true rfl, Nat.le_of_ble_eq_true rfl⟩ (fun H locs hR hS => ?_)
    have hK : mmKN μ y2.2.2 := hK.tr (kX6_of_kn hy2)
    refine lv_if_ne (tgt := 473) S.1 S.2.1 dL_areCoroutinesRight_426 (by decide) (fun c5 => ?_) (fun c5 => ?_)
    · have hf := it_f hf c5
      refine lv_iinc (v := (x5 + 1)) (lv' := [(5, .int (x5 + 1)), (0, rf h0), (1, rf h1), (2, rf h2), (3, rf h3), (4, .int x4), (6, .int x6), (9, .int x9)]) S.1 S.2.1 dL_areCoroutinesRight_473 hl (k := 5) rfl (by rfl) (by decide) rfl (fun ls hl => ?_)
      refine lv_goto (tgt := 14) S.1 S.2.1 dL_areCoroutinesRight_476 (by decide) ?_
      exact hkk14 h0 h1 h2 h3 x4 (x5 + 1) y2.2.2 hf _ _ _ hR hS (lv_sub hl [1, 2, 3, 4, 5, 0] rfl)
    · have hf := it_t hf c5
      refine mm_aload_n S dL_areCoroutinesRight_429 rfl (lv_at hl 0 rfl) ?_
      refine lv_iload S.1 S.2.1 dL_areCoroutinesRight_430 (lv_at hl 5 rfl) ?_
      obtain ⟨y6, hy6, hf⟩ := bd hf
      obtain ⟨g7, hf⟩ := gd hf
      refine mm_callVi S hR hS hA (As := [.int x5]) (rest := []) cvL_117 (hK.k g4) (kX6_left_c l G A (hK.k g4) hy6 g7) rfl rfl ⟨Nat.le_of_ble_eq_true rfl, Nat.le_of_ble_eq_true rfl⟩ rfl hl.1 rfl (lv_room (by simp [rf_cat, int_cat, long_cat, dbl_cat])) dL_areCoroutinesRight_432 ⟨Nat.le_of_ble_eq_true rfl, Nat.le_of_ble_eq_true rfl⟩ (fun H locs hR hS => ?_)
      have hK : mmKN μ y6.2.2 := hK.tr (kX6_left_kn hy6)
      refine lv_if_lt (tgt := 471) S.1 S.2.1 dL_areCoroutinesRight_435 (by decide) (fun c8 => ?_) (fun c8 => ?_)
      · have hf := it_t hf c8
        refine lv_iconst (v := 0) S.1 S.2.1 dL_areCoroutinesRight_471 (by decide) ?_
        obtain rfl := Option.some.inj hf
        refine W.widen (k := 2) (n := 8) (Nat.le_of_ble_eq_true rfl) (Nat.le_of_ble_eq_true rfl) ?_
        exact mm_zret S hR hS hr hlocks (Or.inl rfl) dL_areCoroutinesRight_472
      · have hf := it_f hf c8
        refine mm_aload_n S dL_areCoroutinesRight_438 rfl (lv_at hl 0 rfl) ?_
        refine lv_iload S.1 S.2.1 dL_areCoroutinesRight_439 (lv_at hl 5 rfl) ?_
        obtain ⟨y9, hy9, hf⟩ := bd hf
        obtain ⟨g10, hf⟩ := gd hf
        refine mm_callVi S hR hS hA (As := [.int x5]) (rest := []) cvL_117 (hK.k g4) (kX6_left_c l G A (hK.k g4) hy9 g10) rfl rfl ⟨Nat.le_of_ble_eq_true rfl, Nat.le_of_ble_eq_true rfl⟩ rfl hl.1 rfl (lv_room (by simp [rf_cat, int_cat, long_cat, dbl_cat])) dL_areCoroutinesRight_441 ⟨Nat.le_of_ble_eq_true rfl, Nat.le_of_ble_eq_true rfl⟩ (fun H locs hR hS => ?_)
        have hK : mmKN μ y9.2.2 := hK.tr (kX6_left_kn hy9)
        refine lv_bipush (v := 20) S.1 S.2.1 dL_areCoroutinesRight_444 (by decide) ?_
        refine lv_icmp_gt (tgt := 471) S.1 S.2.1 dL_areCoroutinesRight_446 (by decide) (fun c11 => ?_) (fun c11 => ?_)
        · have hf := it_t hf c11
          refine lv_iconst (v := 0) S.1 S.2.1 dL_areCoroutinesRight_471 (by decide) ?_
          obtain rfl := Option.some.inj hf
          refine W.widen (k := 2) (n := 8) (Nat.le_of_ble_eq_true rfl) (Nat.le_of_ble_eq_true rfl) ?_
          exact mm_zret S hR hS hr hlocks (Or.inl rfl) dL_areCoroutinesRight_472
        · have hf := it_f hf c11
          refine lv_iload S.1 S.2.1 dL_areCoroutinesRight_449 (lv_at hl 6 rfl) ?_
          refine lv_iconst (v := 2) S.1 S.2.1 dL_areCoroutinesRight_451 (by decide) ?_
          refine lv_icmp_le (tgt := 473) S.1 S.2.1 dL_areCoroutinesRight_452 (by decide) (fun c12 => ?_) (fun c12 => ?_)
          · have hf := it_t hf c12
            refine lv_iinc (v := (x5 + 1)) (lv' := [(5, .int (x5 + 1)), (0, rf h0), (1, rf h1), (2, rf h2), (3, rf h3), (4, .int x4), (6, .int x6), (9, .int x9)]) S.1 S.2.1 dL_areCoroutinesRight_473 hl (k := 5) rfl (by rfl) (by decide) rfl (fun ls hl => ?_)
            refine lv_goto (tgt := 14) S.1 S.2.1 dL_areCoroutinesRight_476 (by decide) ?_
            exact hkk14 h0 h1 h2 h3 x4 (x5 + 1) y9.2.2 hf _ _ _ hR hS (lv_sub hl [1, 2, 3, 4, 5, 0] rfl)
          · have hf := it_f hf c12
            refine mm_aload_n S dL_areCoroutinesRight_455 rfl (lv_at hl 0 rfl) ?_
            refine lv_iload S.1 S.2.1 dL_areCoroutinesRight_456 (lv_at hl 5 rfl) ?_
            obtain ⟨y13, hy13, hf⟩ := bd hf
            obtain ⟨g14, hf⟩ := gd hf
            refine mm_callVi S hR hS hA (As := [.int x5]) (rest := []) cvL_117 (hK.k g4) (kX6_left_c l G A (hK.k g4) hy13 g14) rfl rfl ⟨Nat.le_of_ble_eq_true rfl, Nat.le_of_ble_eq_true rfl⟩ rfl hl.1 rfl (lv_room (by simp [rf_cat, int_cat, long_cat, dbl_cat])) dL_areCoroutinesRight_458 ⟨Nat.le_of_ble_eq_true rfl, Nat.le_of_ble_eq_true rfl⟩ (fun H locs hR hS => ?_)
            have hK : mmKN μ y13.2.2 := hK.tr (kX6_left_kn hy13)
            refine mm_aload_n S dL_areCoroutinesRight_461 rfl (lv_at hl 0 rfl) ?_
            refine lv_iload S.1 S.2.1 dL_areCoroutinesRight_462 (lv_at hl 5 rfl) ?_
            obtain ⟨y15, hy15, hf⟩ := bd hf
            obtain ⟨g16, hf⟩ := gd hf
            refine mm_callVi S hR hS hA (As := [.int x5]) (rest := [.int y13.2.1]) cvL_84 (hK.k g4) (kX6_wouldClose_c l G A (hK.k g4) hy15 g16) rfl rfl ⟨Nat.le_of_ble_eq_true rfl, Nat.le_of_ble_eq_true rfl⟩ rfl hl.1 rfl (lv_room (by simp [rf_cat, int_cat, long_cat, dbl_cat])) dL_areCoroutinesRight_464 ⟨Nat.le_of_ble_eq_true rfl, Nat.le_of_ble_eq_true rfl⟩ (fun H locs hR hS => ?_)
            have hK : mmKN μ y15.2.2 := hK.tr (kX6_wouldClose_kn hy15)
            refine lv_iadd S.1 S.2.1 dL_areCoroutinesRight_467 ?_
            refine lv_if_eq (tgt := 473) S.1 S.2.1 dL_areCoroutinesRight_468 (by decide) (fun c17 => ?_) (fun c17 => ?_)
            · have hf := it_t hf c17
              refine lv_iinc (v := (x5 + 1)) (lv' := [(5, .int (x5 + 1)), (0, rf h0), (1, rf h1), (2, rf h2), (3, rf h3), (4, .int x4), (6, .int x6), (9, .int x9)]) S.1 S.2.1 dL_areCoroutinesRight_473 hl (k := 5) rfl (by rfl) (by decide) rfl (fun ls hl => ?_)
              refine lv_goto (tgt := 14) S.1 S.2.1 dL_areCoroutinesRight_476 (by decide) ?_
              exact hkk14 h0 h1 h2 h3 x4 (x5 + 1) y15.2.2 hf _ _ _ hR hS (lv_sub hl [1, 2, 3, 4, 5, 0] rfl)
            · have hf := it_f hf c17
              refine lv_iconst (v := 0) S.1 S.2.1 dL_areCoroutinesRight_471 (by decide) ?_
              obtain rfl := Option.some.inj hf
              refine W.widen (k := 2) (n := 8) (Nat.le_of_ble_eq_true rfl) (Nat.le_of_ble_eq_true rfl) ?_
              exact mm_zret S hR hS hr hlocks (Or.inl rfl) dL_areCoroutinesRight_472
  · have hf := it_f hf c1
    refine mm_aload_n S dL_areCoroutinesRight_394 rfl (lv_at hl 0 rfl) ?_
    refine lv_iload S.1 S.2.1 dL_areCoroutinesRight_395 (lv_at hl 5 rfl) ?_
    refine lv_iload S.1 S.2.1 dL_areCoroutinesRight_397 (lv_at hl 7 rfl) ?_
    obtain ⟨g20, hf⟩ := gd hf
    obtain ⟨y18, hy18, hf⟩ := bd hf
    obtain ⟨g19, hf⟩ := gd hf
    refine mm_callVi S hR hS hA (As := [.int x5, .int x9]) (rest := []) cvL_111 (hK.k g20) (kX6_local_c l G A (hK.k g20) hy18 g19) rfl rfl ⟨Nat.le_of_ble_eq_true rfl, Nat.le_of_ble_eq_true rfl⟩ rfl hl.1 rfl (lv_room (by simp [rf_cat, int_cat, long_cat, dbl_cat])) dL_areCoroutinesRight_399 ⟨Nat.le_of_ble_eq_true rfl, Nat.le_of_ble_eq_true rfl⟩ (fun H locs hR hS => ?_)
    have hK : mmKN μ y18.2.2 := hK.tr (kX6_local_kn hy18)
    refine mm_abs S maL_114 hl.1 (Nat.le_of_ble_eq_true rfl) (by simp [rf_cat, int_cat, long_cat, dbl_cat]) ⟨Nat.le_of_ble_eq_true rfl, Nat.le_of_ble_eq_true rfl⟩ dL_areCoroutinesRight_402 ?_
    refine lv_sipush (v := 9999) S.1 S.2.1 dL_areCoroutinesRight_405 (by decide) ?_
    refine lv_icmp_le (tgt := 413) S.1 S.2.1 dL_areCoroutinesRight_408 (by decide) (fun c21 => ?_) (fun c21 => ?_)
    · have hf := it_t hf c21
      refine lv_iinc (v := (x9 + 1)) (lv' := [(9, .int (x9 + 1)), (0, rf h0), (1, rf h1), (2, rf h2), (3, rf h3), (4, .int x4), (5, .int x5), (6, .int x6)]) S.1 S.2.1 dL_areCoroutinesRight_413 hl (k := 7) rfl (by rfl) (by decide) rfl (fun ls hl => ?_)
      refine lv_goto (tgt := 388) S.1 S.2.1 dL_areCoroutinesRight_416 (by decide) ?_
      exact hkk388 h0 h1 h2 h3 x4 x5 x6 (x9 + 1) y18.2.2 hf _ _ _ hR hS (lv_sub hl [1, 2, 3, 4, 5, 6, 7, 0] rfl)
    · have hf := it_f hf c21
      refine lv_iconst (v := 0) S.1 S.2.1 dL_areCoroutinesRight_411 (by decide) ?_
      obtain rfl := Option.some.inj hf
      refine W.widen (k := 2) (n := 8) (Nat.le_of_ble_eq_true rfl) (Nat.le_of_ble_eq_true rfl) ?_
      exact mm_zret S hR hS hr hlocks (Or.inl rfl) dL_areCoroutinesRight_412
theorem wlL_areCoroutinesRight_388 {p : Program} {l : Launch} {e : Env} {s : State} {m : MethodId} {args : Array Value} {below : List Frame} {meth : Method} {c : Code} {G : mmG} {A : Nat → Prop} {res : Int32 × MM} (E0 : mmEnv p m c cL_areCoroutinesRight 10 s args RL G A meth (some (.boolean))) (kk14 : Nat → Nat → Nat → Nat → Int32 → Int32 → MM → Option (Int32 × MM)) (hkk14 : ∀ (h0 : Nat) (h1 : Nat) (h2 : Nat) (h3 : Nat) (x4 : Int32) (x5 : Int32) (μ : MM), kk14 h0 h1 h2 h3 x4 x5 μ = some res → mmGoalA p l e rmL_areCoroutinesRight s m args below meth c G A 2 8 2 8 14 10 [(0, rf h0), (1, rf h1), (2, rf h2), (3, rf h3), (4, .int x4), (5, .int x5)] μ (mmQ G A res.2 (some (.int res.1)))) : ∀ (n : Nat) (h0 : Nat) (h1 : Nat) (h2 : Nat) (h3 : Nat) (x4 : Int32) (x5 : Int32) (x6 : Int32) (x9 : Int32) (μ : MM), lL_areCoroutinesRight_388 kk14 n h0 h1 h2 h3 x4 x5 x6 x9 μ = some res → mmGoalA p l e rmL_areCoroutinesRight s m args below meth c G A 2 8 2 8 388 10 [(0, rf h0), (1, rf h1), (2, rf h2), (3, rf h3), (4, .int x4), (5, .int x5), (6, .int x6), (9, .int x9)] μ (mmQ G A res.2 (some (.int res.1))) := by
  intro n
  induction n with
  | zero => intro h0 h1 h2 h3 x4 x5 x6 x9 μ hf; cases hf
  | succ n ih => intro h0 h1 h2 h3 x4 x5 x6 x9 μ hf; exact wbL_areCoroutinesRight_388 E0 kk14 hkk14 _ ih h0 h1 h2 h3 x4 x5 x6 x9 μ hf
set_option maxRecDepth 100000 in
set_option maxHeartbeats 4000000 in
theorem wbL_areCoroutinesRight_328 {p : Program} {l : Launch} {e : Env} {s : State} {m : MethodId} {args : Array Value} {below : List Frame} {meth : Method} {c : Code} {G : mmG} {A : Nat → Prop} {res : Int32 × MM} (E0 : mmEnv p m c cL_areCoroutinesRight 10 s args RL G A meth (some (.boolean))) (kk14 : Nat → Nat → Nat → Nat → Int32 → Int32 → MM → Option (Int32 × MM)) (hkk14 : ∀ (h0 : Nat) (h1 : Nat) (h2 : Nat) (h3 : Nat) (x4 : Int32) (x5 : Int32) (μ : MM), kk14 h0 h1 h2 h3 x4 x5 μ = some res → mmGoalA p l e rmL_areCoroutinesRight s m args below meth c G A 2 8 2 8 14 10 [(0, rf h0), (1, rf h1), (2, rf h2), (3, rf h3), (4, .int x4), (5, .int x5)] μ (mmQ G A res.2 (some (.int res.1)))) (kk328 : Nat → Nat → Nat → Nat → Int32 → Int32 → Int32 → Int32 → MM → Option (Int32 × MM)) (hkk328 : ∀ (h0 : Nat) (h1 : Nat) (h2 : Nat) (h3 : Nat) (x4 : Int32) (x5 : Int32) (x6 : Int32) (x9 : Int32) (μ : MM), kk328 h0 h1 h2 h3 x4 x5 x6 x9 μ = some res → mmGoalA p l e rmL_areCoroutinesRight s m args below meth c G A 2 8 2 8 328 10 [(0, rf h0), (1, rf h1), (2, rf h2), (3, rf h3), (4, .int x4), (5, .int x5), (6, .int x6), (9, .int x9)] μ (mmQ G A res.2 (some (.int res.1)))) : ∀ (h0 : Nat) (h1 : Nat) (h2 : Nat) (h3 : Nat) (x4 : Int32) (x5 : Int32) (x6 : Int32) (x9 : Int32) (μ : MM), bL_areCoroutinesRight_328 kk14 kk328 h0 h1 h2 h3 x4 x5 x6 x9 μ = some res → mmGoalA p l e rmL_areCoroutinesRight s m args below meth c G A 2 8 2 8 328 10 [(0, rf h0), (1, rf h1), (2, rf h2), (3, rf h3), (4, .int x4), (5, .int x5), (6, .int x6), (9, .int x9)] μ (mmQ G A res.2 (some (.int res.1))) := by
  obtain ⟨S, hA, hr, hlocks⟩ := id E0
  intro h0 h1 h2 h3 x4 x5 x6 x9 μ hf H locs ls hR hS hl
  have hK : mmKN μ μ := mmKN.rf
  unfold bL_areCoroutinesRight_328 at hf
  refine lv_iload S.1 S.2.1 dL_areCoroutinesRight_328 (lv_at hl 7 rfl) ?_
  refine mm_aload_n S dL_areCoroutinesRight_330 rfl (lv_at hl 0 rfl) ?_
  refine lv_iload S.1 S.2.1 dL_areCoroutinesRight_331 (lv_at hl 5 rfl) ?_
  refine lv_iconst (v := 5) S.1 S.2.1 dL_areCoroutinesRight_333 (by decide) ?_
  obtain ⟨g3, hf⟩ := gd hf
  obtain ⟨y1, hy1, hf⟩ := bd hf
  obtain ⟨g2, hf⟩ := gd hf
  refine mm_callVi S hR hS hA (As := [.int x5, .int 5]) (rest := [.int x9]) cvL_43 (hK.k g3) (kX6_of_c l G A (hK.k g3) hy1 g2) rfl rfl ⟨Nat.le_of_ble_eq_true rfl, Nat.le_of_ble_eq_true rfl⟩ rfl hl.1 rfl (lv_room (by simp [rf_cat, int_cat, long_cat, dbl_cat])) dL_areCoroutinesRight_334 ⟨Nat.le_of_ble_eq_true rfl, Nat.le_of_ble_eq_true rfl⟩ (fun H locs hR hS => ?_)
  have hK : mmKN μ y1.2.2 := hK.tr (kX6_of_kn hy1)
  refine lv_icmp_ge (tgt := 385) S.1 S.2.1 dL_areCoroutinesRight_337 (by decide) (fun c4 => ?_) (fun c4 => ?_)
  · have hf := it_t hf c4
    refine lv_iconst (v := 0) S.1 S.2.1 dL_areCoroutinesRight_385 (by decide) ?_
    refine lv_istore (i := 9) (lv' := [(9, .int 0), (0, rf h0), (1, rf h1), (2, rf h2), (3, rf h3), (4, .int x4), (5, .int x5), (6, .int x6)]) S.1 S.2.1 dL_areCoroutinesRight_386 hl (by decide) rfl (fun ls hl => ?_)
    exact wlL_areCoroutinesRight_388 E0 kk14 hkk14 FU h0 h1 h2 h3 x4 x5 x6 0 y1.2.2 hf _ _ _ hR hS (lv_sub hl [1, 2, 3, 4, 5, 6, 7, 0] rfl)
  · have hf := it_f hf c4
    refine mm_aload_n S dL_areCoroutinesRight_340 rfl (lv_at hl 0 rfl) ?_
    refine lv_iload S.1 S.2.1 dL_areCoroutinesRight_341 (lv_at hl 5 rfl) ?_
    refine lv_iload S.1 S.2.1 dL_areCoroutinesRight_343 (lv_at hl 7 rfl) ?_
    obtain ⟨y5, hy5, hf⟩ := bd hf
    obtain ⟨g6, hf⟩ := gd hf
    refine mm_callVi S hR hS hA (As := [.int x5, .int x9]) (rest := []) cvL_108 (hK.k g3) (kX6_stack_c l G A (hK.k g3) hy5 g6) rfl rfl ⟨Nat.le_of_ble_eq_true rfl, Nat.le_of_ble_eq_true rfl⟩ rfl hl.1 rfl (lv_room (by simp [rf_cat, int_cat, long_cat, dbl_cat])) dL_areCoroutinesRight_345 ⟨Nat.le_of_ble_eq_true rfl, Nat.le_of_ble_eq_true rfl⟩ (fun H locs hR hS => ?_)
    have hK : mmKN μ y5.2.2 := hK.tr (kX6_stack_kn hy5)
    refine lv_bipush (v := (-4)) S.1 S.2.1 dL_areCoroutinesRight_348 (by decide) ?_
    refine lv_icmp_lt (tgt := 377) S.1 S.2.1 dL_areCoroutinesRight_350 (by decide) (fun c7 => ?_) (fun c7 => ?_)
    · have hf := it_t hf c7
      refine lv_iconst (v := 0) S.1 S.2.1 dL_areCoroutinesRight_377 (by decide) ?_
      obtain rfl := Option.some.inj hf
      refine W.widen (k := 2) (n := 8) (Nat.le_of_ble_eq_true rfl) (Nat.le_of_ble_eq_true rfl) ?_
      exact mm_zret S hR hS hr hlocks (Or.inl rfl) dL_areCoroutinesRight_378
    · have hf := it_f hf c7
      refine mm_aload_n S dL_areCoroutinesRight_353 rfl (lv_at hl 0 rfl) ?_
      refine lv_iload S.1 S.2.1 dL_areCoroutinesRight_354 (lv_at hl 5 rfl) ?_
      refine lv_iload S.1 S.2.1 dL_areCoroutinesRight_356 (lv_at hl 7 rfl) ?_
      obtain ⟨y8, hy8, hf⟩ := bd hf
      obtain ⟨g9, hf⟩ := gd hf
      refine mm_callVi S hR hS hA (As := [.int x5, .int x9]) (rest := []) cvL_108 (hK.k g3) (kX6_stack_c l G A (hK.k g3) hy8 g9) rfl rfl ⟨Nat.le_of_ble_eq_true rfl, Nat.le_of_ble_eq_true rfl⟩ rfl hl.1 rfl (lv_room (by simp [rf_cat, int_cat, long_cat, dbl_cat])) dL_areCoroutinesRight_358 ⟨Nat.le_of_ble_eq_true rfl, Nat.le_of_ble_eq_true rfl⟩ (fun H locs hR hS => ?_)
      have hK : mmKN μ y8.2.2 := hK.tr (kX6_stack_kn hy8)
      refine lv_bipush (v := 11) S.1 S.2.1 dL_areCoroutinesRight_361 (by decide) ?_
      refine lv_icmp_gt (tgt := 377) S.1 S.2.1 dL_areCoroutinesRight_363 (by decide) (fun c10 => ?_) (fun c10 => ?_)
      · have hf := it_t hf c10
        refine lv_iconst (v := 0) S.1 S.2.1 dL_areCoroutinesRight_377 (by decide) ?_
        obtain rfl := Option.some.inj hf
        refine W.widen (k := 2) (n := 8) (Nat.le_of_ble_eq_true rfl) (Nat.le_of_ble_eq_true rfl) ?_
        exact mm_zret S hR hS hr hlocks (Or.inl rfl) dL_areCoroutinesRight_378
      · have hf := it_f hf c10
        refine mm_aload_n S dL_areCoroutinesRight_366 rfl (lv_at hl 0 rfl) ?_
        refine lv_iload S.1 S.2.1 dL_areCoroutinesRight_367 (lv_at hl 5 rfl) ?_
        refine lv_iload S.1 S.2.1 dL_areCoroutinesRight_369 (lv_at hl 7 rfl) ?_
        obtain ⟨y11, hy11, hf⟩ := bd hf
        obtain ⟨g12, hf⟩ := gd hf
        refine mm_callVi S hR hS hA (As := [.int x5, .int x9]) (rest := []) cvL_108 (hK.k g3) (kX6_stack_c l G A (hK.k g3) hy11 g12) rfl rfl ⟨Nat.le_of_ble_eq_true rfl, Nat.le_of_ble_eq_true rfl⟩ rfl hl.1 rfl (lv_room (by simp [rf_cat, int_cat, long_cat, dbl_cat])) dL_areCoroutinesRight_371 ⟨Nat.le_of_ble_eq_true rfl, Nat.le_of_ble_eq_true rfl⟩ (fun H locs hR hS => ?_)
        have hK : mmKN μ y11.2.2 := hK.tr (kX6_stack_kn hy11)
        refine lv_if_ne (tgt := 379) S.1 S.2.1 dL_areCoroutinesRight_374 (by decide) (fun c13 => ?_) (fun c13 => ?_)
        · have hf := it_f hf c13
          refine lv_iinc (v := (x9 + 1)) (lv' := [(9, .int (x9 + 1)), (0, rf h0), (1, rf h1), (2, rf h2), (3, rf h3), (4, .int x4), (5, .int x5), (6, .int x6)]) S.1 S.2.1 dL_areCoroutinesRight_379 hl (k := 7) rfl (by rfl) (by decide) rfl (fun ls hl => ?_)
          refine lv_goto (tgt := 328) S.1 S.2.1 dL_areCoroutinesRight_382 (by decide) ?_
          exact hkk328 h0 h1 h2 h3 x4 x5 x6 (x9 + 1) y11.2.2 hf _ _ _ hR hS (lv_sub hl [1, 2, 3, 4, 5, 6, 7, 0] rfl)
        · have hf := it_t hf c13
          refine lv_iconst (v := 0) S.1 S.2.1 dL_areCoroutinesRight_377 (by decide) ?_
          obtain rfl := Option.some.inj hf
          refine W.widen (k := 2) (n := 8) (Nat.le_of_ble_eq_true rfl) (Nat.le_of_ble_eq_true rfl) ?_
          exact mm_zret S hR hS hr hlocks (Or.inl rfl) dL_areCoroutinesRight_378
theorem wlL_areCoroutinesRight_328 {p : Program} {l : Launch} {e : Env} {s : State} {m : MethodId} {args : Array Value} {below : List Frame} {meth : Method} {c : Code} {G : mmG} {A : Nat → Prop} {res : Int32 × MM} (E0 : mmEnv p m c cL_areCoroutinesRight 10 s args RL G A meth (some (.boolean))) (kk14 : Nat → Nat → Nat → Nat → Int32 → Int32 → MM → Option (Int32 × MM)) (hkk14 : ∀ (h0 : Nat) (h1 : Nat) (h2 : Nat) (h3 : Nat) (x4 : Int32) (x5 : Int32) (μ : MM), kk14 h0 h1 h2 h3 x4 x5 μ = some res → mmGoalA p l e rmL_areCoroutinesRight s m args below meth c G A 2 8 2 8 14 10 [(0, rf h0), (1, rf h1), (2, rf h2), (3, rf h3), (4, .int x4), (5, .int x5)] μ (mmQ G A res.2 (some (.int res.1)))) : ∀ (n : Nat) (h0 : Nat) (h1 : Nat) (h2 : Nat) (h3 : Nat) (x4 : Int32) (x5 : Int32) (x6 : Int32) (x9 : Int32) (μ : MM), lL_areCoroutinesRight_328 kk14 n h0 h1 h2 h3 x4 x5 x6 x9 μ = some res → mmGoalA p l e rmL_areCoroutinesRight s m args below meth c G A 2 8 2 8 328 10 [(0, rf h0), (1, rf h1), (2, rf h2), (3, rf h3), (4, .int x4), (5, .int x5), (6, .int x6), (9, .int x9)] μ (mmQ G A res.2 (some (.int res.1))) := by
  intro n
  induction n with
  | zero => intro h0 h1 h2 h3 x4 x5 x6 x9 μ hf; cases hf
  | succ n ih => intro h0 h1 h2 h3 x4 x5 x6 x9 μ hf; exact wbL_areCoroutinesRight_328 E0 kk14 hkk14 _ ih h0 h1 h2 h3 x4 x5 x6 x9 μ hf
set_option maxRecDepth 100000 in
set_option maxHeartbeats 4000000 in
theorem wbL_areCoroutinesRight_262 {p : Program} {l : Launch} {e : Env} {s : State} {m : MethodId} {args : Array Value} {below : List Frame} {meth : Method} {c : Code} {G : mmG} {A : Nat → Prop} {res : Int32 × MM} (E0 : mmEnv p m c cL_areCoroutinesRight 10 s args RL G A meth (some (.boolean))) (kk14 : Nat → Nat → Nat → Nat → Int32 → Int32 → MM → Option (Int32 × MM)) (hkk14 : ∀ (h0 : Nat) (h1 : Nat) (h2 : Nat) (h3 : Nat) (x4 : Int32) (x5 : Int32) (μ : MM), kk14 h0 h1 h2 h3 x4 x5 μ = some res → mmGoalA p l e rmL_areCoroutinesRight s m args below meth c G A 2 8 2 8 14 10 [(0, rf h0), (1, rf h1), (2, rf h2), (3, rf h3), (4, .int x4), (5, .int x5)] μ (mmQ G A res.2 (some (.int res.1)))) : ∀ (h0 : Nat) (h1 : Nat) (h2 : Nat) (h3 : Nat) (x4 : Int32) (x5 : Int32) (x6 : Int32) (x7 : Int32) (x8 : Int32) (μ : MM), bL_areCoroutinesRight_262 kk14 h0 h1 h2 h3 x4 x5 x6 x7 x8 μ = some res → mmGoalA p l e rmL_areCoroutinesRight s m args below meth c G A 2 8 2 8 262 10 [(0, rf h0), (1, rf h1), (2, rf h2), (3, rf h3), (4, .int x4), (5, .int x5), (6, .int x6), (7, .int x7), (8, .int x8)] μ (mmQ G A res.2 (some (.int res.1))) := by
  obtain ⟨S, hA, hr, hlocks⟩ := id E0
  intro h0 h1 h2 h3 x4 x5 x6 x7 x8 μ hf H locs ls hR hS hl
  have hK : mmKN μ μ := mmKN.rf
  unfold bL_areCoroutinesRight_262 at hf
  refine lv_iload S.1 S.2.1 dL_areCoroutinesRight_262 (lv_at hl 8 rfl) ?_
  refine lv_if_lt (tgt := 325) S.1 S.2.1 dL_areCoroutinesRight_264 (by decide) (fun c1 => ?_) (fun c1 => ?_)
  · have hf := it_t hf c1
    refine lv_iconst (v := 0) S.1 S.2.1 dL_areCoroutinesRight_325 (by decide) ?_
    refine lv_istore (i := 9) (lv' := [(9, .int 0), (0, rf h0), (1, rf h1), (2, rf h2), (3, rf h3), (4, .int x4), (5, .int x5), (6, .int x6), (7, .int x7), (8, .int x8)]) S.1 S.2.1 dL_areCoroutinesRight_326 hl (by decide) rfl (fun ls hl => ?_)
    exact wlL_areCoroutinesRight_328 E0 kk14 hkk14 FU h0 h1 h2 h3 x4 x5 x6 0 μ hf _ _ _ hR hS (lv_sub hl [1, 2, 3, 4, 5, 6, 7, 0] rfl)
  · have hf := it_f hf c1
    refine mm_aload_n S dL_areCoroutinesRight_267 rfl (lv_at hl 0 rfl) ?_
    refine lv_iload S.1 S.2.1 dL_areCoroutinesRight_268 (lv_at hl 8 rfl) ?_
    refine lv_iconst (v := 2) S.1 S.2.1 dL_areCoroutinesRight_270 (by decide) ?_
    obtain ⟨g4, hf⟩ := gd hf
    obtain ⟨y2, hy2, hf⟩ := bd hf
    obtain ⟨g3, hf⟩ := gd hf
    refine mm_callVi S hR hS hA (As := [.int x8, .int 2]) (rest := []) cvL_43 (hK.k g4) (kX6_of_c l G A (hK.k g4) hy2 g3) rfl rfl ⟨Nat.le_of_ble_eq_true rfl, Nat.le_of_ble_eq_true rfl⟩ rfl hl.1 rfl (lv_room (by simp [rf_cat, int_cat, long_cat, dbl_cat])) dL_areCoroutinesRight_271 ⟨Nat.le_of_ble_eq_true rfl, Nat.le_of_ble_eq_true rfl⟩ (fun H locs hR hS => ?_)
    have hK : mmKN μ y2.2.2 := hK.tr (kX6_of_kn hy2)
    refine lv_iconst (v := 2) S.1 S.2.1 dL_areCoroutinesRight_274 (by decide) ?_
    refine lv_icmp_ne (tgt := 323) S.1 S.2.1 dL_areCoroutinesRight_275 (by decide) (fun c5 => ?_) (fun c5 => ?_)
    · have hf := it_f hf c5
      refine lv_iconst (v := 0) S.1 S.2.1 dL_areCoroutinesRight_323 (by decide) ?_
      obtain rfl := Option.some.inj hf
      refine W.widen (k := 2) (n := 8) (Nat.le_of_ble_eq_true rfl) (Nat.le_of_ble_eq_true rfl) ?_
      exact mm_zret S hR hS hr hlocks (Or.inl rfl) dL_areCoroutinesRight_324
    · have hf := it_t hf c5
      refine mm_aload_n S dL_areCoroutinesRight_278 rfl (lv_at hl 0 rfl) ?_
      refine lv_iload S.1 S.2.1 dL_areCoroutinesRight_279 (lv_at hl 8 rfl) ?_
      refine lv_iconst (v := 1) S.1 S.2.1 dL_areCoroutinesRight_281 (by decide) ?_
      obtain ⟨y6, hy6, hf⟩ := bd hf
      obtain ⟨g7, hf⟩ := gd hf
      refine mm_callVi S hR hS hA (As := [.int x8, .int 1]) (rest := []) cvL_43 (hK.k g4) (kX6_of_c l G A (hK.k g4) hy6 g7) rfl rfl ⟨Nat.le_of_ble_eq_true rfl, Nat.le_of_ble_eq_true rfl⟩ rfl hl.1 rfl (lv_room (by simp [rf_cat, int_cat, long_cat, dbl_cat])) dL_areCoroutinesRight_282 ⟨Nat.le_of_ble_eq_true rfl, Nat.le_of_ble_eq_true rfl⟩ (fun H locs hR hS => ?_)
      have hK : mmKN μ y6.2.2 := hK.tr (kX6_of_kn hy6)
      refine lv_iconst (v := 1) S.1 S.2.1 dL_areCoroutinesRight_285 (by decide) ?_
      refine lv_icmp_ne (tgt := 323) S.1 S.2.1 dL_areCoroutinesRight_286 (by decide) (fun c8 => ?_) (fun c8 => ?_)
      · have hf := it_f hf c8
        refine lv_iconst (v := 0) S.1 S.2.1 dL_areCoroutinesRight_323 (by decide) ?_
        obtain rfl := Option.some.inj hf
        refine W.widen (k := 2) (n := 8) (Nat.le_of_ble_eq_true rfl) (Nat.le_of_ble_eq_true rfl) ?_
        exact mm_zret S hR hS hr hlocks (Or.inl rfl) dL_areCoroutinesRight_324
      · have hf := it_t hf c8
        refine lv_iload S.1 S.2.1 dL_areCoroutinesRight_289 (lv_at hl 8 rfl) ?_
        refine lv_iload S.1 S.2.1 dL_areCoroutinesRight_291 (lv_at hl 5 rfl) ?_
        refine lv_icmp_le (tgt := 323) S.1 S.2.1 dL_areCoroutinesRight_293 (by decide) (fun c9 => ?_) (fun c9 => ?_)
        · have hf := it_t hf c9
          refine lv_iconst (v := 0) S.1 S.2.1 dL_areCoroutinesRight_323 (by decide) ?_
          obtain rfl := Option.some.inj hf
          refine W.widen (k := 2) (n := 8) (Nat.le_of_ble_eq_true rfl) (Nat.le_of_ble_eq_true rfl) ?_
          exact mm_zret S hR hS hr hlocks (Or.inl rfl) dL_areCoroutinesRight_324
        · have hf := it_f hf c9
          refine mm_aload_n S dL_areCoroutinesRight_296 rfl (lv_at hl 0 rfl) ?_
          refine lv_iload S.1 S.2.1 dL_areCoroutinesRight_297 (lv_at hl 8 rfl) ?_
          refine lv_iconst (v := 0) S.1 S.2.1 dL_areCoroutinesRight_299 (by decide) ?_
          obtain ⟨y10, hy10, hf⟩ := bd hf
          obtain ⟨g11, hf⟩ := gd hf
          refine mm_callVi S hR hS hA (As := [.int x8, .int 0]) (rest := []) cvL_43 (hK.k g4) (kX6_of_c l G A (hK.k g4) hy10 g11) rfl rfl ⟨Nat.le_of_ble_eq_true rfl, Nat.le_of_ble_eq_true rfl⟩ rfl hl.1 rfl (lv_room (by simp [rf_cat, int_cat, long_cat, dbl_cat])) dL_areCoroutinesRight_300 ⟨Nat.le_of_ble_eq_true rfl, Nat.le_of_ble_eq_true rfl⟩ (fun H locs hR hS => ?_)
          have hK : mmKN μ y10.2.2 := hK.tr (kX6_of_kn hy10)
          refine mm_aload_n S dL_areCoroutinesRight_303 rfl (lv_at hl 1 rfl) ?_
          obtain ⟨g12, hf⟩ := gd hf
          refine mm_getp S hR fdL_104 (hK.k g12) rfl dL_areCoroutinesRight_304 ?_
          refine mm_aload_n S dL_areCoroutinesRight_307 rfl (lv_at hl 0 rfl) ?_
          refine lv_iload S.1 S.2.1 dL_areCoroutinesRight_308 (lv_at hl 5 rfl) ?_
          refine lv_iconst (v := 0) S.1 S.2.1 dL_areCoroutinesRight_310 (by decide) ?_
          obtain ⟨y13, hy13, hf⟩ := bd hf
          obtain ⟨g14, hf⟩ := gd hf
          refine mm_callVi S hR hS hA (As := [.int x5, .int 0]) (rest := [rf (mP y10.2.2 h1 0), .int y10.2.1]) cvL_43 (hK.k g4) (kX6_of_c l G A (hK.k g4) hy13 g14) rfl rfl ⟨Nat.le_of_ble_eq_true rfl, Nat.le_of_ble_eq_true rfl⟩ rfl hl.1 rfl (lv_room (by simp [rf_cat, int_cat, long_cat, dbl_cat])) dL_areCoroutinesRight_311 ⟨Nat.le_of_ble_eq_true rfl, Nat.le_of_ble_eq_true rfl⟩ (fun H locs hR hS => ?_)
          have hK : mmKN μ y13.2.2 := hK.tr (kX6_of_kn hy13)
          obtain ⟨g15, hf⟩ := gd hf
          obtain ⟨g16, hf⟩ := gd hf
          refine mm_aaldA (k := 25) (t := 5) S hR (hK.k g15) (by decide) (by decide) rfl g16 dL_areCoroutinesRight_314 ?_
          refine lv_iload S.1 S.2.1 dL_areCoroutinesRight_315 (lv_at hl 7 rfl) ?_
          obtain ⟨g17, hf⟩ := gd hf
          obtain ⟨g18, hf⟩ := gd hf
          refine mm_aaldA (k := 24) (t := 4) S hR (hK.k g17) (by decide) (by decide) rfl g18 dL_areCoroutinesRight_317 ?_
          refine lv_iconst (v := 1) S.1 S.2.1 dL_areCoroutinesRight_318 (by decide) ?_
          obtain ⟨g19, hf⟩ := gd hf
          obtain ⟨g20, hf⟩ := gd hf
          refine mm_iald S hR (hK.k g19) g20 dL_areCoroutinesRight_319 ?_
          refine lv_icmp_eq (tgt := 325) S.1 S.2.1 dL_areCoroutinesRight_320 (by decide) (fun c21 => ?_) (fun c21 => ?_)
          · have hf := it_t hf c21
            refine lv_iconst (v := 0) S.1 S.2.1 dL_areCoroutinesRight_325 (by decide) ?_
            refine lv_istore (i := 9) (lv' := [(9, .int 0), (0, rf h0), (1, rf h1), (2, rf h2), (3, rf h3), (4, .int x4), (5, .int x5), (6, .int x6), (7, .int x7), (8, .int x8)]) S.1 S.2.1 dL_areCoroutinesRight_326 hl (by decide) rfl (fun ls hl => ?_)
            exact wlL_areCoroutinesRight_328 E0 kk14 hkk14 FU h0 h1 h2 h3 x4 x5 x6 0 y13.2.2 hf _ _ _ hR hS (lv_sub hl [1, 2, 3, 4, 5, 6, 7, 0] rfl)
          · have hf := it_f hf c21
            refine lv_iconst (v := 0) S.1 S.2.1 dL_areCoroutinesRight_323 (by decide) ?_
            obtain rfl := Option.some.inj hf
            refine W.widen (k := 2) (n := 8) (Nat.le_of_ble_eq_true rfl) (Nat.le_of_ble_eq_true rfl) ?_
            exact mm_zret S hR hS hr hlocks (Or.inl rfl) dL_areCoroutinesRight_324
set_option maxRecDepth 100000 in
set_option maxHeartbeats 4000000 in
theorem wbL_areCoroutinesRight_218 {p : Program} {l : Launch} {e : Env} {s : State} {m : MethodId} {args : Array Value} {below : List Frame} {meth : Method} {c : Code} {G : mmG} {A : Nat → Prop} {res : Int32 × MM} (E0 : mmEnv p m c cL_areCoroutinesRight 10 s args RL G A meth (some (.boolean))) (kk14 : Nat → Nat → Nat → Nat → Int32 → Int32 → MM → Option (Int32 × MM)) (hkk14 : ∀ (h0 : Nat) (h1 : Nat) (h2 : Nat) (h3 : Nat) (x4 : Int32) (x5 : Int32) (μ : MM), kk14 h0 h1 h2 h3 x4 x5 μ = some res → mmGoalA p l e rmL_areCoroutinesRight s m args below meth c G A 2 8 2 8 14 10 [(0, rf h0), (1, rf h1), (2, rf h2), (3, rf h3), (4, .int x4), (5, .int x5)] μ (mmQ G A res.2 (some (.int res.1)))) : ∀ (h0 : Nat) (h1 : Nat) (h2 : Nat) (h3 : Nat) (x4 : Int32) (x5 : Int32) (x6 : Int32) (x7 : Int32) (x8 : Int32) (x9 : Int32) (μ : MM), bL_areCoroutinesRight_218 kk14 h0 h1 h2 h3 x4 x5 x6 x7 x8 x9 μ = some res → mmGoalA p l e rmL_areCoroutinesRight s m args below meth c G A 2 8 2 8 218 10 [(0, rf h0), (1, rf h1), (2, rf h2), (3, rf h3), (4, .int x4), (5, .int x5), (6, .int x6), (7, .int x7), (8, .int x8), (9, .int x9)] μ (mmQ G A res.2 (some (.int res.1))) := by
  obtain ⟨S, hA, hr, hlocks⟩ := id E0
  intro h0 h1 h2 h3 x4 x5 x6 x7 x8 x9 μ hf H locs ls hR hS hl
  have hK : mmKN μ μ := mmKN.rf
  unfold bL_areCoroutinesRight_218 at hf
  refine lv_iload S.1 S.2.1 dL_areCoroutinesRight_218 (lv_at hl 9 rfl) ?_
  refine lv_bipush (v := 10) S.1 S.2.1 dL_areCoroutinesRight_220 (by decide) ?_
  refine lv_icmp_ne (tgt := 229) S.1 S.2.1 dL_areCoroutinesRight_222 (by decide) (fun c1 => ?_) (fun c1 => ?_)
  · have hf := it_f hf c1
    refine lv_iconst (v := 0) S.1 S.2.1 dL_areCoroutinesRight_229 (by decide) ?_
    refine lv_iload S.1 S.2.1 dL_areCoroutinesRight_230 (lv_at hl 8 rfl) ?_
    refine lv_if_lt (tgt := 239) S.1 S.2.1 dL_areCoroutinesRight_232 (by decide) (fun c2 => ?_) (fun c2 => ?_)
    · have hf := it_t hf c2
      refine lv_iconst (v := 0) S.1 S.2.1 dL_areCoroutinesRight_239 (by decide) ?_
      refine lv_icmp_ne (tgt := 260) S.1 S.2.1 dL_areCoroutinesRight_240 (by decide) (fun c3 => ?_) (fun c3 => ?_)
      · have hf := it_f hf c3
        refine lv_iconst (v := 0) S.1 S.2.1 dL_areCoroutinesRight_260 (by decide) ?_
        obtain rfl := Option.some.inj hf
        refine W.widen (k := 2) (n := 8) (Nat.le_of_ble_eq_true rfl) (Nat.le_of_ble_eq_true rfl) ?_
        exact mm_zret S hR hS hr hlocks (Or.inl rfl) dL_areCoroutinesRight_261
      · have hf := it_t hf c3
        refine mm_aload_n S dL_areCoroutinesRight_243 rfl (lv_at hl 0 rfl) ?_
        refine lv_iload S.1 S.2.1 dL_areCoroutinesRight_244 (lv_at hl 5 rfl) ?_
        refine lv_iconst (v := 2) S.1 S.2.1 dL_areCoroutinesRight_246 (by decide) ?_
        obtain ⟨g6, hf⟩ := gd hf
        obtain ⟨y4, hy4, hf⟩ := bd hf
        obtain ⟨g5, hf⟩ := gd hf
        refine mm_callVi S hR hS hA (As := [.int x5, .int 2]) (rest := []) cvL_43 (hK.k g6) (kX6_of_c l G A (hK.k g6) hy4 g5) rfl rfl ⟨Nat.le_of_ble_eq_true rfl, Nat.le_of_ble_eq_true rfl⟩ rfl hl.1 rfl (lv_room (by simp [rf_cat, int_cat, long_cat, dbl_cat])) dL_areCoroutinesRight_247 ⟨Nat.le_of_ble_eq_true rfl, Nat.le_of_ble_eq_true rfl⟩ (fun H locs hR hS => ?_)
        have hK : mmKN μ y4.2.2 := hK.tr (kX6_of_kn hy4)
        refine lv_if_ne (tgt := 262) S.1 S.2.1 dL_areCoroutinesRight_250 (by decide) (fun c7 => ?_) (fun c7 => ?_)
        · have hf := it_f hf c7
          exact wbL_areCoroutinesRight_262 E0 kk14 hkk14 h0 h1 h2 h3 x4 x5 x6 x7 x8 y4.2.2 hf _ _ _ hR hS (lv_sub hl [0, 1, 2, 3, 4, 5, 6, 7, 8] rfl)
        · have hf := it_t hf c7
          refine lv_iload S.1 S.2.1 dL_areCoroutinesRight_253 (lv_at hl 9 rfl) ?_
          refine lv_bipush (v := 10) S.1 S.2.1 dL_areCoroutinesRight_255 (by decide) ?_
          refine lv_icmp_le (tgt := 262) S.1 S.2.1 dL_areCoroutinesRight_257 (by decide) (fun c8 => ?_) (fun c8 => ?_)
          · have hf := it_t hf c8
            exact wbL_areCoroutinesRight_262 E0 kk14 hkk14 h0 h1 h2 h3 x4 x5 x6 x7 x8 y4.2.2 hf _ _ _ hR hS (lv_sub hl [0, 1, 2, 3, 4, 5, 6, 7, 8] rfl)
          · have hf := it_f hf c8
            refine lv_iconst (v := 0) S.1 S.2.1 dL_areCoroutinesRight_260 (by decide) ?_
            obtain rfl := Option.some.inj hf
            refine W.widen (k := 2) (n := 8) (Nat.le_of_ble_eq_true rfl) (Nat.le_of_ble_eq_true rfl) ?_
            exact mm_zret S hR hS hr hlocks (Or.inl rfl) dL_areCoroutinesRight_261
    · have hf := it_f hf c2
      refine lv_iconst (v := 1) S.1 S.2.1 dL_areCoroutinesRight_235 (by decide) ?_
      refine lv_goto (tgt := 240) S.1 S.2.1 dL_areCoroutinesRight_236 (by decide) ?_
      refine lv_icmp_ne (tgt := 260) S.1 S.2.1 dL_areCoroutinesRight_240 (by decide) (fun c9 => ?_) (fun c9 => ?_)
      · have hf := it_f hf c9
        refine lv_iconst (v := 0) S.1 S.2.1 dL_areCoroutinesRight_260 (by decide) ?_
        obtain rfl := Option.some.inj hf
        refine W.widen (k := 2) (n := 8) (Nat.le_of_ble_eq_true rfl) (Nat.le_of_ble_eq_true rfl) ?_
        exact mm_zret S hR hS hr hlocks (Or.inl rfl) dL_areCoroutinesRight_261
      · have hf := it_t hf c9
        refine mm_aload_n S dL_areCoroutinesRight_243 rfl (lv_at hl 0 rfl) ?_
        refine lv_iload S.1 S.2.1 dL_areCoroutinesRight_244 (lv_at hl 5 rfl) ?_
        refine lv_iconst (v := 2) S.1 S.2.1 dL_areCoroutinesRight_246 (by decide) ?_
        obtain ⟨g12, hf⟩ := gd hf
        obtain ⟨y10, hy10, hf⟩ := bd hf
        obtain ⟨g11, hf⟩ := gd hf
        refine mm_callVi S hR hS hA (As := [.int x5, .int 2]) (rest := []) cvL_43 (hK.k g12) (kX6_of_c l G A (hK.k g12) hy10 g11) rfl rfl ⟨Nat.le_of_ble_eq_true rfl, Nat.le_of_ble_eq_true rfl⟩ rfl hl.1 rfl (lv_room (by simp [rf_cat, int_cat, long_cat, dbl_cat])) dL_areCoroutinesRight_247 ⟨Nat.le_of_ble_eq_true rfl, Nat.le_of_ble_eq_true rfl⟩ (fun H locs hR hS => ?_)
        have hK : mmKN μ y10.2.2 := hK.tr (kX6_of_kn hy10)
        refine lv_if_ne (tgt := 262) S.1 S.2.1 dL_areCoroutinesRight_250 (by decide) (fun c13 => ?_) (fun c13 => ?_)
        · have hf := it_f hf c13
          exact wbL_areCoroutinesRight_262 E0 kk14 hkk14 h0 h1 h2 h3 x4 x5 x6 x7 x8 y10.2.2 hf _ _ _ hR hS (lv_sub hl [0, 1, 2, 3, 4, 5, 6, 7, 8] rfl)
        · have hf := it_t hf c13
          refine lv_iload S.1 S.2.1 dL_areCoroutinesRight_253 (lv_at hl 9 rfl) ?_
          refine lv_bipush (v := 10) S.1 S.2.1 dL_areCoroutinesRight_255 (by decide) ?_
          refine lv_icmp_le (tgt := 262) S.1 S.2.1 dL_areCoroutinesRight_257 (by decide) (fun c14 => ?_) (fun c14 => ?_)
          · have hf := it_t hf c14
            exact wbL_areCoroutinesRight_262 E0 kk14 hkk14 h0 h1 h2 h3 x4 x5 x6 x7 x8 y10.2.2 hf _ _ _ hR hS (lv_sub hl [0, 1, 2, 3, 4, 5, 6, 7, 8] rfl)
          · have hf := it_f hf c14
            refine lv_iconst (v := 0) S.1 S.2.1 dL_areCoroutinesRight_260 (by decide) ?_
            obtain rfl := Option.some.inj hf
            refine W.widen (k := 2) (n := 8) (Nat.le_of_ble_eq_true rfl) (Nat.le_of_ble_eq_true rfl) ?_
            exact mm_zret S hR hS hr hlocks (Or.inl rfl) dL_areCoroutinesRight_261
  · have hf := it_t hf c1
    refine lv_iconst (v := 1) S.1 S.2.1 dL_areCoroutinesRight_225 (by decide) ?_
    refine lv_goto (tgt := 230) S.1 S.2.1 dL_areCoroutinesRight_226 (by decide) ?_
    refine lv_iload S.1 S.2.1 dL_areCoroutinesRight_230 (lv_at hl 8 rfl) ?_
    refine lv_if_lt (tgt := 239) S.1 S.2.1 dL_areCoroutinesRight_232 (by decide) (fun c15 => ?_) (fun c15 => ?_)
    · have hf := it_t hf c15
      refine lv_iconst (v := 0) S.1 S.2.1 dL_areCoroutinesRight_239 (by decide) ?_
      refine lv_icmp_ne (tgt := 260) S.1 S.2.1 dL_areCoroutinesRight_240 (by decide) (fun c16 => ?_) (fun c16 => ?_)
      · have hf := it_f hf c16
        refine lv_iconst (v := 0) S.1 S.2.1 dL_areCoroutinesRight_260 (by decide) ?_
        obtain rfl := Option.some.inj hf
        refine W.widen (k := 2) (n := 8) (Nat.le_of_ble_eq_true rfl) (Nat.le_of_ble_eq_true rfl) ?_
        exact mm_zret S hR hS hr hlocks (Or.inl rfl) dL_areCoroutinesRight_261
      · have hf := it_t hf c16
        refine mm_aload_n S dL_areCoroutinesRight_243 rfl (lv_at hl 0 rfl) ?_
        refine lv_iload S.1 S.2.1 dL_areCoroutinesRight_244 (lv_at hl 5 rfl) ?_
        refine lv_iconst (v := 2) S.1 S.2.1 dL_areCoroutinesRight_246 (by decide) ?_
        obtain ⟨g19, hf⟩ := gd hf
        obtain ⟨y17, hy17, hf⟩ := bd hf
        obtain ⟨g18, hf⟩ := gd hf
        refine mm_callVi S hR hS hA (As := [.int x5, .int 2]) (rest := []) cvL_43 (hK.k g19) (kX6_of_c l G A (hK.k g19) hy17 g18) rfl rfl ⟨Nat.le_of_ble_eq_true rfl, Nat.le_of_ble_eq_true rfl⟩ rfl hl.1 rfl (lv_room (by simp [rf_cat, int_cat, long_cat, dbl_cat])) dL_areCoroutinesRight_247 ⟨Nat.le_of_ble_eq_true rfl, Nat.le_of_ble_eq_true rfl⟩ (fun H locs hR hS => ?_)
        have hK : mmKN μ y17.2.2 := hK.tr (kX6_of_kn hy17)
        refine lv_if_ne (tgt := 262) S.1 S.2.1 dL_areCoroutinesRight_250 (by decide) (fun c20 => ?_) (fun c20 => ?_)
        · have hf := it_f hf c20
          exact wbL_areCoroutinesRight_262 E0 kk14 hkk14 h0 h1 h2 h3 x4 x5 x6 x7 x8 y17.2.2 hf _ _ _ hR hS (lv_sub hl [0, 1, 2, 3, 4, 5, 6, 7, 8] rfl)
        · have hf := it_t hf c20
          refine lv_iload S.1 S.2.1 dL_areCoroutinesRight_253 (lv_at hl 9 rfl) ?_
          refine lv_bipush (v := 10) S.1 S.2.1 dL_areCoroutinesRight_255 (by decide) ?_
          refine lv_icmp_le (tgt := 262) S.1 S.2.1 dL_areCoroutinesRight_257 (by decide) (fun c21 => ?_) (fun c21 => ?_)
          · have hf := it_t hf c21
            exact wbL_areCoroutinesRight_262 E0 kk14 hkk14 h0 h1 h2 h3 x4 x5 x6 x7 x8 y17.2.2 hf _ _ _ hR hS (lv_sub hl [0, 1, 2, 3, 4, 5, 6, 7, 8] rfl)
          · have hf := it_f hf c21
            refine lv_iconst (v := 0) S.1 S.2.1 dL_areCoroutinesRight_260 (by decide) ?_
            obtain rfl := Option.some.inj hf
            refine W.widen (k := 2) (n := 8) (Nat.le_of_ble_eq_true rfl) (Nat.le_of_ble_eq_true rfl) ?_
            exact mm_zret S hR hS hr hlocks (Or.inl rfl) dL_areCoroutinesRight_261
    · have hf := it_f hf c15
      refine lv_iconst (v := 1) S.1 S.2.1 dL_areCoroutinesRight_235 (by decide) ?_
      refine lv_goto (tgt := 240) S.1 S.2.1 dL_areCoroutinesRight_236 (by decide) ?_
      refine lv_icmp_ne (tgt := 260) S.1 S.2.1 dL_areCoroutinesRight_240 (by decide) (fun c22 => ?_) (fun c22 => ?_)
      · have hf := it_f hf c22
        refine lv_iconst (v := 0) S.1 S.2.1 dL_areCoroutinesRight_260 (by decide) ?_
        obtain rfl := Option.some.inj hf
        refine W.widen (k := 2) (n := 8) (Nat.le_of_ble_eq_true rfl) (Nat.le_of_ble_eq_true rfl) ?_
        exact mm_zret S hR hS hr hlocks (Or.inl rfl) dL_areCoroutinesRight_261
      · have hf := it_t hf c22
        refine mm_aload_n S dL_areCoroutinesRight_243 rfl (lv_at hl 0 rfl) ?_
        refine lv_iload S.1 S.2.1 dL_areCoroutinesRight_244 (lv_at hl 5 rfl) ?_
        refine lv_iconst (v := 2) S.1 S.2.1 dL_areCoroutinesRight_246 (by decide) ?_
        obtain ⟨g25, hf⟩ := gd hf
        obtain ⟨y23, hy23, hf⟩ := bd hf
        obtain ⟨g24, hf⟩ := gd hf
        refine mm_callVi S hR hS hA (As := [.int x5, .int 2]) (rest := []) cvL_43 (hK.k g25) (kX6_of_c l G A (hK.k g25) hy23 g24) rfl rfl ⟨Nat.le_of_ble_eq_true rfl, Nat.le_of_ble_eq_true rfl⟩ rfl hl.1 rfl (lv_room (by simp [rf_cat, int_cat, long_cat, dbl_cat])) dL_areCoroutinesRight_247 ⟨Nat.le_of_ble_eq_true rfl, Nat.le_of_ble_eq_true rfl⟩ (fun H locs hR hS => ?_)
        have hK : mmKN μ y23.2.2 := hK.tr (kX6_of_kn hy23)
        refine lv_if_ne (tgt := 262) S.1 S.2.1 dL_areCoroutinesRight_250 (by decide) (fun c26 => ?_) (fun c26 => ?_)
        · have hf := it_f hf c26
          exact wbL_areCoroutinesRight_262 E0 kk14 hkk14 h0 h1 h2 h3 x4 x5 x6 x7 x8 y23.2.2 hf _ _ _ hR hS (lv_sub hl [0, 1, 2, 3, 4, 5, 6, 7, 8] rfl)
        · have hf := it_t hf c26
          refine lv_iload S.1 S.2.1 dL_areCoroutinesRight_253 (lv_at hl 9 rfl) ?_
          refine lv_bipush (v := 10) S.1 S.2.1 dL_areCoroutinesRight_255 (by decide) ?_
          refine lv_icmp_le (tgt := 262) S.1 S.2.1 dL_areCoroutinesRight_257 (by decide) (fun c27 => ?_) (fun c27 => ?_)
          · have hf := it_t hf c27
            exact wbL_areCoroutinesRight_262 E0 kk14 hkk14 h0 h1 h2 h3 x4 x5 x6 x7 x8 y23.2.2 hf _ _ _ hR hS (lv_sub hl [0, 1, 2, 3, 4, 5, 6, 7, 8] rfl)
          · have hf := it_f hf c27
            refine lv_iconst (v := 0) S.1 S.2.1 dL_areCoroutinesRight_260 (by decide) ?_
            obtain rfl := Option.some.inj hf
            refine W.widen (k := 2) (n := 8) (Nat.le_of_ble_eq_true rfl) (Nat.le_of_ble_eq_true rfl) ?_
            exact mm_zret S hR hS hr hlocks (Or.inl rfl) dL_areCoroutinesRight_261
set_option maxRecDepth 100000 in
set_option maxHeartbeats 4000000 in
theorem wbL_areCoroutinesRight_152 {p : Program} {l : Launch} {e : Env} {s : State} {m : MethodId} {args : Array Value} {below : List Frame} {meth : Method} {c : Code} {G : mmG} {A : Nat → Prop} {res : Int32 × MM} (E0 : mmEnv p m c cL_areCoroutinesRight 10 s args RL G A meth (some (.boolean))) (kk14 : Nat → Nat → Nat → Nat → Int32 → Int32 → MM → Option (Int32 × MM)) (hkk14 : ∀ (h0 : Nat) (h1 : Nat) (h2 : Nat) (h3 : Nat) (x4 : Int32) (x5 : Int32) (μ : MM), kk14 h0 h1 h2 h3 x4 x5 μ = some res → mmGoalA p l e rmL_areCoroutinesRight s m args below meth c G A 2 8 2 8 14 10 [(0, rf h0), (1, rf h1), (2, rf h2), (3, rf h3), (4, .int x4), (5, .int x5)] μ (mmQ G A res.2 (some (.int res.1)))) : ∀ (h0 : Nat) (h1 : Nat) (h2 : Nat) (h3 : Nat) (x4 : Int32) (x5 : Int32) (x6 : Int32) (x7 : Int32) (x8 : Int32) (μ : MM), bL_areCoroutinesRight_152 kk14 h0 h1 h2 h3 x4 x5 x6 x7 x8 μ = some res → mmGoalA p l e rmL_areCoroutinesRight s m args below meth c G A 2 8 2 8 152 10 [(0, rf h0), (1, rf h1), (2, rf h2), (3, rf h3), (4, .int x4), (5, .int x5), (6, .int x6), (7, .int x7), (8, .int x8)] μ (mmQ G A res.2 (some (.int res.1))) := by
  obtain ⟨S, hA, hr, hlocks⟩ := id E0
  intro h0 h1 h2 h3 x4 x5 x6 x7 x8 μ hf H locs ls hR hS hl
  have hK : mmKN μ μ := mmKN.rf
  unfold bL_areCoroutinesRight_152 at hf
  refine mm_aload_n S dL_areCoroutinesRight_152 rfl (lv_at hl 0 rfl) ?_
  refine lv_iload S.1 S.2.1 dL_areCoroutinesRight_153 (lv_at hl 5 rfl) ?_
  refine lv_iconst (v := 5) S.1 S.2.1 dL_areCoroutinesRight_155 (by decide) ?_
  obtain ⟨g3, hf⟩ := gd hf
  obtain ⟨y1, hy1, hf⟩ := bd hf
  obtain ⟨g2, hf⟩ := gd hf
  refine mm_callVi S hR hS hA (As := [.int x5, .int 5]) (rest := []) cvL_43 (hK.k g3) (kX6_of_c l G A (hK.k g3) hy1 g2) rfl rfl ⟨Nat.le_of_ble_eq_true rfl, Nat.le_of_ble_eq_true rfl⟩ rfl hl.1 rfl (lv_room (by simp [rf_cat, int_cat, long_cat, dbl_cat])) dL_areCoroutinesRight_156 ⟨Nat.le_of_ble_eq_true rfl, Nat.le_of_ble_eq_true rfl⟩ (fun H locs hR hS => ?_)
  have hK : mmKN μ y1.2.2 := hK.tr (kX6_of_kn hy1)
  refine lv_bipush (v := 6) S.1 S.2.1 dL_areCoroutinesRight_159 (by decide) ?_
  refine lv_icmp_le (tgt := 166) S.1 S.2.1 dL_areCoroutinesRight_161 (by decide) (fun c4 => ?_) (fun c4 => ?_)
  · have hf := it_t hf c4
    refine lv_iload S.1 S.2.1 dL_areCoroutinesRight_166 (lv_at hl 6 rfl) ?_
    refine lv_iconst (v := 1) S.1 S.2.1 dL_areCoroutinesRight_168 (by decide) ?_
    refine lv_icmp_ne (tgt := 262) S.1 S.2.1 dL_areCoroutinesRight_169 (by decide) (fun c5 => ?_) (fun c5 => ?_)
    · have hf := it_f hf c5
      exact wbL_areCoroutinesRight_262 E0 kk14 hkk14 h0 h1 h2 h3 x4 x5 x6 x7 x8 y1.2.2 hf _ _ _ hR hS (lv_sub hl [0, 1, 2, 3, 4, 5, 6, 7, 8] rfl)
    · have hf := it_t hf c5
      refine mm_aload_n S dL_areCoroutinesRight_172 rfl (lv_at hl 1 rfl) ?_
      obtain ⟨g6, hf⟩ := gd hf
      refine mm_getp S hR fdL_104 (hK.k g6) rfl dL_areCoroutinesRight_173 ?_
      refine mm_aload_n S dL_areCoroutinesRight_176 rfl (lv_at hl 0 rfl) ?_
      refine lv_iload S.1 S.2.1 dL_areCoroutinesRight_177 (lv_at hl 5 rfl) ?_
      refine lv_iconst (v := 0) S.1 S.2.1 dL_areCoroutinesRight_179 (by decide) ?_
      obtain ⟨y7, hy7, hf⟩ := bd hf
      obtain ⟨g8, hf⟩ := gd hf
      refine mm_callVi S hR hS hA (As := [.int x5, .int 0]) (rest := [rf (mP y1.2.2 h1 0)]) cvL_43 (hK.k g3) (kX6_of_c l G A (hK.k g3) hy7 g8) rfl rfl ⟨Nat.le_of_ble_eq_true rfl, Nat.le_of_ble_eq_true rfl⟩ rfl hl.1 rfl (lv_room (by simp [rf_cat, int_cat, long_cat, dbl_cat])) dL_areCoroutinesRight_180 ⟨Nat.le_of_ble_eq_true rfl, Nat.le_of_ble_eq_true rfl⟩ (fun H locs hR hS => ?_)
      have hK : mmKN μ y7.2.2 := hK.tr (kX6_of_kn hy7)
      obtain ⟨g9, hf⟩ := gd hf
      obtain ⟨g10, hf⟩ := gd hf
      refine mm_aaldA (k := 25) (t := 5) S hR (hK.k g9) (by decide) (by decide) rfl g10 dL_areCoroutinesRight_183 ?_
      refine lv_iload S.1 S.2.1 dL_areCoroutinesRight_184 (lv_at hl 7 rfl) ?_
      obtain ⟨g11, hf⟩ := gd hf
      obtain ⟨g12, hf⟩ := gd hf
      refine mm_aaldA (k := 24) (t := 4) S hR (hK.k g11) (by decide) (by decide) rfl g12 dL_areCoroutinesRight_186 ?_
      refine lv_iconst (v := 0) S.1 S.2.1 dL_areCoroutinesRight_187 (by decide) ?_
      obtain ⟨g13, hf⟩ := gd hf
      obtain ⟨g14, hf⟩ := gd hf
      refine mm_iald S hR (hK.k g13) g14 dL_areCoroutinesRight_188 ?_
      refine lv_istore (i := 9) (lv' := [(9, .int (mI y7.2.2 (mP y7.2.2 (mP y7.2.2 (mP y1.2.2 h1 0) y7.2.1.toNatClampNeg) x7.toNatClampNeg) (0 : Int32).toNatClampNeg)), (0, rf h0), (1, rf h1), (2, rf h2), (3, rf h3), (4, .int x4), (5, .int x5), (6, .int x6), (7, .int x7), (8, .int x8)]) S.1 S.2.1 dL_areCoroutinesRight_189 hl (by decide) rfl (fun ls hl => ?_)
      refine lv_iload S.1 S.2.1 dL_areCoroutinesRight_191 (lv_at hl 0 rfl) ?_
      refine lv_iconst (v := 3) S.1 S.2.1 dL_areCoroutinesRight_193 (by decide) ?_
      refine lv_icmp_eq (tgt := 218) S.1 S.2.1 dL_areCoroutinesRight_194 (by decide) (fun c15 => ?_) (fun c15 => ?_)
      · have hf := it_t hf c15
        exact wbL_areCoroutinesRight_218 E0 kk14 hkk14 h0 h1 h2 h3 x4 x5 x6 x7 x8 (mI y7.2.2 (mP y7.2.2 (mP y7.2.2 (mP y1.2.2 h1 0) y7.2.1.toNatClampNeg) x7.toNatClampNeg) (0 : Int32).toNatClampNeg) y7.2.2 hf _ _ _ hR hS (lv_sub hl [1, 2, 3, 4, 5, 6, 7, 8, 9, 0] rfl)
      · have hf := it_f hf c15
        refine lv_iload S.1 S.2.1 dL_areCoroutinesRight_197 (lv_at hl 0 rfl) ?_
        refine lv_bipush (v := 10) S.1 S.2.1 dL_areCoroutinesRight_199 (by decide) ?_
        refine lv_icmp_eq (tgt := 218) S.1 S.2.1 dL_areCoroutinesRight_201 (by decide) (fun c16 => ?_) (fun c16 => ?_)
        · have hf := it_t hf c16
          exact wbL_areCoroutinesRight_218 E0 kk14 hkk14 h0 h1 h2 h3 x4 x5 x6 x7 x8 (mI y7.2.2 (mP y7.2.2 (mP y7.2.2 (mP y1.2.2 h1 0) y7.2.1.toNatClampNeg) x7.toNatClampNeg) (0 : Int32).toNatClampNeg) y7.2.2 hf _ _ _ hR hS (lv_sub hl [1, 2, 3, 4, 5, 6, 7, 8, 9, 0] rfl)
        · have hf := it_f hf c16
          refine lv_iload S.1 S.2.1 dL_areCoroutinesRight_204 (lv_at hl 0 rfl) ?_
          refine lv_bipush (v := 12) S.1 S.2.1 dL_areCoroutinesRight_206 (by decide) ?_
          refine lv_icmp_eq (tgt := 218) S.1 S.2.1 dL_areCoroutinesRight_208 (by decide) (fun c17 => ?_) (fun c17 => ?_)
          · have hf := it_t hf c17
            exact wbL_areCoroutinesRight_218 E0 kk14 hkk14 h0 h1 h2 h3 x4 x5 x6 x7 x8 (mI y7.2.2 (mP y7.2.2 (mP y7.2.2 (mP y1.2.2 h1 0) y7.2.1.toNatClampNeg) x7.toNatClampNeg) (0 : Int32).toNatClampNeg) y7.2.2 hf _ _ _ hR hS (lv_sub hl [1, 2, 3, 4, 5, 6, 7, 8, 9, 0] rfl)
          · have hf := it_f hf c17
            refine lv_iload S.1 S.2.1 dL_areCoroutinesRight_211 (lv_at hl 0 rfl) ?_
            refine lv_bipush (v := 13) S.1 S.2.1 dL_areCoroutinesRight_213 (by decide) ?_
            refine lv_icmp_ne (tgt := 260) S.1 S.2.1 dL_areCoroutinesRight_215 (by decide) (fun c18 => ?_) (fun c18 => ?_)
            · have hf := it_f hf c18
              refine lv_iconst (v := 0) S.1 S.2.1 dL_areCoroutinesRight_260 (by decide) ?_
              obtain rfl := Option.some.inj hf
              refine W.widen (k := 2) (n := 8) (Nat.le_of_ble_eq_true rfl) (Nat.le_of_ble_eq_true rfl) ?_
              exact mm_zret S hR hS hr hlocks (Or.inl rfl) dL_areCoroutinesRight_261
            · have hf := it_t hf c18
              exact wbL_areCoroutinesRight_218 E0 kk14 hkk14 h0 h1 h2 h3 x4 x5 x6 x7 x8 (mI y7.2.2 (mP y7.2.2 (mP y7.2.2 (mP y1.2.2 h1 0) y7.2.1.toNatClampNeg) x7.toNatClampNeg) (0 : Int32).toNatClampNeg) y7.2.2 hf _ _ _ hR hS (lv_sub hl [1, 2, 3, 4, 5, 6, 7, 8, 9, 0] rfl)
  · have hf := it_f hf c4
    refine lv_iconst (v := 0) S.1 S.2.1 dL_areCoroutinesRight_164 (by decide) ?_
    obtain rfl := Option.some.inj hf
    refine W.widen (k := 2) (n := 8) (Nat.le_of_ble_eq_true rfl) (Nat.le_of_ble_eq_true rfl) ?_
    exact mm_zret S hR hS hr hlocks (Or.inl rfl) dL_areCoroutinesRight_165
set_option maxRecDepth 100000 in
set_option maxHeartbeats 4000000 in
theorem wbL_areCoroutinesRight_136 {p : Program} {l : Launch} {e : Env} {s : State} {m : MethodId} {args : Array Value} {below : List Frame} {meth : Method} {c : Code} {G : mmG} {A : Nat → Prop} {res : Int32 × MM} (E0 : mmEnv p m c cL_areCoroutinesRight 10 s args RL G A meth (some (.boolean))) (kk14 : Nat → Nat → Nat → Nat → Int32 → Int32 → MM → Option (Int32 × MM)) (hkk14 : ∀ (h0 : Nat) (h1 : Nat) (h2 : Nat) (h3 : Nat) (x4 : Int32) (x5 : Int32) (μ : MM), kk14 h0 h1 h2 h3 x4 x5 μ = some res → mmGoalA p l e rmL_areCoroutinesRight s m args below meth c G A 2 8 2 8 14 10 [(0, rf h0), (1, rf h1), (2, rf h2), (3, rf h3), (4, .int x4), (5, .int x5)] μ (mmQ G A res.2 (some (.int res.1)))) : ∀ (h0 : Nat) (h1 : Nat) (h2 : Nat) (h3 : Nat) (x4 : Int32) (x5 : Int32) (x6 : Int32) (x7 : Int32) (x8 : Int32) (μ : MM), bL_areCoroutinesRight_136 kk14 h0 h1 h2 h3 x4 x5 x6 x7 x8 μ = some res → mmGoalA p l e rmL_areCoroutinesRight s m args below meth c G A 2 8 2 8 136 10 [(0, rf h0), (1, rf h1), (2, rf h2), (3, rf h3), (4, .int x4), (5, .int x5), (6, .int x6), (7, .int x7), (8, .int x8)] μ (mmQ G A res.2 (some (.int res.1))) := by
  obtain ⟨S, hA, hr, hlocks⟩ := id E0
  intro h0 h1 h2 h3 x4 x5 x6 x7 x8 μ hf H locs ls hR hS hl
  have hK : mmKN μ μ := mmKN.rf
  unfold bL_areCoroutinesRight_136 at hf
  refine lv_iload S.1 S.2.1 dL_areCoroutinesRight_136 (lv_at hl 6 rfl) ?_
  refine lv_iconst (v := 2) S.1 S.2.1 dL_areCoroutinesRight_138 (by decide) ?_
  refine lv_icmp_le (tgt := 152) S.1 S.2.1 dL_areCoroutinesRight_139 (by decide) (fun c1 => ?_) (fun c1 => ?_)
  · have hf := it_t hf c1
    exact wbL_areCoroutinesRight_152 E0 kk14 hkk14 h0 h1 h2 h3 x4 x5 x6 x7 x8 μ hf _ _ _ hR hS (lv_sub hl [0, 1, 2, 3, 4, 5, 6, 7, 8] rfl)
  · have hf := it_f hf c1
    refine mm_aload_n S dL_areCoroutinesRight_142 rfl (lv_at hl 0 rfl) ?_
    refine lv_iload S.1 S.2.1 dL_areCoroutinesRight_143 (lv_at hl 5 rfl) ?_
    refine lv_iconst (v := 5) S.1 S.2.1 dL_areCoroutinesRight_145 (by decide) ?_
    obtain ⟨g4, hf⟩ := gd hf
    obtain ⟨y2, hy2, hf⟩ := bd hf
    obtain ⟨g3, hf⟩ := gd hf
    refine mm_callVi S hR hS hA (As := [.int x5, .int 5]) (rest := []) cvL_43 (hK.k g4) (kX6_of_c l G A (hK.k g4) hy2 g3) rfl rfl ⟨Nat.le_of_ble_eq_true rfl, Nat.le_of_ble_eq_true rfl⟩ rfl hl.1 rfl (lv_room (by simp [rf_cat, int_cat, long_cat, dbl_cat])) dL_areCoroutinesRight_146 ⟨Nat.le_of_ble_eq_true rfl, Nat.le_of_ble_eq_true rfl⟩ (fun H locs hR hS => ?_)
    have hK : mmKN μ y2.2.2 := hK.tr (kX6_of_kn hy2)
    refine lv_if_ne (tgt := 164) S.1 S.2.1 dL_areCoroutinesRight_149 (by decide) (fun c5 => ?_) (fun c5 => ?_)
    · have hf := it_f hf c5
      refine lv_iconst (v := 0) S.1 S.2.1 dL_areCoroutinesRight_164 (by decide) ?_
      obtain rfl := Option.some.inj hf
      refine W.widen (k := 2) (n := 8) (Nat.le_of_ble_eq_true rfl) (Nat.le_of_ble_eq_true rfl) ?_
      exact mm_zret S hR hS hr hlocks (Or.inl rfl) dL_areCoroutinesRight_165
    · have hf := it_t hf c5
      exact wbL_areCoroutinesRight_152 E0 kk14 hkk14 h0 h1 h2 h3 x4 x5 x6 x7 x8 y2.2.2 hf _ _ _ hR hS (lv_sub hl [0, 1, 2, 3, 4, 5, 6, 7, 8] rfl)
set_option maxRecDepth 100000 in
set_option maxHeartbeats 4000000 in
theorem wbL_areCoroutinesRight_110 {p : Program} {l : Launch} {e : Env} {s : State} {m : MethodId} {args : Array Value} {below : List Frame} {meth : Method} {c : Code} {G : mmG} {A : Nat → Prop} {res : Int32 × MM} (E0 : mmEnv p m c cL_areCoroutinesRight 10 s args RL G A meth (some (.boolean))) (kk14 : Nat → Nat → Nat → Nat → Int32 → Int32 → MM → Option (Int32 × MM)) (hkk14 : ∀ (h0 : Nat) (h1 : Nat) (h2 : Nat) (h3 : Nat) (x4 : Int32) (x5 : Int32) (μ : MM), kk14 h0 h1 h2 h3 x4 x5 μ = some res → mmGoalA p l e rmL_areCoroutinesRight s m args below meth c G A 2 8 2 8 14 10 [(0, rf h0), (1, rf h1), (2, rf h2), (3, rf h3), (4, .int x4), (5, .int x5)] μ (mmQ G A res.2 (some (.int res.1)))) : ∀ (h0 : Nat) (h1 : Nat) (h2 : Nat) (h3 : Nat) (x4 : Int32) (x5 : Int32) (x6 : Int32) (x7 : Int32) (x8 : Int32) (μ : MM), bL_areCoroutinesRight_110 kk14 h0 h1 h2 h3 x4 x5 x6 x7 x8 μ = some res → mmGoalA p l e rmL_areCoroutinesRight s m args below meth c G A 2 8 2 8 110 10 [(0, rf h0), (1, rf h1), (2, rf h2), (3, rf h3), (4, .int x4), (5, .int x5), (6, .int x6), (7, .int x7), (8, .int x8)] μ (mmQ G A res.2 (some (.int res.1))) := by
  obtain ⟨S, hA, hr, hlocks⟩ := id E0
  intro h0 h1 h2 h3 x4 x5 x6 x7 x8 μ hf H locs ls hR hS hl
  have hK : mmKN μ μ := mmKN.rf
  unfold bL_areCoroutinesRight_110 at hf
  refine lv_iload S.1 S.2.1 dL_areCoroutinesRight_110 (lv_at hl 6 rfl) ?_
  refine lv_if_ne (tgt := 136) S.1 S.2.1 dL_areCoroutinesRight_112 (by decide) (fun c1 => ?_) (fun c1 => ?_)
  · have hf := it_f hf c1
    exact wbL_areCoroutinesRight_136 E0 kk14 hkk14 h0 h1 h2 h3 x4 x5 x6 x7 x8 μ hf _ _ _ hR hS (lv_sub hl [0, 1, 2, 3, 4, 5, 6, 7, 8] rfl)
  · have hf := it_t hf c1
    refine mm_aload_n S dL_areCoroutinesRight_115 rfl (lv_at hl 0 rfl) ?_
    refine lv_iload S.1 S.2.1 dL_areCoroutinesRight_116 (lv_at hl 5 rfl) ?_
    refine lv_bipush (v := 7) S.1 S.2.1 dL_areCoroutinesRight_118 (by decide) ?_
    obtain ⟨g4, hf⟩ := gd hf
    obtain ⟨y2, hy2, hf⟩ := bd hf
    obtain ⟨g3, hf⟩ := gd hf
    refine mm_callVi S hR hS hA (As := [.int x5, .int 7]) (rest := []) cvL_43 (hK.k g4) (kX6_of_c l G A (hK.k g4) hy2 g3) rfl rfl ⟨Nat.le_of_ble_eq_true rfl, Nat.le_of_ble_eq_true rfl⟩ rfl hl.1 rfl (lv_room (by simp [rf_cat, int_cat, long_cat, dbl_cat])) dL_areCoroutinesRight_120 ⟨Nat.le_of_ble_eq_true rfl, Nat.le_of_ble_eq_true rfl⟩ (fun H locs hR hS => ?_)
    have hK : mmKN μ y2.2.2 := hK.tr (kX6_of_kn hy2)
    refine lv_if_ne (tgt := 164) S.1 S.2.1 dL_areCoroutinesRight_123 (by decide) (fun c5 => ?_) (fun c5 => ?_)
    · have hf := it_f hf c5
      refine lv_iconst (v := 0) S.1 S.2.1 dL_areCoroutinesRight_164 (by decide) ?_
      obtain rfl := Option.some.inj hf
      refine W.widen (k := 2) (n := 8) (Nat.le_of_ble_eq_true rfl) (Nat.le_of_ble_eq_true rfl) ?_
      exact mm_zret S hR hS hr hlocks (Or.inl rfl) dL_areCoroutinesRight_165
    · have hf := it_t hf c5
      refine mm_aload_n S dL_areCoroutinesRight_126 rfl (lv_at hl 0 rfl) ?_
      refine lv_iload S.1 S.2.1 dL_areCoroutinesRight_127 (lv_at hl 5 rfl) ?_
      refine lv_iconst (v := 5) S.1 S.2.1 dL_areCoroutinesRight_129 (by decide) ?_
      obtain ⟨y6, hy6, hf⟩ := bd hf
      obtain ⟨g7, hf⟩ := gd hf
      refine mm_callVi S hR hS hA (As := [.int x5, .int 5]) (rest := []) cvL_43 (hK.k g4) (kX6_of_c l G A (hK.k g4) hy6 g7) rfl rfl ⟨Nat.le_of_ble_eq_true rfl, Nat.le_of_ble_eq_true rfl⟩ rfl hl.1 rfl (lv_room (by simp [rf_cat, int_cat, long_cat, dbl_cat])) dL_areCoroutinesRight_130 ⟨Nat.le_of_ble_eq_true rfl, Nat.le_of_ble_eq_true rfl⟩ (fun H locs hR hS => ?_)
      have hK : mmKN μ y6.2.2 := hK.tr (kX6_of_kn hy6)
      refine lv_if_ne (tgt := 164) S.1 S.2.1 dL_areCoroutinesRight_133 (by decide) (fun c8 => ?_) (fun c8 => ?_)
      · have hf := it_f hf c8
        refine lv_iconst (v := 0) S.1 S.2.1 dL_areCoroutinesRight_164 (by decide) ?_
        obtain rfl := Option.some.inj hf
        refine W.widen (k := 2) (n := 8) (Nat.le_of_ble_eq_true rfl) (Nat.le_of_ble_eq_true rfl) ?_
        exact mm_zret S hR hS hr hlocks (Or.inl rfl) dL_areCoroutinesRight_165
      · have hf := it_t hf c8
        exact wbL_areCoroutinesRight_136 E0 kk14 hkk14 h0 h1 h2 h3 x4 x5 x6 x7 x8 y6.2.2 hf _ _ _ hR hS (lv_sub hl [0, 1, 2, 3, 4, 5, 6, 7, 8] rfl)
set_option maxRecDepth 100000 in
set_option maxHeartbeats 4000000 in
theorem wbL_areCoroutinesRight_14 {p : Program} {l : Launch} {e : Env} {s : State} {m : MethodId} {args : Array Value} {below : List Frame} {meth : Method} {c : Code} {G : mmG} {A : Nat → Prop} {res : Int32 × MM} (E0 : mmEnv p m c cL_areCoroutinesRight 10 s args RL G A meth (some (.boolean))) (kk14 : Nat → Nat → Nat → Nat → Int32 → Int32 → MM → Option (Int32 × MM)) (hkk14 : ∀ (h0 : Nat) (h1 : Nat) (h2 : Nat) (h3 : Nat) (x4 : Int32) (x5 : Int32) (μ : MM), kk14 h0 h1 h2 h3 x4 x5 μ = some res → mmGoalA p l e rmL_areCoroutinesRight s m args below meth c G A 2 8 2 8 14 10 [(0, rf h0), (1, rf h1), (2, rf h2), (3, rf h3), (4, .int x4), (5, .int x5)] μ (mmQ G A res.2 (some (.int res.1)))) : ∀ (h0 : Nat) (h1 : Nat) (h2 : Nat) (h3 : Nat) (x4 : Int32) (x5 : Int32) (μ : MM), bL_areCoroutinesRight_14 kk14 h0 h1 h2 h3 x4 x5 μ = some res → mmGoalA p l e rmL_areCoroutinesRight s m args below meth c G A 2 8 2 8 14 10 [(0, rf h0), (1, rf h1), (2, rf h2), (3, rf h3), (4, .int x4), (5, .int x5)] μ (mmQ G A res.2 (some (.int res.1))) := by
  obtain ⟨S, hA, hr, hlocks⟩ := id E0
  intro h0 h1 h2 h3 x4 x5 μ hf H locs ls hR hS hl
  have hK : mmKN μ μ := mmKN.rf
  unfold bL_areCoroutinesRight_14 at hf
  refine lv_iload S.1 S.2.1 dL_areCoroutinesRight_14 (lv_at hl 5 rfl) ?_
  refine mm_aload_n S dL_areCoroutinesRight_16 rfl (lv_at hl 0 rfl) ?_
  refine lv_iconst (v := 1) S.1 S.2.1 dL_areCoroutinesRight_17 (by decide) ?_
  obtain ⟨g3, hf⟩ := gd hf
  obtain ⟨y1, hy1, hf⟩ := bd hf
  obtain ⟨g2, hf⟩ := gd hf
  refine mm_callVi S hR hS hA (As := [.int 1]) (rest := [.int x5]) cvL_39 (hK.k g3) (kX6_many_c l G A (hK.k g3) hy1 g2) rfl rfl ⟨Nat.le_of_ble_eq_true rfl, Nat.le_of_ble_eq_true rfl⟩ rfl hl.1 rfl (lv_room (by simp [rf_cat, int_cat, long_cat, dbl_cat])) dL_areCoroutinesRight_18 ⟨Nat.le_of_ble_eq_true rfl, Nat.le_of_ble_eq_true rfl⟩ (fun H locs hR hS => ?_)
  have hK : mmKN μ y1.2.2 := hK.tr (kX6_many_kn hy1)
  refine lv_icmp_ge (tgt := 479) S.1 S.2.1 dL_areCoroutinesRight_21 (by decide) (fun c4 => ?_) (fun c4 => ?_)
  · have hf := it_t hf c4
    refine lv_iconst (v := 0) S.1 S.2.1 dL_areCoroutinesRight_479 (by decide) ?_
    refine lv_istore (i := 5) (lv' := [(5, .int 0), (0, rf h0), (1, rf h1), (2, rf h2), (3, rf h3), (4, .int x4)]) S.1 S.2.1 dL_areCoroutinesRight_480 hl (by decide) rfl (fun ls hl => ?_)
    refine lv_iconst (v := 0) S.1 S.2.1 dL_areCoroutinesRight_482 (by decide) ?_
    refine lv_istore (i := 6) (lv' := [(6, .int 0), (5, .int 0), (0, rf h0), (1, rf h1), (2, rf h2), (3, rf h3), (4, .int x4)]) S.1 S.2.1 dL_areCoroutinesRight_483 hl (by decide) rfl (fun ls hl => ?_)
    exact wlL_areCoroutinesRight_485 E0  FU h0 h2 h3 x4 0 0 y1.2.2 hf _ _ _ hR hS (lv_sub hl [2, 4, 5, 6, 1, 0] rfl)
  · have hf := it_f hf c4
    refine mm_aload_n S dL_areCoroutinesRight_24 rfl (lv_at hl 0 rfl) ?_
    refine lv_iload S.1 S.2.1 dL_areCoroutinesRight_25 (lv_at hl 5 rfl) ?_
    refine lv_iconst (v := 1) S.1 S.2.1 dL_areCoroutinesRight_27 (by decide) ?_
    obtain ⟨y5, hy5, hf⟩ := bd hf
    obtain ⟨g6, hf⟩ := gd hf
    refine mm_callVi S hR hS hA (As := [.int x5, .int 1]) (rest := []) cvL_43 (hK.k g3) (kX6_of_c l G A (hK.k g3) hy5 g6) rfl rfl ⟨Nat.le_of_ble_eq_true rfl, Nat.le_of_ble_eq_true rfl⟩ rfl hl.1 rfl (lv_room (by simp [rf_cat, int_cat, long_cat, dbl_cat])) dL_areCoroutinesRight_28 ⟨Nat.le_of_ble_eq_true rfl, Nat.le_of_ble_eq_true rfl⟩ (fun H locs hR hS => ?_)
    have hK : mmKN μ y5.2.2 := hK.tr (kX6_of_kn hy5)
    refine lv_istore (i := 6) (lv' := [(6, .int y5.2.1), (0, rf h0), (1, rf h1), (2, rf h2), (3, rf h3), (4, .int x4), (5, .int x5)]) S.1 S.2.1 dL_areCoroutinesRight_31 hl (by decide) rfl (fun ls hl => ?_)
    refine mm_aload_n S dL_areCoroutinesRight_33 rfl (lv_at hl 1 rfl) ?_
    refine lv_iload S.1 S.2.1 dL_areCoroutinesRight_34 (lv_at hl 6 rfl) ?_
    refine lv_iconst (v := 3) S.1 S.2.1 dL_areCoroutinesRight_36 (by decide) ?_
    obtain ⟨y7, hy7, hf⟩ := bd hf
    obtain ⟨g8, hf⟩ := gd hf
    refine mm_callVi S hR hS hA (As := [.int x5, .int 3]) (rest := []) cvL_43 (hK.k g3) (kX6_of_c l G A (hK.k g3) hy7 g8) rfl rfl ⟨Nat.le_of_ble_eq_true rfl, Nat.le_of_ble_eq_true rfl⟩ rfl hl.1 rfl (lv_room (by simp [rf_cat, int_cat, long_cat, dbl_cat])) dL_areCoroutinesRight_37 ⟨Nat.le_of_ble_eq_true rfl, Nat.le_of_ble_eq_true rfl⟩ (fun H locs hR hS => ?_)
    have hK : mmKN μ y7.2.2 := hK.tr (kX6_of_kn hy7)
    refine lv_istore (i := 7) (lv' := [(7, .int y7.2.1), (6, .int y5.2.1), (0, rf h0), (1, rf h1), (2, rf h2), (3, rf h3), (4, .int x4), (5, .int x5)]) S.1 S.2.1 dL_areCoroutinesRight_40 hl (by decide) rfl (fun ls hl => ?_)
    refine mm_aload_n S dL_areCoroutinesRight_42 rfl (lv_at hl 2 rfl) ?_
    refine lv_iload S.1 S.2.1 dL_areCoroutinesRight_43 (lv_at hl 7 rfl) ?_
    refine lv_bipush (v := 6) S.1 S.2.1 dL_areCoroutinesRight_45 (by decide) ?_
    obtain ⟨y9, hy9, hf⟩ := bd hf
    obtain ⟨g10, hf⟩ := gd hf
    refine mm_callVi S hR hS hA (As := [.int x5, .int 6]) (rest := []) cvL_43 (hK.k g3) (kX6_of_c l G A (hK.k g3) hy9 g10) rfl rfl ⟨Nat.le_of_ble_eq_true rfl, Nat.le_of_ble_eq_true rfl⟩ rfl hl.1 rfl (lv_room (by simp [rf_cat, int_cat, long_cat, dbl_cat])) dL_areCoroutinesRight_47 ⟨Nat.le_of_ble_eq_true rfl, Nat.le_of_ble_eq_true rfl⟩ (fun H locs hR hS => ?_)
    have hK : mmKN μ y9.2.2 := hK.tr (kX6_of_kn hy9)
    refine lv_istore (i := 8) (lv' := [(8, .int y9.2.1), (7, .int y7.2.1), (6, .int y5.2.1), (0, rf h0), (1, rf h1), (2, rf h2), (3, rf h3), (4, .int x4), (5, .int x5)]) S.1 S.2.1 dL_areCoroutinesRight_50 hl (by decide) rfl (fun ls hl => ?_)
    refine mm_aload_n S dL_areCoroutinesRight_52 rfl (lv_at hl 5 rfl) ?_
    refine lv_iload S.1 S.2.1 dL_areCoroutinesRight_53 (lv_at hl 2 rfl) ?_
    refine lv_dup2_11 S.1 S.2.1 dL_areCoroutinesRight_55 rfl (rf_cat _) ?_
    obtain ⟨g11, hf⟩ := gd hf
    obtain ⟨g12, hf⟩ := gd hf
    refine mm_iald S hR (hK.k g11) g12 dL_areCoroutinesRight_56 ?_
    refine lv_iconst (v := 1) S.1 S.2.1 dL_areCoroutinesRight_57 (by decide) ?_
    refine lv_iadd S.1 S.2.1 dL_areCoroutinesRight_58 ?_
    obtain ⟨g13, hf⟩ := gd hf
    refine mm_iast S hR hS (hK.k g11) g13 dL_areCoroutinesRight_59 (fun H locs hR hS => ?_)
    obtain ⟨μ14, e14, hf⟩ := stx hf
    rw [← e14] at hR
    have hK : mmKN μ μ14 := by rw [e14]; exact hK.sI
    refine mm_aload_n S dL_areCoroutinesRight_60 rfl (lv_at hl 6 rfl) ?_
    refine mm_aload_n S dL_areCoroutinesRight_61 rfl (lv_at hl 3 rfl) ?_
    refine lv_iload S.1 S.2.1 dL_areCoroutinesRight_62 (lv_at hl 8 rfl) ?_
    refine lv_iconst (v := 2) S.1 S.2.1 dL_areCoroutinesRight_64 (by decide) ?_
    obtain ⟨y15, hy15, hf⟩ := bd hf
    obtain ⟨g16, hf⟩ := gd hf
    refine mm_callVi S hR hS hA (As := [.int x5, .int 2]) (rest := [rf h3]) cvL_43 (hK.k g3) (kX6_of_c l G A (hK.k g3) hy15 g16) rfl rfl ⟨Nat.le_of_ble_eq_true rfl, Nat.le_of_ble_eq_true rfl⟩ rfl hl.1 rfl (lv_room (by simp [rf_cat, int_cat, long_cat, dbl_cat])) dL_areCoroutinesRight_65 ⟨Nat.le_of_ble_eq_true rfl, Nat.le_of_ble_eq_true rfl⟩ (fun H locs hR hS => ?_)
    have hK : mmKN μ y15.2.2 := hK.tr (kX6_of_kn hy15)
    refine lv_dup2_11 S.1 S.2.1 dL_areCoroutinesRight_68 rfl (rf_cat _) ?_
    obtain ⟨g17, hf⟩ := gd hf
    obtain ⟨g18, hf⟩ := gd hf
    refine mm_iald S hR (hK.k g17) g18 dL_areCoroutinesRight_69 ?_
    refine lv_iconst (v := 1) S.1 S.2.1 dL_areCoroutinesRight_70 (by decide) ?_
    refine lv_iadd S.1 S.2.1 dL_areCoroutinesRight_71 ?_
    obtain ⟨g19, hf⟩ := gd hf
    refine mm_iast S hR hS (hK.k g17) g19 dL_areCoroutinesRight_72 (fun H locs hR hS => ?_)
    obtain ⟨μ20, e20, hf⟩ := stx hf
    rw [← e20] at hR
    have hK : mmKN μ μ20 := by rw [e20]; exact hK.sI
    refine lv_iload S.1 S.2.1 dL_areCoroutinesRight_73 (lv_at hl 7 rfl) ?_
    refine mm_aload_n S dL_areCoroutinesRight_75 rfl (lv_at hl 3 rfl) ?_
    refine lv_iload S.1 S.2.1 dL_areCoroutinesRight_76 (lv_at hl 8 rfl) ?_
    refine lv_bipush (v := 7) S.1 S.2.1 dL_areCoroutinesRight_78 (by decide) ?_
    obtain ⟨y21, hy21, hf⟩ := bd hf
    obtain ⟨g22, hf⟩ := gd hf
    refine mm_callVi S hR hS hA (As := [.int x5, .int 7]) (rest := [.int x4]) cvL_43 (hK.k g3) (kX6_of_c l G A (hK.k g3) hy21 g22) rfl rfl ⟨Nat.le_of_ble_eq_true rfl, Nat.le_of_ble_eq_true rfl⟩ rfl hl.1 rfl (lv_room (by simp [rf_cat, int_cat, long_cat, dbl_cat])) dL_areCoroutinesRight_80 ⟨Nat.le_of_ble_eq_true rfl, Nat.le_of_ble_eq_true rfl⟩ (fun H locs hR hS => ?_)
    have hK : mmKN μ y21.2.2 := hK.tr (kX6_of_kn hy21)
    refine lv_iadd S.1 S.2.1 dL_areCoroutinesRight_83 ?_
    refine lv_istore (i := 4) (lv' := [(4, .int (x4 + y21.2.1)), (8, .int y9.2.1), (7, .int y7.2.1), (6, .int y5.2.1), (0, rf h0), (1, rf h1), (2, rf h2), (3, rf h3), (5, .int x5)]) S.1 S.2.1 dL_areCoroutinesRight_84 hl (by decide) (by simp [rf_cat]) (fun ls hl => ?_)
    refine lv_iload S.1 S.2.1 dL_areCoroutinesRight_86 (lv_at hl 3 rfl) ?_
    refine lv_iconst (v := 2) S.1 S.2.1 dL_areCoroutinesRight_88 (by decide) ?_
    refine lv_icmp_eq (tgt := 164) S.1 S.2.1 dL_areCoroutinesRight_89 (by decide) (fun c23 => ?_) (fun c23 => ?_)
    · have hf := it_t hf c23
      refine lv_iconst (v := 0) S.1 S.2.1 dL_areCoroutinesRight_164 (by decide) ?_
      obtain rfl := Option.some.inj hf
      refine W.widen (k := 2) (n := 8) (Nat.le_of_ble_eq_true rfl) (Nat.le_of_ble_eq_true rfl) ?_
      exact mm_zret S hR hS hr hlocks (Or.inl rfl) dL_areCoroutinesRight_165
    · have hf := it_f hf c23
      refine lv_iload S.1 S.2.1 dL_areCoroutinesRight_92 (lv_at hl 3 rfl) ?_
      refine lv_iconst (v := 1) S.1 S.2.1 dL_areCoroutinesRight_94 (by decide) ?_
      refine lv_icmp_eq (tgt := 110) S.1 S.2.1 dL_areCoroutinesRight_95 (by decide) (fun c24 => ?_) (fun c24 => ?_)
      · have hf := it_t hf c24
        exact wbL_areCoroutinesRight_110 E0 kk14 hkk14 h0 h1 h2 h3 (x4 + y21.2.1) x5 y5.2.1 y7.2.1 y9.2.1 y21.2.2 hf _ _ _ hR hS (lv_sub hl [4, 5, 6, 7, 0, 8, 3, 2, 1] rfl)
      · have hf := it_f hf c24
        refine lv_iload S.1 S.2.1 dL_areCoroutinesRight_98 (lv_at hl 2 rfl) ?_
        refine lv_iconst (v := (-1)) S.1 S.2.1 dL_areCoroutinesRight_100 (by decide) ?_
        refine lv_icmp_ne (tgt := 164) S.1 S.2.1 dL_areCoroutinesRight_101 (by decide) (fun c25 => ?_) (fun c25 => ?_)
        · have hf := it_f hf c25
          refine lv_iconst (v := 0) S.1 S.2.1 dL_areCoroutinesRight_164 (by decide) ?_
          obtain rfl := Option.some.inj hf
          refine W.widen (k := 2) (n := 8) (Nat.le_of_ble_eq_true rfl) (Nat.le_of_ble_eq_true rfl) ?_
          exact mm_zret S hR hS hr hlocks (Or.inl rfl) dL_areCoroutinesRight_165
        · have hf := it_t hf c25
          refine lv_iload S.1 S.2.1 dL_areCoroutinesRight_104 (lv_at hl 1 rfl) ?_
          refine lv_iconst (v := (-1)) S.1 S.2.1 dL_areCoroutinesRight_106 (by decide) ?_
          refine lv_icmp_ne (tgt := 164) S.1 S.2.1 dL_areCoroutinesRight_107 (by decide) (fun c26 => ?_) (fun c26 => ?_)
          · have hf := it_f hf c26
            refine lv_iconst (v := 0) S.1 S.2.1 dL_areCoroutinesRight_164 (by decide) ?_
            obtain rfl := Option.some.inj hf
            refine W.widen (k := 2) (n := 8) (Nat.le_of_ble_eq_true rfl) (Nat.le_of_ble_eq_true rfl) ?_
            exact mm_zret S hR hS hr hlocks (Or.inl rfl) dL_areCoroutinesRight_165
          · have hf := it_t hf c26
            exact wbL_areCoroutinesRight_110 E0 kk14 hkk14 h0 h1 h2 h3 (x4 + y21.2.1) x5 y5.2.1 y7.2.1 y9.2.1 y21.2.2 hf _ _ _ hR hS (lv_sub hl [4, 5, 6, 7, 0, 8, 3, 2, 1] rfl)
theorem wlL_areCoroutinesRight_14 {p : Program} {l : Launch} {e : Env} {s : State} {m : MethodId} {args : Array Value} {below : List Frame} {meth : Method} {c : Code} {G : mmG} {A : Nat → Prop} {res : Int32 × MM} (E0 : mmEnv p m c cL_areCoroutinesRight 10 s args RL G A meth (some (.boolean)))  : ∀ (n : Nat) (h0 : Nat) (h1 : Nat) (h2 : Nat) (h3 : Nat) (x4 : Int32) (x5 : Int32) (μ : MM), lL_areCoroutinesRight_14  n h0 h1 h2 h3 x4 x5 μ = some res → mmGoalA p l e rmL_areCoroutinesRight s m args below meth c G A 2 8 2 8 14 10 [(0, rf h0), (1, rf h1), (2, rf h2), (3, rf h3), (4, .int x4), (5, .int x5)] μ (mmQ G A res.2 (some (.int res.1))) := by
  intro n
  induction n with
  | zero => intro h0 h1 h2 h3 x4 x5 μ hf; cases hf
  | succ n ih => intro h0 h1 h2 h3 x4 x5 μ hf; exact wbL_areCoroutinesRight_14 E0  _ ih h0 h1 h2 h3 x4 x5 μ hf
set_option maxRecDepth 100000 in
set_option maxHeartbeats 4000000 in
theorem kL_areCoroutinesRight_c (l : Launch) (G : mmG) (A : Nat → Prop) {μ : MM} {res : Int32 × MM} {h0 : Nat} {h1 : Nat} (hf : fL_areCoroutinesRight h0 h1 μ = some res) : Met l yL_areCoroutinesRight [.code yL_areCoroutinesRight cL_areCoroutinesRight 10 (some (.boolean))] rmL_areCoroutinesRight (mmPc G A μ [rf h0, rf h1]) (mmQ G A res.2 (some (.int res.1))) 2 8 A := by
  refine mm_ofW (by decide +kernel) (by simp [lg_sl, rf_cat, int_cat]) ?_
  intro p e s m below meth c ls S hR hA hS hr hlocks hl hnm
  have hl : lv_has ls 10 [(0, rf h0), (1, rf h1)] := by simpa [lv_args, rf_cat, int_cat] using hl
  have E0 : mmEnv p m c cL_areCoroutinesRight 10 s _ RL G A meth (some (.boolean)) := ⟨S, hA, hr, hlocks⟩
  have hK : mmKN μ μ := mmKN.rf
  unfold fL_areCoroutinesRight at hf
  refine lv_iconst (v := 5) S.1 S.2.1 dL_areCoroutinesRight_0 (by decide) ?_
  refine mm_newiK (N := 5) S hR hS hA wAint (by decide) (by decide) (by decide) (Nat.le_of_ble_eq_true rfl) (Nat.le_of_ble_eq_true rfl) dL_areCoroutinesRight_1 (fun H locs hR hS => ?_)
  obtain ⟨μ1, e1, hf⟩ := stx hf
  rw [← e1] at hR
  have hK : mmKN μ1 μ1 := mmKN.rf
  refine mm_astore_n (i := 2) (lv' := [(2, rf (mX μ)), (0, rf h0), (1, rf h1)]) S dL_areCoroutinesRight_3 rfl hl (by decide) (by simp [rf_cat]) (fun ls hl => ?_)
  refine lv_iconst (v := 3) S.1 S.2.1 dL_areCoroutinesRight_4 (by decide) ?_
  refine mm_newiK (N := 3) S hR hS hA wAint (by decide) (by decide) (by decide) (Nat.le_of_ble_eq_true rfl) (Nat.le_of_ble_eq_true rfl) dL_areCoroutinesRight_5 (fun H locs hR hS => ?_)
  obtain ⟨μ2, e2, hf⟩ := stx hf
  rw [← e2] at hR
  have hK : mmKN μ2 μ2 := mmKN.rf
  refine mm_astore_n (i := 3) (lv' := [(3, rf (mX μ1)), (2, rf (mX μ)), (0, rf h0), (1, rf h1)]) S dL_areCoroutinesRight_7 rfl hl (by decide) (by simp [rf_cat]) (fun ls hl => ?_)
  refine lv_iconst (v := 0) S.1 S.2.1 dL_areCoroutinesRight_8 (by decide) ?_
  refine lv_istore (i := 4) (lv' := [(4, .int 0), (3, rf (mX μ1)), (2, rf (mX μ)), (0, rf h0), (1, rf h1)]) S.1 S.2.1 dL_areCoroutinesRight_9 hl (by decide) (by simp [rf_cat]) (fun ls hl => ?_)
  refine lv_iconst (v := 0) S.1 S.2.1 dL_areCoroutinesRight_11 (by decide) ?_
  refine lv_istore (i := 5) (lv' := [(5, .int 0), (4, .int 0), (3, rf (mX μ1)), (2, rf (mX μ)), (0, rf h0), (1, rf h1)]) S.1 S.2.1 dL_areCoroutinesRight_12 hl (by decide) rfl (fun ls hl => ?_)
  exact wlL_areCoroutinesRight_14 E0  FU h0 h1 (mX μ) (mX μ1) 0 0 μ2 hf _ _ _ hR hS (lv_sub hl [4, 5, 3, 2, 1, 0] rfl)
