theorem kcL_7 : Cond.constant RL 7 2147483647 ∈ WL := (wl_t 765 (by decide +kernel) (by decide +kernel))
theorem wsX7_in : ∀ w ∈ u_ws RX7 TX7 3, w ∈ WL := fun w hw => List.mem_filter.mpr ((show ∀ w ∈ u_ws RX7 TX7 3, w ∈ lw_tbl ∧ mmGood w = true by decide +kernel) w hw)
theorem fdX7_18 : mmFd RX7 18 7 2 := ⟨RX7, TX7, 3, rfl, by decide, by decide, rfl, wsX7_in, (Or.inl (wl_t 722 (by decide +kernel) (by decide +kernel)))⟩
theorem fpX7_18 : mmFp RX7 18 7 2 (.int) := ⟨RX7, TX7, 3, tyX7, rfl, by decide, by decide, rfl, wsX7_in, (Or.inl (wl_t 722 (by decide +kernel) (by decide +kernel))), tyX7_ok, nmX7, rfl, by decide +kernel⟩
theorem cvX7_22 : mmCV RX7 22 6 yX6_body cX6_body 1 (some (.int)) 0 := ⟨TX6, 3, rfl, by decide, (wl_t 734 (by decide +kernel) (by decide +kernel)), (wl_t 735 (by decide +kernel) (by decide +kernel)), (wl_t 736 (by decide +kernel) (by decide +kernel)), (wl_t 1 (by decide +kernel) (by decide +kernel)), (wl_t 737 (by decide +kernel) (by decide +kernel)), rfl, rfl, ⟨by decide +kernel, by decide +kernel⟩, by decide +kernel⟩
theorem fdX7_14 : mmFd RX7 14 7 1 := ⟨RX7, TX7, 3, rfl, by decide, by decide, rfl, wsX7_in, (Or.inl (wl_t 721 (by decide +kernel) (by decide +kernel)))⟩
theorem fdX7_9 : mmFd RX7 9 7 0 := ⟨RX7, TX7, 3, rfl, by decide, by decide, rfl, wsX7_in, (Or.inl (wl_t 719 (by decide +kernel) (by decide +kernel)))⟩
theorem cvX7_28 : mmCV RX7 28 6 yX6_line cX6_line 6 (some (.int)) 4 := ⟨TX6, 3, rfl, by decide, (wl_t 771 (by decide +kernel) (by decide +kernel)), (wl_t 772 (by decide +kernel) (by decide +kernel)), (wl_t 773 (by decide +kernel) (by decide +kernel)), (wl_t 1 (by decide +kernel) (by decide +kernel)), (wl_t 774 (by decide +kernel) (by decide +kernel)), rfl, rfl, ⟨by decide +kernel, by decide +kernel⟩, by decide +kernel⟩
theorem csX7_32 : mmCN RX7 32 "YieldMoorLaw" yL_below cL_below 2 (some (.int)) 2 := ⟨(wl_t 762 (by decide +kernel) (by decide +kernel)), (wl_t 763 (by decide +kernel) (by decide +kernel)), (wl_t 0 (by decide +kernel) (by decide +kernel)), (wl_t 764 (by decide +kernel) (by decide +kernel)), rfl, rfl, ⟨by decide +kernel, by decide +kernel⟩, by decide +kernel⟩
theorem mnX7_38 : mmMn RX7 38 := ⟨(wl_t 766 (by decide +kernel) (by decide +kernel)), (wl_t 598 (by decide +kernel) (by decide +kernel)), (wl_t 13 (by decide +kernel) (by decide +kernel)), (wl_t 599 (by decide +kernel) (by decide +kernel))⟩
theorem cvX7_43 : mmCV RX7 43 7 yX7_isLine cX7_isLine 7 (some (.boolean)) 5 := ⟨TX7, 3, rfl, by decide, (wl_t 767 (by decide +kernel) (by decide +kernel)), (wl_t 768 (by decide +kernel) (by decide +kernel)), (wl_t 769 (by decide +kernel) (by decide +kernel)), (wl_t 8 (by decide +kernel) (by decide +kernel)), (wl_t 770 (by decide +kernel) (by decide +kernel)), rfl, rfl, ⟨by decide +kernel, by decide +kernel⟩, by decide +kernel⟩
theorem mnX7_47 : mmMx RX7 47 := ⟨(wl_t 786 (by decide +kernel) (by decide +kernel)), (wl_t 613 (by decide +kernel) (by decide +kernel)), (wl_t 13 (by decide +kernel) (by decide +kernel)), (wl_t 614 (by decide +kernel) (by decide +kernel))⟩
theorem cvL_43 : mmCV RL 43 6 yX6_of cX6_of 4 (some (.int)) 2 := ⟨TX6, 3, rfl, by decide, (wl_t 248 (by decide +kernel) (by decide +kernel)), (wl_t 249 (by decide +kernel) (by decide +kernel)), (wl_t 250 (by decide +kernel) (by decide +kernel)), (wl_t 1 (by decide +kernel) (by decide +kernel)), (wl_t 251 (by decide +kernel) (by decide +kernel)), rfl, rfl, ⟨by decide +kernel, by decide +kernel⟩, by decide +kernel⟩
theorem cvL_39 : mmCV RL 39 6 yX6_many cX6_many 2 (some (.int)) 1 := ⟨TX6, 3, rfl, by decide, (wl_t 344 (by decide +kernel) (by decide +kernel)), (wl_t 345 (by decide +kernel) (by decide +kernel)), (wl_t 346 (by decide +kernel) (by decide +kernel)), (wl_t 1 (by decide +kernel) (by decide +kernel)), (wl_t 347 (by decide +kernel) (by decide +kernel)), rfl, rfl, ⟨by decide +kernel, by decide +kernel⟩, by decide +kernel⟩
theorem cvL_132 : mmCV RL 132 6 yX6_overIn cX6_overIn 2 (some (.int)) 1 := ⟨TX6, 3, rfl, by decide, (wl_t 884 (by decide +kernel) (by decide +kernel)), (wl_t 677 (by decide +kernel) (by decide +kernel)), (wl_t 678 (by decide +kernel) (by decide +kernel)), (wl_t 1 (by decide +kernel) (by decide +kernel)), (wl_t 679 (by decide +kernel) (by decide +kernel)), rfl, rfl, ⟨by decide +kernel, by decide +kernel⟩, by decide +kernel⟩
theorem cvL_68 : mmCV RL 68 6 yX6_ofTask cX6_ofTask 4 (some (.int)) 2 := ⟨TX6, 3, rfl, by decide, (wl_t 809 (by decide +kernel) (by decide +kernel)), (wl_t 658 (by decide +kernel) (by decide +kernel)), (wl_t 659 (by decide +kernel) (by decide +kernel)), (wl_t 1 (by decide +kernel) (by decide +kernel)), (wl_t 660 (by decide +kernel) (by decide +kernel)), rfl, rfl, ⟨by decide +kernel, by decide +kernel⟩, by decide +kernel⟩
-- L_below
def fL_below (x0 : Int32) (x1 : Int32) (μ : MM) : Option (Int32 × MM) :=
  if ¬ x1 = 0 then some (((x0 &&& 2147483647) - (x0 &&& 2147483647) / x1 * x1), μ) else none
set_option maxRecDepth 100000 in
set_option maxHeartbeats 4000000 in
theorem kL_below_kn {μ : MM} {res : Int32 × MM} {x0 : Int32} {x1 : Int32} (hf : fL_below x0 x1 μ = some res) : mmKN μ res.2 := by
  have hK : mmKN μ μ := mmKN.rf
  unfold fL_below at hf
  obtain ⟨g1, hf⟩ := gd hf
  obtain rfl := Option.some.inj hf
  exact hK
abbrev rmL_below : Room := { frames := 0, cells := 0, slots := 0, locals := 0 }
set_option maxRecDepth 100000 in
set_option maxHeartbeats 4000000 in
theorem kL_below_c (l : Launch) (G : mmG) (A : Nat → Prop) {μ : MM} {res : Int32 × MM} {x0 : Int32} {x1 : Int32} (hf : fL_below x0 x1 μ = some res) : Met l yL_below [.code yL_below cL_below 2 (some (.int))] rmL_below (mmPc G A μ [.int x0, .int x1]) (mmQ G A res.2 (some (.int res.1))) 0 0 A := by
  refine mm_ofW (by decide +kernel) (by simp [lg_sl, rf_cat, int_cat]) ?_
  intro p e s m below meth c ls S hR hA hS hr hlocks hl hnm
  have hl : lv_has ls 2 [(0, .int x0), (1, .int x1)] := by simpa [lv_args, rf_cat, int_cat] using hl
  have E0 : mmEnv p m c cL_below 2 s _ RL G A meth (some (.int)) := ⟨S, hA, hr, hlocks⟩
  have hK : mmKN μ μ := mmKN.rf
  unfold fL_below at hf
  refine lv_iload_n S.1 S.2.1 dL_below_0 rfl (lv_at hl 0 rfl) ?_
  refine lv_ldc (v := 2147483647) S.1 S.2.1 S.2.2.2.1 (S.2.2.2.2.1 _ kcL_7) dL_below_1 ?_
  refine lv_iand S.1 S.2.1 dL_below_3 ?_
  refine lv_iload_n S.1 S.2.1 dL_below_4 rfl (lv_at hl 1 rfl) ?_
  obtain ⟨g1, hf⟩ := gd hf
  refine lv_irem S.1 S.2.1 dL_below_5 g1 ?_
  obtain rfl := Option.some.inj hf
  exact mm_iret S hR hS hr hlocks dL_below_6
-- X7_isTold
def fX7_isTold (h0 : Nat) (h1 : Nat) (μ : MM) : Option (Int32 × MM) :=
  st (sI μ h0 2 ((mI μ h0 2) + 1)) fun μ1 => if mK μ h1 = 7 then (fX6_body h1 μ1).bind fun y2 => if y2.1 = 0 then if y2.2.1 = ((mI y2.2.2 h0 2) - 1) then (some (1, y2.2.2)) else (some (0, y2.2.2)) else none else none
set_option maxRecDepth 100000 in
set_option maxHeartbeats 4000000 in
theorem kX7_isTold_kn {μ : MM} {res : Int32 × MM} {h0 : Nat} {h1 : Nat} (hf : fX7_isTold h0 h1 μ = some res) : mmKN μ res.2 := by
  have hK : mmKN μ μ := mmKN.rf
  unfold fX7_isTold at hf
  obtain ⟨μ1, e1, hf⟩ := stx hf
  have hK : mmKN μ μ1 := by rw [e1]; exact hK.sI
  obtain ⟨g4, hf⟩ := gd hf
  obtain ⟨y2, hy2, hf⟩ := bd hf
  obtain ⟨g3, hf⟩ := gd hf
  have hK : mmKN μ y2.2.2 := hK.tr (kX6_body_kn hy2)
  rcases it_or hf with ⟨c5, hf⟩ | ⟨c5, hf⟩
  · skip
    obtain rfl := Option.some.inj hf
    exact hK
  · skip
    obtain rfl := Option.some.inj hf
    exact hK
abbrev rmX7_isTold : Room := { frames := 2, cells := 0, slots := 0, locals := 41 }
set_option maxRecDepth 100000 in
set_option maxHeartbeats 4000000 in
theorem kX7_isTold_c (l : Launch) (G : mmG) (A : Nat → Prop) {μ : MM} {res : Int32 × MM} {h0 : Nat} {h1 : Nat} (hk0 : mK μ h0 = 8) (hf : fX7_isTold h0 h1 μ = some res) : Met l yX7_isTold [.code yX7_isTold cX7_isTold 2 (some (.boolean))] rmX7_isTold (mmPc G A μ [rf h0, rf h1]) (mmQ G A res.2 (some (.int res.1))) 0 0 A := by
  refine mm_ofW (by decide +kernel) (by simp [lg_sl, rf_cat, int_cat]) ?_
  intro p e s m below meth c ls S hR hA hS hr hlocks hl hnm
  have hl : lv_has ls 2 [(0, rf h0), (1, rf h1)] := by simpa [lv_args, rf_cat, int_cat] using hl
  have E0 : mmEnv p m c cX7_isTold 2 s _ RX7 G A meth (some (.boolean)) := ⟨S, hA, hr, hlocks⟩
  have hK : mmKN μ μ := mmKN.rf
  unfold fX7_isTold at hf
  refine mm_aload_n S dX7_isTold_0 rfl (lv_at hl 0 rfl) ?_
  refine lv_dup S.1 S.2.1 dX7_isTold_1 (rf_cat _) ?_
  refine mm_geti S hR fdX7_18 (hK.k hk0) rfl dX7_isTold_2 ?_
  refine lv_iconst (v := 1) S.1 S.2.1 dX7_isTold_5 (by decide) ?_
  refine lv_iadd S.1 S.2.1 dX7_isTold_6 ?_
  refine mm_puti S hR hS fpX7_18 (hK.k hk0) rfl rfl rfl dX7_isTold_7 (fun H locs hR hS => ?_)
  obtain ⟨μ1, e1, hf⟩ := stx hf
  rw [← e1] at hR
  have hK : mmKN μ μ1 := by rw [e1]; exact hK.sI
  refine mm_aload_n S dX7_isTold_10 rfl (lv_at hl 1 rfl) ?_
  obtain ⟨g4, hf⟩ := gd hf
  obtain ⟨y2, hy2, hf⟩ := bd hf
  obtain ⟨g3, hf⟩ := gd hf
  refine mm_callVi S hR hS hA (As := []) (rest := []) cvX7_22 (hK.k g4) (kX6_body_c l G A (hK.k g4) hy2 g3) rfl rfl ⟨Nat.le_of_ble_eq_true rfl, Nat.le_of_ble_eq_true rfl⟩ rfl hl.1 rfl (lv_room (by simp [rf_cat, int_cat, long_cat])) dX7_isTold_11 ⟨Nat.zero_le _, Nat.zero_le _⟩ (fun H locs hR hS => ?_)
  have hK : mmKN μ y2.2.2 := hK.tr (kX6_body_kn hy2)
  refine mm_aload_n S dX7_isTold_14 rfl (lv_at hl 0 rfl) ?_
  refine mm_geti S hR fdX7_18 (hK.k hk0) rfl dX7_isTold_15 ?_
  refine lv_iconst (v := 1) S.1 S.2.1 dX7_isTold_18 (by decide) ?_
  refine lv_isub S.1 S.2.1 dX7_isTold_19 ?_
  refine lv_icmp_ne (tgt := 27) S.1 S.2.1 dX7_isTold_20 (by decide) (fun c5 => ?_) (fun c5 => ?_)
  · have hf := it_f hf c5
    refine lv_iconst (v := 0) S.1 S.2.1 dX7_isTold_27 (by decide) ?_
    obtain rfl := Option.some.inj hf
    exact mm_zret S hR hS hr hlocks (Or.inl rfl) dX7_isTold_28
  · have hf := it_t hf c5
    refine lv_iconst (v := 1) S.1 S.2.1 dX7_isTold_23 (by decide) ?_
    refine lv_goto (tgt := 28) S.1 S.2.1 dX7_isTold_24 (by decide) ?_
    obtain rfl := Option.some.inj hf
    exact mm_zret S hR hS hr hlocks (Or.inr rfl) dX7_isTold_28
-- X7_isLine
def fX7_isLine (h0 : Nat) (h1 : Nat) (x2 : Int32) (x3 : Int32) (x4 : Int32) (x5 : Int32) (μ : MM) : Option (Int32 × MM) :=
  if mK μ (mP μ h0 1) = 20 then if ¬ (x2 < 0 ∨ mN μ (mP μ h0 1) ≤ x2.toNatClampNeg) then if (mI μ (mP μ h0 1) x2.toNatClampNeg) = (12 : Int32) then (some (1, μ)) else (st (sN μ 20 3) fun μ4 => if mK μ4 (mX μ) = 20 then if ¬ ((0 : Int32) < 0 ∨ mN μ4 (mX μ) ≤ (0 : Int32).toNatClampNeg) then st (sI μ4 (mX μ) (0 : Int32).toNatClampNeg x3) fun μ7 => if ¬ ((1 : Int32) < 0 ∨ mN μ7 (mX μ) ≤ (1 : Int32).toNatClampNeg) then st (sI μ7 (mX μ) (1 : Int32).toNatClampNeg x4) fun μ9 => if ¬ ((2 : Int32) < 0 ∨ mN μ9 (mX μ) ≤ (2 : Int32).toNatClampNeg) then st (sI μ9 (mX μ) (2 : Int32).toNatClampNeg x5) fun μ11 => if mK μ4 h0 = 8 then if mK μ4 (mP μ11 h0 0) = 25 then if ¬ (x2 < 0 ∨ mN μ11 (mP μ11 h0 0) ≤ x2.toNatClampNeg) then if mK μ4 (mP μ11 h0 1) = 20 then if ¬ (x2 < 0 ∨ mN μ11 (mP μ11 h0 1) ≤ x2.toNatClampNeg) then if mK μ4 (mP μ11 (mP μ11 h0 0) x2.toNatClampNeg) = 24 then if ¬ ((mI μ11 (mP μ11 h0 1) x2.toNatClampNeg) < 0 ∨ mN μ11 (mP μ11 (mP μ11 h0 0) x2.toNatClampNeg) ≤ (mI μ11 (mP μ11 h0 1) x2.toNatClampNeg).toNatClampNeg) then st (sP μ11 (mP μ11 (mP μ11 h0 0) x2.toNatClampNeg) (mI μ11 (mP μ11 h0 1) x2.toNatClampNeg).toNatClampNeg (mX μ)) fun μ19 => if mK μ4 (mP μ19 h0 1) = 20 then if ¬ (x2 < 0 ∨ mN μ19 (mP μ19 h0 1) ≤ x2.toNatClampNeg) then if ¬ (x2 < 0 ∨ mN μ19 (mP μ19 h0 1) ≤ x2.toNatClampNeg) then st (sI μ19 (mP μ19 h0 1) x2.toNatClampNeg ((mI μ19 (mP μ19 h0 1) x2.toNatClampNeg) + 1)) fun μ23 => if mK μ4 h1 = 7 then (fX6_line h1 x2 x3 x4 x5 μ23).bind fun y24 => if y24.1 = 0 then if mK μ4 (mP y24.2.2 h0 1) = 20 then if ¬ (x2 < 0 ∨ mN y24.2.2 (mP y24.2.2 h0 1) ≤ x2.toNatClampNeg) then if y24.2.1 = ((mI y24.2.2 (mP y24.2.2 h0 1) x2.toNatClampNeg) - 1) then (some (1, y24.2.2)) else (some (0, y24.2.2)) else none else none else none else none else none else none else none else none else none else none else none else none else none else none else none else none else none else none) else none else none
abbrev rmX7_isLine : Room := { frames := 3, cells := 1, slots := 3, locals := 70 }
set_option maxRecDepth 100000 in
set_option maxHeartbeats 4000000 in
theorem kX7_isLine_c (l : Launch) (G : mmG) (A : Nat → Prop) {μ : MM} {res : Int32 × MM} {h0 : Nat} {h1 : Nat} {x2 : Int32} {x3 : Int32} {x4 : Int32} {x5 : Int32} (hk0 : mK μ h0 = 8) (hf : fX7_isLine h0 h1 x2 x3 x4 x5 μ = some res) : Met l yX7_isLine [.code yX7_isLine cX7_isLine 7 (some (.boolean))] rmX7_isLine (mmPc G A μ [rf h0, rf h1, .int x2, .int x3, .int x4, .int x5]) (mmQ G A res.2 (some (.int res.1))) 1 3 A := by
  refine mm_ofW (by decide +kernel) (by simp [lg_sl, rf_cat, int_cat]) ?_
  intro p e s m below meth c ls S hR hA hS hr hlocks hl hnm
  have hl : lv_has ls 7 [(0, rf h0), (1, rf h1), (2, .int x2), (3, .int x3), (4, .int x4), (5, .int x5)] := by simpa [lv_args, rf_cat, int_cat] using hl
  have E0 : mmEnv p m c cX7_isLine 7 s _ RX7 G A meth (some (.boolean)) := ⟨S, hA, hr, hlocks⟩
  have hK : mmKN μ μ := mmKN.rf
  unfold fX7_isLine at hf
  refine mm_aload_n S dX7_isLine_0 rfl (lv_at hl 0 rfl) ?_
  refine mm_getp S hR fdX7_14 (hK.k hk0) rfl dX7_isLine_1 ?_
  refine lv_iload_n S.1 S.2.1 dX7_isLine_4 rfl (lv_at hl 2 rfl) ?_
  obtain ⟨g1, hf⟩ := gd hf
  obtain ⟨g2, hf⟩ := gd hf
  refine mm_iald S hR (hK.k g1) g2 dX7_isLine_5 ?_
  refine lv_bipush (v := 12) S.1 S.2.1 dX7_isLine_6 (by decide) ?_
  refine lv_icmp_ne (tgt := 13) S.1 S.2.1 dX7_isLine_8 (by decide) (fun c3 => ?_) (fun c3 => ?_)
  · have hf := it_f hf c3
    refine lv_iconst (v := 3) S.1 S.2.1 dX7_isLine_13 (by decide) ?_
    refine mm_newiK (N := 3) S hR hS hA wAint (by decide) (by decide) (by decide) (Nat.le_of_ble_eq_true rfl) (Nat.le_of_ble_eq_true rfl) dX7_isLine_14 (fun H locs hR hS => ?_)
    obtain ⟨μ4, e4, hf⟩ := stx hf
    rw [← e4] at hR
    have hK : mmKN μ4 μ4 := mmKN.rf
    refine lv_dup S.1 S.2.1 dX7_isLine_16 (rf_cat _) ?_
    refine lv_iconst (v := 0) S.1 S.2.1 dX7_isLine_17 (by decide) ?_
    refine lv_iload_n S.1 S.2.1 dX7_isLine_18 rfl (lv_at hl 3 rfl) ?_
    obtain ⟨g5, hf⟩ := gd hf
    obtain ⟨g6, hf⟩ := gd hf
    refine mm_iast S hR hS (hK.k g5) g6 dX7_isLine_19 (fun H locs hR hS => ?_)
    obtain ⟨μ7, e7, hf⟩ := stx hf
    rw [← e7] at hR
    have hK : mmKN μ4 μ7 := by rw [e7]; exact hK.sI
    refine lv_dup S.1 S.2.1 dX7_isLine_20 (rf_cat _) ?_
    refine lv_iconst (v := 1) S.1 S.2.1 dX7_isLine_21 (by decide) ?_
    refine lv_iload S.1 S.2.1 dX7_isLine_22 (lv_at hl 4 rfl) ?_
    obtain ⟨g8, hf⟩ := gd hf
    refine mm_iast S hR hS (hK.k g5) g8 dX7_isLine_24 (fun H locs hR hS => ?_)
    obtain ⟨μ9, e9, hf⟩ := stx hf
    rw [← e9] at hR
    have hK : mmKN μ4 μ9 := by rw [e9]; exact hK.sI
    refine lv_dup S.1 S.2.1 dX7_isLine_25 (rf_cat _) ?_
    refine lv_iconst (v := 2) S.1 S.2.1 dX7_isLine_26 (by decide) ?_
    refine lv_iload S.1 S.2.1 dX7_isLine_27 (lv_at hl 5 rfl) ?_
    obtain ⟨g10, hf⟩ := gd hf
    refine mm_iast S hR hS (hK.k g5) g10 dX7_isLine_29 (fun H locs hR hS => ?_)
    obtain ⟨μ11, e11, hf⟩ := stx hf
    rw [← e11] at hR
    have hK : mmKN μ4 μ11 := by rw [e11]; exact hK.sI
    refine mm_astore (i := 6) (lv' := [(6, rf (mX μ)), (0, rf h0), (1, rf h1), (2, .int x2), (3, .int x3), (4, .int x4), (5, .int x5)]) S dX7_isLine_30 hl (by decide) rfl (fun ls hl => ?_)
    refine mm_aload_n S dX7_isLine_32 rfl (lv_at hl 1 rfl) ?_
    obtain ⟨g12, hf⟩ := gd hf
    refine mm_getp S hR fdX7_9 (hK.k g12) rfl dX7_isLine_33 ?_
    refine lv_iload_n S.1 S.2.1 dX7_isLine_36 rfl (lv_at hl 3 rfl) ?_
    obtain ⟨g13, hf⟩ := gd hf
    obtain ⟨g14, hf⟩ := gd hf
    refine mm_aaldA (k := 25) (t := 5) S hR (hK.k g13) (by decide) (by decide) rfl g14 dX7_isLine_37 ?_
    refine mm_aload_n S dX7_isLine_38 rfl (lv_at hl 1 rfl) ?_
    refine mm_getp S hR fdX7_14 (hK.k g12) rfl dX7_isLine_39 ?_
    refine lv_iload_n S.1 S.2.1 dX7_isLine_42 rfl (lv_at hl 3 rfl) ?_
    obtain ⟨g15, hf⟩ := gd hf
    obtain ⟨g16, hf⟩ := gd hf
    refine mm_iald S hR (hK.k g15) g16 dX7_isLine_43 ?_
    refine mm_aload S dX7_isLine_44 (lv_at hl 0 rfl) ?_
    obtain ⟨g17, hf⟩ := gd hf
    obtain ⟨g18, hf⟩ := gd hf
    refine mm_astA S hR hS (hK.k g17) (hK.k g5) g18 dX7_isLine_46 (fun H locs hR hS => ?_)
    obtain ⟨μ19, e19, hf⟩ := stx hf
    rw [← e19] at hR
    have hK : mmKN μ4 μ19 := by rw [e19]; exact hK.sP
    refine mm_aload_n S dX7_isLine_47 rfl (lv_at hl 1 rfl) ?_
    refine mm_getp S hR fdX7_14 (hK.k g12) rfl dX7_isLine_48 ?_
    refine lv_iload_n S.1 S.2.1 dX7_isLine_51 rfl (lv_at hl 3 rfl) ?_
    refine lv_dup2_11 S.1 S.2.1 dX7_isLine_52 rfl (rf_cat _) ?_
    obtain ⟨g20, hf⟩ := gd hf
    obtain ⟨g21, hf⟩ := gd hf
    refine mm_iald S hR (hK.k g20) g21 dX7_isLine_53 ?_
    refine lv_iconst (v := 1) S.1 S.2.1 dX7_isLine_54 (by decide) ?_
    refine lv_iadd S.1 S.2.1 dX7_isLine_55 ?_
    obtain ⟨g22, hf⟩ := gd hf
    refine mm_iast S hR hS (hK.k g20) g22 dX7_isLine_56 (fun H locs hR hS => ?_)
    obtain ⟨μ23, e23, hf⟩ := stx hf
    rw [← e23] at hR
    have hK : mmKN μ4 μ23 := by rw [e23]; exact hK.sI
    refine mm_aload_n S dX7_isLine_57 rfl (lv_at hl 2 rfl) ?_
    refine lv_iload_n S.1 S.2.1 dX7_isLine_58 rfl (lv_at hl 3 rfl) ?_
    refine lv_iload_n S.1 S.2.1 dX7_isLine_59 rfl (lv_at hl 4 rfl) ?_
    refine lv_iload S.1 S.2.1 dX7_isLine_60 (lv_at hl 5 rfl) ?_
    refine lv_iload S.1 S.2.1 dX7_isLine_62 (lv_at hl 6 rfl) ?_
    obtain ⟨g26, hf⟩ := gd hf
    obtain ⟨y24, hy24, hf⟩ := bd hf
    obtain ⟨g25, hf⟩ := gd hf
    refine mm_callVi S hR hS hA (As := [.int x2, .int x3, .int x4, .int x5]) (rest := []) cvX7_28 (hK.k g26) (kX6_line_c l G A (hK.k g26) hy24 g25) rfl rfl ⟨Nat.le_of_ble_eq_true rfl, Nat.le_of_ble_eq_true rfl⟩ rfl hl.1 rfl (lv_room (by simp [rf_cat, int_cat, long_cat])) dX7_isLine_64 ⟨Nat.le_of_ble_eq_true rfl, Nat.le_of_ble_eq_true rfl⟩ (fun H locs hR hS => ?_)
    have hK : mmKN μ4 y24.2.2 := hK.tr (kX6_line_kn hy24)
    refine mm_aload_n S dX7_isLine_67 rfl (lv_at hl 1 rfl) ?_
    refine mm_getp S hR fdX7_14 (hK.k g12) rfl dX7_isLine_68 ?_
    refine lv_iload_n S.1 S.2.1 dX7_isLine_71 rfl (lv_at hl 3 rfl) ?_
    obtain ⟨g27, hf⟩ := gd hf
    obtain ⟨g28, hf⟩ := gd hf
    refine mm_iald S hR (hK.k g27) g28 dX7_isLine_72 ?_
    refine lv_iconst (v := 1) S.1 S.2.1 dX7_isLine_73 (by decide) ?_
    refine lv_isub S.1 S.2.1 dX7_isLine_74 ?_
    refine lv_icmp_ne (tgt := 82) S.1 S.2.1 dX7_isLine_75 (by decide) (fun c29 => ?_) (fun c29 => ?_)
    · have hf := it_f hf c29
      refine lv_iconst (v := 0) S.1 S.2.1 dX7_isLine_82 (by decide) ?_
      obtain rfl := Option.some.inj hf
      refine W.widen (k := 1) (n := 3) (Nat.le_of_ble_eq_true rfl) (Nat.le_of_ble_eq_true rfl) ?_
      exact mm_zret S hR hS hr hlocks (Or.inl rfl) dX7_isLine_83
    · have hf := it_t hf c29
      refine lv_iconst (v := 1) S.1 S.2.1 dX7_isLine_78 (by decide) ?_
      refine lv_goto (tgt := 83) S.1 S.2.1 dX7_isLine_79 (by decide) ?_
      obtain rfl := Option.some.inj hf
      refine W.widen (k := 1) (n := 3) (Nat.le_of_ble_eq_true rfl) (Nat.le_of_ble_eq_true rfl) ?_
      exact mm_zret S hR hS hr hlocks (Or.inr rfl) dX7_isLine_83
  · have hf := it_t hf c3
    refine lv_iconst (v := 1) S.1 S.2.1 dX7_isLine_11 (by decide) ?_
    obtain rfl := Option.some.inj hf
    refine W.widen (k := 1) (n := 3) (Nat.le_of_ble_eq_true rfl) (Nat.le_of_ble_eq_true rfl) ?_
    exact mm_zret S hR hS hr hlocks (Or.inr rfl) dX7_isLine_12
-- X7_isDrawn
def fX7_isDrawn (h0 : Nat) (h1 : Nat) (x2 : Int32) (x3 : Int32) (h4 : Nat) (μ : MM) : Option (Int32 × MM) :=
  if mK μ h4 = 20 then (fL_below x3 (Int32.ofNat (mN μ h4)) μ).bind fun y2 => if ¬ (y2.1 < 0 ∨ mN y2.2 h4 ≤ y2.1.toNatClampNeg) then if mK μ (mP y2.2 h0 1) = 20 then if ¬ (x2 < 0 ∨ mN y2.2 (mP y2.2 h0 1) ≤ x2.toNatClampNeg) then if (mI y2.2 (mP y2.2 h0 1) x2.toNatClampNeg) = (12 : Int32) then (some (1, y2.2)) else ((fL_below (x3 >>> (6 &&& 31)) 4 y2.2).bind fun y7 => if (mI y2.2 h4 y2.1.toNatClampNeg) = 0 then ((fL_below (x3 >>> (4 &&& 31)) 21 y7.2).bind fun y11 => (fX7_isLine h0 h1 x2 0 (y11.1 - 10) 0 y11.2).bind fun y12 => if y12.1 = 0 ∨ y12.1 = 1 then some (y12.1, y12.2) else none) else (if (mI y2.2 h4 y2.1.toNatClampNeg) = 1 ∨ (mI y2.2 h4 y2.1.toNatClampNeg) = 2 then ((fL_below (x3 >>> (4 &&& 31)) 3 y7.2).bind fun y15 => (fX7_isLine h0 h1 x2 (mI y2.2 h4 y2.1.toNatClampNeg) y15.1 0 y15.2).bind fun y16 => if y16.1 = 0 ∨ y16.1 = 1 then some (y16.1, y16.2) else none) else (if (mI y2.2 h4 y2.1.toNatClampNeg) = 4 then ((fL_below (x3 >>> (4 &&& 31)) 3 y7.2).bind fun y19 => (fL_below (x3 >>> (6 &&& 31)) 4 y19.2).bind fun y20 => (fX7_isLine h0 h1 x2 4 y19.1 (jmax 0 ((mI y2.2 (mP y2.2 h0 1) x2.toNatClampNeg) - y20.1)) y20.2).bind fun y21 => if y21.1 = 0 ∨ y21.1 = 1 then some (y21.1, y21.2) else none) else (if (mI y2.2 h4 y2.1.toNatClampNeg) = 5 ∨ (mI y2.2 h4 y2.1.toNatClampNeg) = 7 then ((fX7_isLine h0 h1 x2 (mI y2.2 h4 y2.1.toNatClampNeg) 0 (jmin 12 (((mI y2.2 (mP y2.2 h0 1) x2.toNatClampNeg) + 1) + y7.1)) y7.2).bind fun y24 => if y24.1 = 0 ∨ y24.1 = 1 then some (y24.1, y24.2) else none) else (if (mI y2.2 h4 y2.1.toNatClampNeg) = 6 then ((fL_below (x3 >>> (4 &&& 31)) 2 y7.2).bind fun y27 => (fX7_isLine h0 h1 x2 6 y27.1 (jmin 12 (((mI y2.2 (mP y2.2 h0 1) x2.toNatClampNeg) + 1) + y7.1)) y27.2).bind fun y28 => if y28.1 = 0 ∨ y28.1 = 1 then some (y28.1, y28.2) else none) else (if (mI y2.2 h4 y2.1.toNatClampNeg) = 9 then ((fL_below (x3 >>> (4 &&& 31)) 7 y7.2).bind fun y31 => (fX7_isLine h0 h1 x2 9 (1 + y31.1) 0 y31.2).bind fun y32 => if y32.1 = 0 ∨ y32.1 = 1 then some (y32.1, y32.2) else none) else (if (mI y2.2 h4 y2.1.toNatClampNeg) = 10 ∨ (mI y2.2 h4 y2.1.toNatClampNeg) = 14 then (if x2 = 0 then ((fX7_isLine h0 h1 x2 (mI y2.2 h4 y2.1.toNatClampNeg) 7 0 y7.2).bind fun y39 => if y39.1 = 0 ∨ y39.1 = 1 then some (y39.1, y39.2) else none) else ((fL_below (x3 >>> (4 &&& 31)) x2 y7.2).bind fun y36 => (fX7_isLine h0 h1 x2 (mI y2.2 h4 y2.1.toNatClampNeg) y36.1 0 y36.2).bind fun y37 => if y37.1 = 0 ∨ y37.1 = 1 then some (y37.1, y37.2) else none)) else (if (mI y2.2 h4 y2.1.toNatClampNeg) = 12 then ((fL_below (x3 >>> (4 &&& 31)) 3 y7.2).bind fun y42 => (fX7_isLine h0 h1 x2 12 (1 + y42.1) 0 y42.2).bind fun y43 => if y43.1 = 0 ∨ y43.1 = 1 then some (y43.1, y43.2) else none) else (if (mI y2.2 h4 y2.1.toNatClampNeg) = 15 then ((fL_below (x3 >>> (4 &&& 31)) 2 y7.2).bind fun y46 => (fX7_isLine h0 h1 x2 15 y46.1 0 y46.2).bind fun y47 => if y47.1 = 0 ∨ y47.1 = 1 then some (y47.1, y47.2) else none) else ((fX7_isLine h0 h1 x2 (mI y2.2 h4 y2.1.toNatClampNeg) 0 0 y7.2).bind fun y8 => if y8.1 = 0 ∨ y8.1 = 1 then some (y8.1, y8.2) else none)))))))))) else none else none else none else none
abbrev rmX7_isDrawn : Room := { frames := 4, cells := 1, slots := 3, locals := 96 }
set_option maxRecDepth 100000 in
set_option maxHeartbeats 4000000 in
theorem kX7_isDrawn_c (l : Launch) (G : mmG) (A : Nat → Prop) {μ : MM} {res : Int32 × MM} {h0 : Nat} {h1 : Nat} {x2 : Int32} {x3 : Int32} {h4 : Nat} (hk0 : mK μ h0 = 8) (hf : fX7_isDrawn h0 h1 x2 x3 h4 μ = some res) : Met l yX7_isDrawn [.code yX7_isDrawn cX7_isDrawn 8 (some (.boolean))] rmX7_isDrawn (mmPc G A μ [rf h0, rf h1, .int x2, .int x3, rf h4]) (mmQ G A res.2 (some (.int res.1))) 1 3 A := by
  refine mm_ofW (by decide +kernel) (by simp [lg_sl, rf_cat, int_cat]) ?_
  intro p e s m below meth c ls S hR hA hS hr hlocks hl hnm
  have hl : lv_has ls 8 [(0, rf h0), (1, rf h1), (2, .int x2), (3, .int x3), (4, rf h4)] := by simpa [lv_args, rf_cat, int_cat] using hl
  have E0 : mmEnv p m c cX7_isDrawn 8 s _ RX7 G A meth (some (.boolean)) := ⟨S, hA, hr, hlocks⟩
  have hK : mmKN μ μ := mmKN.rf
  unfold fX7_isDrawn at hf
  refine mm_aload S dX7_isDrawn_0 (lv_at hl 4 rfl) ?_
  refine lv_iload_n S.1 S.2.1 dX7_isDrawn_2 rfl (lv_at hl 3 rfl) ?_
  refine mm_aload S dX7_isDrawn_3 (lv_at hl 4 rfl) ?_
  obtain ⟨g1, hf⟩ := gd hf
  refine mm_alen20 S hR (hK.k g1) dX7_isDrawn_5 ?_
  obtain ⟨y2, hy2, hf⟩ := bd hf
  refine mm_callNi S hR hS hA (As := [.int x3, .int (Int32.ofNat (mN μ h4))]) (rest := [rf h4]) csX7_32 (kL_below_c l G A hy2) rfl rfl ⟨Nat.le_of_ble_eq_true rfl, Nat.le_of_ble_eq_true rfl⟩ rfl hl.1 rfl (lv_room (by simp [rf_cat, int_cat, long_cat])) dX7_isDrawn_6 ⟨Nat.le_of_ble_eq_true rfl, Nat.le_of_ble_eq_true rfl⟩ (fun H locs hR hS => ?_)
  have hK : mmKN μ y2.2 := hK.tr (kL_below_kn hy2)
  obtain ⟨g3, hf⟩ := gd hf
  refine mm_iald S hR (hK.k g1) g3 dX7_isDrawn_9 ?_
  refine lv_istore (i := 5) (lv' := [(5, .int (mI y2.2 h4 y2.1.toNatClampNeg)), (0, rf h0), (1, rf h1), (2, .int x2), (3, .int x3), (4, rf h4)]) S.1 S.2.1 dX7_isDrawn_10 hl (by decide) (by simp [rf_cat]) (fun ls hl => ?_)
  refine mm_aload_n S dX7_isDrawn_12 rfl (lv_at hl 1 rfl) ?_
  refine mm_getp S hR fdX7_14 (hK.k hk0) rfl dX7_isDrawn_13 ?_
  refine lv_iload_n S.1 S.2.1 dX7_isDrawn_16 rfl (lv_at hl 3 rfl) ?_
  obtain ⟨g4, hf⟩ := gd hf
  obtain ⟨g5, hf⟩ := gd hf
  refine mm_iald S hR (hK.k g4) g5 dX7_isDrawn_17 ?_
  refine lv_istore (i := 6) (lv' := [(6, .int (mI y2.2 (mP y2.2 h0 1) x2.toNatClampNeg)), (5, .int (mI y2.2 h4 y2.1.toNatClampNeg)), (0, rf h0), (1, rf h1), (2, .int x2), (3, .int x3), (4, rf h4)]) S.1 S.2.1 dX7_isDrawn_18 hl (by decide) rfl (fun ls hl => ?_)
  refine lv_iload S.1 S.2.1 dX7_isDrawn_20 (lv_at hl 0 rfl) ?_
  refine lv_bipush (v := 12) S.1 S.2.1 dX7_isDrawn_22 (by decide) ?_
  refine lv_icmp_ne (tgt := 29) S.1 S.2.1 dX7_isDrawn_24 (by decide) (fun c6 => ?_) (fun c6 => ?_)
  · have hf := it_f hf c6
    refine lv_bipush (v := 12) S.1 S.2.1 dX7_isDrawn_29 (by decide) ?_
    refine lv_iload S.1 S.2.1 dX7_isDrawn_31 (lv_at hl 0 rfl) ?_
    refine lv_iconst (v := 1) S.1 S.2.1 dX7_isDrawn_33 (by decide) ?_
    refine lv_iadd S.1 S.2.1 dX7_isDrawn_34 ?_
    refine lv_iload_n S.1 S.2.1 dX7_isDrawn_35 rfl (lv_at hl 5 rfl) ?_
    refine lv_bipush (v := 6) S.1 S.2.1 dX7_isDrawn_36 (by decide) ?_
    refine lv_ishr S.1 S.2.1 dX7_isDrawn_38 ?_
    refine lv_iconst (v := 4) S.1 S.2.1 dX7_isDrawn_39 (by decide) ?_
    obtain ⟨y7, hy7, hf⟩ := bd hf
    refine mm_callNi S hR hS hA (As := [.int (x3 >>> (6 &&& 31)), .int 4]) (rest := [.int ((mI y2.2 (mP y2.2 h0 1) x2.toNatClampNeg) + 1), .int 12]) csX7_32 (kL_below_c l G A hy7) rfl rfl ⟨Nat.le_of_ble_eq_true rfl, Nat.le_of_ble_eq_true rfl⟩ rfl hl.1 rfl (lv_room (by simp [rf_cat, int_cat, long_cat])) dX7_isDrawn_40 ⟨Nat.le_of_ble_eq_true rfl, Nat.le_of_ble_eq_true rfl⟩ (fun H locs hR hS => ?_)
    have hK : mmKN μ y7.2 := hK.tr (kL_below_kn hy7)
    refine lv_iadd S.1 S.2.1 dX7_isDrawn_43 ?_
    refine mm_min S mnX7_38 hl.1 (Nat.le_of_ble_eq_true rfl) (by simp [rf_cat, int_cat, long_cat]) ⟨Nat.le_of_ble_eq_true rfl, Nat.le_of_ble_eq_true rfl⟩ dX7_isDrawn_44 ?_
    refine lv_istore (i := 7) (lv' := [(7, .int (jmin 12 (((mI y2.2 (mP y2.2 h0 1) x2.toNatClampNeg) + 1) + y7.1))), (6, .int (mI y2.2 (mP y2.2 h0 1) x2.toNatClampNeg)), (5, .int (mI y2.2 h4 y2.1.toNatClampNeg)), (0, rf h0), (1, rf h1), (2, .int x2), (3, .int x3), (4, rf h4)]) S.1 S.2.1 dX7_isDrawn_47 hl (by decide) rfl (fun ls hl => ?_)
    refine lv_iload S.1 S.2.1 dX7_isDrawn_49 (lv_at hl 2 rfl) ?_
    rcases it_or hf with ⟨c10, hf⟩ | ⟨c10, hf⟩
    · refine mm_swL (tgt := 128) (off := 77) S [0] dX7_isDrawn_51 (by simpa using c10) (by decide) (by decide) ?_
      refine mm_aload_n S dX7_isDrawn_128 rfl (lv_at hl 3 rfl) ?_
      refine mm_aload_n S dX7_isDrawn_129 rfl (lv_at hl 4 rfl) ?_
      refine lv_iload_n S.1 S.2.1 dX7_isDrawn_130 rfl (lv_at hl 5 rfl) ?_
      refine lv_iconst (v := 0) S.1 S.2.1 dX7_isDrawn_131 (by decide) ?_
      refine lv_iload_n S.1 S.2.1 dX7_isDrawn_132 rfl (lv_at hl 6 rfl) ?_
      refine lv_iconst (v := 4) S.1 S.2.1 dX7_isDrawn_133 (by decide) ?_
      refine lv_ishr S.1 S.2.1 dX7_isDrawn_134 ?_
      refine lv_bipush (v := 21) S.1 S.2.1 dX7_isDrawn_135 (by decide) ?_
      obtain ⟨y11, hy11, hf⟩ := bd hf
      refine mm_callNi S hR hS hA (As := [.int (x3 >>> (4 &&& 31)), .int 21]) (rest := [.int 0, .int x2, rf h1, rf h0]) csX7_32 (kL_below_c l G A hy11) rfl rfl ⟨Nat.le_of_ble_eq_true rfl, Nat.le_of_ble_eq_true rfl⟩ rfl hl.1 rfl (lv_room (by simp [rf_cat, int_cat, long_cat])) dX7_isDrawn_137 ⟨Nat.le_of_ble_eq_true rfl, Nat.le_of_ble_eq_true rfl⟩ (fun H locs hR hS => ?_)
      have hK : mmKN μ y11.2 := hK.tr (kL_below_kn hy11)
      refine lv_bipush (v := 10) S.1 S.2.1 dX7_isDrawn_140 (by decide) ?_
      refine lv_isub S.1 S.2.1 dX7_isDrawn_142 ?_
      refine lv_iconst (v := 0) S.1 S.2.1 dX7_isDrawn_143 (by decide) ?_
      obtain ⟨y12, hy12, hf⟩ := bd hf
      refine mm_callViA S hR hS hA (As := [rf h1, .int x2, .int 0, .int (y11.1 - 10), .int 0]) (rest := []) cvX7_43 (hK.k hk0) (kX7_isLine_c l G A (hK.k hk0) hy12) rfl rfl ⟨Nat.le_of_ble_eq_true rfl, Nat.le_of_ble_eq_true rfl⟩ rfl hl.1 rfl (lv_room (by simp [rf_cat, int_cat, long_cat])) dX7_isDrawn_144 ⟨Nat.le_of_ble_eq_true rfl, Nat.le_of_ble_eq_true rfl⟩ (fun H locs hR hS => ?_)
      have hK : mmKN y12.2 y12.2 := mmKN.rf
      obtain ⟨g13, hf⟩ := gd hf
      obtain rfl := Option.some.inj hf
      refine W.widen (k := 1) (n := 3) (Nat.le_of_ble_eq_true rfl) (Nat.le_of_ble_eq_true rfl) ?_
      exact mm_zret S hR hS hr hlocks g13 dX7_isDrawn_147
    rcases it_or hf with ⟨c14, hf⟩ | ⟨c14, hf⟩
    · refine mm_swL (tgt := 148) (off := 97) S [1, 2] dX7_isDrawn_51 (by simpa using c14) (by decide) (by decide) ?_
      refine mm_aload_n S dX7_isDrawn_148 rfl (lv_at hl 3 rfl) ?_
      refine mm_aload_n S dX7_isDrawn_149 rfl (lv_at hl 4 rfl) ?_
      refine lv_iload_n S.1 S.2.1 dX7_isDrawn_150 rfl (lv_at hl 5 rfl) ?_
      refine lv_iload S.1 S.2.1 dX7_isDrawn_151 (lv_at hl 2 rfl) ?_
      refine lv_iload_n S.1 S.2.1 dX7_isDrawn_153 rfl (lv_at hl 6 rfl) ?_
      refine lv_iconst (v := 4) S.1 S.2.1 dX7_isDrawn_154 (by decide) ?_
      refine lv_ishr S.1 S.2.1 dX7_isDrawn_155 ?_
      refine lv_iconst (v := 3) S.1 S.2.1 dX7_isDrawn_156 (by decide) ?_
      obtain ⟨y15, hy15, hf⟩ := bd hf
      refine mm_callNi S hR hS hA (As := [.int (x3 >>> (4 &&& 31)), .int 3]) (rest := [.int (mI y2.2 h4 y2.1.toNatClampNeg), .int x2, rf h1, rf h0]) csX7_32 (kL_below_c l G A hy15) rfl rfl ⟨Nat.le_of_ble_eq_true rfl, Nat.le_of_ble_eq_true rfl⟩ rfl hl.1 rfl (lv_room (by simp [rf_cat, int_cat, long_cat])) dX7_isDrawn_157 ⟨Nat.le_of_ble_eq_true rfl, Nat.le_of_ble_eq_true rfl⟩ (fun H locs hR hS => ?_)
      have hK : mmKN μ y15.2 := hK.tr (kL_below_kn hy15)
      refine lv_iconst (v := 0) S.1 S.2.1 dX7_isDrawn_160 (by decide) ?_
      obtain ⟨y16, hy16, hf⟩ := bd hf
      refine mm_callViA S hR hS hA (As := [rf h1, .int x2, .int (mI y2.2 h4 y2.1.toNatClampNeg), .int y15.1, .int 0]) (rest := []) cvX7_43 (hK.k hk0) (kX7_isLine_c l G A (hK.k hk0) hy16) rfl rfl ⟨Nat.le_of_ble_eq_true rfl, Nat.le_of_ble_eq_true rfl⟩ rfl hl.1 rfl (lv_room (by simp [rf_cat, int_cat, long_cat])) dX7_isDrawn_161 ⟨Nat.le_of_ble_eq_true rfl, Nat.le_of_ble_eq_true rfl⟩ (fun H locs hR hS => ?_)
      have hK : mmKN y16.2 y16.2 := mmKN.rf
      obtain ⟨g17, hf⟩ := gd hf
      obtain rfl := Option.some.inj hf
      refine W.widen (k := 1) (n := 3) (Nat.le_of_ble_eq_true rfl) (Nat.le_of_ble_eq_true rfl) ?_
      exact mm_zret S hR hS hr hlocks g17 dX7_isDrawn_164
    rcases it_or hf with ⟨c18, hf⟩ | ⟨c18, hf⟩
    · refine mm_swL (tgt := 165) (off := 114) S [4] dX7_isDrawn_51 (by simpa using c18) (by decide) (by decide) ?_
      refine mm_aload_n S dX7_isDrawn_165 rfl (lv_at hl 3 rfl) ?_
      refine mm_aload_n S dX7_isDrawn_166 rfl (lv_at hl 4 rfl) ?_
      refine lv_iload_n S.1 S.2.1 dX7_isDrawn_167 rfl (lv_at hl 5 rfl) ?_
      refine lv_iconst (v := 4) S.1 S.2.1 dX7_isDrawn_168 (by decide) ?_
      refine lv_iload_n S.1 S.2.1 dX7_isDrawn_169 rfl (lv_at hl 6 rfl) ?_
      refine lv_iconst (v := 4) S.1 S.2.1 dX7_isDrawn_170 (by decide) ?_
      refine lv_ishr S.1 S.2.1 dX7_isDrawn_171 ?_
      refine lv_iconst (v := 3) S.1 S.2.1 dX7_isDrawn_172 (by decide) ?_
      obtain ⟨y19, hy19, hf⟩ := bd hf
      refine mm_callNi S hR hS hA (As := [.int (x3 >>> (4 &&& 31)), .int 3]) (rest := [.int 4, .int x2, rf h1, rf h0]) csX7_32 (kL_below_c l G A hy19) rfl rfl ⟨Nat.le_of_ble_eq_true rfl, Nat.le_of_ble_eq_true rfl⟩ rfl hl.1 rfl (lv_room (by simp [rf_cat, int_cat, long_cat])) dX7_isDrawn_173 ⟨Nat.le_of_ble_eq_true rfl, Nat.le_of_ble_eq_true rfl⟩ (fun H locs hR hS => ?_)
      have hK : mmKN μ y19.2 := hK.tr (kL_below_kn hy19)
      refine lv_iconst (v := 0) S.1 S.2.1 dX7_isDrawn_176 (by decide) ?_
      refine lv_iload S.1 S.2.1 dX7_isDrawn_177 (lv_at hl 1 rfl) ?_
      refine lv_iload_n S.1 S.2.1 dX7_isDrawn_179 rfl (lv_at hl 6 rfl) ?_
      refine lv_bipush (v := 6) S.1 S.2.1 dX7_isDrawn_180 (by decide) ?_
      refine lv_ishr S.1 S.2.1 dX7_isDrawn_182 ?_
      refine lv_iconst (v := 4) S.1 S.2.1 dX7_isDrawn_183 (by decide) ?_
      obtain ⟨y20, hy20, hf⟩ := bd hf
      refine mm_callNi S hR hS hA (As := [.int (x3 >>> (6 &&& 31)), .int 4]) (rest := [.int (mI y2.2 (mP y2.2 h0 1) x2.toNatClampNeg), .int 0, .int y19.1, .int 4, .int x2, rf h1, rf h0]) csX7_32 (kL_below_c l G A hy20) rfl rfl ⟨Nat.le_of_ble_eq_true rfl, Nat.le_of_ble_eq_true rfl⟩ rfl hl.1 rfl (lv_room (by simp [rf_cat, int_cat, long_cat])) dX7_isDrawn_184 ⟨Nat.le_of_ble_eq_true rfl, Nat.le_of_ble_eq_true rfl⟩ (fun H locs hR hS => ?_)
      have hK : mmKN μ y20.2 := hK.tr (kL_below_kn hy20)
      refine lv_isub S.1 S.2.1 dX7_isDrawn_187 ?_
      refine mm_max S mnX7_47 hl.1 (Nat.le_of_ble_eq_true rfl) (by simp [rf_cat, int_cat, long_cat]) ⟨Nat.le_of_ble_eq_true rfl, Nat.le_of_ble_eq_true rfl⟩ dX7_isDrawn_188 ?_
      obtain ⟨y21, hy21, hf⟩ := bd hf
      refine mm_callViA S hR hS hA (As := [rf h1, .int x2, .int 4, .int y19.1, .int (jmax 0 ((mI y2.2 (mP y2.2 h0 1) x2.toNatClampNeg) - y20.1))]) (rest := []) cvX7_43 (hK.k hk0) (kX7_isLine_c l G A (hK.k hk0) hy21) rfl rfl ⟨Nat.le_of_ble_eq_true rfl, Nat.le_of_ble_eq_true rfl⟩ rfl hl.1 rfl (lv_room (by simp [rf_cat, int_cat, long_cat])) dX7_isDrawn_191 ⟨Nat.le_of_ble_eq_true rfl, Nat.le_of_ble_eq_true rfl⟩ (fun H locs hR hS => ?_)
      have hK : mmKN y21.2 y21.2 := mmKN.rf
      obtain ⟨g22, hf⟩ := gd hf
      obtain rfl := Option.some.inj hf
      refine W.widen (k := 1) (n := 3) (Nat.le_of_ble_eq_true rfl) (Nat.le_of_ble_eq_true rfl) ?_
      exact mm_zret S hR hS hr hlocks g22 dX7_isDrawn_194
    rcases it_or hf with ⟨c23, hf⟩ | ⟨c23, hf⟩
    · refine mm_swL (tgt := 195) (off := 144) S [5, 7] dX7_isDrawn_51 (by simpa using c23) (by decide) (by decide) ?_
      refine mm_aload_n S dX7_isDrawn_195 rfl (lv_at hl 3 rfl) ?_
      refine mm_aload_n S dX7_isDrawn_196 rfl (lv_at hl 4 rfl) ?_
      refine lv_iload_n S.1 S.2.1 dX7_isDrawn_197 rfl (lv_at hl 5 rfl) ?_
      refine lv_iload S.1 S.2.1 dX7_isDrawn_198 (lv_at hl 2 rfl) ?_
      refine lv_iconst (v := 0) S.1 S.2.1 dX7_isDrawn_200 (by decide) ?_
      refine lv_iload S.1 S.2.1 dX7_isDrawn_201 (lv_at hl 0 rfl) ?_
      obtain ⟨y24, hy24, hf⟩ := bd hf
      refine mm_callViA S hR hS hA (As := [rf h1, .int x2, .int (mI y2.2 h4 y2.1.toNatClampNeg), .int 0, .int (jmin 12 (((mI y2.2 (mP y2.2 h0 1) x2.toNatClampNeg) + 1) + y7.1))]) (rest := []) cvX7_43 (hK.k hk0) (kX7_isLine_c l G A (hK.k hk0) hy24) rfl rfl ⟨Nat.le_of_ble_eq_true rfl, Nat.le_of_ble_eq_true rfl⟩ rfl hl.1 rfl (lv_room (by simp [rf_cat, int_cat, long_cat])) dX7_isDrawn_203 ⟨Nat.le_of_ble_eq_true rfl, Nat.le_of_ble_eq_true rfl⟩ (fun H locs hR hS => ?_)
      have hK : mmKN y24.2 y24.2 := mmKN.rf
      obtain ⟨g25, hf⟩ := gd hf
      obtain rfl := Option.some.inj hf
      refine W.widen (k := 1) (n := 3) (Nat.le_of_ble_eq_true rfl) (Nat.le_of_ble_eq_true rfl) ?_
      exact mm_zret S hR hS hr hlocks g25 dX7_isDrawn_206
    rcases it_or hf with ⟨c26, hf⟩ | ⟨c26, hf⟩
    · refine mm_swL (tgt := 207) (off := 156) S [6] dX7_isDrawn_51 (by simpa using c26) (by decide) (by decide) ?_
      refine mm_aload_n S dX7_isDrawn_207 rfl (lv_at hl 3 rfl) ?_
      refine mm_aload_n S dX7_isDrawn_208 rfl (lv_at hl 4 rfl) ?_
      refine lv_iload_n S.1 S.2.1 dX7_isDrawn_209 rfl (lv_at hl 5 rfl) ?_
      refine lv_bipush (v := 6) S.1 S.2.1 dX7_isDrawn_210 (by decide) ?_
      refine lv_iload_n S.1 S.2.1 dX7_isDrawn_212 rfl (lv_at hl 6 rfl) ?_
      refine lv_iconst (v := 4) S.1 S.2.1 dX7_isDrawn_213 (by decide) ?_
      refine lv_ishr S.1 S.2.1 dX7_isDrawn_214 ?_
      refine lv_iconst (v := 2) S.1 S.2.1 dX7_isDrawn_215 (by decide) ?_
      obtain ⟨y27, hy27, hf⟩ := bd hf
      refine mm_callNi S hR hS hA (As := [.int (x3 >>> (4 &&& 31)), .int 2]) (rest := [.int 6, .int x2, rf h1, rf h0]) csX7_32 (kL_below_c l G A hy27) rfl rfl ⟨Nat.le_of_ble_eq_true rfl, Nat.le_of_ble_eq_true rfl⟩ rfl hl.1 rfl (lv_room (by simp [rf_cat, int_cat, long_cat])) dX7_isDrawn_216 ⟨Nat.le_of_ble_eq_true rfl, Nat.le_of_ble_eq_true rfl⟩ (fun H locs hR hS => ?_)
      have hK : mmKN μ y27.2 := hK.tr (kL_below_kn hy27)
      refine lv_iload S.1 S.2.1 dX7_isDrawn_219 (lv_at hl 0 rfl) ?_
      obtain ⟨y28, hy28, hf⟩ := bd hf
      refine mm_callViA S hR hS hA (As := [rf h1, .int x2, .int 6, .int y27.1, .int (jmin 12 (((mI y2.2 (mP y2.2 h0 1) x2.toNatClampNeg) + 1) + y7.1))]) (rest := []) cvX7_43 (hK.k hk0) (kX7_isLine_c l G A (hK.k hk0) hy28) rfl rfl ⟨Nat.le_of_ble_eq_true rfl, Nat.le_of_ble_eq_true rfl⟩ rfl hl.1 rfl (lv_room (by simp [rf_cat, int_cat, long_cat])) dX7_isDrawn_221 ⟨Nat.le_of_ble_eq_true rfl, Nat.le_of_ble_eq_true rfl⟩ (fun H locs hR hS => ?_)
      have hK : mmKN y28.2 y28.2 := mmKN.rf
      obtain ⟨g29, hf⟩ := gd hf
      obtain rfl := Option.some.inj hf
      refine W.widen (k := 1) (n := 3) (Nat.le_of_ble_eq_true rfl) (Nat.le_of_ble_eq_true rfl) ?_
      exact mm_zret S hR hS hr hlocks g29 dX7_isDrawn_224
    rcases it_or hf with ⟨c30, hf⟩ | ⟨c30, hf⟩
    · refine mm_swL (tgt := 225) (off := 174) S [9] dX7_isDrawn_51 (by simpa using c30) (by decide) (by decide) ?_
      refine mm_aload_n S dX7_isDrawn_225 rfl (lv_at hl 3 rfl) ?_
      refine mm_aload_n S dX7_isDrawn_226 rfl (lv_at hl 4 rfl) ?_
      refine lv_iload_n S.1 S.2.1 dX7_isDrawn_227 rfl (lv_at hl 5 rfl) ?_
      refine lv_bipush (v := 9) S.1 S.2.1 dX7_isDrawn_228 (by decide) ?_
      refine lv_iconst (v := 1) S.1 S.2.1 dX7_isDrawn_230 (by decide) ?_
      refine lv_iload_n S.1 S.2.1 dX7_isDrawn_231 rfl (lv_at hl 6 rfl) ?_
      refine lv_iconst (v := 4) S.1 S.2.1 dX7_isDrawn_232 (by decide) ?_
      refine lv_ishr S.1 S.2.1 dX7_isDrawn_233 ?_
      refine lv_bipush (v := 7) S.1 S.2.1 dX7_isDrawn_234 (by decide) ?_
      obtain ⟨y31, hy31, hf⟩ := bd hf
      refine mm_callNi S hR hS hA (As := [.int (x3 >>> (4 &&& 31)), .int 7]) (rest := [.int 1, .int 9, .int x2, rf h1, rf h0]) csX7_32 (kL_below_c l G A hy31) rfl rfl ⟨Nat.le_of_ble_eq_true rfl, Nat.le_of_ble_eq_true rfl⟩ rfl hl.1 rfl (lv_room (by simp [rf_cat, int_cat, long_cat])) dX7_isDrawn_236 ⟨Nat.le_of_ble_eq_true rfl, Nat.le_of_ble_eq_true rfl⟩ (fun H locs hR hS => ?_)
      have hK : mmKN μ y31.2 := hK.tr (kL_below_kn hy31)
      refine lv_iadd S.1 S.2.1 dX7_isDrawn_239 ?_
      refine lv_iconst (v := 0) S.1 S.2.1 dX7_isDrawn_240 (by decide) ?_
      obtain ⟨y32, hy32, hf⟩ := bd hf
      refine mm_callViA S hR hS hA (As := [rf h1, .int x2, .int 9, .int (1 + y31.1), .int 0]) (rest := []) cvX7_43 (hK.k hk0) (kX7_isLine_c l G A (hK.k hk0) hy32) rfl rfl ⟨Nat.le_of_ble_eq_true rfl, Nat.le_of_ble_eq_true rfl⟩ rfl hl.1 rfl (lv_room (by simp [rf_cat, int_cat, long_cat])) dX7_isDrawn_241 ⟨Nat.le_of_ble_eq_true rfl, Nat.le_of_ble_eq_true rfl⟩ (fun H locs hR hS => ?_)
      have hK : mmKN y32.2 y32.2 := mmKN.rf
      obtain ⟨g33, hf⟩ := gd hf
      obtain rfl := Option.some.inj hf
      refine W.widen (k := 1) (n := 3) (Nat.le_of_ble_eq_true rfl) (Nat.le_of_ble_eq_true rfl) ?_
      exact mm_zret S hR hS hr hlocks g33 dX7_isDrawn_244
    rcases it_or hf with ⟨c34, hf⟩ | ⟨c34, hf⟩
    · refine mm_swL (tgt := 245) (off := 194) S [10, 14] dX7_isDrawn_51 (by simpa using c34) (by decide) (by decide) ?_
      refine mm_aload_n S dX7_isDrawn_245 rfl (lv_at hl 3 rfl) ?_
      refine mm_aload_n S dX7_isDrawn_246 rfl (lv_at hl 4 rfl) ?_
      refine lv_iload_n S.1 S.2.1 dX7_isDrawn_247 rfl (lv_at hl 5 rfl) ?_
      refine lv_iload S.1 S.2.1 dX7_isDrawn_248 (lv_at hl 2 rfl) ?_
      refine lv_iload_n S.1 S.2.1 dX7_isDrawn_250 rfl (lv_at hl 5 rfl) ?_
      refine lv_if_ne (tgt := 259) S.1 S.2.1 dX7_isDrawn_251 (by decide) (fun c35 => ?_) (fun c35 => ?_)
      · have hf := it_f hf c35
        refine lv_iload_n S.1 S.2.1 dX7_isDrawn_259 rfl (lv_at hl 6 rfl) ?_
        refine lv_iconst (v := 4) S.1 S.2.1 dX7_isDrawn_260 (by decide) ?_
        refine lv_ishr S.1 S.2.1 dX7_isDrawn_261 ?_
        refine lv_iload_n S.1 S.2.1 dX7_isDrawn_262 rfl (lv_at hl 5 rfl) ?_
        obtain ⟨y36, hy36, hf⟩ := bd hf
        refine mm_callNi S hR hS hA (As := [.int (x3 >>> (4 &&& 31)), .int x2]) (rest := [.int (mI y2.2 h4 y2.1.toNatClampNeg), .int x2, rf h1, rf h0]) csX7_32 (kL_below_c l G A hy36) rfl rfl ⟨Nat.le_of_ble_eq_true rfl, Nat.le_of_ble_eq_true rfl⟩ rfl hl.1 rfl (lv_room (by simp [rf_cat, int_cat, long_cat])) dX7_isDrawn_263 ⟨Nat.le_of_ble_eq_true rfl, Nat.le_of_ble_eq_true rfl⟩ (fun H locs hR hS => ?_)
        have hK : mmKN μ y36.2 := hK.tr (kL_below_kn hy36)
        refine lv_iconst (v := 0) S.1 S.2.1 dX7_isDrawn_266 (by decide) ?_
        obtain ⟨y37, hy37, hf⟩ := bd hf
        refine mm_callViA S hR hS hA (As := [rf h1, .int x2, .int (mI y2.2 h4 y2.1.toNatClampNeg), .int y36.1, .int 0]) (rest := []) cvX7_43 (hK.k hk0) (kX7_isLine_c l G A (hK.k hk0) hy37) rfl rfl ⟨Nat.le_of_ble_eq_true rfl, Nat.le_of_ble_eq_true rfl⟩ rfl hl.1 rfl (lv_room (by simp [rf_cat, int_cat, long_cat])) dX7_isDrawn_267 ⟨Nat.le_of_ble_eq_true rfl, Nat.le_of_ble_eq_true rfl⟩ (fun H locs hR hS => ?_)
        have hK : mmKN y37.2 y37.2 := mmKN.rf
        obtain ⟨g38, hf⟩ := gd hf
        obtain rfl := Option.some.inj hf
        refine W.widen (k := 1) (n := 3) (Nat.le_of_ble_eq_true rfl) (Nat.le_of_ble_eq_true rfl) ?_
        exact mm_zret S hR hS hr hlocks g38 dX7_isDrawn_270
      · have hf := it_t hf c35
        refine lv_bipush (v := 7) S.1 S.2.1 dX7_isDrawn_254 (by decide) ?_
        refine lv_goto (tgt := 266) S.1 S.2.1 dX7_isDrawn_256 (by decide) ?_
        refine lv_iconst (v := 0) S.1 S.2.1 dX7_isDrawn_266 (by decide) ?_
        obtain ⟨y39, hy39, hf⟩ := bd hf
        refine mm_callViA S hR hS hA (As := [rf h1, .int x2, .int (mI y2.2 h4 y2.1.toNatClampNeg), .int 7, .int 0]) (rest := []) cvX7_43 (hK.k hk0) (kX7_isLine_c l G A (hK.k hk0) hy39) rfl rfl ⟨Nat.le_of_ble_eq_true rfl, Nat.le_of_ble_eq_true rfl⟩ rfl hl.1 rfl (lv_room (by simp [rf_cat, int_cat, long_cat])) dX7_isDrawn_267 ⟨Nat.le_of_ble_eq_true rfl, Nat.le_of_ble_eq_true rfl⟩ (fun H locs hR hS => ?_)
        have hK : mmKN y39.2 y39.2 := mmKN.rf
        obtain ⟨g40, hf⟩ := gd hf
        obtain rfl := Option.some.inj hf
        refine W.widen (k := 1) (n := 3) (Nat.le_of_ble_eq_true rfl) (Nat.le_of_ble_eq_true rfl) ?_
        exact mm_zret S hR hS hr hlocks g40 dX7_isDrawn_270
    rcases it_or hf with ⟨c41, hf⟩ | ⟨c41, hf⟩
    · refine mm_swL (tgt := 271) (off := 220) S [12] dX7_isDrawn_51 (by simpa using c41) (by decide) (by decide) ?_
      refine mm_aload_n S dX7_isDrawn_271 rfl (lv_at hl 3 rfl) ?_
      refine mm_aload_n S dX7_isDrawn_272 rfl (lv_at hl 4 rfl) ?_
      refine lv_iload_n S.1 S.2.1 dX7_isDrawn_273 rfl (lv_at hl 5 rfl) ?_
      refine lv_bipush (v := 12) S.1 S.2.1 dX7_isDrawn_274 (by decide) ?_
      refine lv_iconst (v := 1) S.1 S.2.1 dX7_isDrawn_276 (by decide) ?_
      refine lv_iload_n S.1 S.2.1 dX7_isDrawn_277 rfl (lv_at hl 6 rfl) ?_
      refine lv_iconst (v := 4) S.1 S.2.1 dX7_isDrawn_278 (by decide) ?_
      refine lv_ishr S.1 S.2.1 dX7_isDrawn_279 ?_
      refine lv_iconst (v := 3) S.1 S.2.1 dX7_isDrawn_280 (by decide) ?_
      obtain ⟨y42, hy42, hf⟩ := bd hf
      refine mm_callNi S hR hS hA (As := [.int (x3 >>> (4 &&& 31)), .int 3]) (rest := [.int 1, .int 12, .int x2, rf h1, rf h0]) csX7_32 (kL_below_c l G A hy42) rfl rfl ⟨Nat.le_of_ble_eq_true rfl, Nat.le_of_ble_eq_true rfl⟩ rfl hl.1 rfl (lv_room (by simp [rf_cat, int_cat, long_cat])) dX7_isDrawn_281 ⟨Nat.le_of_ble_eq_true rfl, Nat.le_of_ble_eq_true rfl⟩ (fun H locs hR hS => ?_)
      have hK : mmKN μ y42.2 := hK.tr (kL_below_kn hy42)
      refine lv_iadd S.1 S.2.1 dX7_isDrawn_284 ?_
      refine lv_iconst (v := 0) S.1 S.2.1 dX7_isDrawn_285 (by decide) ?_
      obtain ⟨y43, hy43, hf⟩ := bd hf
      refine mm_callViA S hR hS hA (As := [rf h1, .int x2, .int 12, .int (1 + y42.1), .int 0]) (rest := []) cvX7_43 (hK.k hk0) (kX7_isLine_c l G A (hK.k hk0) hy43) rfl rfl ⟨Nat.le_of_ble_eq_true rfl, Nat.le_of_ble_eq_true rfl⟩ rfl hl.1 rfl (lv_room (by simp [rf_cat, int_cat, long_cat])) dX7_isDrawn_286 ⟨Nat.le_of_ble_eq_true rfl, Nat.le_of_ble_eq_true rfl⟩ (fun H locs hR hS => ?_)
      have hK : mmKN y43.2 y43.2 := mmKN.rf
      obtain ⟨g44, hf⟩ := gd hf
      obtain rfl := Option.some.inj hf
      refine W.widen (k := 1) (n := 3) (Nat.le_of_ble_eq_true rfl) (Nat.le_of_ble_eq_true rfl) ?_
      exact mm_zret S hR hS hr hlocks g44 dX7_isDrawn_289
    rcases it_or hf with ⟨c45, hf⟩ | ⟨c45, hf⟩
    · refine mm_swL (tgt := 290) (off := 239) S [15] dX7_isDrawn_51 (by simpa using c45) (by decide) (by decide) ?_
      refine mm_aload_n S dX7_isDrawn_290 rfl (lv_at hl 3 rfl) ?_
      refine mm_aload_n S dX7_isDrawn_291 rfl (lv_at hl 4 rfl) ?_
      refine lv_iload_n S.1 S.2.1 dX7_isDrawn_292 rfl (lv_at hl 5 rfl) ?_
      refine lv_bipush (v := 15) S.1 S.2.1 dX7_isDrawn_293 (by decide) ?_
      refine lv_iload_n S.1 S.2.1 dX7_isDrawn_295 rfl (lv_at hl 6 rfl) ?_
      refine lv_iconst (v := 4) S.1 S.2.1 dX7_isDrawn_296 (by decide) ?_
      refine lv_ishr S.1 S.2.1 dX7_isDrawn_297 ?_
      refine lv_iconst (v := 2) S.1 S.2.1 dX7_isDrawn_298 (by decide) ?_
      obtain ⟨y46, hy46, hf⟩ := bd hf
      refine mm_callNi S hR hS hA (As := [.int (x3 >>> (4 &&& 31)), .int 2]) (rest := [.int 15, .int x2, rf h1, rf h0]) csX7_32 (kL_below_c l G A hy46) rfl rfl ⟨Nat.le_of_ble_eq_true rfl, Nat.le_of_ble_eq_true rfl⟩ rfl hl.1 rfl (lv_room (by simp [rf_cat, int_cat, long_cat])) dX7_isDrawn_299 ⟨Nat.le_of_ble_eq_true rfl, Nat.le_of_ble_eq_true rfl⟩ (fun H locs hR hS => ?_)
      have hK : mmKN μ y46.2 := hK.tr (kL_below_kn hy46)
      refine lv_iconst (v := 0) S.1 S.2.1 dX7_isDrawn_302 (by decide) ?_
      obtain ⟨y47, hy47, hf⟩ := bd hf
      refine mm_callViA S hR hS hA (As := [rf h1, .int x2, .int 15, .int y46.1, .int 0]) (rest := []) cvX7_43 (hK.k hk0) (kX7_isLine_c l G A (hK.k hk0) hy47) rfl rfl ⟨Nat.le_of_ble_eq_true rfl, Nat.le_of_ble_eq_true rfl⟩ rfl hl.1 rfl (lv_room (by simp [rf_cat, int_cat, long_cat])) dX7_isDrawn_303 ⟨Nat.le_of_ble_eq_true rfl, Nat.le_of_ble_eq_true rfl⟩ (fun H locs hR hS => ?_)
      have hK : mmKN y47.2 y47.2 := mmKN.rf
      obtain ⟨g48, hf⟩ := gd hf
      obtain rfl := Option.some.inj hf
      refine W.widen (k := 1) (n := 3) (Nat.le_of_ble_eq_true rfl) (Nat.le_of_ble_eq_true rfl) ?_
      exact mm_zret S hR hS hr hlocks g48 dX7_isDrawn_306
    refine mm_swD (tgt := 307) S [0, 1, 2, 4, 5, 7, 6, 9, 10, 14, 12, 15] dX7_isDrawn_51 (by simp only [List.forall_mem_cons, List.not_mem_nil, false_imp_iff, implies_true, and_true]; (try simp only [not_or] at c10 c14 c18 c23 c26 c30 c34 c41 c45); simp only [c10, c14, c18, c23, c26, c30, c34, c41, c45, not_false_eq_true, and_self, and_true, true_and]) (by decide) (by decide) ?_
    refine mm_aload_n S dX7_isDrawn_307 rfl (lv_at hl 3 rfl) ?_
    refine mm_aload_n S dX7_isDrawn_308 rfl (lv_at hl 4 rfl) ?_
    refine lv_iload_n S.1 S.2.1 dX7_isDrawn_309 rfl (lv_at hl 5 rfl) ?_
    refine lv_iload S.1 S.2.1 dX7_isDrawn_310 (lv_at hl 2 rfl) ?_
    refine lv_iconst (v := 0) S.1 S.2.1 dX7_isDrawn_312 (by decide) ?_
    refine lv_iconst (v := 0) S.1 S.2.1 dX7_isDrawn_313 (by decide) ?_
    obtain ⟨y8, hy8, hf⟩ := bd hf
    refine mm_callViA S hR hS hA (As := [rf h1, .int x2, .int (mI y2.2 h4 y2.1.toNatClampNeg), .int 0, .int 0]) (rest := []) cvX7_43 (hK.k hk0) (kX7_isLine_c l G A (hK.k hk0) hy8) rfl rfl ⟨Nat.le_of_ble_eq_true rfl, Nat.le_of_ble_eq_true rfl⟩ rfl hl.1 rfl (lv_room (by simp [rf_cat, int_cat, long_cat])) dX7_isDrawn_314 ⟨Nat.le_of_ble_eq_true rfl, Nat.le_of_ble_eq_true rfl⟩ (fun H locs hR hS => ?_)
    have hK : mmKN y8.2 y8.2 := mmKN.rf
    obtain ⟨g9, hf⟩ := gd hf
    obtain rfl := Option.some.inj hf
    refine W.widen (k := 1) (n := 3) (Nat.le_of_ble_eq_true rfl) (Nat.le_of_ble_eq_true rfl) ?_
    exact mm_zret S hR hS hr hlocks g9 dX7_isDrawn_317
  · have hf := it_t hf c6
    refine lv_iconst (v := 1) S.1 S.2.1 dX7_isDrawn_27 (by decide) ?_
    obtain rfl := Option.some.inj hf
    refine W.widen (k := 1) (n := 3) (Nat.le_of_ble_eq_true rfl) (Nat.le_of_ble_eq_true rfl) ?_
    exact mm_zret S hR hS hr hlocks (Or.inr rfl) dX7_isDrawn_28
-- L_isGiven
def fL_isGiven (h0 : Nat) (x1 : Int32) (x2 : Int32) (μ : MM) : Option (Int32 × MM) :=
  if mK μ h0 = 7 then (fX6_of h0 x1 1 μ).bind fun y1 => if y1.1 = 0 then if x2 ≤ ((-20000) : Int32) then (if x2 = ((-20000) : Int32) then (if y1.2.1 = (3 : Int32) then (some (1, y1.2.2)) else (some (0, y1.2.2))) else (if y1.2.1 = (4 : Int32) then ((fX6_of h0 x1 4 y1.2.2).bind fun y7 => if y7.1 = 0 then if y7.2.1 = ((-20000) - x2) then (some (1, y7.2.2)) else (some (0, y7.2.2)) else none) else (some (0, y1.2.2)))) else (if y1.2.1 = (1 : Int32) then (if (9999 : Int32) < x2 then (some (0, y1.2.2)) else (if x2 < ((-9999) : Int32) then (some (0, y1.2.2)) else (some (1, y1.2.2)))) else (some (0, y1.2.2))) else none else none
set_option maxRecDepth 100000 in
set_option maxHeartbeats 4000000 in
theorem kL_isGiven_kn {μ : MM} {res : Int32 × MM} {h0 : Nat} {x1 : Int32} {x2 : Int32} (hf : fL_isGiven h0 x1 x2 μ = some res) : mmKN μ res.2 := by
  have hK : mmKN μ μ := mmKN.rf
  unfold fL_isGiven at hf
  obtain ⟨g3, hf⟩ := gd hf
  obtain ⟨y1, hy1, hf⟩ := bd hf
  obtain ⟨g2, hf⟩ := gd hf
  have hK : mmKN μ y1.2.2 := hK.tr (kX6_of_kn hy1)
  rcases it_or hf with ⟨c4, hf⟩ | ⟨c4, hf⟩
  · skip
    rcases it_or hf with ⟨c5, hf⟩ | ⟨c5, hf⟩
    · skip
      rcases it_or hf with ⟨c10, hf⟩ | ⟨c10, hf⟩
      · skip
        obtain rfl := Option.some.inj hf
        exact hK
      · skip
        obtain rfl := Option.some.inj hf
        exact hK
    · skip
      rcases it_or hf with ⟨c6, hf⟩ | ⟨c6, hf⟩
      · skip
        obtain ⟨y7, hy7, hf⟩ := bd hf
        obtain ⟨g8, hf⟩ := gd hf
        have hK : mmKN μ y7.2.2 := hK.tr (kX6_of_kn hy7)
        rcases it_or hf with ⟨c9, hf⟩ | ⟨c9, hf⟩
        · skip
          obtain rfl := Option.some.inj hf
          exact hK
        · skip
          obtain rfl := Option.some.inj hf
          exact hK
      · skip
        obtain rfl := Option.some.inj hf
        exact hK
  · skip
    rcases it_or hf with ⟨c11, hf⟩ | ⟨c11, hf⟩
    · skip
      rcases it_or hf with ⟨c12, hf⟩ | ⟨c12, hf⟩
      · skip
        obtain rfl := Option.some.inj hf
        exact hK
      · skip
        rcases it_or hf with ⟨c13, hf⟩ | ⟨c13, hf⟩
        · skip
          obtain rfl := Option.some.inj hf
          exact hK
        · skip
          obtain rfl := Option.some.inj hf
          exact hK
    · skip
      obtain rfl := Option.some.inj hf
      exact hK
abbrev rmL_isGiven : Room := { frames := 2, cells := 0, slots := 0, locals := 44 }
set_option maxRecDepth 100000 in
set_option maxHeartbeats 4000000 in
theorem kL_isGiven_c (l : Launch) (G : mmG) (A : Nat → Prop) {μ : MM} {res : Int32 × MM} {h0 : Nat} {x1 : Int32} {x2 : Int32} (hf : fL_isGiven h0 x1 x2 μ = some res) : Met l yL_isGiven [.code yL_isGiven cL_isGiven 4 (some (.boolean))] rmL_isGiven (mmPc G A μ [rf h0, .int x1, .int x2]) (mmQ G A res.2 (some (.int res.1))) 0 0 A := by
  refine mm_ofW (by decide +kernel) (by simp [lg_sl, rf_cat, int_cat]) ?_
  intro p e s m below meth c ls S hR hA hS hr hlocks hl hnm
  have hl : lv_has ls 4 [(0, rf h0), (1, .int x1), (2, .int x2)] := by simpa [lv_args, rf_cat, int_cat] using hl
  have E0 : mmEnv p m c cL_isGiven 4 s _ RL G A meth (some (.boolean)) := ⟨S, hA, hr, hlocks⟩
  have hK : mmKN μ μ := mmKN.rf
  unfold fL_isGiven at hf
  refine mm_aload_n S dL_isGiven_0 rfl (lv_at hl 0 rfl) ?_
  refine lv_iload_n S.1 S.2.1 dL_isGiven_1 rfl (lv_at hl 1 rfl) ?_
  refine lv_iconst (v := 1) S.1 S.2.1 dL_isGiven_2 (by decide) ?_
  obtain ⟨g3, hf⟩ := gd hf
  obtain ⟨y1, hy1, hf⟩ := bd hf
  obtain ⟨g2, hf⟩ := gd hf
  refine mm_callVi S hR hS hA (As := [.int x1, .int 1]) (rest := []) cvL_43 (hK.k g3) (kX6_of_c l G A (hK.k g3) hy1 g2) rfl rfl ⟨Nat.le_of_ble_eq_true rfl, Nat.le_of_ble_eq_true rfl⟩ rfl hl.1 rfl (lv_room (by simp [rf_cat, int_cat, long_cat])) dL_isGiven_3 ⟨Nat.zero_le _, Nat.zero_le _⟩ (fun H locs hR hS => ?_)
  have hK : mmKN μ y1.2.2 := hK.tr (kX6_of_kn hy1)
  refine lv_istore_n (i := 3) (lv' := [(3, .int y1.2.1), (0, rf h0), (1, .int x1), (2, .int x2)]) S.1 S.2.1 dL_isGiven_6 rfl hl (by decide) rfl (fun ls hl => ?_)
  refine lv_iload_n S.1 S.2.1 dL_isGiven_7 rfl (lv_at hl 3 rfl) ?_
  refine lv_sipush (v := (-20000)) S.1 S.2.1 dL_isGiven_8 (by decide) ?_
  refine lv_icmp_le (tgt := 41) S.1 S.2.1 dL_isGiven_11 (by decide) (fun c4 => ?_) (fun c4 => ?_)
  · have hf := it_t hf c4
    refine lv_iload_n S.1 S.2.1 dL_isGiven_41 rfl (lv_at hl 3 rfl) ?_
    refine lv_sipush (v := (-20000)) S.1 S.2.1 dL_isGiven_42 (by decide) ?_
    refine lv_icmp_ne (tgt := 61) S.1 S.2.1 dL_isGiven_45 (by decide) (fun c5 => ?_) (fun c5 => ?_)
    · have hf := it_f hf c5
      refine lv_iload_n S.1 S.2.1 dL_isGiven_61 rfl (lv_at hl 0 rfl) ?_
      refine lv_iconst (v := 4) S.1 S.2.1 dL_isGiven_62 (by decide) ?_
      refine lv_icmp_ne (tgt := 84) S.1 S.2.1 dL_isGiven_63 (by decide) (fun c6 => ?_) (fun c6 => ?_)
      · have hf := it_f hf c6
        refine lv_iconst (v := 0) S.1 S.2.1 dL_isGiven_84 (by decide) ?_
        obtain rfl := Option.some.inj hf
        exact mm_zret S hR hS hr hlocks (Or.inl rfl) dL_isGiven_85
      · have hf := it_t hf c6
        refine mm_aload_n S dL_isGiven_66 rfl (lv_at hl 1 rfl) ?_
        refine lv_iload_n S.1 S.2.1 dL_isGiven_67 rfl (lv_at hl 2 rfl) ?_
        refine lv_iconst (v := 4) S.1 S.2.1 dL_isGiven_68 (by decide) ?_
        obtain ⟨y7, hy7, hf⟩ := bd hf
        obtain ⟨g8, hf⟩ := gd hf
        refine mm_callVi S hR hS hA (As := [.int x1, .int 4]) (rest := []) cvL_43 (hK.k g3) (kX6_of_c l G A (hK.k g3) hy7 g8) rfl rfl ⟨Nat.le_of_ble_eq_true rfl, Nat.le_of_ble_eq_true rfl⟩ rfl hl.1 rfl (lv_room (by simp [rf_cat, int_cat, long_cat])) dL_isGiven_69 ⟨Nat.zero_le _, Nat.zero_le _⟩ (fun H locs hR hS => ?_)
        have hK : mmKN μ y7.2.2 := hK.tr (kX6_of_kn hy7)
        refine lv_sipush (v := (-20000)) S.1 S.2.1 dL_isGiven_72 (by decide) ?_
        refine lv_iload_n S.1 S.2.1 dL_isGiven_75 rfl (lv_at hl 3 rfl) ?_
        refine lv_isub S.1 S.2.1 dL_isGiven_76 ?_
        refine lv_icmp_ne (tgt := 84) S.1 S.2.1 dL_isGiven_77 (by decide) (fun c9 => ?_) (fun c9 => ?_)
        · have hf := it_f hf c9
          refine lv_iconst (v := 0) S.1 S.2.1 dL_isGiven_84 (by decide) ?_
          obtain rfl := Option.some.inj hf
          exact mm_zret S hR hS hr hlocks (Or.inl rfl) dL_isGiven_85
        · have hf := it_t hf c9
          refine lv_iconst (v := 1) S.1 S.2.1 dL_isGiven_80 (by decide) ?_
          refine lv_goto (tgt := 85) S.1 S.2.1 dL_isGiven_81 (by decide) ?_
          obtain rfl := Option.some.inj hf
          exact mm_zret S hR hS hr hlocks (Or.inr rfl) dL_isGiven_85
    · have hf := it_t hf c5
      refine lv_iload_n S.1 S.2.1 dL_isGiven_48 rfl (lv_at hl 0 rfl) ?_
      refine lv_iconst (v := 3) S.1 S.2.1 dL_isGiven_49 (by decide) ?_
      refine lv_icmp_ne (tgt := 57) S.1 S.2.1 dL_isGiven_50 (by decide) (fun c10 => ?_) (fun c10 => ?_)
      · have hf := it_f hf c10
        refine lv_iconst (v := 0) S.1 S.2.1 dL_isGiven_57 (by decide) ?_
        refine lv_goto (tgt := 85) S.1 S.2.1 dL_isGiven_58 (by decide) ?_
        obtain rfl := Option.some.inj hf
        exact mm_zret S hR hS hr hlocks (Or.inl rfl) dL_isGiven_85
      · have hf := it_t hf c10
        refine lv_iconst (v := 1) S.1 S.2.1 dL_isGiven_53 (by decide) ?_
        refine lv_goto (tgt := 85) S.1 S.2.1 dL_isGiven_54 (by decide) ?_
        obtain rfl := Option.some.inj hf
        exact mm_zret S hR hS hr hlocks (Or.inr rfl) dL_isGiven_85
  · have hf := it_f hf c4
    refine lv_iload_n S.1 S.2.1 dL_isGiven_14 rfl (lv_at hl 0 rfl) ?_
    refine lv_iconst (v := 1) S.1 S.2.1 dL_isGiven_15 (by decide) ?_
    refine lv_icmp_ne (tgt := 37) S.1 S.2.1 dL_isGiven_16 (by decide) (fun c11 => ?_) (fun c11 => ?_)
    · have hf := it_f hf c11
      refine lv_iconst (v := 0) S.1 S.2.1 dL_isGiven_37 (by decide) ?_
      refine lv_goto (tgt := 85) S.1 S.2.1 dL_isGiven_38 (by decide) ?_
      obtain rfl := Option.some.inj hf
      exact mm_zret S hR hS hr hlocks (Or.inl rfl) dL_isGiven_85
    · have hf := it_t hf c11
      refine lv_iload_n S.1 S.2.1 dL_isGiven_19 rfl (lv_at hl 3 rfl) ?_
      refine lv_sipush (v := 9999) S.1 S.2.1 dL_isGiven_20 (by decide) ?_
      refine lv_icmp_gt (tgt := 37) S.1 S.2.1 dL_isGiven_23 (by decide) (fun c12 => ?_) (fun c12 => ?_)
      · have hf := it_t hf c12
        refine lv_iconst (v := 0) S.1 S.2.1 dL_isGiven_37 (by decide) ?_
        refine lv_goto (tgt := 85) S.1 S.2.1 dL_isGiven_38 (by decide) ?_
        obtain rfl := Option.some.inj hf
        exact mm_zret S hR hS hr hlocks (Or.inl rfl) dL_isGiven_85
      · have hf := it_f hf c12
        refine lv_iload_n S.1 S.2.1 dL_isGiven_26 rfl (lv_at hl 3 rfl) ?_
        refine lv_sipush (v := (-9999)) S.1 S.2.1 dL_isGiven_27 (by decide) ?_
        refine lv_icmp_lt (tgt := 37) S.1 S.2.1 dL_isGiven_30 (by decide) (fun c13 => ?_) (fun c13 => ?_)
        · have hf := it_t hf c13
          refine lv_iconst (v := 0) S.1 S.2.1 dL_isGiven_37 (by decide) ?_
          refine lv_goto (tgt := 85) S.1 S.2.1 dL_isGiven_38 (by decide) ?_
          obtain rfl := Option.some.inj hf
          exact mm_zret S hR hS hr hlocks (Or.inl rfl) dL_isGiven_85
        · have hf := it_f hf c13
          refine lv_iconst (v := 1) S.1 S.2.1 dL_isGiven_33 (by decide) ?_
          refine lv_goto (tgt := 85) S.1 S.2.1 dL_isGiven_34 (by decide) ?_
          obtain rfl := Option.some.inj hf
          exact mm_zret S hR hS hr hlocks (Or.inr rfl) dL_isGiven_85
-- L_areTasksRight
def bL_areTasksRight_273 (kk12 : Nat → Nat → Int32 → Int32 → Int32 → MM → Option (Int32 × MM)) (h0 : Nat) (h1 : Nat) (x2 : Int32) (x3 : Int32) (x4 : Int32) (μ : MM) : Option (Int32 × MM) :=
  if mK μ h0 = 7 then (fX6_ofTask h0 x4 3 μ).bind fun y1 => if y1.1 = 0 then if y1.2.1 < 0 then (some (0, y1.2.2)) else ((fX6_ofTask h0 x4 5 y1.2.2).bind fun y5 => if y5.1 = 0 then if y5.2.1 < x4 then (kk12 h0 h1 x2 x3 (x4 + 1) y5.2.2) else (some (0, y5.2.2)) else none) else none else none
def bL_areTasksRight_210 (kk12 : Nat → Nat → Int32 → Int32 → Int32 → MM → Option (Int32 × MM)) (kk210 : Nat → Nat → Int32 → Int32 → Int32 → Int32 → Int32 → Int32 → MM → Option (Int32 × MM)) (h0 : Nat) (h1 : Nat) (x2 : Int32) (x3 : Int32) (x4 : Int32) (x6 : Int32) (x9 : Int32) (x10 : Int32) (μ : MM) : Option (Int32 × MM) :=
  if x9 < 0 then (if x6 < 0 then (bL_areTasksRight_273 kk12 h0 h1 x2 x3 x4 μ) else (if mK μ h0 = 7 then (fX6_of h0 x6 1 μ).bind fun y3 => if y3.1 = 0 then if (2 : Int32) < y3.2.1 then (some (0, y3.2.2)) else (bL_areTasksRight_273 kk12 h0 h1 x2 x3 x4 y3.2.2) else none else none)) else (if x9 = x4 then (some (0, μ)) else (if (24 : Int32) < x10 then (some (0, μ)) else (if mK μ h0 = 7 then (fX6_of h0 x9 2 μ).bind fun y9 => if y9.1 = 0 then if y9.2.1 = (1 : Int32) then ((fX6_ofTask h0 x9 2 y9.2.2).bind fun y13 => if y13.1 = 0 then kk210 h0 h1 x2 x3 x4 x6 y13.2.1 (x10 + 1) y13.2.2 else none) else (some (0, y9.2.2)) else none else none)))
def lL_areTasksRight_210 (kk12 : Nat → Nat → Int32 → Int32 → Int32 → MM → Option (Int32 × MM)) : Nat → Nat → Nat → Int32 → Int32 → Int32 → Int32 → Int32 → Int32 → MM → Option (Int32 × MM)
  | 0, _, _, _, _, _, _, _, _, _ => none
  | n + 1, h0, h1, x2, x3, x4, x6, x9, x10, μ => bL_areTasksRight_210 kk12 (fun h0 h1 x2 x3 x4 x6 x9 x10 μ => lL_areTasksRight_210 kk12 n h0 h1 x2 x3 x4 x6 x9 x10 μ) h0 h1 x2 x3 x4 x6 x9 x10 μ
def bL_areTasksRight_165 (kk12 : Nat → Nat → Int32 → Int32 → Int32 → MM → Option (Int32 × MM)) (h0 : Nat) (h1 : Nat) (x2 : Int32) (x3 : Int32) (x4 : Int32) (x5 : Int32) (x6 : Int32) (μ : MM) : Option (Int32 × MM) :=
  if mK μ h0 = 7 then (fX6_many h0 8 μ).bind fun y1 => if y1.1 = 0 then if y1.2.1 ≤ x5 then (some (0, y1.2.2)) else (if x5 < 0 then (if x5 < 0 then (lL_areTasksRight_210 kk12 FU h0 h1 x2 x3 x4 x6 x6 0 y1.2.2) else (if mK μ h1 = 23 then if ¬ (x5 < 0 ∨ mN y1.2.2 h1 ≤ x5.toNatClampNeg) then st (sI y1.2.2 h1 x5.toNatClampNeg 1) fun μ9 => lL_areTasksRight_210 kk12 FU h0 h1 (x2 + 1) x3 x4 x6 x6 0 μ9 else none else none)) else (if mK μ h1 = 23 then if ¬ (x5 < 0 ∨ mN y1.2.2 h1 ≤ x5.toNatClampNeg) then if (mI y1.2.2 h1 x5.toNatClampNeg) = 0 then (if x5 < 0 then (lL_areTasksRight_210 kk12 FU h0 h1 x2 x3 x4 x6 x6 0 y1.2.2) else (if ¬ (x5 < 0 ∨ mN y1.2.2 h1 ≤ x5.toNatClampNeg) then st (sI y1.2.2 h1 x5.toNatClampNeg 1) fun μ15 => lL_areTasksRight_210 kk12 FU h0 h1 (x2 + 1) x3 x4 x6 x6 0 μ15 else none)) else (some (0, y1.2.2)) else none else none)) else none else none
def bL_areTasksRight_12 (kk12 : Nat → Nat → Int32 → Int32 → Int32 → MM → Option (Int32 × MM)) (h0 : Nat) (h1 : Nat) (x2 : Int32) (x3 : Int32) (x4 : Int32) (μ : MM) : Option (Int32 × MM) :=
  if mK μ h0 = 7 then (fX6_many h0 1 μ).bind fun y1 => if y1.1 = 0 then if y1.2.1 ≤ x4 then ((fX6_many h0 8 y1.2.2).bind fun y5 => if y5.1 = 0 then if y5.2.1 = x2 then ((fX6_overIn h0 1 y5.2.2).bind fun y8 => if y8.1 = 0 then if y8.2.1 < x3 then (some (0, y8.2.2)) else ((fX6_overIn h0 50 y8.2.2).bind fun y11 => if y11.1 = 0 then (fX6_overIn h0 1 y11.2.2).bind fun y13 => if y13.1 = 0 then if y11.2.1 < y13.2.1 then (some (0, y13.2.2)) else (some (1, y13.2.2)) else none else none) else none) else (some (0, y5.2.2)) else none) else ((fX6_of h0 x4 2 y1.2.2).bind fun y16 => if y16.1 = 0 then if y16.2.1 = (1 : Int32) then ((fX6_ofTask h0 x4 0 y16.2.2).bind fun y19 => if y19.1 = 0 then (fX6_ofTask h0 x4 2 y19.2.2).bind fun y21 => if y21.1 = 0 then (fX6_of h0 x4 1 y21.2.2).bind fun y23 => if y23.1 = 0 then if y23.2.1 ≤ (2 : Int32) then (if (0 : Int32) = 0 then (if y19.2.1 < 0 then ((fX6_ofTask h0 x4 1 y23.2.2).bind fun y28 => if y28.1 = 0 then if y28.2.1 < 0 then (if y21.2.1 < 0 then (if (0 : Int32) = 0 then (if ((0 + 0) + 0) = (1 : Int32) then ((fX6_ofTask h0 x4 1 y28.2.2).bind fun y34 => if y34.1 = 0 then if y34.2.1 < 0 then (bL_areTasksRight_165 kk12 h0 h1 x2 (x3 + 0) x4 y19.2.1 y21.2.1 y34.2.2) else ((fX6_ofTask h0 x4 1 y34.2.2).bind fun y37 => if y37.1 = 0 then (fX6_many h0 9 y37.2.2).bind fun y39 => if y39.1 = 0 then if y37.2.1 ≤ y39.2.1 then (some (0, y39.2.2)) else (bL_areTasksRight_165 kk12 h0 h1 x2 (x3 + 0) x4 y19.2.1 y21.2.1 y39.2.2) else none else none) else none) else (some (0, y28.2.2))) else (if ((0 + 0) + 0) = (0 : Int32) then ((fX6_ofTask h0 x4 1 y28.2.2).bind fun y43 => if y43.1 = 0 then if y43.2.1 < 0 then (bL_areTasksRight_165 kk12 h0 h1 x2 (x3 + 0) x4 y19.2.1 y21.2.1 y43.2.2) else ((fX6_ofTask h0 x4 1 y43.2.2).bind fun y46 => if y46.1 = 0 then (fX6_many h0 9 y46.2.2).bind fun y48 => if y48.1 = 0 then if y46.2.1 ≤ y48.2.1 then (some (0, y48.2.2)) else (bL_areTasksRight_165 kk12 h0 h1 x2 (x3 + 0) x4 y19.2.1 y21.2.1 y48.2.2) else none else none) else none) else (some (0, y28.2.2)))) else (if (0 : Int32) = 0 then (if ((0 + 0) + 1) = (1 : Int32) then ((fX6_ofTask h0 x4 1 y28.2.2).bind fun y53 => if y53.1 = 0 then if y53.2.1 < 0 then (bL_areTasksRight_165 kk12 h0 h1 x2 (x3 + 0) x4 y19.2.1 y21.2.1 y53.2.2) else ((fX6_ofTask h0 x4 1 y53.2.2).bind fun y56 => if y56.1 = 0 then (fX6_many h0 9 y56.2.2).bind fun y58 => if y58.1 = 0 then if y56.2.1 ≤ y58.2.1 then (some (0, y58.2.2)) else (bL_areTasksRight_165 kk12 h0 h1 x2 (x3 + 0) x4 y19.2.1 y21.2.1 y58.2.2) else none else none) else none) else (some (0, y28.2.2))) else (if ((0 + 0) + 1) = (0 : Int32) then ((fX6_ofTask h0 x4 1 y28.2.2).bind fun y62 => if y62.1 = 0 then if y62.2.1 < 0 then (bL_areTasksRight_165 kk12 h0 h1 x2 (x3 + 0) x4 y19.2.1 y21.2.1 y62.2.2) else ((fX6_ofTask h0 x4 1 y62.2.2).bind fun y65 => if y65.1 = 0 then (fX6_many h0 9 y65.2.2).bind fun y67 => if y67.1 = 0 then if y65.2.1 ≤ y67.2.1 then (some (0, y67.2.2)) else (bL_areTasksRight_165 kk12 h0 h1 x2 (x3 + 0) x4 y19.2.1 y21.2.1 y67.2.2) else none else none) else none) else (some (0, y28.2.2))))) else (if y21.2.1 < 0 then (if (0 : Int32) = 0 then (if ((0 + 1) + 0) = (1 : Int32) then ((fX6_ofTask h0 x4 1 y28.2.2).bind fun y73 => if y73.1 = 0 then if y73.2.1 < 0 then (bL_areTasksRight_165 kk12 h0 h1 x2 (x3 + 0) x4 y19.2.1 y21.2.1 y73.2.2) else ((fX6_ofTask h0 x4 1 y73.2.2).bind fun y76 => if y76.1 = 0 then (fX6_many h0 9 y76.2.2).bind fun y78 => if y78.1 = 0 then if y76.2.1 ≤ y78.2.1 then (some (0, y78.2.2)) else (bL_areTasksRight_165 kk12 h0 h1 x2 (x3 + 0) x4 y19.2.1 y21.2.1 y78.2.2) else none else none) else none) else (some (0, y28.2.2))) else (if ((0 + 1) + 0) = (0 : Int32) then ((fX6_ofTask h0 x4 1 y28.2.2).bind fun y82 => if y82.1 = 0 then if y82.2.1 < 0 then (bL_areTasksRight_165 kk12 h0 h1 x2 (x3 + 0) x4 y19.2.1 y21.2.1 y82.2.2) else ((fX6_ofTask h0 x4 1 y82.2.2).bind fun y85 => if y85.1 = 0 then (fX6_many h0 9 y85.2.2).bind fun y87 => if y87.1 = 0 then if y85.2.1 ≤ y87.2.1 then (some (0, y87.2.2)) else (bL_areTasksRight_165 kk12 h0 h1 x2 (x3 + 0) x4 y19.2.1 y21.2.1 y87.2.2) else none else none) else none) else (some (0, y28.2.2)))) else (if (0 : Int32) = 0 then (if ((0 + 1) + 1) = (1 : Int32) then ((fX6_ofTask h0 x4 1 y28.2.2).bind fun y92 => if y92.1 = 0 then if y92.2.1 < 0 then (bL_areTasksRight_165 kk12 h0 h1 x2 (x3 + 0) x4 y19.2.1 y21.2.1 y92.2.2) else ((fX6_ofTask h0 x4 1 y92.2.2).bind fun y95 => if y95.1 = 0 then (fX6_many h0 9 y95.2.2).bind fun y97 => if y97.1 = 0 then if y95.2.1 ≤ y97.2.1 then (some (0, y97.2.2)) else (bL_areTasksRight_165 kk12 h0 h1 x2 (x3 + 0) x4 y19.2.1 y21.2.1 y97.2.2) else none else none) else none) else (some (0, y28.2.2))) else (if ((0 + 1) + 1) = (0 : Int32) then ((fX6_ofTask h0 x4 1 y28.2.2).bind fun y101 => if y101.1 = 0 then if y101.2.1 < 0 then (bL_areTasksRight_165 kk12 h0 h1 x2 (x3 + 0) x4 y19.2.1 y21.2.1 y101.2.2) else ((fX6_ofTask h0 x4 1 y101.2.2).bind fun y104 => if y104.1 = 0 then (fX6_many h0 9 y104.2.2).bind fun y106 => if y106.1 = 0 then if y104.2.1 ≤ y106.2.1 then (some (0, y106.2.2)) else (bL_areTasksRight_165 kk12 h0 h1 x2 (x3 + 0) x4 y19.2.1 y21.2.1 y106.2.2) else none else none) else none) else (some (0, y28.2.2))))) else none) else ((fX6_ofTask h0 x4 1 y23.2.2).bind fun y109 => if y109.1 = 0 then if y109.2.1 < 0 then (if y21.2.1 < 0 then (if (0 : Int32) = 0 then (if ((1 + 0) + 0) = (1 : Int32) then ((fX6_ofTask h0 x4 1 y109.2.2).bind fun y115 => if y115.1 = 0 then if y115.2.1 < 0 then (bL_areTasksRight_165 kk12 h0 h1 x2 (x3 + 0) x4 y19.2.1 y21.2.1 y115.2.2) else ((fX6_ofTask h0 x4 1 y115.2.2).bind fun y118 => if y118.1 = 0 then (fX6_many h0 9 y118.2.2).bind fun y120 => if y120.1 = 0 then if y118.2.1 ≤ y120.2.1 then (some (0, y120.2.2)) else (bL_areTasksRight_165 kk12 h0 h1 x2 (x3 + 0) x4 y19.2.1 y21.2.1 y120.2.2) else none else none) else none) else (some (0, y109.2.2))) else (if ((1 + 0) + 0) = (0 : Int32) then ((fX6_ofTask h0 x4 1 y109.2.2).bind fun y124 => if y124.1 = 0 then if y124.2.1 < 0 then (bL_areTasksRight_165 kk12 h0 h1 x2 (x3 + 0) x4 y19.2.1 y21.2.1 y124.2.2) else ((fX6_ofTask h0 x4 1 y124.2.2).bind fun y127 => if y127.1 = 0 then (fX6_many h0 9 y127.2.2).bind fun y129 => if y129.1 = 0 then if y127.2.1 ≤ y129.2.1 then (some (0, y129.2.2)) else (bL_areTasksRight_165 kk12 h0 h1 x2 (x3 + 0) x4 y19.2.1 y21.2.1 y129.2.2) else none else none) else none) else (some (0, y109.2.2)))) else (if (0 : Int32) = 0 then (if ((1 + 0) + 1) = (1 : Int32) then ((fX6_ofTask h0 x4 1 y109.2.2).bind fun y134 => if y134.1 = 0 then if y134.2.1 < 0 then (bL_areTasksRight_165 kk12 h0 h1 x2 (x3 + 0) x4 y19.2.1 y21.2.1 y134.2.2) else ((fX6_ofTask h0 x4 1 y134.2.2).bind fun y137 => if y137.1 = 0 then (fX6_many h0 9 y137.2.2).bind fun y139 => if y139.1 = 0 then if y137.2.1 ≤ y139.2.1 then (some (0, y139.2.2)) else (bL_areTasksRight_165 kk12 h0 h1 x2 (x3 + 0) x4 y19.2.1 y21.2.1 y139.2.2) else none else none) else none) else (some (0, y109.2.2))) else (if ((1 + 0) + 1) = (0 : Int32) then ((fX6_ofTask h0 x4 1 y109.2.2).bind fun y143 => if y143.1 = 0 then if y143.2.1 < 0 then (bL_areTasksRight_165 kk12 h0 h1 x2 (x3 + 0) x4 y19.2.1 y21.2.1 y143.2.2) else ((fX6_ofTask h0 x4 1 y143.2.2).bind fun y146 => if y146.1 = 0 then (fX6_many h0 9 y146.2.2).bind fun y148 => if y148.1 = 0 then if y146.2.1 ≤ y148.2.1 then (some (0, y148.2.2)) else (bL_areTasksRight_165 kk12 h0 h1 x2 (x3 + 0) x4 y19.2.1 y21.2.1 y148.2.2) else none else none) else none) else (some (0, y109.2.2))))) else (if y21.2.1 < 0 then (if (0 : Int32) = 0 then (if ((1 + 1) + 0) = (1 : Int32) then ((fX6_ofTask h0 x4 1 y109.2.2).bind fun y154 => if y154.1 = 0 then if y154.2.1 < 0 then (bL_areTasksRight_165 kk12 h0 h1 x2 (x3 + 0) x4 y19.2.1 y21.2.1 y154.2.2) else ((fX6_ofTask h0 x4 1 y154.2.2).bind fun y157 => if y157.1 = 0 then (fX6_many h0 9 y157.2.2).bind fun y159 => if y159.1 = 0 then if y157.2.1 ≤ y159.2.1 then (some (0, y159.2.2)) else (bL_areTasksRight_165 kk12 h0 h1 x2 (x3 + 0) x4 y19.2.1 y21.2.1 y159.2.2) else none else none) else none) else (some (0, y109.2.2))) else (if ((1 + 1) + 0) = (0 : Int32) then ((fX6_ofTask h0 x4 1 y109.2.2).bind fun y163 => if y163.1 = 0 then if y163.2.1 < 0 then (bL_areTasksRight_165 kk12 h0 h1 x2 (x3 + 0) x4 y19.2.1 y21.2.1 y163.2.2) else ((fX6_ofTask h0 x4 1 y163.2.2).bind fun y166 => if y166.1 = 0 then (fX6_many h0 9 y166.2.2).bind fun y168 => if y168.1 = 0 then if y166.2.1 ≤ y168.2.1 then (some (0, y168.2.2)) else (bL_areTasksRight_165 kk12 h0 h1 x2 (x3 + 0) x4 y19.2.1 y21.2.1 y168.2.2) else none else none) else none) else (some (0, y109.2.2)))) else (if (0 : Int32) = 0 then (if ((1 + 1) + 1) = (1 : Int32) then ((fX6_ofTask h0 x4 1 y109.2.2).bind fun y173 => if y173.1 = 0 then if y173.2.1 < 0 then (bL_areTasksRight_165 kk12 h0 h1 x2 (x3 + 0) x4 y19.2.1 y21.2.1 y173.2.2) else ((fX6_ofTask h0 x4 1 y173.2.2).bind fun y176 => if y176.1 = 0 then (fX6_many h0 9 y176.2.2).bind fun y178 => if y178.1 = 0 then if y176.2.1 ≤ y178.2.1 then (some (0, y178.2.2)) else (bL_areTasksRight_165 kk12 h0 h1 x2 (x3 + 0) x4 y19.2.1 y21.2.1 y178.2.2) else none else none) else none) else (some (0, y109.2.2))) else (if ((1 + 1) + 1) = (0 : Int32) then ((fX6_ofTask h0 x4 1 y109.2.2).bind fun y182 => if y182.1 = 0 then if y182.2.1 < 0 then (bL_areTasksRight_165 kk12 h0 h1 x2 (x3 + 0) x4 y19.2.1 y21.2.1 y182.2.2) else ((fX6_ofTask h0 x4 1 y182.2.2).bind fun y185 => if y185.1 = 0 then (fX6_many h0 9 y185.2.2).bind fun y187 => if y187.1 = 0 then if y185.2.1 ≤ y187.2.1 then (some (0, y187.2.2)) else (bL_areTasksRight_165 kk12 h0 h1 x2 (x3 + 0) x4 y19.2.1 y21.2.1 y187.2.2) else none else none) else none) else (some (0, y109.2.2))))) else none)) else (if y19.2.1 < 0 then ((fX6_ofTask h0 x4 1 y23.2.2).bind fun y191 => if y191.1 = 0 then if y191.2.1 < 0 then (if y21.2.1 < 0 then (if (0 : Int32) = 0 then (if ((0 + 0) + 0) = (1 : Int32) then ((fX6_ofTask h0 x4 1 y191.2.2).bind fun y197 => if y197.1 = 0 then if y197.2.1 < 0 then (bL_areTasksRight_165 kk12 h0 h1 x2 (x3 + 1) x4 y19.2.1 y21.2.1 y197.2.2) else ((fX6_ofTask h0 x4 1 y197.2.2).bind fun y200 => if y200.1 = 0 then (fX6_many h0 9 y200.2.2).bind fun y202 => if y202.1 = 0 then if y200.2.1 ≤ y202.2.1 then (some (0, y202.2.2)) else (bL_areTasksRight_165 kk12 h0 h1 x2 (x3 + 1) x4 y19.2.1 y21.2.1 y202.2.2) else none else none) else none) else (some (0, y191.2.2))) else (if ((0 + 0) + 0) = (0 : Int32) then ((fX6_ofTask h0 x4 1 y191.2.2).bind fun y206 => if y206.1 = 0 then if y206.2.1 < 0 then (bL_areTasksRight_165 kk12 h0 h1 x2 (x3 + 1) x4 y19.2.1 y21.2.1 y206.2.2) else ((fX6_ofTask h0 x4 1 y206.2.2).bind fun y209 => if y209.1 = 0 then (fX6_many h0 9 y209.2.2).bind fun y211 => if y211.1 = 0 then if y209.2.1 ≤ y211.2.1 then (some (0, y211.2.2)) else (bL_areTasksRight_165 kk12 h0 h1 x2 (x3 + 1) x4 y19.2.1 y21.2.1 y211.2.2) else none else none) else none) else (some (0, y191.2.2)))) else (if (0 : Int32) = 0 then (if ((0 + 0) + 1) = (1 : Int32) then ((fX6_ofTask h0 x4 1 y191.2.2).bind fun y216 => if y216.1 = 0 then if y216.2.1 < 0 then (bL_areTasksRight_165 kk12 h0 h1 x2 (x3 + 1) x4 y19.2.1 y21.2.1 y216.2.2) else ((fX6_ofTask h0 x4 1 y216.2.2).bind fun y219 => if y219.1 = 0 then (fX6_many h0 9 y219.2.2).bind fun y221 => if y221.1 = 0 then if y219.2.1 ≤ y221.2.1 then (some (0, y221.2.2)) else (bL_areTasksRight_165 kk12 h0 h1 x2 (x3 + 1) x4 y19.2.1 y21.2.1 y221.2.2) else none else none) else none) else (some (0, y191.2.2))) else (if ((0 + 0) + 1) = (0 : Int32) then ((fX6_ofTask h0 x4 1 y191.2.2).bind fun y225 => if y225.1 = 0 then if y225.2.1 < 0 then (bL_areTasksRight_165 kk12 h0 h1 x2 (x3 + 1) x4 y19.2.1 y21.2.1 y225.2.2) else ((fX6_ofTask h0 x4 1 y225.2.2).bind fun y228 => if y228.1 = 0 then (fX6_many h0 9 y228.2.2).bind fun y230 => if y230.1 = 0 then if y228.2.1 ≤ y230.2.1 then (some (0, y230.2.2)) else (bL_areTasksRight_165 kk12 h0 h1 x2 (x3 + 1) x4 y19.2.1 y21.2.1 y230.2.2) else none else none) else none) else (some (0, y191.2.2))))) else (if y21.2.1 < 0 then (if (0 : Int32) = 0 then (if ((0 + 1) + 0) = (1 : Int32) then ((fX6_ofTask h0 x4 1 y191.2.2).bind fun y236 => if y236.1 = 0 then if y236.2.1 < 0 then (bL_areTasksRight_165 kk12 h0 h1 x2 (x3 + 1) x4 y19.2.1 y21.2.1 y236.2.2) else ((fX6_ofTask h0 x4 1 y236.2.2).bind fun y239 => if y239.1 = 0 then (fX6_many h0 9 y239.2.2).bind fun y241 => if y241.1 = 0 then if y239.2.1 ≤ y241.2.1 then (some (0, y241.2.2)) else (bL_areTasksRight_165 kk12 h0 h1 x2 (x3 + 1) x4 y19.2.1 y21.2.1 y241.2.2) else none else none) else none) else (some (0, y191.2.2))) else (if ((0 + 1) + 0) = (0 : Int32) then ((fX6_ofTask h0 x4 1 y191.2.2).bind fun y245 => if y245.1 = 0 then if y245.2.1 < 0 then (bL_areTasksRight_165 kk12 h0 h1 x2 (x3 + 1) x4 y19.2.1 y21.2.1 y245.2.2) else ((fX6_ofTask h0 x4 1 y245.2.2).bind fun y248 => if y248.1 = 0 then (fX6_many h0 9 y248.2.2).bind fun y250 => if y250.1 = 0 then if y248.2.1 ≤ y250.2.1 then (some (0, y250.2.2)) else (bL_areTasksRight_165 kk12 h0 h1 x2 (x3 + 1) x4 y19.2.1 y21.2.1 y250.2.2) else none else none) else none) else (some (0, y191.2.2)))) else (if (0 : Int32) = 0 then (if ((0 + 1) + 1) = (1 : Int32) then ((fX6_ofTask h0 x4 1 y191.2.2).bind fun y255 => if y255.1 = 0 then if y255.2.1 < 0 then (bL_areTasksRight_165 kk12 h0 h1 x2 (x3 + 1) x4 y19.2.1 y21.2.1 y255.2.2) else ((fX6_ofTask h0 x4 1 y255.2.2).bind fun y258 => if y258.1 = 0 then (fX6_many h0 9 y258.2.2).bind fun y260 => if y260.1 = 0 then if y258.2.1 ≤ y260.2.1 then (some (0, y260.2.2)) else (bL_areTasksRight_165 kk12 h0 h1 x2 (x3 + 1) x4 y19.2.1 y21.2.1 y260.2.2) else none else none) else none) else (some (0, y191.2.2))) else (if ((0 + 1) + 1) = (0 : Int32) then ((fX6_ofTask h0 x4 1 y191.2.2).bind fun y264 => if y264.1 = 0 then if y264.2.1 < 0 then (bL_areTasksRight_165 kk12 h0 h1 x2 (x3 + 1) x4 y19.2.1 y21.2.1 y264.2.2) else ((fX6_ofTask h0 x4 1 y264.2.2).bind fun y267 => if y267.1 = 0 then (fX6_many h0 9 y267.2.2).bind fun y269 => if y269.1 = 0 then if y267.2.1 ≤ y269.2.1 then (some (0, y269.2.2)) else (bL_areTasksRight_165 kk12 h0 h1 x2 (x3 + 1) x4 y19.2.1 y21.2.1 y269.2.2) else none else none) else none) else (some (0, y191.2.2))))) else none) else ((fX6_ofTask h0 x4 1 y23.2.2).bind fun y272 => if y272.1 = 0 then if y272.2.1 < 0 then (if y21.2.1 < 0 then (if (0 : Int32) = 0 then (if ((1 + 0) + 0) = (1 : Int32) then ((fX6_ofTask h0 x4 1 y272.2.2).bind fun y278 => if y278.1 = 0 then if y278.2.1 < 0 then (bL_areTasksRight_165 kk12 h0 h1 x2 (x3 + 1) x4 y19.2.1 y21.2.1 y278.2.2) else ((fX6_ofTask h0 x4 1 y278.2.2).bind fun y281 => if y281.1 = 0 then (fX6_many h0 9 y281.2.2).bind fun y283 => if y283.1 = 0 then if y281.2.1 ≤ y283.2.1 then (some (0, y283.2.2)) else (bL_areTasksRight_165 kk12 h0 h1 x2 (x3 + 1) x4 y19.2.1 y21.2.1 y283.2.2) else none else none) else none) else (some (0, y272.2.2))) else (if ((1 + 0) + 0) = (0 : Int32) then ((fX6_ofTask h0 x4 1 y272.2.2).bind fun y287 => if y287.1 = 0 then if y287.2.1 < 0 then (bL_areTasksRight_165 kk12 h0 h1 x2 (x3 + 1) x4 y19.2.1 y21.2.1 y287.2.2) else ((fX6_ofTask h0 x4 1 y287.2.2).bind fun y290 => if y290.1 = 0 then (fX6_many h0 9 y290.2.2).bind fun y292 => if y292.1 = 0 then if y290.2.1 ≤ y292.2.1 then (some (0, y292.2.2)) else (bL_areTasksRight_165 kk12 h0 h1 x2 (x3 + 1) x4 y19.2.1 y21.2.1 y292.2.2) else none else none) else none) else (some (0, y272.2.2)))) else (if (0 : Int32) = 0 then (if ((1 + 0) + 1) = (1 : Int32) then ((fX6_ofTask h0 x4 1 y272.2.2).bind fun y297 => if y297.1 = 0 then if y297.2.1 < 0 then (bL_areTasksRight_165 kk12 h0 h1 x2 (x3 + 1) x4 y19.2.1 y21.2.1 y297.2.2) else ((fX6_ofTask h0 x4 1 y297.2.2).bind fun y300 => if y300.1 = 0 then (fX6_many h0 9 y300.2.2).bind fun y302 => if y302.1 = 0 then if y300.2.1 ≤ y302.2.1 then (some (0, y302.2.2)) else (bL_areTasksRight_165 kk12 h0 h1 x2 (x3 + 1) x4 y19.2.1 y21.2.1 y302.2.2) else none else none) else none) else (some (0, y272.2.2))) else (if ((1 + 0) + 1) = (0 : Int32) then ((fX6_ofTask h0 x4 1 y272.2.2).bind fun y306 => if y306.1 = 0 then if y306.2.1 < 0 then (bL_areTasksRight_165 kk12 h0 h1 x2 (x3 + 1) x4 y19.2.1 y21.2.1 y306.2.2) else ((fX6_ofTask h0 x4 1 y306.2.2).bind fun y309 => if y309.1 = 0 then (fX6_many h0 9 y309.2.2).bind fun y311 => if y311.1 = 0 then if y309.2.1 ≤ y311.2.1 then (some (0, y311.2.2)) else (bL_areTasksRight_165 kk12 h0 h1 x2 (x3 + 1) x4 y19.2.1 y21.2.1 y311.2.2) else none else none) else none) else (some (0, y272.2.2))))) else (if y21.2.1 < 0 then (if (0 : Int32) = 0 then (if ((1 + 1) + 0) = (1 : Int32) then ((fX6_ofTask h0 x4 1 y272.2.2).bind fun y317 => if y317.1 = 0 then if y317.2.1 < 0 then (bL_areTasksRight_165 kk12 h0 h1 x2 (x3 + 1) x4 y19.2.1 y21.2.1 y317.2.2) else ((fX6_ofTask h0 x4 1 y317.2.2).bind fun y320 => if y320.1 = 0 then (fX6_many h0 9 y320.2.2).bind fun y322 => if y322.1 = 0 then if y320.2.1 ≤ y322.2.1 then (some (0, y322.2.2)) else (bL_areTasksRight_165 kk12 h0 h1 x2 (x3 + 1) x4 y19.2.1 y21.2.1 y322.2.2) else none else none) else none) else (some (0, y272.2.2))) else (if ((1 + 1) + 0) = (0 : Int32) then ((fX6_ofTask h0 x4 1 y272.2.2).bind fun y326 => if y326.1 = 0 then if y326.2.1 < 0 then (bL_areTasksRight_165 kk12 h0 h1 x2 (x3 + 1) x4 y19.2.1 y21.2.1 y326.2.2) else ((fX6_ofTask h0 x4 1 y326.2.2).bind fun y329 => if y329.1 = 0 then (fX6_many h0 9 y329.2.2).bind fun y331 => if y331.1 = 0 then if y329.2.1 ≤ y331.2.1 then (some (0, y331.2.2)) else (bL_areTasksRight_165 kk12 h0 h1 x2 (x3 + 1) x4 y19.2.1 y21.2.1 y331.2.2) else none else none) else none) else (some (0, y272.2.2)))) else (if (0 : Int32) = 0 then (if ((1 + 1) + 1) = (1 : Int32) then ((fX6_ofTask h0 x4 1 y272.2.2).bind fun y336 => if y336.1 = 0 then if y336.2.1 < 0 then (bL_areTasksRight_165 kk12 h0 h1 x2 (x3 + 1) x4 y19.2.1 y21.2.1 y336.2.2) else ((fX6_ofTask h0 x4 1 y336.2.2).bind fun y339 => if y339.1 = 0 then (fX6_many h0 9 y339.2.2).bind fun y341 => if y341.1 = 0 then if y339.2.1 ≤ y341.2.1 then (some (0, y341.2.2)) else (bL_areTasksRight_165 kk12 h0 h1 x2 (x3 + 1) x4 y19.2.1 y21.2.1 y341.2.2) else none else none) else none) else (some (0, y272.2.2))) else (if ((1 + 1) + 1) = (0 : Int32) then ((fX6_ofTask h0 x4 1 y272.2.2).bind fun y345 => if y345.1 = 0 then if y345.2.1 < 0 then (bL_areTasksRight_165 kk12 h0 h1 x2 (x3 + 1) x4 y19.2.1 y21.2.1 y345.2.2) else ((fX6_ofTask h0 x4 1 y345.2.2).bind fun y348 => if y348.1 = 0 then (fX6_many h0 9 y348.2.2).bind fun y350 => if y350.1 = 0 then if y348.2.1 ≤ y350.2.1 then (some (0, y350.2.2)) else (bL_areTasksRight_165 kk12 h0 h1 x2 (x3 + 1) x4 y19.2.1 y21.2.1 y350.2.2) else none else none) else none) else (some (0, y272.2.2))))) else none))) else (if (1 : Int32) = 0 then (if y19.2.1 < 0 then ((fX6_ofTask h0 x4 1 y23.2.2).bind fun y355 => if y355.1 = 0 then if y355.2.1 < 0 then (if y21.2.1 < 0 then (if (1 : Int32) = 0 then (if ((0 + 0) + 0) = (1 : Int32) then ((fX6_ofTask h0 x4 1 y355.2.2).bind fun y361 => if y361.1 = 0 then if y361.2.1 < 0 then (bL_areTasksRight_165 kk12 h0 h1 x2 (x3 + 0) x4 y19.2.1 y21.2.1 y361.2.2) else ((fX6_ofTask h0 x4 1 y361.2.2).bind fun y364 => if y364.1 = 0 then (fX6_many h0 9 y364.2.2).bind fun y366 => if y366.1 = 0 then if y364.2.1 ≤ y366.2.1 then (some (0, y366.2.2)) else (bL_areTasksRight_165 kk12 h0 h1 x2 (x3 + 0) x4 y19.2.1 y21.2.1 y366.2.2) else none else none) else none) else (some (0, y355.2.2))) else (if ((0 + 0) + 0) = (0 : Int32) then ((fX6_ofTask h0 x4 1 y355.2.2).bind fun y370 => if y370.1 = 0 then if y370.2.1 < 0 then (bL_areTasksRight_165 kk12 h0 h1 x2 (x3 + 0) x4 y19.2.1 y21.2.1 y370.2.2) else ((fX6_ofTask h0 x4 1 y370.2.2).bind fun y373 => if y373.1 = 0 then (fX6_many h0 9 y373.2.2).bind fun y375 => if y375.1 = 0 then if y373.2.1 ≤ y375.2.1 then (some (0, y375.2.2)) else (bL_areTasksRight_165 kk12 h0 h1 x2 (x3 + 0) x4 y19.2.1 y21.2.1 y375.2.2) else none else none) else none) else (some (0, y355.2.2)))) else (if (1 : Int32) = 0 then (if ((0 + 0) + 1) = (1 : Int32) then ((fX6_ofTask h0 x4 1 y355.2.2).bind fun y380 => if y380.1 = 0 then if y380.2.1 < 0 then (bL_areTasksRight_165 kk12 h0 h1 x2 (x3 + 0) x4 y19.2.1 y21.2.1 y380.2.2) else ((fX6_ofTask h0 x4 1 y380.2.2).bind fun y383 => if y383.1 = 0 then (fX6_many h0 9 y383.2.2).bind fun y385 => if y385.1 = 0 then if y383.2.1 ≤ y385.2.1 then (some (0, y385.2.2)) else (bL_areTasksRight_165 kk12 h0 h1 x2 (x3 + 0) x4 y19.2.1 y21.2.1 y385.2.2) else none else none) else none) else (some (0, y355.2.2))) else (if ((0 + 0) + 1) = (0 : Int32) then ((fX6_ofTask h0 x4 1 y355.2.2).bind fun y389 => if y389.1 = 0 then if y389.2.1 < 0 then (bL_areTasksRight_165 kk12 h0 h1 x2 (x3 + 0) x4 y19.2.1 y21.2.1 y389.2.2) else ((fX6_ofTask h0 x4 1 y389.2.2).bind fun y392 => if y392.1 = 0 then (fX6_many h0 9 y392.2.2).bind fun y394 => if y394.1 = 0 then if y392.2.1 ≤ y394.2.1 then (some (0, y394.2.2)) else (bL_areTasksRight_165 kk12 h0 h1 x2 (x3 + 0) x4 y19.2.1 y21.2.1 y394.2.2) else none else none) else none) else (some (0, y355.2.2))))) else (if y21.2.1 < 0 then (if (1 : Int32) = 0 then (if ((0 + 1) + 0) = (1 : Int32) then ((fX6_ofTask h0 x4 1 y355.2.2).bind fun y400 => if y400.1 = 0 then if y400.2.1 < 0 then (bL_areTasksRight_165 kk12 h0 h1 x2 (x3 + 0) x4 y19.2.1 y21.2.1 y400.2.2) else ((fX6_ofTask h0 x4 1 y400.2.2).bind fun y403 => if y403.1 = 0 then (fX6_many h0 9 y403.2.2).bind fun y405 => if y405.1 = 0 then if y403.2.1 ≤ y405.2.1 then (some (0, y405.2.2)) else (bL_areTasksRight_165 kk12 h0 h1 x2 (x3 + 0) x4 y19.2.1 y21.2.1 y405.2.2) else none else none) else none) else (some (0, y355.2.2))) else (if ((0 + 1) + 0) = (0 : Int32) then ((fX6_ofTask h0 x4 1 y355.2.2).bind fun y409 => if y409.1 = 0 then if y409.2.1 < 0 then (bL_areTasksRight_165 kk12 h0 h1 x2 (x3 + 0) x4 y19.2.1 y21.2.1 y409.2.2) else ((fX6_ofTask h0 x4 1 y409.2.2).bind fun y412 => if y412.1 = 0 then (fX6_many h0 9 y412.2.2).bind fun y414 => if y414.1 = 0 then if y412.2.1 ≤ y414.2.1 then (some (0, y414.2.2)) else (bL_areTasksRight_165 kk12 h0 h1 x2 (x3 + 0) x4 y19.2.1 y21.2.1 y414.2.2) else none else none) else none) else (some (0, y355.2.2)))) else (if (1 : Int32) = 0 then (if ((0 + 1) + 1) = (1 : Int32) then ((fX6_ofTask h0 x4 1 y355.2.2).bind fun y419 => if y419.1 = 0 then if y419.2.1 < 0 then (bL_areTasksRight_165 kk12 h0 h1 x2 (x3 + 0) x4 y19.2.1 y21.2.1 y419.2.2) else ((fX6_ofTask h0 x4 1 y419.2.2).bind fun y422 => if y422.1 = 0 then (fX6_many h0 9 y422.2.2).bind fun y424 => if y424.1 = 0 then if y422.2.1 ≤ y424.2.1 then (some (0, y424.2.2)) else (bL_areTasksRight_165 kk12 h0 h1 x2 (x3 + 0) x4 y19.2.1 y21.2.1 y424.2.2) else none else none) else none) else (some (0, y355.2.2))) else (if ((0 + 1) + 1) = (0 : Int32) then ((fX6_ofTask h0 x4 1 y355.2.2).bind fun y428 => if y428.1 = 0 then if y428.2.1 < 0 then (bL_areTasksRight_165 kk12 h0 h1 x2 (x3 + 0) x4 y19.2.1 y21.2.1 y428.2.2) else ((fX6_ofTask h0 x4 1 y428.2.2).bind fun y431 => if y431.1 = 0 then (fX6_many h0 9 y431.2.2).bind fun y433 => if y433.1 = 0 then if y431.2.1 ≤ y433.2.1 then (some (0, y433.2.2)) else (bL_areTasksRight_165 kk12 h0 h1 x2 (x3 + 0) x4 y19.2.1 y21.2.1 y433.2.2) else none else none) else none) else (some (0, y355.2.2))))) else none) else ((fX6_ofTask h0 x4 1 y23.2.2).bind fun y436 => if y436.1 = 0 then if y436.2.1 < 0 then (if y21.2.1 < 0 then (if (1 : Int32) = 0 then (if ((1 + 0) + 0) = (1 : Int32) then ((fX6_ofTask h0 x4 1 y436.2.2).bind fun y442 => if y442.1 = 0 then if y442.2.1 < 0 then (bL_areTasksRight_165 kk12 h0 h1 x2 (x3 + 0) x4 y19.2.1 y21.2.1 y442.2.2) else ((fX6_ofTask h0 x4 1 y442.2.2).bind fun y445 => if y445.1 = 0 then (fX6_many h0 9 y445.2.2).bind fun y447 => if y447.1 = 0 then if y445.2.1 ≤ y447.2.1 then (some (0, y447.2.2)) else (bL_areTasksRight_165 kk12 h0 h1 x2 (x3 + 0) x4 y19.2.1 y21.2.1 y447.2.2) else none else none) else none) else (some (0, y436.2.2))) else (if ((1 + 0) + 0) = (0 : Int32) then ((fX6_ofTask h0 x4 1 y436.2.2).bind fun y451 => if y451.1 = 0 then if y451.2.1 < 0 then (bL_areTasksRight_165 kk12 h0 h1 x2 (x3 + 0) x4 y19.2.1 y21.2.1 y451.2.2) else ((fX6_ofTask h0 x4 1 y451.2.2).bind fun y454 => if y454.1 = 0 then (fX6_many h0 9 y454.2.2).bind fun y456 => if y456.1 = 0 then if y454.2.1 ≤ y456.2.1 then (some (0, y456.2.2)) else (bL_areTasksRight_165 kk12 h0 h1 x2 (x3 + 0) x4 y19.2.1 y21.2.1 y456.2.2) else none else none) else none) else (some (0, y436.2.2)))) else (if (1 : Int32) = 0 then (if ((1 + 0) + 1) = (1 : Int32) then ((fX6_ofTask h0 x4 1 y436.2.2).bind fun y461 => if y461.1 = 0 then if y461.2.1 < 0 then (bL_areTasksRight_165 kk12 h0 h1 x2 (x3 + 0) x4 y19.2.1 y21.2.1 y461.2.2) else ((fX6_ofTask h0 x4 1 y461.2.2).bind fun y464 => if y464.1 = 0 then (fX6_many h0 9 y464.2.2).bind fun y466 => if y466.1 = 0 then if y464.2.1 ≤ y466.2.1 then (some (0, y466.2.2)) else (bL_areTasksRight_165 kk12 h0 h1 x2 (x3 + 0) x4 y19.2.1 y21.2.1 y466.2.2) else none else none) else none) else (some (0, y436.2.2))) else (if ((1 + 0) + 1) = (0 : Int32) then ((fX6_ofTask h0 x4 1 y436.2.2).bind fun y470 => if y470.1 = 0 then if y470.2.1 < 0 then (bL_areTasksRight_165 kk12 h0 h1 x2 (x3 + 0) x4 y19.2.1 y21.2.1 y470.2.2) else ((fX6_ofTask h0 x4 1 y470.2.2).bind fun y473 => if y473.1 = 0 then (fX6_many h0 9 y473.2.2).bind fun y475 => if y475.1 = 0 then if y473.2.1 ≤ y475.2.1 then (some (0, y475.2.2)) else (bL_areTasksRight_165 kk12 h0 h1 x2 (x3 + 0) x4 y19.2.1 y21.2.1 y475.2.2) else none else none) else none) else (some (0, y436.2.2))))) else (if y21.2.1 < 0 then (if (1 : Int32) = 0 then (if ((1 + 1) + 0) = (1 : Int32) then ((fX6_ofTask h0 x4 1 y436.2.2).bind fun y481 => if y481.1 = 0 then if y481.2.1 < 0 then (bL_areTasksRight_165 kk12 h0 h1 x2 (x3 + 0) x4 y19.2.1 y21.2.1 y481.2.2) else ((fX6_ofTask h0 x4 1 y481.2.2).bind fun y484 => if y484.1 = 0 then (fX6_many h0 9 y484.2.2).bind fun y486 => if y486.1 = 0 then if y484.2.1 ≤ y486.2.1 then (some (0, y486.2.2)) else (bL_areTasksRight_165 kk12 h0 h1 x2 (x3 + 0) x4 y19.2.1 y21.2.1 y486.2.2) else none else none) else none) else (some (0, y436.2.2))) else (if ((1 + 1) + 0) = (0 : Int32) then ((fX6_ofTask h0 x4 1 y436.2.2).bind fun y490 => if y490.1 = 0 then if y490.2.1 < 0 then (bL_areTasksRight_165 kk12 h0 h1 x2 (x3 + 0) x4 y19.2.1 y21.2.1 y490.2.2) else ((fX6_ofTask h0 x4 1 y490.2.2).bind fun y493 => if y493.1 = 0 then (fX6_many h0 9 y493.2.2).bind fun y495 => if y495.1 = 0 then if y493.2.1 ≤ y495.2.1 then (some (0, y495.2.2)) else (bL_areTasksRight_165 kk12 h0 h1 x2 (x3 + 0) x4 y19.2.1 y21.2.1 y495.2.2) else none else none) else none) else (some (0, y436.2.2)))) else (if (1 : Int32) = 0 then (if ((1 + 1) + 1) = (1 : Int32) then ((fX6_ofTask h0 x4 1 y436.2.2).bind fun y500 => if y500.1 = 0 then if y500.2.1 < 0 then (bL_areTasksRight_165 kk12 h0 h1 x2 (x3 + 0) x4 y19.2.1 y21.2.1 y500.2.2) else ((fX6_ofTask h0 x4 1 y500.2.2).bind fun y503 => if y503.1 = 0 then (fX6_many h0 9 y503.2.2).bind fun y505 => if y505.1 = 0 then if y503.2.1 ≤ y505.2.1 then (some (0, y505.2.2)) else (bL_areTasksRight_165 kk12 h0 h1 x2 (x3 + 0) x4 y19.2.1 y21.2.1 y505.2.2) else none else none) else none) else (some (0, y436.2.2))) else (if ((1 + 1) + 1) = (0 : Int32) then ((fX6_ofTask h0 x4 1 y436.2.2).bind fun y509 => if y509.1 = 0 then if y509.2.1 < 0 then (bL_areTasksRight_165 kk12 h0 h1 x2 (x3 + 0) x4 y19.2.1 y21.2.1 y509.2.2) else ((fX6_ofTask h0 x4 1 y509.2.2).bind fun y512 => if y512.1 = 0 then (fX6_many h0 9 y512.2.2).bind fun y514 => if y514.1 = 0 then if y512.2.1 ≤ y514.2.1 then (some (0, y514.2.2)) else (bL_areTasksRight_165 kk12 h0 h1 x2 (x3 + 0) x4 y19.2.1 y21.2.1 y514.2.2) else none else none) else none) else (some (0, y436.2.2))))) else none)) else (if y19.2.1 < 0 then ((fX6_ofTask h0 x4 1 y23.2.2).bind fun y518 => if y518.1 = 0 then if y518.2.1 < 0 then (if y21.2.1 < 0 then (if (1 : Int32) = 0 then (if ((0 + 0) + 0) = (1 : Int32) then ((fX6_ofTask h0 x4 1 y518.2.2).bind fun y524 => if y524.1 = 0 then if y524.2.1 < 0 then (bL_areTasksRight_165 kk12 h0 h1 x2 (x3 + 1) x4 y19.2.1 y21.2.1 y524.2.2) else ((fX6_ofTask h0 x4 1 y524.2.2).bind fun y527 => if y527.1 = 0 then (fX6_many h0 9 y527.2.2).bind fun y529 => if y529.1 = 0 then if y527.2.1 ≤ y529.2.1 then (some (0, y529.2.2)) else (bL_areTasksRight_165 kk12 h0 h1 x2 (x3 + 1) x4 y19.2.1 y21.2.1 y529.2.2) else none else none) else none) else (some (0, y518.2.2))) else (if ((0 + 0) + 0) = (0 : Int32) then ((fX6_ofTask h0 x4 1 y518.2.2).bind fun y533 => if y533.1 = 0 then if y533.2.1 < 0 then (bL_areTasksRight_165 kk12 h0 h1 x2 (x3 + 1) x4 y19.2.1 y21.2.1 y533.2.2) else ((fX6_ofTask h0 x4 1 y533.2.2).bind fun y536 => if y536.1 = 0 then (fX6_many h0 9 y536.2.2).bind fun y538 => if y538.1 = 0 then if y536.2.1 ≤ y538.2.1 then (some (0, y538.2.2)) else (bL_areTasksRight_165 kk12 h0 h1 x2 (x3 + 1) x4 y19.2.1 y21.2.1 y538.2.2) else none else none) else none) else (some (0, y518.2.2)))) else (if (1 : Int32) = 0 then (if ((0 + 0) + 1) = (1 : Int32) then ((fX6_ofTask h0 x4 1 y518.2.2).bind fun y543 => if y543.1 = 0 then if y543.2.1 < 0 then (bL_areTasksRight_165 kk12 h0 h1 x2 (x3 + 1) x4 y19.2.1 y21.2.1 y543.2.2) else ((fX6_ofTask h0 x4 1 y543.2.2).bind fun y546 => if y546.1 = 0 then (fX6_many h0 9 y546.2.2).bind fun y548 => if y548.1 = 0 then if y546.2.1 ≤ y548.2.1 then (some (0, y548.2.2)) else (bL_areTasksRight_165 kk12 h0 h1 x2 (x3 + 1) x4 y19.2.1 y21.2.1 y548.2.2) else none else none) else none) else (some (0, y518.2.2))) else (if ((0 + 0) + 1) = (0 : Int32) then ((fX6_ofTask h0 x4 1 y518.2.2).bind fun y552 => if y552.1 = 0 then if y552.2.1 < 0 then (bL_areTasksRight_165 kk12 h0 h1 x2 (x3 + 1) x4 y19.2.1 y21.2.1 y552.2.2) else ((fX6_ofTask h0 x4 1 y552.2.2).bind fun y555 => if y555.1 = 0 then (fX6_many h0 9 y555.2.2).bind fun y557 => if y557.1 = 0 then if y555.2.1 ≤ y557.2.1 then (some (0, y557.2.2)) else (bL_areTasksRight_165 kk12 h0 h1 x2 (x3 + 1) x4 y19.2.1 y21.2.1 y557.2.2) else none else none) else none) else (some (0, y518.2.2))))) else (if y21.2.1 < 0 then (if (1 : Int32) = 0 then (if ((0 + 1) + 0) = (1 : Int32) then ((fX6_ofTask h0 x4 1 y518.2.2).bind fun y563 => if y563.1 = 0 then if y563.2.1 < 0 then (bL_areTasksRight_165 kk12 h0 h1 x2 (x3 + 1) x4 y19.2.1 y21.2.1 y563.2.2) else ((fX6_ofTask h0 x4 1 y563.2.2).bind fun y566 => if y566.1 = 0 then (fX6_many h0 9 y566.2.2).bind fun y568 => if y568.1 = 0 then if y566.2.1 ≤ y568.2.1 then (some (0, y568.2.2)) else (bL_areTasksRight_165 kk12 h0 h1 x2 (x3 + 1) x4 y19.2.1 y21.2.1 y568.2.2) else none else none) else none) else (some (0, y518.2.2))) else (if ((0 + 1) + 0) = (0 : Int32) then ((fX6_ofTask h0 x4 1 y518.2.2).bind fun y572 => if y572.1 = 0 then if y572.2.1 < 0 then (bL_areTasksRight_165 kk12 h0 h1 x2 (x3 + 1) x4 y19.2.1 y21.2.1 y572.2.2) else ((fX6_ofTask h0 x4 1 y572.2.2).bind fun y575 => if y575.1 = 0 then (fX6_many h0 9 y575.2.2).bind fun y577 => if y577.1 = 0 then if y575.2.1 ≤ y577.2.1 then (some (0, y577.2.2)) else (bL_areTasksRight_165 kk12 h0 h1 x2 (x3 + 1) x4 y19.2.1 y21.2.1 y577.2.2) else none else none) else none) else (some (0, y518.2.2)))) else (if (1 : Int32) = 0 then (if ((0 + 1) + 1) = (1 : Int32) then ((fX6_ofTask h0 x4 1 y518.2.2).bind fun y582 => if y582.1 = 0 then if y582.2.1 < 0 then (bL_areTasksRight_165 kk12 h0 h1 x2 (x3 + 1) x4 y19.2.1 y21.2.1 y582.2.2) else ((fX6_ofTask h0 x4 1 y582.2.2).bind fun y585 => if y585.1 = 0 then (fX6_many h0 9 y585.2.2).bind fun y587 => if y587.1 = 0 then if y585.2.1 ≤ y587.2.1 then (some (0, y587.2.2)) else (bL_areTasksRight_165 kk12 h0 h1 x2 (x3 + 1) x4 y19.2.1 y21.2.1 y587.2.2) else none else none) else none) else (some (0, y518.2.2))) else (if ((0 + 1) + 1) = (0 : Int32) then ((fX6_ofTask h0 x4 1 y518.2.2).bind fun y591 => if y591.1 = 0 then if y591.2.1 < 0 then (bL_areTasksRight_165 kk12 h0 h1 x2 (x3 + 1) x4 y19.2.1 y21.2.1 y591.2.2) else ((fX6_ofTask h0 x4 1 y591.2.2).bind fun y594 => if y594.1 = 0 then (fX6_many h0 9 y594.2.2).bind fun y596 => if y596.1 = 0 then if y594.2.1 ≤ y596.2.1 then (some (0, y596.2.2)) else (bL_areTasksRight_165 kk12 h0 h1 x2 (x3 + 1) x4 y19.2.1 y21.2.1 y596.2.2) else none else none) else none) else (some (0, y518.2.2))))) else none) else ((fX6_ofTask h0 x4 1 y23.2.2).bind fun y599 => if y599.1 = 0 then if y599.2.1 < 0 then (if y21.2.1 < 0 then (if (1 : Int32) = 0 then (if ((1 + 0) + 0) = (1 : Int32) then ((fX6_ofTask h0 x4 1 y599.2.2).bind fun y605 => if y605.1 = 0 then if y605.2.1 < 0 then (bL_areTasksRight_165 kk12 h0 h1 x2 (x3 + 1) x4 y19.2.1 y21.2.1 y605.2.2) else ((fX6_ofTask h0 x4 1 y605.2.2).bind fun y608 => if y608.1 = 0 then (fX6_many h0 9 y608.2.2).bind fun y610 => if y610.1 = 0 then if y608.2.1 ≤ y610.2.1 then (some (0, y610.2.2)) else (bL_areTasksRight_165 kk12 h0 h1 x2 (x3 + 1) x4 y19.2.1 y21.2.1 y610.2.2) else none else none) else none) else (some (0, y599.2.2))) else (if ((1 + 0) + 0) = (0 : Int32) then ((fX6_ofTask h0 x4 1 y599.2.2).bind fun y614 => if y614.1 = 0 then if y614.2.1 < 0 then (bL_areTasksRight_165 kk12 h0 h1 x2 (x3 + 1) x4 y19.2.1 y21.2.1 y614.2.2) else ((fX6_ofTask h0 x4 1 y614.2.2).bind fun y617 => if y617.1 = 0 then (fX6_many h0 9 y617.2.2).bind fun y619 => if y619.1 = 0 then if y617.2.1 ≤ y619.2.1 then (some (0, y619.2.2)) else (bL_areTasksRight_165 kk12 h0 h1 x2 (x3 + 1) x4 y19.2.1 y21.2.1 y619.2.2) else none else none) else none) else (some (0, y599.2.2)))) else (if (1 : Int32) = 0 then (if ((1 + 0) + 1) = (1 : Int32) then ((fX6_ofTask h0 x4 1 y599.2.2).bind fun y624 => if y624.1 = 0 then if y624.2.1 < 0 then (bL_areTasksRight_165 kk12 h0 h1 x2 (x3 + 1) x4 y19.2.1 y21.2.1 y624.2.2) else ((fX6_ofTask h0 x4 1 y624.2.2).bind fun y627 => if y627.1 = 0 then (fX6_many h0 9 y627.2.2).bind fun y629 => if y629.1 = 0 then if y627.2.1 ≤ y629.2.1 then (some (0, y629.2.2)) else (bL_areTasksRight_165 kk12 h0 h1 x2 (x3 + 1) x4 y19.2.1 y21.2.1 y629.2.2) else none else none) else none) else (some (0, y599.2.2))) else (if ((1 + 0) + 1) = (0 : Int32) then ((fX6_ofTask h0 x4 1 y599.2.2).bind fun y633 => if y633.1 = 0 then if y633.2.1 < 0 then (bL_areTasksRight_165 kk12 h0 h1 x2 (x3 + 1) x4 y19.2.1 y21.2.1 y633.2.2) else ((fX6_ofTask h0 x4 1 y633.2.2).bind fun y636 => if y636.1 = 0 then (fX6_many h0 9 y636.2.2).bind fun y638 => if y638.1 = 0 then if y636.2.1 ≤ y638.2.1 then (some (0, y638.2.2)) else (bL_areTasksRight_165 kk12 h0 h1 x2 (x3 + 1) x4 y19.2.1 y21.2.1 y638.2.2) else none else none) else none) else (some (0, y599.2.2))))) else (if y21.2.1 < 0 then (if (1 : Int32) = 0 then (if ((1 + 1) + 0) = (1 : Int32) then ((fX6_ofTask h0 x4 1 y599.2.2).bind fun y644 => if y644.1 = 0 then if y644.2.1 < 0 then (bL_areTasksRight_165 kk12 h0 h1 x2 (x3 + 1) x4 y19.2.1 y21.2.1 y644.2.2) else ((fX6_ofTask h0 x4 1 y644.2.2).bind fun y647 => if y647.1 = 0 then (fX6_many h0 9 y647.2.2).bind fun y649 => if y649.1 = 0 then if y647.2.1 ≤ y649.2.1 then (some (0, y649.2.2)) else (bL_areTasksRight_165 kk12 h0 h1 x2 (x3 + 1) x4 y19.2.1 y21.2.1 y649.2.2) else none else none) else none) else (some (0, y599.2.2))) else (if ((1 + 1) + 0) = (0 : Int32) then ((fX6_ofTask h0 x4 1 y599.2.2).bind fun y653 => if y653.1 = 0 then if y653.2.1 < 0 then (bL_areTasksRight_165 kk12 h0 h1 x2 (x3 + 1) x4 y19.2.1 y21.2.1 y653.2.2) else ((fX6_ofTask h0 x4 1 y653.2.2).bind fun y656 => if y656.1 = 0 then (fX6_many h0 9 y656.2.2).bind fun y658 => if y658.1 = 0 then if y656.2.1 ≤ y658.2.1 then (some (0, y658.2.2)) else (bL_areTasksRight_165 kk12 h0 h1 x2 (x3 + 1) x4 y19.2.1 y21.2.1 y658.2.2) else none else none) else none) else (some (0, y599.2.2)))) else (if (1 : Int32) = 0 then (if ((1 + 1) + 1) = (1 : Int32) then ((fX6_ofTask h0 x4 1 y599.2.2).bind fun y663 => if y663.1 = 0 then if y663.2.1 < 0 then (bL_areTasksRight_165 kk12 h0 h1 x2 (x3 + 1) x4 y19.2.1 y21.2.1 y663.2.2) else ((fX6_ofTask h0 x4 1 y663.2.2).bind fun y666 => if y666.1 = 0 then (fX6_many h0 9 y666.2.2).bind fun y668 => if y668.1 = 0 then if y666.2.1 ≤ y668.2.1 then (some (0, y668.2.2)) else (bL_areTasksRight_165 kk12 h0 h1 x2 (x3 + 1) x4 y19.2.1 y21.2.1 y668.2.2) else none else none) else none) else (some (0, y599.2.2))) else (if ((1 + 1) + 1) = (0 : Int32) then ((fX6_ofTask h0 x4 1 y599.2.2).bind fun y672 => if y672.1 = 0 then if y672.2.1 < 0 then (bL_areTasksRight_165 kk12 h0 h1 x2 (x3 + 1) x4 y19.2.1 y21.2.1 y672.2.2) else ((fX6_ofTask h0 x4 1 y672.2.2).bind fun y675 => if y675.1 = 0 then (fX6_many h0 9 y675.2.2).bind fun y677 => if y677.1 = 0 then if y675.2.1 ≤ y677.2.1 then (some (0, y677.2.2)) else (bL_areTasksRight_165 kk12 h0 h1 x2 (x3 + 1) x4 y19.2.1 y21.2.1 y677.2.2) else none else none) else none) else (some (0, y599.2.2))))) else none))) else none else none else none) else (kk12 h0 h1 x2 x3 (x4 + 1) y16.2.2) else none) else none else none
def lL_areTasksRight_12  : Nat → Nat → Nat → Int32 → Int32 → Int32 → MM → Option (Int32 × MM)
  | 0, _, _, _, _, _, _ => none
  | n + 1, h0, h1, x2, x3, x4, μ => bL_areTasksRight_12  (fun h0 h1 x2 x3 x4 μ => lL_areTasksRight_12  n h0 h1 x2 x3 x4 μ) h0 h1 x2 x3 x4 μ
def fL_areTasksRight (h0 : Nat) (μ : MM) : Option (Int32 × MM) :=
  st (sN μ 23 24) fun μ1 => lL_areTasksRight_12  FU h0 (mX μ) 0 0 0 μ1
abbrev rmL_areTasksRight : Room := { frames := 7, cells := 1, slots := 24, locals := 165 }
set_option maxRecDepth 100000 in
set_option maxHeartbeats 4000000 in
theorem wbL_areTasksRight_273 {p : Program} {l : Launch} {e : Env} {s : State} {m : MethodId} {args : Array Value} {below : List Frame} {meth : Method} {c : Code} {G : mmG} {A : Nat → Prop} {res : Int32 × MM} (E0 : mmEnv p m c cL_areTasksRight 11 s args RL G A meth (some (.boolean))) (kk12 : Nat → Nat → Int32 → Int32 → Int32 → MM → Option (Int32 × MM)) (hkk12 : ∀ (h0 : Nat) (h1 : Nat) (x2 : Int32) (x3 : Int32) (x4 : Int32) (μ : MM), kk12 h0 h1 x2 x3 x4 μ = some res → mmGoalA p l e rmL_areTasksRight s m args below meth c G A 1 24 1 24 12 11 [(0, rf h0), (1, rf h1), (2, .int x2), (3, .int x3), (4, .int x4)] μ (mmQ G A res.2 (some (.int res.1)))) : ∀ (h0 : Nat) (h1 : Nat) (x2 : Int32) (x3 : Int32) (x4 : Int32) (μ : MM), bL_areTasksRight_273 kk12 h0 h1 x2 x3 x4 μ = some res → mmGoalA p l e rmL_areTasksRight s m args below meth c G A 1 24 1 24 273 11 [(0, rf h0), (1, rf h1), (2, .int x2), (3, .int x3), (4, .int x4)] μ (mmQ G A res.2 (some (.int res.1))) := by
  obtain ⟨S, hA, hr, hlocks⟩ := id E0
  intro h0 h1 x2 x3 x4 μ hf H locs ls hR hS hl
  have hK : mmKN μ μ := mmKN.rf
  unfold bL_areTasksRight_273 at hf
  refine mm_aload_n S dL_areTasksRight_273 rfl (lv_at hl 0 rfl) ?_
  refine lv_iload S.1 S.2.1 dL_areTasksRight_274 (lv_at hl 4 rfl) ?_
  refine lv_iconst (v := 3) S.1 S.2.1 dL_areTasksRight_276 (by decide) ?_
  obtain ⟨g3, hf⟩ := gd hf
  obtain ⟨y1, hy1, hf⟩ := bd hf
  obtain ⟨g2, hf⟩ := gd hf
  refine mm_callVi S hR hS hA (As := [.int x4, .int 3]) (rest := []) cvL_68 (hK.k g3) (kX6_ofTask_c l G A (hK.k g3) hy1 g2) rfl rfl ⟨Nat.le_of_ble_eq_true rfl, Nat.le_of_ble_eq_true rfl⟩ rfl hl.1 rfl (lv_room (by simp [rf_cat, int_cat, long_cat])) dL_areTasksRight_277 ⟨Nat.le_of_ble_eq_true rfl, Nat.le_of_ble_eq_true rfl⟩ (fun H locs hR hS => ?_)
  have hK : mmKN μ y1.2.2 := hK.tr (kX6_ofTask_kn hy1)
  refine lv_if_lt (tgt := 295) S.1 S.2.1 dL_areTasksRight_280 (by decide) (fun c4 => ?_) (fun c4 => ?_)
  · have hf := it_t hf c4
    refine lv_iconst (v := 0) S.1 S.2.1 dL_areTasksRight_295 (by decide) ?_
    obtain rfl := Option.some.inj hf
    refine W.widen (k := 1) (n := 24) (Nat.le_of_ble_eq_true rfl) (Nat.le_of_ble_eq_true rfl) ?_
    exact mm_zret S hR hS hr hlocks (Or.inl rfl) dL_areTasksRight_296
  · have hf := it_f hf c4
    refine mm_aload_n S dL_areTasksRight_283 rfl (lv_at hl 0 rfl) ?_
    refine lv_iload S.1 S.2.1 dL_areTasksRight_284 (lv_at hl 4 rfl) ?_
    refine lv_iconst (v := 5) S.1 S.2.1 dL_areTasksRight_286 (by decide) ?_
    obtain ⟨y5, hy5, hf⟩ := bd hf
    obtain ⟨g6, hf⟩ := gd hf
    refine mm_callVi S hR hS hA (As := [.int x4, .int 5]) (rest := []) cvL_68 (hK.k g3) (kX6_ofTask_c l G A (hK.k g3) hy5 g6) rfl rfl ⟨Nat.le_of_ble_eq_true rfl, Nat.le_of_ble_eq_true rfl⟩ rfl hl.1 rfl (lv_room (by simp [rf_cat, int_cat, long_cat])) dL_areTasksRight_287 ⟨Nat.le_of_ble_eq_true rfl, Nat.le_of_ble_eq_true rfl⟩ (fun H locs hR hS => ?_)
    have hK : mmKN μ y5.2.2 := hK.tr (kX6_ofTask_kn hy5)
    refine lv_iload S.1 S.2.1 dL_areTasksRight_290 (lv_at hl 4 rfl) ?_
    refine lv_icmp_lt (tgt := 297) S.1 S.2.1 dL_areTasksRight_292 (by decide) (fun c7 => ?_) (fun c7 => ?_)
    · have hf := it_t hf c7
      refine lv_iinc (v := (x4 + 1)) (lv' := [(4, .int (x4 + 1)), (0, rf h0), (1, rf h1), (2, .int x2), (3, .int x3)]) S.1 S.2.1 dL_areTasksRight_297 hl (k := 4) rfl (by rfl) (by decide) rfl (fun ls hl => ?_)
      refine lv_goto (tgt := 12) S.1 S.2.1 dL_areTasksRight_300 (by decide) ?_
      exact hkk12 h0 h1 x2 x3 (x4 + 1) y5.2.2 hf _ _ _ hR hS (lv_sub hl [1, 2, 3, 4, 0] rfl)
    · have hf := it_f hf c7
      refine lv_iconst (v := 0) S.1 S.2.1 dL_areTasksRight_295 (by decide) ?_
      obtain rfl := Option.some.inj hf
      refine W.widen (k := 1) (n := 24) (Nat.le_of_ble_eq_true rfl) (Nat.le_of_ble_eq_true rfl) ?_
      exact mm_zret S hR hS hr hlocks (Or.inl rfl) dL_areTasksRight_296
set_option maxRecDepth 100000 in
set_option maxHeartbeats 4000000 in
theorem wbL_areTasksRight_210 {p : Program} {l : Launch} {e : Env} {s : State} {m : MethodId} {args : Array Value} {below : List Frame} {meth : Method} {c : Code} {G : mmG} {A : Nat → Prop} {res : Int32 × MM} (E0 : mmEnv p m c cL_areTasksRight 11 s args RL G A meth (some (.boolean))) (kk12 : Nat → Nat → Int32 → Int32 → Int32 → MM → Option (Int32 × MM)) (hkk12 : ∀ (h0 : Nat) (h1 : Nat) (x2 : Int32) (x3 : Int32) (x4 : Int32) (μ : MM), kk12 h0 h1 x2 x3 x4 μ = some res → mmGoalA p l e rmL_areTasksRight s m args below meth c G A 1 24 1 24 12 11 [(0, rf h0), (1, rf h1), (2, .int x2), (3, .int x3), (4, .int x4)] μ (mmQ G A res.2 (some (.int res.1)))) (kk210 : Nat → Nat → Int32 → Int32 → Int32 → Int32 → Int32 → Int32 → MM → Option (Int32 × MM)) (hkk210 : ∀ (h0 : Nat) (h1 : Nat) (x2 : Int32) (x3 : Int32) (x4 : Int32) (x6 : Int32) (x9 : Int32) (x10 : Int32) (μ : MM), kk210 h0 h1 x2 x3 x4 x6 x9 x10 μ = some res → mmGoalA p l e rmL_areTasksRight s m args below meth c G A 1 24 1 24 210 11 [(0, rf h0), (1, rf h1), (2, .int x2), (3, .int x3), (4, .int x4), (6, .int x6), (9, .int x9), (10, .int x10)] μ (mmQ G A res.2 (some (.int res.1)))) : ∀ (h0 : Nat) (h1 : Nat) (x2 : Int32) (x3 : Int32) (x4 : Int32) (x6 : Int32) (x9 : Int32) (x10 : Int32) (μ : MM), bL_areTasksRight_210 kk12 kk210 h0 h1 x2 x3 x4 x6 x9 x10 μ = some res → mmGoalA p l e rmL_areTasksRight s m args below meth c G A 1 24 1 24 210 11 [(0, rf h0), (1, rf h1), (2, .int x2), (3, .int x3), (4, .int x4), (6, .int x6), (9, .int x9), (10, .int x10)] μ (mmQ G A res.2 (some (.int res.1))) := by
  obtain ⟨S, hA, hr, hlocks⟩ := id E0
  intro h0 h1 x2 x3 x4 x6 x9 x10 μ hf H locs ls hR hS hl
  have hK : mmKN μ μ := mmKN.rf
  unfold bL_areTasksRight_210 at hf
  refine lv_iload S.1 S.2.1 dL_areTasksRight_210 (lv_at hl 6 rfl) ?_
  refine lv_if_lt (tgt := 257) S.1 S.2.1 dL_areTasksRight_212 (by decide) (fun c1 => ?_) (fun c1 => ?_)
  · have hf := it_t hf c1
    refine lv_iload S.1 S.2.1 dL_areTasksRight_257 (lv_at hl 5 rfl) ?_
    refine lv_if_lt (tgt := 273) S.1 S.2.1 dL_areTasksRight_259 (by decide) (fun c2 => ?_) (fun c2 => ?_)
    · have hf := it_t hf c2
      exact wbL_areTasksRight_273 E0 kk12 hkk12 h0 h1 x2 x3 x4 μ hf _ _ _ hR hS (lv_sub hl [0, 1, 2, 3, 4] rfl)
    · have hf := it_f hf c2
      refine mm_aload_n S dL_areTasksRight_262 rfl (lv_at hl 0 rfl) ?_
      refine lv_iload S.1 S.2.1 dL_areTasksRight_263 (lv_at hl 5 rfl) ?_
      refine lv_iconst (v := 1) S.1 S.2.1 dL_areTasksRight_265 (by decide) ?_
      obtain ⟨g5, hf⟩ := gd hf
      obtain ⟨y3, hy3, hf⟩ := bd hf
      obtain ⟨g4, hf⟩ := gd hf
      refine mm_callVi S hR hS hA (As := [.int x6, .int 1]) (rest := []) cvL_43 (hK.k g5) (kX6_of_c l G A (hK.k g5) hy3 g4) rfl rfl ⟨Nat.le_of_ble_eq_true rfl, Nat.le_of_ble_eq_true rfl⟩ rfl hl.1 rfl (lv_room (by simp [rf_cat, int_cat, long_cat])) dL_areTasksRight_266 ⟨Nat.le_of_ble_eq_true rfl, Nat.le_of_ble_eq_true rfl⟩ (fun H locs hR hS => ?_)
      have hK : mmKN μ y3.2.2 := hK.tr (kX6_of_kn hy3)
      refine lv_iconst (v := 2) S.1 S.2.1 dL_areTasksRight_269 (by decide) ?_
      refine lv_icmp_gt (tgt := 295) S.1 S.2.1 dL_areTasksRight_270 (by decide) (fun c6 => ?_) (fun c6 => ?_)
      · have hf := it_t hf c6
        refine lv_iconst (v := 0) S.1 S.2.1 dL_areTasksRight_295 (by decide) ?_
        obtain rfl := Option.some.inj hf
        refine W.widen (k := 1) (n := 24) (Nat.le_of_ble_eq_true rfl) (Nat.le_of_ble_eq_true rfl) ?_
        exact mm_zret S hR hS hr hlocks (Or.inl rfl) dL_areTasksRight_296
      · have hf := it_f hf c6
        exact wbL_areTasksRight_273 E0 kk12 hkk12 h0 h1 x2 x3 x4 y3.2.2 hf _ _ _ hR hS (lv_sub hl [0, 1, 2, 3, 4] rfl)
  · have hf := it_f hf c1
    refine lv_iload S.1 S.2.1 dL_areTasksRight_215 (lv_at hl 6 rfl) ?_
    refine lv_iload S.1 S.2.1 dL_areTasksRight_217 (lv_at hl 4 rfl) ?_
    refine lv_icmp_eq (tgt := 240) S.1 S.2.1 dL_areTasksRight_219 (by decide) (fun c7 => ?_) (fun c7 => ?_)
    · have hf := it_t hf c7
      refine lv_iconst (v := 0) S.1 S.2.1 dL_areTasksRight_240 (by decide) ?_
      obtain rfl := Option.some.inj hf
      refine W.widen (k := 1) (n := 24) (Nat.le_of_ble_eq_true rfl) (Nat.le_of_ble_eq_true rfl) ?_
      exact mm_zret S hR hS hr hlocks (Or.inl rfl) dL_areTasksRight_241
    · have hf := it_f hf c7
      refine lv_iload S.1 S.2.1 dL_areTasksRight_222 (lv_at hl 7 rfl) ?_
      refine lv_bipush (v := 24) S.1 S.2.1 dL_areTasksRight_224 (by decide) ?_
      refine lv_icmp_gt (tgt := 240) S.1 S.2.1 dL_areTasksRight_226 (by decide) (fun c8 => ?_) (fun c8 => ?_)
      · have hf := it_t hf c8
        refine lv_iconst (v := 0) S.1 S.2.1 dL_areTasksRight_240 (by decide) ?_
        obtain rfl := Option.some.inj hf
        refine W.widen (k := 1) (n := 24) (Nat.le_of_ble_eq_true rfl) (Nat.le_of_ble_eq_true rfl) ?_
        exact mm_zret S hR hS hr hlocks (Or.inl rfl) dL_areTasksRight_241
      · have hf := it_f hf c8
        refine mm_aload_n S dL_areTasksRight_229 rfl (lv_at hl 0 rfl) ?_
        refine lv_iload S.1 S.2.1 dL_areTasksRight_230 (lv_at hl 6 rfl) ?_
        refine lv_iconst (v := 2) S.1 S.2.1 dL_areTasksRight_232 (by decide) ?_
        obtain ⟨g11, hf⟩ := gd hf
        obtain ⟨y9, hy9, hf⟩ := bd hf
        obtain ⟨g10, hf⟩ := gd hf
        refine mm_callVi S hR hS hA (As := [.int x9, .int 2]) (rest := []) cvL_43 (hK.k g11) (kX6_of_c l G A (hK.k g11) hy9 g10) rfl rfl ⟨Nat.le_of_ble_eq_true rfl, Nat.le_of_ble_eq_true rfl⟩ rfl hl.1 rfl (lv_room (by simp [rf_cat, int_cat, long_cat])) dL_areTasksRight_233 ⟨Nat.le_of_ble_eq_true rfl, Nat.le_of_ble_eq_true rfl⟩ (fun H locs hR hS => ?_)
        have hK : mmKN μ y9.2.2 := hK.tr (kX6_of_kn hy9)
        refine lv_iconst (v := 1) S.1 S.2.1 dL_areTasksRight_236 (by decide) ?_
        refine lv_icmp_eq (tgt := 242) S.1 S.2.1 dL_areTasksRight_237 (by decide) (fun c12 => ?_) (fun c12 => ?_)
        · have hf := it_t hf c12
          refine mm_aload_n S dL_areTasksRight_242 rfl (lv_at hl 0 rfl) ?_
          refine lv_iload S.1 S.2.1 dL_areTasksRight_243 (lv_at hl 6 rfl) ?_
          refine lv_iconst (v := 2) S.1 S.2.1 dL_areTasksRight_245 (by decide) ?_
          obtain ⟨y13, hy13, hf⟩ := bd hf
          obtain ⟨g14, hf⟩ := gd hf
          refine mm_callVi S hR hS hA (As := [.int x9, .int 2]) (rest := []) cvL_68 (hK.k g11) (kX6_ofTask_c l G A (hK.k g11) hy13 g14) rfl rfl ⟨Nat.le_of_ble_eq_true rfl, Nat.le_of_ble_eq_true rfl⟩ rfl hl.1 rfl (lv_room (by simp [rf_cat, int_cat, long_cat])) dL_areTasksRight_246 ⟨Nat.le_of_ble_eq_true rfl, Nat.le_of_ble_eq_true rfl⟩ (fun H locs hR hS => ?_)
          have hK : mmKN μ y13.2.2 := hK.tr (kX6_ofTask_kn hy13)
          refine lv_istore (i := 9) (lv' := [(9, .int y13.2.1), (0, rf h0), (1, rf h1), (2, .int x2), (3, .int x3), (4, .int x4), (6, .int x6), (10, .int x10)]) S.1 S.2.1 dL_areTasksRight_249 hl (by decide) rfl (fun ls hl => ?_)
          refine lv_iinc (v := (x10 + 1)) (lv' := [(10, .int (x10 + 1)), (9, .int y13.2.1), (0, rf h0), (1, rf h1), (2, .int x2), (3, .int x3), (4, .int x4), (6, .int x6)]) S.1 S.2.1 dL_areTasksRight_251 hl (k := 7) rfl (by rfl) (by decide) rfl (fun ls hl => ?_)
          refine lv_goto (tgt := 210) S.1 S.2.1 dL_areTasksRight_254 (by decide) ?_
          exact hkk210 h0 h1 x2 x3 x4 x6 y13.2.1 (x10 + 1) y13.2.2 hf _ _ _ hR hS (lv_sub hl [2, 3, 4, 5, 6, 7, 1, 0] rfl)
        · have hf := it_f hf c12
          refine lv_iconst (v := 0) S.1 S.2.1 dL_areTasksRight_240 (by decide) ?_
          obtain rfl := Option.some.inj hf
          refine W.widen (k := 1) (n := 24) (Nat.le_of_ble_eq_true rfl) (Nat.le_of_ble_eq_true rfl) ?_
          exact mm_zret S hR hS hr hlocks (Or.inl rfl) dL_areTasksRight_241
theorem wlL_areTasksRight_210 {p : Program} {l : Launch} {e : Env} {s : State} {m : MethodId} {args : Array Value} {below : List Frame} {meth : Method} {c : Code} {G : mmG} {A : Nat → Prop} {res : Int32 × MM} (E0 : mmEnv p m c cL_areTasksRight 11 s args RL G A meth (some (.boolean))) (kk12 : Nat → Nat → Int32 → Int32 → Int32 → MM → Option (Int32 × MM)) (hkk12 : ∀ (h0 : Nat) (h1 : Nat) (x2 : Int32) (x3 : Int32) (x4 : Int32) (μ : MM), kk12 h0 h1 x2 x3 x4 μ = some res → mmGoalA p l e rmL_areTasksRight s m args below meth c G A 1 24 1 24 12 11 [(0, rf h0), (1, rf h1), (2, .int x2), (3, .int x3), (4, .int x4)] μ (mmQ G A res.2 (some (.int res.1)))) : ∀ (n : Nat) (h0 : Nat) (h1 : Nat) (x2 : Int32) (x3 : Int32) (x4 : Int32) (x6 : Int32) (x9 : Int32) (x10 : Int32) (μ : MM), lL_areTasksRight_210 kk12 n h0 h1 x2 x3 x4 x6 x9 x10 μ = some res → mmGoalA p l e rmL_areTasksRight s m args below meth c G A 1 24 1 24 210 11 [(0, rf h0), (1, rf h1), (2, .int x2), (3, .int x3), (4, .int x4), (6, .int x6), (9, .int x9), (10, .int x10)] μ (mmQ G A res.2 (some (.int res.1))) := by
  intro n
  induction n with
  | zero => intro h0 h1 x2 x3 x4 x6 x9 x10 μ hf; cases hf
  | succ n ih => intro h0 h1 x2 x3 x4 x6 x9 x10 μ hf; exact wbL_areTasksRight_210 E0 kk12 hkk12 _ ih h0 h1 x2 x3 x4 x6 x9 x10 μ hf
set_option maxRecDepth 100000 in
set_option maxHeartbeats 4000000 in
theorem wbL_areTasksRight_165 {p : Program} {l : Launch} {e : Env} {s : State} {m : MethodId} {args : Array Value} {below : List Frame} {meth : Method} {c : Code} {G : mmG} {A : Nat → Prop} {res : Int32 × MM} (E0 : mmEnv p m c cL_areTasksRight 11 s args RL G A meth (some (.boolean))) (kk12 : Nat → Nat → Int32 → Int32 → Int32 → MM → Option (Int32 × MM)) (hkk12 : ∀ (h0 : Nat) (h1 : Nat) (x2 : Int32) (x3 : Int32) (x4 : Int32) (μ : MM), kk12 h0 h1 x2 x3 x4 μ = some res → mmGoalA p l e rmL_areTasksRight s m args below meth c G A 1 24 1 24 12 11 [(0, rf h0), (1, rf h1), (2, .int x2), (3, .int x3), (4, .int x4)] μ (mmQ G A res.2 (some (.int res.1)))) : ∀ (h0 : Nat) (h1 : Nat) (x2 : Int32) (x3 : Int32) (x4 : Int32) (x5 : Int32) (x6 : Int32) (μ : MM), bL_areTasksRight_165 kk12 h0 h1 x2 x3 x4 x5 x6 μ = some res → mmGoalA p l e rmL_areTasksRight s m args below meth c G A 1 24 1 24 165 11 [(0, rf h0), (1, rf h1), (2, .int x2), (3, .int x3), (4, .int x4), (5, .int x5), (6, .int x6)] μ (mmQ G A res.2 (some (.int res.1))) := by
  obtain ⟨S, hA, hr, hlocks⟩ := id E0
  intro h0 h1 x2 x3 x4 x5 x6 μ hf H locs ls hR hS hl
  have hK : mmKN μ μ := mmKN.rf
  unfold bL_areTasksRight_165 at hf
  refine lv_iload S.1 S.2.1 dL_areTasksRight_165 (lv_at hl 5 rfl) ?_
  refine mm_aload_n S dL_areTasksRight_167 rfl (lv_at hl 0 rfl) ?_
  refine lv_bipush (v := 8) S.1 S.2.1 dL_areTasksRight_168 (by decide) ?_
  obtain ⟨g3, hf⟩ := gd hf
  obtain ⟨y1, hy1, hf⟩ := bd hf
  obtain ⟨g2, hf⟩ := gd hf
  refine mm_callVi S hR hS hA (As := [.int 8]) (rest := [.int x5]) cvL_39 (hK.k g3) (kX6_many_c l G A (hK.k g3) hy1 g2) rfl rfl ⟨Nat.le_of_ble_eq_true rfl, Nat.le_of_ble_eq_true rfl⟩ rfl hl.1 rfl (lv_room (by simp [rf_cat, int_cat, long_cat])) dL_areTasksRight_170 ⟨Nat.le_of_ble_eq_true rfl, Nat.le_of_ble_eq_true rfl⟩ (fun H locs hR hS => ?_)
  have hK : mmKN μ y1.2.2 := hK.tr (kX6_many_kn hy1)
  refine lv_icmp_ge (tgt := 188) S.1 S.2.1 dL_areTasksRight_173 (by decide) (fun c4 => ?_) (fun c4 => ?_)
  · have hf := it_t hf c4
    refine lv_iconst (v := 0) S.1 S.2.1 dL_areTasksRight_188 (by decide) ?_
    obtain rfl := Option.some.inj hf
    refine W.widen (k := 1) (n := 24) (Nat.le_of_ble_eq_true rfl) (Nat.le_of_ble_eq_true rfl) ?_
    exact mm_zret S hR hS hr hlocks (Or.inl rfl) dL_areTasksRight_189
  · have hf := it_f hf c4
    refine lv_iload S.1 S.2.1 dL_areTasksRight_176 (lv_at hl 5 rfl) ?_
    refine lv_if_lt (tgt := 190) S.1 S.2.1 dL_areTasksRight_178 (by decide) (fun c5 => ?_) (fun c5 => ?_)
    · have hf := it_t hf c5
      refine lv_iload S.1 S.2.1 dL_areTasksRight_190 (lv_at hl 5 rfl) ?_
      refine lv_if_lt (tgt := 203) S.1 S.2.1 dL_areTasksRight_192 (by decide) (fun c6 => ?_) (fun c6 => ?_)
      · have hf := it_t hf c6
        refine lv_iload S.1 S.2.1 dL_areTasksRight_203 (lv_at hl 6 rfl) ?_
        refine lv_istore (i := 9) (lv' := [(9, .int x6), (0, rf h0), (1, rf h1), (2, .int x2), (3, .int x3), (4, .int x4), (5, .int x5), (6, .int x6)]) S.1 S.2.1 dL_areTasksRight_205 hl (by decide) rfl (fun ls hl => ?_)
        refine lv_iconst (v := 0) S.1 S.2.1 dL_areTasksRight_207 (by decide) ?_
        refine lv_istore (i := 10) (lv' := [(10, .int 0), (9, .int x6), (0, rf h0), (1, rf h1), (2, .int x2), (3, .int x3), (4, .int x4), (5, .int x5), (6, .int x6)]) S.1 S.2.1 dL_areTasksRight_208 hl (by decide) rfl (fun ls hl => ?_)
        exact wlL_areTasksRight_210 E0 kk12 hkk12 FU h0 h1 x2 x3 x4 x6 x6 0 y1.2.2 hf _ _ _ hR hS (lv_sub hl [2, 3, 4, 5, 6, 8, 1, 0] rfl)
      · have hf := it_f hf c6
        refine mm_aload_n S dL_areTasksRight_195 rfl (lv_at hl 1 rfl) ?_
        refine lv_iload S.1 S.2.1 dL_areTasksRight_196 (lv_at hl 5 rfl) ?_
        refine lv_iconst (v := 1) S.1 S.2.1 dL_areTasksRight_198 (by decide) ?_
        obtain ⟨g7, hf⟩ := gd hf
        obtain ⟨g8, hf⟩ := gd hf
        refine mm_zast S hR hS (hK.k g7) g8 (Or.inr rfl) dL_areTasksRight_199 (fun H locs hR hS => ?_)
        obtain ⟨μ9, e9, hf⟩ := stx hf
        rw [← e9] at hR
        have hK : mmKN μ μ9 := by rw [e9]; exact hK.sI
        refine lv_iinc (v := (x2 + 1)) (lv' := [(2, .int (x2 + 1)), (0, rf h0), (1, rf h1), (3, .int x3), (4, .int x4), (5, .int x5), (6, .int x6)]) S.1 S.2.1 dL_areTasksRight_200 hl (k := 2) rfl (by rfl) (by decide) (by simp [rf_cat]) (fun ls hl => ?_)
        refine lv_iload S.1 S.2.1 dL_areTasksRight_203 (lv_at hl 6 rfl) ?_
        refine lv_istore (i := 9) (lv' := [(9, .int x6), (2, .int (x2 + 1)), (0, rf h0), (1, rf h1), (3, .int x3), (4, .int x4), (5, .int x5), (6, .int x6)]) S.1 S.2.1 dL_areTasksRight_205 hl (by decide) rfl (fun ls hl => ?_)
        refine lv_iconst (v := 0) S.1 S.2.1 dL_areTasksRight_207 (by decide) ?_
        refine lv_istore (i := 10) (lv' := [(10, .int 0), (9, .int x6), (2, .int (x2 + 1)), (0, rf h0), (1, rf h1), (3, .int x3), (4, .int x4), (5, .int x5), (6, .int x6)]) S.1 S.2.1 dL_areTasksRight_208 hl (by decide) rfl (fun ls hl => ?_)
        exact wlL_areTasksRight_210 E0 kk12 hkk12 FU h0 h1 (x2 + 1) x3 x4 x6 x6 0 μ9 hf _ _ _ hR hS (lv_sub hl [3, 4, 2, 5, 6, 8, 1, 0] rfl)
    · have hf := it_f hf c5
      refine mm_aload_n S dL_areTasksRight_181 rfl (lv_at hl 1 rfl) ?_
      refine lv_iload S.1 S.2.1 dL_areTasksRight_182 (lv_at hl 5 rfl) ?_
      obtain ⟨g10, hf⟩ := gd hf
      obtain ⟨g11, hf⟩ := gd hf
      refine mm_zald S hR (hK.k g10) g11 dL_areTasksRight_184 ?_
      refine lv_if_eq (tgt := 190) S.1 S.2.1 dL_areTasksRight_185 (by decide) (fun c12 => ?_) (fun c12 => ?_)
      · have hf := it_t hf c12
        refine lv_iload S.1 S.2.1 dL_areTasksRight_190 (lv_at hl 5 rfl) ?_
        refine lv_if_lt (tgt := 203) S.1 S.2.1 dL_areTasksRight_192 (by decide) (fun c13 => ?_) (fun c13 => ?_)
        · have hf := it_t hf c13
          refine lv_iload S.1 S.2.1 dL_areTasksRight_203 (lv_at hl 6 rfl) ?_
          refine lv_istore (i := 9) (lv' := [(9, .int x6), (0, rf h0), (1, rf h1), (2, .int x2), (3, .int x3), (4, .int x4), (5, .int x5), (6, .int x6)]) S.1 S.2.1 dL_areTasksRight_205 hl (by decide) rfl (fun ls hl => ?_)
          refine lv_iconst (v := 0) S.1 S.2.1 dL_areTasksRight_207 (by decide) ?_
          refine lv_istore (i := 10) (lv' := [(10, .int 0), (9, .int x6), (0, rf h0), (1, rf h1), (2, .int x2), (3, .int x3), (4, .int x4), (5, .int x5), (6, .int x6)]) S.1 S.2.1 dL_areTasksRight_208 hl (by decide) rfl (fun ls hl => ?_)
          exact wlL_areTasksRight_210 E0 kk12 hkk12 FU h0 h1 x2 x3 x4 x6 x6 0 y1.2.2 hf _ _ _ hR hS (lv_sub hl [2, 3, 4, 5, 6, 8, 1, 0] rfl)
        · have hf := it_f hf c13
          refine mm_aload_n S dL_areTasksRight_195 rfl (lv_at hl 1 rfl) ?_
          refine lv_iload S.1 S.2.1 dL_areTasksRight_196 (lv_at hl 5 rfl) ?_
          refine lv_iconst (v := 1) S.1 S.2.1 dL_areTasksRight_198 (by decide) ?_
          obtain ⟨g14, hf⟩ := gd hf
          refine mm_zast S hR hS (hK.k g10) g14 (Or.inr rfl) dL_areTasksRight_199 (fun H locs hR hS => ?_)
          obtain ⟨μ15, e15, hf⟩ := stx hf
          rw [← e15] at hR
          have hK : mmKN μ μ15 := by rw [e15]; exact hK.sI
          refine lv_iinc (v := (x2 + 1)) (lv' := [(2, .int (x2 + 1)), (0, rf h0), (1, rf h1), (3, .int x3), (4, .int x4), (5, .int x5), (6, .int x6)]) S.1 S.2.1 dL_areTasksRight_200 hl (k := 2) rfl (by rfl) (by decide) (by simp [rf_cat]) (fun ls hl => ?_)
          refine lv_iload S.1 S.2.1 dL_areTasksRight_203 (lv_at hl 6 rfl) ?_
          refine lv_istore (i := 9) (lv' := [(9, .int x6), (2, .int (x2 + 1)), (0, rf h0), (1, rf h1), (3, .int x3), (4, .int x4), (5, .int x5), (6, .int x6)]) S.1 S.2.1 dL_areTasksRight_205 hl (by decide) rfl (fun ls hl => ?_)
          refine lv_iconst (v := 0) S.1 S.2.1 dL_areTasksRight_207 (by decide) ?_
          refine lv_istore (i := 10) (lv' := [(10, .int 0), (9, .int x6), (2, .int (x2 + 1)), (0, rf h0), (1, rf h1), (3, .int x3), (4, .int x4), (5, .int x5), (6, .int x6)]) S.1 S.2.1 dL_areTasksRight_208 hl (by decide) rfl (fun ls hl => ?_)
          exact wlL_areTasksRight_210 E0 kk12 hkk12 FU h0 h1 (x2 + 1) x3 x4 x6 x6 0 μ15 hf _ _ _ hR hS (lv_sub hl [3, 4, 2, 5, 6, 8, 1, 0] rfl)
      · have hf := it_f hf c12
        refine lv_iconst (v := 0) S.1 S.2.1 dL_areTasksRight_188 (by decide) ?_
        obtain rfl := Option.some.inj hf
        refine W.widen (k := 1) (n := 24) (Nat.le_of_ble_eq_true rfl) (Nat.le_of_ble_eq_true rfl) ?_
        exact mm_zret S hR hS hr hlocks (Or.inl rfl) dL_areTasksRight_189
set_option maxRecDepth 100000 in
set_option maxHeartbeats 4000000 in
theorem wbL_areTasksRight_12 {p : Program} {l : Launch} {e : Env} {s : State} {m : MethodId} {args : Array Value} {below : List Frame} {meth : Method} {c : Code} {G : mmG} {A : Nat → Prop} {res : Int32 × MM} (E0 : mmEnv p m c cL_areTasksRight 11 s args RL G A meth (some (.boolean))) (kk12 : Nat → Nat → Int32 → Int32 → Int32 → MM → Option (Int32 × MM)) (hkk12 : ∀ (h0 : Nat) (h1 : Nat) (x2 : Int32) (x3 : Int32) (x4 : Int32) (μ : MM), kk12 h0 h1 x2 x3 x4 μ = some res → mmGoalA p l e rmL_areTasksRight s m args below meth c G A 1 24 1 24 12 11 [(0, rf h0), (1, rf h1), (2, .int x2), (3, .int x3), (4, .int x4)] μ (mmQ G A res.2 (some (.int res.1)))) : ∀ (h0 : Nat) (h1 : Nat) (x2 : Int32) (x3 : Int32) (x4 : Int32) (μ : MM), bL_areTasksRight_12 kk12 h0 h1 x2 x3 x4 μ = some res → mmGoalA p l e rmL_areTasksRight s m args below meth c G A 1 24 1 24 12 11 [(0, rf h0), (1, rf h1), (2, .int x2), (3, .int x3), (4, .int x4)] μ (mmQ G A res.2 (some (.int res.1))) := by
  obtain ⟨S, hA, hr, hlocks⟩ := id E0
  intro h0 h1 x2 x3 x4 μ hf H locs ls hR hS hl
  have hK : mmKN μ μ := mmKN.rf
  unfold bL_areTasksRight_12 at hf
  refine lv_iload S.1 S.2.1 dL_areTasksRight_12 (lv_at hl 4 rfl) ?_
  refine mm_aload_n S dL_areTasksRight_14 rfl (lv_at hl 0 rfl) ?_
  refine lv_iconst (v := 1) S.1 S.2.1 dL_areTasksRight_15 (by decide) ?_
  obtain ⟨g3, hf⟩ := gd hf
  obtain ⟨y1, hy1, hf⟩ := bd hf
  obtain ⟨g2, hf⟩ := gd hf
  refine mm_callVi S hR hS hA (As := [.int 1]) (rest := [.int x4]) cvL_39 (hK.k g3) (kX6_many_c l G A (hK.k g3) hy1 g2) rfl rfl ⟨Nat.le_of_ble_eq_true rfl, Nat.le_of_ble_eq_true rfl⟩ rfl hl.1 rfl (lv_room (by simp [rf_cat, int_cat, long_cat])) dL_areTasksRight_16 ⟨Nat.le_of_ble_eq_true rfl, Nat.le_of_ble_eq_true rfl⟩ (fun H locs hR hS => ?_)
  have hK : mmKN μ y1.2.2 := hK.tr (kX6_many_kn hy1)
  refine lv_icmp_ge (tgt := 303) S.1 S.2.1 dL_areTasksRight_19 (by decide) (fun c4 => ?_) (fun c4 => ?_)
  · have hf := it_t hf c4
    refine mm_aload_n S dL_areTasksRight_303 rfl (lv_at hl 0 rfl) ?_
    refine lv_bipush (v := 8) S.1 S.2.1 dL_areTasksRight_304 (by decide) ?_
    obtain ⟨y5, hy5, hf⟩ := bd hf
    obtain ⟨g6, hf⟩ := gd hf
    refine mm_callVi S hR hS hA (As := [.int 8]) (rest := []) cvL_39 (hK.k g3) (kX6_many_c l G A (hK.k g3) hy5 g6) rfl rfl ⟨Nat.le_of_ble_eq_true rfl, Nat.le_of_ble_eq_true rfl⟩ rfl hl.1 rfl (lv_room (by simp [rf_cat, int_cat, long_cat])) dL_areTasksRight_306 ⟨Nat.le_of_ble_eq_true rfl, Nat.le_of_ble_eq_true rfl⟩ (fun H locs hR hS => ?_)
    have hK : mmKN μ y5.2.2 := hK.tr (kX6_many_kn hy5)
    refine lv_iload_n S.1 S.2.1 dL_areTasksRight_309 rfl (lv_at hl 2 rfl) ?_
    refine lv_icmp_ne (tgt := 340) S.1 S.2.1 dL_areTasksRight_310 (by decide) (fun c7 => ?_) (fun c7 => ?_)
    · have hf := it_f hf c7
      refine lv_iconst (v := 0) S.1 S.2.1 dL_areTasksRight_340 (by decide) ?_
      obtain rfl := Option.some.inj hf
      refine W.widen (k := 1) (n := 24) (Nat.le_of_ble_eq_true rfl) (Nat.le_of_ble_eq_true rfl) ?_
      exact mm_zret S hR hS hr hlocks (Or.inl rfl) dL_areTasksRight_341
    · have hf := it_t hf c7
      refine mm_aload_n S dL_areTasksRight_313 rfl (lv_at hl 0 rfl) ?_
      refine lv_iconst (v := 1) S.1 S.2.1 dL_areTasksRight_314 (by decide) ?_
      obtain ⟨y8, hy8, hf⟩ := bd hf
      obtain ⟨g9, hf⟩ := gd hf
      refine mm_callVi S hR hS hA (As := [.int 1]) (rest := []) cvL_132 (hK.k g3) (kX6_overIn_c l G A (hK.k g3) hy8 g9) rfl rfl ⟨Nat.le_of_ble_eq_true rfl, Nat.le_of_ble_eq_true rfl⟩ rfl hl.1 rfl (lv_room (by simp [rf_cat, int_cat, long_cat])) dL_areTasksRight_315 ⟨Nat.le_of_ble_eq_true rfl, Nat.le_of_ble_eq_true rfl⟩ (fun H locs hR hS => ?_)
      have hK : mmKN μ y8.2.2 := hK.tr (kX6_overIn_kn hy8)
      refine lv_iload_n S.1 S.2.1 dL_areTasksRight_318 rfl (lv_at hl 3 rfl) ?_
      refine lv_icmp_lt (tgt := 340) S.1 S.2.1 dL_areTasksRight_319 (by decide) (fun c10 => ?_) (fun c10 => ?_)
      · have hf := it_t hf c10
        refine lv_iconst (v := 0) S.1 S.2.1 dL_areTasksRight_340 (by decide) ?_
        obtain rfl := Option.some.inj hf
        refine W.widen (k := 1) (n := 24) (Nat.le_of_ble_eq_true rfl) (Nat.le_of_ble_eq_true rfl) ?_
        exact mm_zret S hR hS hr hlocks (Or.inl rfl) dL_areTasksRight_341
      · have hf := it_f hf c10
        refine mm_aload_n S dL_areTasksRight_322 rfl (lv_at hl 0 rfl) ?_
        refine lv_bipush (v := 50) S.1 S.2.1 dL_areTasksRight_323 (by decide) ?_
        obtain ⟨y11, hy11, hf⟩ := bd hf
        obtain ⟨g12, hf⟩ := gd hf
        refine mm_callVi S hR hS hA (As := [.int 50]) (rest := []) cvL_132 (hK.k g3) (kX6_overIn_c l G A (hK.k g3) hy11 g12) rfl rfl ⟨Nat.le_of_ble_eq_true rfl, Nat.le_of_ble_eq_true rfl⟩ rfl hl.1 rfl (lv_room (by simp [rf_cat, int_cat, long_cat])) dL_areTasksRight_325 ⟨Nat.le_of_ble_eq_true rfl, Nat.le_of_ble_eq_true rfl⟩ (fun H locs hR hS => ?_)
        have hK : mmKN μ y11.2.2 := hK.tr (kX6_overIn_kn hy11)
        refine mm_aload_n S dL_areTasksRight_328 rfl (lv_at hl 0 rfl) ?_
        refine lv_iconst (v := 1) S.1 S.2.1 dL_areTasksRight_329 (by decide) ?_
        obtain ⟨y13, hy13, hf⟩ := bd hf
        obtain ⟨g14, hf⟩ := gd hf
        refine mm_callVi S hR hS hA (As := [.int 1]) (rest := [.int y11.2.1]) cvL_132 (hK.k g3) (kX6_overIn_c l G A (hK.k g3) hy13 g14) rfl rfl ⟨Nat.le_of_ble_eq_true rfl, Nat.le_of_ble_eq_true rfl⟩ rfl hl.1 rfl (lv_room (by simp [rf_cat, int_cat, long_cat])) dL_areTasksRight_330 ⟨Nat.le_of_ble_eq_true rfl, Nat.le_of_ble_eq_true rfl⟩ (fun H locs hR hS => ?_)
        have hK : mmKN μ y13.2.2 := hK.tr (kX6_overIn_kn hy13)
        refine lv_icmp_lt (tgt := 340) S.1 S.2.1 dL_areTasksRight_333 (by decide) (fun c15 => ?_) (fun c15 => ?_)
        · have hf := it_t hf c15
          refine lv_iconst (v := 0) S.1 S.2.1 dL_areTasksRight_340 (by decide) ?_
          obtain rfl := Option.some.inj hf
          refine W.widen (k := 1) (n := 24) (Nat.le_of_ble_eq_true rfl) (Nat.le_of_ble_eq_true rfl) ?_
          exact mm_zret S hR hS hr hlocks (Or.inl rfl) dL_areTasksRight_341
        · have hf := it_f hf c15
          refine lv_iconst (v := 1) S.1 S.2.1 dL_areTasksRight_336 (by decide) ?_
          refine lv_goto (tgt := 341) S.1 S.2.1 dL_areTasksRight_337 (by decide) ?_
          obtain rfl := Option.some.inj hf
          refine W.widen (k := 1) (n := 24) (Nat.le_of_ble_eq_true rfl) (Nat.le_of_ble_eq_true rfl) ?_
          exact mm_zret S hR hS hr hlocks (Or.inr rfl) dL_areTasksRight_341
  · have hf := it_f hf c4
    refine mm_aload_n S dL_areTasksRight_22 rfl (lv_at hl 0 rfl) ?_
    refine lv_iload S.1 S.2.1 dL_areTasksRight_23 (lv_at hl 4 rfl) ?_
    refine lv_iconst (v := 2) S.1 S.2.1 dL_areTasksRight_25 (by decide) ?_
    obtain ⟨y16, hy16, hf⟩ := bd hf
    obtain ⟨g17, hf⟩ := gd hf
    refine mm_callVi S hR hS hA (As := [.int x4, .int 2]) (rest := []) cvL_43 (hK.k g3) (kX6_of_c l G A (hK.k g3) hy16 g17) rfl rfl ⟨Nat.le_of_ble_eq_true rfl, Nat.le_of_ble_eq_true rfl⟩ rfl hl.1 rfl (lv_room (by simp [rf_cat, int_cat, long_cat])) dL_areTasksRight_26 ⟨Nat.le_of_ble_eq_true rfl, Nat.le_of_ble_eq_true rfl⟩ (fun H locs hR hS => ?_)
    have hK : mmKN μ y16.2.2 := hK.tr (kX6_of_kn hy16)
    refine lv_iconst (v := 1) S.1 S.2.1 dL_areTasksRight_29 (by decide) ?_
    refine lv_icmp_eq (tgt := 36) S.1 S.2.1 dL_areTasksRight_30 (by decide) (fun c18 => ?_) (fun c18 => ?_)
    · have hf := it_t hf c18
      refine mm_aload_n S dL_areTasksRight_36 rfl (lv_at hl 0 rfl) ?_
      refine lv_iload S.1 S.2.1 dL_areTasksRight_37 (lv_at hl 4 rfl) ?_
      refine lv_iconst (v := 0) S.1 S.2.1 dL_areTasksRight_39 (by decide) ?_
      obtain ⟨y19, hy19, hf⟩ := bd hf
      obtain ⟨g20, hf⟩ := gd hf
      refine mm_callVi S hR hS hA (As := [.int x4, .int 0]) (rest := []) cvL_68 (hK.k g3) (kX6_ofTask_c l G A (hK.k g3) hy19 g20) rfl rfl ⟨Nat.le_of_ble_eq_true rfl, Nat.le_of_ble_eq_true rfl⟩ rfl hl.1 rfl (lv_room (by simp [rf_cat, int_cat, long_cat])) dL_areTasksRight_40 ⟨Nat.le_of_ble_eq_true rfl, Nat.le_of_ble_eq_true rfl⟩ (fun H locs hR hS => ?_)
      have hK : mmKN μ y19.2.2 := hK.tr (kX6_ofTask_kn hy19)
      refine lv_istore (i := 5) (lv' := [(5, .int y19.2.1), (0, rf h0), (1, rf h1), (2, .int x2), (3, .int x3), (4, .int x4)]) S.1 S.2.1 dL_areTasksRight_43 hl (by decide) rfl (fun ls hl => ?_)
      refine mm_aload_n S dL_areTasksRight_45 rfl (lv_at hl 1 rfl) ?_
      refine lv_iload S.1 S.2.1 dL_areTasksRight_46 (lv_at hl 5 rfl) ?_
      refine lv_iconst (v := 2) S.1 S.2.1 dL_areTasksRight_48 (by decide) ?_
      obtain ⟨y21, hy21, hf⟩ := bd hf
      obtain ⟨g22, hf⟩ := gd hf
      refine mm_callVi S hR hS hA (As := [.int x4, .int 2]) (rest := []) cvL_68 (hK.k g3) (kX6_ofTask_c l G A (hK.k g3) hy21 g22) rfl rfl ⟨Nat.le_of_ble_eq_true rfl, Nat.le_of_ble_eq_true rfl⟩ rfl hl.1 rfl (lv_room (by simp [rf_cat, int_cat, long_cat])) dL_areTasksRight_49 ⟨Nat.le_of_ble_eq_true rfl, Nat.le_of_ble_eq_true rfl⟩ (fun H locs hR hS => ?_)
      have hK : mmKN μ y21.2.2 := hK.tr (kX6_ofTask_kn hy21)
      refine lv_istore (i := 6) (lv' := [(6, .int y21.2.1), (5, .int y19.2.1), (0, rf h0), (1, rf h1), (2, .int x2), (3, .int x3), (4, .int x4)]) S.1 S.2.1 dL_areTasksRight_52 hl (by decide) rfl (fun ls hl => ?_)
      refine mm_aload_n S dL_areTasksRight_54 rfl (lv_at hl 2 rfl) ?_
      refine lv_iload S.1 S.2.1 dL_areTasksRight_55 (lv_at hl 6 rfl) ?_
      refine lv_iconst (v := 1) S.1 S.2.1 dL_areTasksRight_57 (by decide) ?_
      obtain ⟨y23, hy23, hf⟩ := bd hf
      obtain ⟨g24, hf⟩ := gd hf
      refine mm_callVi S hR hS hA (As := [.int x4, .int 1]) (rest := []) cvL_43 (hK.k g3) (kX6_of_c l G A (hK.k g3) hy23 g24) rfl rfl ⟨Nat.le_of_ble_eq_true rfl, Nat.le_of_ble_eq_true rfl⟩ rfl hl.1 rfl (lv_room (by simp [rf_cat, int_cat, long_cat])) dL_areTasksRight_58 ⟨Nat.le_of_ble_eq_true rfl, Nat.le_of_ble_eq_true rfl⟩ (fun H locs hR hS => ?_)
      have hK : mmKN μ y23.2.2 := hK.tr (kX6_of_kn hy23)
      refine lv_iconst (v := 2) S.1 S.2.1 dL_areTasksRight_61 (by decide) ?_
      refine lv_icmp_le (tgt := 69) S.1 S.2.1 dL_areTasksRight_62 (by decide) (fun c25 => ?_) (fun c25 => ?_)
      · have hf := it_t hf c25
        refine lv_iconst (v := 0) S.1 S.2.1 dL_areTasksRight_69 (by decide) ?_
        refine lv_istore (i := 7) (lv' := [(7, .int 0), (6, .int y21.2.1), (5, .int y19.2.1), (0, rf h0), (1, rf h1), (2, .int x2), (3, .int x3), (4, .int x4)]) S.1 S.2.1 dL_areTasksRight_70 hl (by decide) rfl (fun ls hl => ?_)
        refine lv_iload_n S.1 S.2.1 dL_areTasksRight_72 rfl (lv_at hl 6 rfl) ?_
        refine lv_iload S.1 S.2.1 dL_areTasksRight_73 (lv_at hl 0 rfl) ?_
        refine lv_if_eq (tgt := 82) S.1 S.2.1 dL_areTasksRight_75 (by decide) (fun c26 => ?_) (fun c26 => ?_)
        · have hf := it_t hf c26
          refine lv_iconst (v := 0) S.1 S.2.1 dL_areTasksRight_82 (by decide) ?_
          refine lv_iadd S.1 S.2.1 dL_areTasksRight_83 ?_
          refine lv_istore_n (i := 3) (lv' := [(3, .int (x3 + 0)), (7, .int 0), (6, .int y21.2.1), (5, .int y19.2.1), (0, rf h0), (1, rf h1), (2, .int x2), (4, .int x4)]) S.1 S.2.1 dL_areTasksRight_84 rfl hl (by decide) rfl (fun ls hl => ?_)
          refine lv_iload S.1 S.2.1 dL_areTasksRight_85 (lv_at hl 3 rfl) ?_
          refine lv_if_lt (tgt := 94) S.1 S.2.1 dL_areTasksRight_87 (by decide) (fun c27 => ?_) (fun c27 => ?_)
          · have hf := it_t hf c27
            refine lv_iconst (v := 0) S.1 S.2.1 dL_areTasksRight_94 (by decide) ?_
            refine mm_aload_n S dL_areTasksRight_95 rfl (lv_at hl 4 rfl) ?_
            refine lv_iload S.1 S.2.1 dL_areTasksRight_96 (lv_at hl 7 rfl) ?_
            refine lv_iconst (v := 1) S.1 S.2.1 dL_areTasksRight_98 (by decide) ?_
            obtain ⟨y28, hy28, hf⟩ := bd hf
            obtain ⟨g29, hf⟩ := gd hf
            refine mm_callVi S hR hS hA (As := [.int x4, .int 1]) (rest := [.int 0]) cvL_68 (hK.k g3) (kX6_ofTask_c l G A (hK.k g3) hy28 g29) rfl rfl ⟨Nat.le_of_ble_eq_true rfl, Nat.le_of_ble_eq_true rfl⟩ rfl hl.1 rfl (lv_room (by simp [rf_cat, int_cat, long_cat])) dL_areTasksRight_99 ⟨Nat.le_of_ble_eq_true rfl, Nat.le_of_ble_eq_true rfl⟩ (fun H locs hR hS => ?_)
            have hK : mmKN μ y28.2.2 := hK.tr (kX6_ofTask_kn hy28)
            refine lv_if_lt (tgt := 109) S.1 S.2.1 dL_areTasksRight_102 (by decide) (fun c30 => ?_) (fun c30 => ?_)
            · have hf := it_t hf c30
              refine lv_iconst (v := 0) S.1 S.2.1 dL_areTasksRight_109 (by decide) ?_
              refine lv_iadd S.1 S.2.1 dL_areTasksRight_110 ?_
              refine lv_iload S.1 S.2.1 dL_areTasksRight_111 (lv_at hl 2 rfl) ?_
              refine lv_if_lt (tgt := 120) S.1 S.2.1 dL_areTasksRight_113 (by decide) (fun c31 => ?_) (fun c31 => ?_)
              · have hf := it_t hf c31
                refine lv_iconst (v := 0) S.1 S.2.1 dL_areTasksRight_120 (by decide) ?_
                refine lv_iadd S.1 S.2.1 dL_areTasksRight_121 ?_
                refine lv_istore (i := 8) (lv' := [(8, .int ((0 + 0) + 0)), (3, .int (x3 + 0)), (7, .int 0), (6, .int y21.2.1), (5, .int y19.2.1), (0, rf h0), (1, rf h1), (2, .int x2), (4, .int x4)]) S.1 S.2.1 dL_areTasksRight_122 hl (by decide) rfl (fun ls hl => ?_)
                refine lv_iload S.1 S.2.1 dL_areTasksRight_124 (lv_at hl 0 rfl) ?_
                refine lv_iload S.1 S.2.1 dL_areTasksRight_126 (lv_at hl 2 rfl) ?_
                refine lv_if_eq (tgt := 135) S.1 S.2.1 dL_areTasksRight_128 (by decide) (fun c32 => ?_) (fun c32 => ?_)
                · have hf := it_t hf c32
                  refine lv_iconst (v := 1) S.1 S.2.1 dL_areTasksRight_135 (by decide) ?_
                  refine lv_icmp_ne (tgt := 188) S.1 S.2.1 dL_areTasksRight_136 (by decide) (fun c33 => ?_) (fun c33 => ?_)
                  · have hf := it_f hf c33
                    refine lv_iconst (v := 0) S.1 S.2.1 dL_areTasksRight_188 (by decide) ?_
                    obtain rfl := Option.some.inj hf
                    refine W.widen (k := 1) (n := 24) (Nat.le_of_ble_eq_true rfl) (Nat.le_of_ble_eq_true rfl) ?_
                    exact mm_zret S hR hS hr hlocks (Or.inl rfl) dL_areTasksRight_189
                  · have hf := it_t hf c33
                    refine mm_aload_n S dL_areTasksRight_139 rfl (lv_at hl 5 rfl) ?_
                    refine lv_iload S.1 S.2.1 dL_areTasksRight_140 (lv_at hl 8 rfl) ?_
                    refine lv_iconst (v := 1) S.1 S.2.1 dL_areTasksRight_142 (by decide) ?_
                    obtain ⟨y34, hy34, hf⟩ := bd hf
                    obtain ⟨g35, hf⟩ := gd hf
                    refine mm_callVi S hR hS hA (As := [.int x4, .int 1]) (rest := []) cvL_68 (hK.k g3) (kX6_ofTask_c l G A (hK.k g3) hy34 g35) rfl rfl ⟨Nat.le_of_ble_eq_true rfl, Nat.le_of_ble_eq_true rfl⟩ rfl hl.1 rfl (lv_room (by simp [rf_cat, int_cat, long_cat])) dL_areTasksRight_143 ⟨Nat.le_of_ble_eq_true rfl, Nat.le_of_ble_eq_true rfl⟩ (fun H locs hR hS => ?_)
                    have hK : mmKN μ y34.2.2 := hK.tr (kX6_ofTask_kn hy34)
                    refine lv_if_lt (tgt := 165) S.1 S.2.1 dL_areTasksRight_146 (by decide) (fun c36 => ?_) (fun c36 => ?_)
                    · have hf := it_t hf c36
                      exact wbL_areTasksRight_165 E0 kk12 hkk12 h0 h1 x2 (x3 + 0) x4 y19.2.1 y21.2.1 y34.2.2 hf _ _ _ hR hS (lv_sub hl [5, 6, 7, 1, 8, 4, 3] rfl)
                    · have hf := it_f hf c36
                      refine mm_aload_n S dL_areTasksRight_149 rfl (lv_at hl 5 rfl) ?_
                      refine lv_iload S.1 S.2.1 dL_areTasksRight_150 (lv_at hl 8 rfl) ?_
                      refine lv_iconst (v := 1) S.1 S.2.1 dL_areTasksRight_152 (by decide) ?_
                      obtain ⟨y37, hy37, hf⟩ := bd hf
                      obtain ⟨g38, hf⟩ := gd hf
                      refine mm_callVi S hR hS hA (As := [.int x4, .int 1]) (rest := []) cvL_68 (hK.k g3) (kX6_ofTask_c l G A (hK.k g3) hy37 g38) rfl rfl ⟨Nat.le_of_ble_eq_true rfl, Nat.le_of_ble_eq_true rfl⟩ rfl hl.1 rfl (lv_room (by simp [rf_cat, int_cat, long_cat])) dL_areTasksRight_153 ⟨Nat.le_of_ble_eq_true rfl, Nat.le_of_ble_eq_true rfl⟩ (fun H locs hR hS => ?_)
                      have hK : mmKN μ y37.2.2 := hK.tr (kX6_ofTask_kn hy37)
                      refine mm_aload_n S dL_areTasksRight_156 rfl (lv_at hl 5 rfl) ?_
                      refine lv_bipush (v := 9) S.1 S.2.1 dL_areTasksRight_157 (by decide) ?_
                      obtain ⟨y39, hy39, hf⟩ := bd hf
                      obtain ⟨g40, hf⟩ := gd hf
                      refine mm_callVi S hR hS hA (As := [.int 9]) (rest := [.int y37.2.1]) cvL_39 (hK.k g3) (kX6_many_c l G A (hK.k g3) hy39 g40) rfl rfl ⟨Nat.le_of_ble_eq_true rfl, Nat.le_of_ble_eq_true rfl⟩ rfl hl.1 rfl (lv_room (by simp [rf_cat, int_cat, long_cat])) dL_areTasksRight_159 ⟨Nat.le_of_ble_eq_true rfl, Nat.le_of_ble_eq_true rfl⟩ (fun H locs hR hS => ?_)
                      have hK : mmKN μ y39.2.2 := hK.tr (kX6_many_kn hy39)
                      refine lv_icmp_le (tgt := 188) S.1 S.2.1 dL_areTasksRight_162 (by decide) (fun c41 => ?_) (fun c41 => ?_)
                      · have hf := it_t hf c41
                        refine lv_iconst (v := 0) S.1 S.2.1 dL_areTasksRight_188 (by decide) ?_
                        obtain rfl := Option.some.inj hf
                        refine W.widen (k := 1) (n := 24) (Nat.le_of_ble_eq_true rfl) (Nat.le_of_ble_eq_true rfl) ?_
                        exact mm_zret S hR hS hr hlocks (Or.inl rfl) dL_areTasksRight_189
                      · have hf := it_f hf c41
                        exact wbL_areTasksRight_165 E0 kk12 hkk12 h0 h1 x2 (x3 + 0) x4 y19.2.1 y21.2.1 y39.2.2 hf _ _ _ hR hS (lv_sub hl [5, 6, 7, 1, 8, 4, 3] rfl)
                · have hf := it_f hf c32
                  refine lv_iconst (v := 0) S.1 S.2.1 dL_areTasksRight_131 (by decide) ?_
                  refine lv_goto (tgt := 136) S.1 S.2.1 dL_areTasksRight_132 (by decide) ?_
                  refine lv_icmp_ne (tgt := 188) S.1 S.2.1 dL_areTasksRight_136 (by decide) (fun c42 => ?_) (fun c42 => ?_)
                  · have hf := it_f hf c42
                    refine lv_iconst (v := 0) S.1 S.2.1 dL_areTasksRight_188 (by decide) ?_
                    obtain rfl := Option.some.inj hf
                    refine W.widen (k := 1) (n := 24) (Nat.le_of_ble_eq_true rfl) (Nat.le_of_ble_eq_true rfl) ?_
                    exact mm_zret S hR hS hr hlocks (Or.inl rfl) dL_areTasksRight_189
                  · have hf := it_t hf c42
                    refine mm_aload_n S dL_areTasksRight_139 rfl (lv_at hl 5 rfl) ?_
                    refine lv_iload S.1 S.2.1 dL_areTasksRight_140 (lv_at hl 8 rfl) ?_
                    refine lv_iconst (v := 1) S.1 S.2.1 dL_areTasksRight_142 (by decide) ?_
                    obtain ⟨y43, hy43, hf⟩ := bd hf
                    obtain ⟨g44, hf⟩ := gd hf
                    refine mm_callVi S hR hS hA (As := [.int x4, .int 1]) (rest := []) cvL_68 (hK.k g3) (kX6_ofTask_c l G A (hK.k g3) hy43 g44) rfl rfl ⟨Nat.le_of_ble_eq_true rfl, Nat.le_of_ble_eq_true rfl⟩ rfl hl.1 rfl (lv_room (by simp [rf_cat, int_cat, long_cat])) dL_areTasksRight_143 ⟨Nat.le_of_ble_eq_true rfl, Nat.le_of_ble_eq_true rfl⟩ (fun H locs hR hS => ?_)
                    have hK : mmKN μ y43.2.2 := hK.tr (kX6_ofTask_kn hy43)
                    refine lv_if_lt (tgt := 165) S.1 S.2.1 dL_areTasksRight_146 (by decide) (fun c45 => ?_) (fun c45 => ?_)
                    · have hf := it_t hf c45
                      exact wbL_areTasksRight_165 E0 kk12 hkk12 h0 h1 x2 (x3 + 0) x4 y19.2.1 y21.2.1 y43.2.2 hf _ _ _ hR hS (lv_sub hl [5, 6, 7, 1, 8, 4, 3] rfl)
                    · have hf := it_f hf c45
                      refine mm_aload_n S dL_areTasksRight_149 rfl (lv_at hl 5 rfl) ?_
                      refine lv_iload S.1 S.2.1 dL_areTasksRight_150 (lv_at hl 8 rfl) ?_
                      refine lv_iconst (v := 1) S.1 S.2.1 dL_areTasksRight_152 (by decide) ?_
                      obtain ⟨y46, hy46, hf⟩ := bd hf
                      obtain ⟨g47, hf⟩ := gd hf
                      refine mm_callVi S hR hS hA (As := [.int x4, .int 1]) (rest := []) cvL_68 (hK.k g3) (kX6_ofTask_c l G A (hK.k g3) hy46 g47) rfl rfl ⟨Nat.le_of_ble_eq_true rfl, Nat.le_of_ble_eq_true rfl⟩ rfl hl.1 rfl (lv_room (by simp [rf_cat, int_cat, long_cat])) dL_areTasksRight_153 ⟨Nat.le_of_ble_eq_true rfl, Nat.le_of_ble_eq_true rfl⟩ (fun H locs hR hS => ?_)
                      have hK : mmKN μ y46.2.2 := hK.tr (kX6_ofTask_kn hy46)
                      refine mm_aload_n S dL_areTasksRight_156 rfl (lv_at hl 5 rfl) ?_
                      refine lv_bipush (v := 9) S.1 S.2.1 dL_areTasksRight_157 (by decide) ?_
                      obtain ⟨y48, hy48, hf⟩ := bd hf
                      obtain ⟨g49, hf⟩ := gd hf
                      refine mm_callVi S hR hS hA (As := [.int 9]) (rest := [.int y46.2.1]) cvL_39 (hK.k g3) (kX6_many_c l G A (hK.k g3) hy48 g49) rfl rfl ⟨Nat.le_of_ble_eq_true rfl, Nat.le_of_ble_eq_true rfl⟩ rfl hl.1 rfl (lv_room (by simp [rf_cat, int_cat, long_cat])) dL_areTasksRight_159 ⟨Nat.le_of_ble_eq_true rfl, Nat.le_of_ble_eq_true rfl⟩ (fun H locs hR hS => ?_)
                      have hK : mmKN μ y48.2.2 := hK.tr (kX6_many_kn hy48)
                      refine lv_icmp_le (tgt := 188) S.1 S.2.1 dL_areTasksRight_162 (by decide) (fun c50 => ?_) (fun c50 => ?_)
                      · have hf := it_t hf c50
                        refine lv_iconst (v := 0) S.1 S.2.1 dL_areTasksRight_188 (by decide) ?_
                        obtain rfl := Option.some.inj hf
                        refine W.widen (k := 1) (n := 24) (Nat.le_of_ble_eq_true rfl) (Nat.le_of_ble_eq_true rfl) ?_
                        exact mm_zret S hR hS hr hlocks (Or.inl rfl) dL_areTasksRight_189
                      · have hf := it_f hf c50
                        exact wbL_areTasksRight_165 E0 kk12 hkk12 h0 h1 x2 (x3 + 0) x4 y19.2.1 y21.2.1 y48.2.2 hf _ _ _ hR hS (lv_sub hl [5, 6, 7, 1, 8, 4, 3] rfl)
              · have hf := it_f hf c31
                refine lv_iconst (v := 1) S.1 S.2.1 dL_areTasksRight_116 (by decide) ?_
                refine lv_goto (tgt := 121) S.1 S.2.1 dL_areTasksRight_117 (by decide) ?_
                refine lv_iadd S.1 S.2.1 dL_areTasksRight_121 ?_
                refine lv_istore (i := 8) (lv' := [(8, .int ((0 + 0) + 1)), (3, .int (x3 + 0)), (7, .int 0), (6, .int y21.2.1), (5, .int y19.2.1), (0, rf h0), (1, rf h1), (2, .int x2), (4, .int x4)]) S.1 S.2.1 dL_areTasksRight_122 hl (by decide) rfl (fun ls hl => ?_)
                refine lv_iload S.1 S.2.1 dL_areTasksRight_124 (lv_at hl 0 rfl) ?_
                refine lv_iload S.1 S.2.1 dL_areTasksRight_126 (lv_at hl 2 rfl) ?_
                refine lv_if_eq (tgt := 135) S.1 S.2.1 dL_areTasksRight_128 (by decide) (fun c51 => ?_) (fun c51 => ?_)
                · have hf := it_t hf c51
                  refine lv_iconst (v := 1) S.1 S.2.1 dL_areTasksRight_135 (by decide) ?_
                  refine lv_icmp_ne (tgt := 188) S.1 S.2.1 dL_areTasksRight_136 (by decide) (fun c52 => ?_) (fun c52 => ?_)
                  · have hf := it_f hf c52
                    refine lv_iconst (v := 0) S.1 S.2.1 dL_areTasksRight_188 (by decide) ?_
                    obtain rfl := Option.some.inj hf
                    refine W.widen (k := 1) (n := 24) (Nat.le_of_ble_eq_true rfl) (Nat.le_of_ble_eq_true rfl) ?_
                    exact mm_zret S hR hS hr hlocks (Or.inl rfl) dL_areTasksRight_189
                  · have hf := it_t hf c52
                    refine mm_aload_n S dL_areTasksRight_139 rfl (lv_at hl 5 rfl) ?_
                    refine lv_iload S.1 S.2.1 dL_areTasksRight_140 (lv_at hl 8 rfl) ?_
                    refine lv_iconst (v := 1) S.1 S.2.1 dL_areTasksRight_142 (by decide) ?_
                    obtain ⟨y53, hy53, hf⟩ := bd hf
                    obtain ⟨g54, hf⟩ := gd hf
                    refine mm_callVi S hR hS hA (As := [.int x4, .int 1]) (rest := []) cvL_68 (hK.k g3) (kX6_ofTask_c l G A (hK.k g3) hy53 g54) rfl rfl ⟨Nat.le_of_ble_eq_true rfl, Nat.le_of_ble_eq_true rfl⟩ rfl hl.1 rfl (lv_room (by simp [rf_cat, int_cat, long_cat])) dL_areTasksRight_143 ⟨Nat.le_of_ble_eq_true rfl, Nat.le_of_ble_eq_true rfl⟩ (fun H locs hR hS => ?_)
                    have hK : mmKN μ y53.2.2 := hK.tr (kX6_ofTask_kn hy53)
                    refine lv_if_lt (tgt := 165) S.1 S.2.1 dL_areTasksRight_146 (by decide) (fun c55 => ?_) (fun c55 => ?_)
                    · have hf := it_t hf c55
                      exact wbL_areTasksRight_165 E0 kk12 hkk12 h0 h1 x2 (x3 + 0) x4 y19.2.1 y21.2.1 y53.2.2 hf _ _ _ hR hS (lv_sub hl [5, 6, 7, 1, 8, 4, 3] rfl)
                    · have hf := it_f hf c55
                      refine mm_aload_n S dL_areTasksRight_149 rfl (lv_at hl 5 rfl) ?_
                      refine lv_iload S.1 S.2.1 dL_areTasksRight_150 (lv_at hl 8 rfl) ?_
                      refine lv_iconst (v := 1) S.1 S.2.1 dL_areTasksRight_152 (by decide) ?_
                      obtain ⟨y56, hy56, hf⟩ := bd hf
                      obtain ⟨g57, hf⟩ := gd hf
                      refine mm_callVi S hR hS hA (As := [.int x4, .int 1]) (rest := []) cvL_68 (hK.k g3) (kX6_ofTask_c l G A (hK.k g3) hy56 g57) rfl rfl ⟨Nat.le_of_ble_eq_true rfl, Nat.le_of_ble_eq_true rfl⟩ rfl hl.1 rfl (lv_room (by simp [rf_cat, int_cat, long_cat])) dL_areTasksRight_153 ⟨Nat.le_of_ble_eq_true rfl, Nat.le_of_ble_eq_true rfl⟩ (fun H locs hR hS => ?_)
                      have hK : mmKN μ y56.2.2 := hK.tr (kX6_ofTask_kn hy56)
                      refine mm_aload_n S dL_areTasksRight_156 rfl (lv_at hl 5 rfl) ?_
                      refine lv_bipush (v := 9) S.1 S.2.1 dL_areTasksRight_157 (by decide) ?_
                      obtain ⟨y58, hy58, hf⟩ := bd hf
                      obtain ⟨g59, hf⟩ := gd hf
                      refine mm_callVi S hR hS hA (As := [.int 9]) (rest := [.int y56.2.1]) cvL_39 (hK.k g3) (kX6_many_c l G A (hK.k g3) hy58 g59) rfl rfl ⟨Nat.le_of_ble_eq_true rfl, Nat.le_of_ble_eq_true rfl⟩ rfl hl.1 rfl (lv_room (by simp [rf_cat, int_cat, long_cat])) dL_areTasksRight_159 ⟨Nat.le_of_ble_eq_true rfl, Nat.le_of_ble_eq_true rfl⟩ (fun H locs hR hS => ?_)
                      have hK : mmKN μ y58.2.2 := hK.tr (kX6_many_kn hy58)
                      refine lv_icmp_le (tgt := 188) S.1 S.2.1 dL_areTasksRight_162 (by decide) (fun c60 => ?_) (fun c60 => ?_)
                      · have hf := it_t hf c60
                        refine lv_iconst (v := 0) S.1 S.2.1 dL_areTasksRight_188 (by decide) ?_
                        obtain rfl := Option.some.inj hf
                        refine W.widen (k := 1) (n := 24) (Nat.le_of_ble_eq_true rfl) (Nat.le_of_ble_eq_true rfl) ?_
                        exact mm_zret S hR hS hr hlocks (Or.inl rfl) dL_areTasksRight_189
                      · have hf := it_f hf c60
                        exact wbL_areTasksRight_165 E0 kk12 hkk12 h0 h1 x2 (x3 + 0) x4 y19.2.1 y21.2.1 y58.2.2 hf _ _ _ hR hS (lv_sub hl [5, 6, 7, 1, 8, 4, 3] rfl)
                · have hf := it_f hf c51
                  refine lv_iconst (v := 0) S.1 S.2.1 dL_areTasksRight_131 (by decide) ?_
                  refine lv_goto (tgt := 136) S.1 S.2.1 dL_areTasksRight_132 (by decide) ?_
                  refine lv_icmp_ne (tgt := 188) S.1 S.2.1 dL_areTasksRight_136 (by decide) (fun c61 => ?_) (fun c61 => ?_)
                  · have hf := it_f hf c61
                    refine lv_iconst (v := 0) S.1 S.2.1 dL_areTasksRight_188 (by decide) ?_
                    obtain rfl := Option.some.inj hf
                    refine W.widen (k := 1) (n := 24) (Nat.le_of_ble_eq_true rfl) (Nat.le_of_ble_eq_true rfl) ?_
                    exact mm_zret S hR hS hr hlocks (Or.inl rfl) dL_areTasksRight_189
                  · have hf := it_t hf c61
                    refine mm_aload_n S dL_areTasksRight_139 rfl (lv_at hl 5 rfl) ?_
                    refine lv_iload S.1 S.2.1 dL_areTasksRight_140 (lv_at hl 8 rfl) ?_
                    refine lv_iconst (v := 1) S.1 S.2.1 dL_areTasksRight_142 (by decide) ?_
                    obtain ⟨y62, hy62, hf⟩ := bd hf
                    obtain ⟨g63, hf⟩ := gd hf
                    refine mm_callVi S hR hS hA (As := [.int x4, .int 1]) (rest := []) cvL_68 (hK.k g3) (kX6_ofTask_c l G A (hK.k g3) hy62 g63) rfl rfl ⟨Nat.le_of_ble_eq_true rfl, Nat.le_of_ble_eq_true rfl⟩ rfl hl.1 rfl (lv_room (by simp [rf_cat, int_cat, long_cat])) dL_areTasksRight_143 ⟨Nat.le_of_ble_eq_true rfl, Nat.le_of_ble_eq_true rfl⟩ (fun H locs hR hS => ?_)
                    have hK : mmKN μ y62.2.2 := hK.tr (kX6_ofTask_kn hy62)
                    refine lv_if_lt (tgt := 165) S.1 S.2.1 dL_areTasksRight_146 (by decide) (fun c64 => ?_) (fun c64 => ?_)
                    · have hf := it_t hf c64
                      exact wbL_areTasksRight_165 E0 kk12 hkk12 h0 h1 x2 (x3 + 0) x4 y19.2.1 y21.2.1 y62.2.2 hf _ _ _ hR hS (lv_sub hl [5, 6, 7, 1, 8, 4, 3] rfl)
                    · have hf := it_f hf c64
                      refine mm_aload_n S dL_areTasksRight_149 rfl (lv_at hl 5 rfl) ?_
                      refine lv_iload S.1 S.2.1 dL_areTasksRight_150 (lv_at hl 8 rfl) ?_
                      refine lv_iconst (v := 1) S.1 S.2.1 dL_areTasksRight_152 (by decide) ?_
                      obtain ⟨y65, hy65, hf⟩ := bd hf
                      obtain ⟨g66, hf⟩ := gd hf
                      refine mm_callVi S hR hS hA (As := [.int x4, .int 1]) (rest := []) cvL_68 (hK.k g3) (kX6_ofTask_c l G A (hK.k g3) hy65 g66) rfl rfl ⟨Nat.le_of_ble_eq_true rfl, Nat.le_of_ble_eq_true rfl⟩ rfl hl.1 rfl (lv_room (by simp [rf_cat, int_cat, long_cat])) dL_areTasksRight_153 ⟨Nat.le_of_ble_eq_true rfl, Nat.le_of_ble_eq_true rfl⟩ (fun H locs hR hS => ?_)
                      have hK : mmKN μ y65.2.2 := hK.tr (kX6_ofTask_kn hy65)
                      refine mm_aload_n S dL_areTasksRight_156 rfl (lv_at hl 5 rfl) ?_
                      refine lv_bipush (v := 9) S.1 S.2.1 dL_areTasksRight_157 (by decide) ?_
                      obtain ⟨y67, hy67, hf⟩ := bd hf
                      obtain ⟨g68, hf⟩ := gd hf
                      refine mm_callVi S hR hS hA (As := [.int 9]) (rest := [.int y65.2.1]) cvL_39 (hK.k g3) (kX6_many_c l G A (hK.k g3) hy67 g68) rfl rfl ⟨Nat.le_of_ble_eq_true rfl, Nat.le_of_ble_eq_true rfl⟩ rfl hl.1 rfl (lv_room (by simp [rf_cat, int_cat, long_cat])) dL_areTasksRight_159 ⟨Nat.le_of_ble_eq_true rfl, Nat.le_of_ble_eq_true rfl⟩ (fun H locs hR hS => ?_)
                      have hK : mmKN μ y67.2.2 := hK.tr (kX6_many_kn hy67)
                      refine lv_icmp_le (tgt := 188) S.1 S.2.1 dL_areTasksRight_162 (by decide) (fun c69 => ?_) (fun c69 => ?_)
                      · have hf := it_t hf c69
                        refine lv_iconst (v := 0) S.1 S.2.1 dL_areTasksRight_188 (by decide) ?_
                        obtain rfl := Option.some.inj hf
                        refine W.widen (k := 1) (n := 24) (Nat.le_of_ble_eq_true rfl) (Nat.le_of_ble_eq_true rfl) ?_
                        exact mm_zret S hR hS hr hlocks (Or.inl rfl) dL_areTasksRight_189
                      · have hf := it_f hf c69
                        exact wbL_areTasksRight_165 E0 kk12 hkk12 h0 h1 x2 (x3 + 0) x4 y19.2.1 y21.2.1 y67.2.2 hf _ _ _ hR hS (lv_sub hl [5, 6, 7, 1, 8, 4, 3] rfl)
            · have hf := it_f hf c30
              refine lv_iconst (v := 1) S.1 S.2.1 dL_areTasksRight_105 (by decide) ?_
              refine lv_goto (tgt := 110) S.1 S.2.1 dL_areTasksRight_106 (by decide) ?_
              refine lv_iadd S.1 S.2.1 dL_areTasksRight_110 ?_
              refine lv_iload S.1 S.2.1 dL_areTasksRight_111 (lv_at hl 2 rfl) ?_
              refine lv_if_lt (tgt := 120) S.1 S.2.1 dL_areTasksRight_113 (by decide) (fun c70 => ?_) (fun c70 => ?_)
              · have hf := it_t hf c70
                refine lv_iconst (v := 0) S.1 S.2.1 dL_areTasksRight_120 (by decide) ?_
                refine lv_iadd S.1 S.2.1 dL_areTasksRight_121 ?_
                refine lv_istore (i := 8) (lv' := [(8, .int ((0 + 1) + 0)), (3, .int (x3 + 0)), (7, .int 0), (6, .int y21.2.1), (5, .int y19.2.1), (0, rf h0), (1, rf h1), (2, .int x2), (4, .int x4)]) S.1 S.2.1 dL_areTasksRight_122 hl (by decide) rfl (fun ls hl => ?_)
                refine lv_iload S.1 S.2.1 dL_areTasksRight_124 (lv_at hl 0 rfl) ?_
                refine lv_iload S.1 S.2.1 dL_areTasksRight_126 (lv_at hl 2 rfl) ?_
                refine lv_if_eq (tgt := 135) S.1 S.2.1 dL_areTasksRight_128 (by decide) (fun c71 => ?_) (fun c71 => ?_)
                · have hf := it_t hf c71
                  refine lv_iconst (v := 1) S.1 S.2.1 dL_areTasksRight_135 (by decide) ?_
                  refine lv_icmp_ne (tgt := 188) S.1 S.2.1 dL_areTasksRight_136 (by decide) (fun c72 => ?_) (fun c72 => ?_)
                  · have hf := it_f hf c72
                    refine lv_iconst (v := 0) S.1 S.2.1 dL_areTasksRight_188 (by decide) ?_
                    obtain rfl := Option.some.inj hf
                    refine W.widen (k := 1) (n := 24) (Nat.le_of_ble_eq_true rfl) (Nat.le_of_ble_eq_true rfl) ?_
                    exact mm_zret S hR hS hr hlocks (Or.inl rfl) dL_areTasksRight_189
                  · have hf := it_t hf c72
                    refine mm_aload_n S dL_areTasksRight_139 rfl (lv_at hl 5 rfl) ?_
                    refine lv_iload S.1 S.2.1 dL_areTasksRight_140 (lv_at hl 8 rfl) ?_
                    refine lv_iconst (v := 1) S.1 S.2.1 dL_areTasksRight_142 (by decide) ?_
                    obtain ⟨y73, hy73, hf⟩ := bd hf
                    obtain ⟨g74, hf⟩ := gd hf
                    refine mm_callVi S hR hS hA (As := [.int x4, .int 1]) (rest := []) cvL_68 (hK.k g3) (kX6_ofTask_c l G A (hK.k g3) hy73 g74) rfl rfl ⟨Nat.le_of_ble_eq_true rfl, Nat.le_of_ble_eq_true rfl⟩ rfl hl.1 rfl (lv_room (by simp [rf_cat, int_cat, long_cat])) dL_areTasksRight_143 ⟨Nat.le_of_ble_eq_true rfl, Nat.le_of_ble_eq_true rfl⟩ (fun H locs hR hS => ?_)
                    have hK : mmKN μ y73.2.2 := hK.tr (kX6_ofTask_kn hy73)
                    refine lv_if_lt (tgt := 165) S.1 S.2.1 dL_areTasksRight_146 (by decide) (fun c75 => ?_) (fun c75 => ?_)
                    · have hf := it_t hf c75
                      exact wbL_areTasksRight_165 E0 kk12 hkk12 h0 h1 x2 (x3 + 0) x4 y19.2.1 y21.2.1 y73.2.2 hf _ _ _ hR hS (lv_sub hl [5, 6, 7, 1, 8, 4, 3] rfl)
                    · have hf := it_f hf c75
                      refine mm_aload_n S dL_areTasksRight_149 rfl (lv_at hl 5 rfl) ?_
                      refine lv_iload S.1 S.2.1 dL_areTasksRight_150 (lv_at hl 8 rfl) ?_
                      refine lv_iconst (v := 1) S.1 S.2.1 dL_areTasksRight_152 (by decide) ?_
                      obtain ⟨y76, hy76, hf⟩ := bd hf
                      obtain ⟨g77, hf⟩ := gd hf
                      refine mm_callVi S hR hS hA (As := [.int x4, .int 1]) (rest := []) cvL_68 (hK.k g3) (kX6_ofTask_c l G A (hK.k g3) hy76 g77) rfl rfl ⟨Nat.le_of_ble_eq_true rfl, Nat.le_of_ble_eq_true rfl⟩ rfl hl.1 rfl (lv_room (by simp [rf_cat, int_cat, long_cat])) dL_areTasksRight_153 ⟨Nat.le_of_ble_eq_true rfl, Nat.le_of_ble_eq_true rfl⟩ (fun H locs hR hS => ?_)
                      have hK : mmKN μ y76.2.2 := hK.tr (kX6_ofTask_kn hy76)
                      refine mm_aload_n S dL_areTasksRight_156 rfl (lv_at hl 5 rfl) ?_
                      refine lv_bipush (v := 9) S.1 S.2.1 dL_areTasksRight_157 (by decide) ?_
                      obtain ⟨y78, hy78, hf⟩ := bd hf
                      obtain ⟨g79, hf⟩ := gd hf
                      refine mm_callVi S hR hS hA (As := [.int 9]) (rest := [.int y76.2.1]) cvL_39 (hK.k g3) (kX6_many_c l G A (hK.k g3) hy78 g79) rfl rfl ⟨Nat.le_of_ble_eq_true rfl, Nat.le_of_ble_eq_true rfl⟩ rfl hl.1 rfl (lv_room (by simp [rf_cat, int_cat, long_cat])) dL_areTasksRight_159 ⟨Nat.le_of_ble_eq_true rfl, Nat.le_of_ble_eq_true rfl⟩ (fun H locs hR hS => ?_)
                      have hK : mmKN μ y78.2.2 := hK.tr (kX6_many_kn hy78)
                      refine lv_icmp_le (tgt := 188) S.1 S.2.1 dL_areTasksRight_162 (by decide) (fun c80 => ?_) (fun c80 => ?_)
                      · have hf := it_t hf c80
                        refine lv_iconst (v := 0) S.1 S.2.1 dL_areTasksRight_188 (by decide) ?_
                        obtain rfl := Option.some.inj hf
                        refine W.widen (k := 1) (n := 24) (Nat.le_of_ble_eq_true rfl) (Nat.le_of_ble_eq_true rfl) ?_
                        exact mm_zret S hR hS hr hlocks (Or.inl rfl) dL_areTasksRight_189
                      · have hf := it_f hf c80
                        exact wbL_areTasksRight_165 E0 kk12 hkk12 h0 h1 x2 (x3 + 0) x4 y19.2.1 y21.2.1 y78.2.2 hf _ _ _ hR hS (lv_sub hl [5, 6, 7, 1, 8, 4, 3] rfl)
                · have hf := it_f hf c71
                  refine lv_iconst (v := 0) S.1 S.2.1 dL_areTasksRight_131 (by decide) ?_
                  refine lv_goto (tgt := 136) S.1 S.2.1 dL_areTasksRight_132 (by decide) ?_
                  refine lv_icmp_ne (tgt := 188) S.1 S.2.1 dL_areTasksRight_136 (by decide) (fun c81 => ?_) (fun c81 => ?_)
                  · have hf := it_f hf c81
                    refine lv_iconst (v := 0) S.1 S.2.1 dL_areTasksRight_188 (by decide) ?_
                    obtain rfl := Option.some.inj hf
                    refine W.widen (k := 1) (n := 24) (Nat.le_of_ble_eq_true rfl) (Nat.le_of_ble_eq_true rfl) ?_
                    exact mm_zret S hR hS hr hlocks (Or.inl rfl) dL_areTasksRight_189
                  · have hf := it_t hf c81
                    refine mm_aload_n S dL_areTasksRight_139 rfl (lv_at hl 5 rfl) ?_
                    refine lv_iload S.1 S.2.1 dL_areTasksRight_140 (lv_at hl 8 rfl) ?_
                    refine lv_iconst (v := 1) S.1 S.2.1 dL_areTasksRight_142 (by decide) ?_
                    obtain ⟨y82, hy82, hf⟩ := bd hf
                    obtain ⟨g83, hf⟩ := gd hf
                    refine mm_callVi S hR hS hA (As := [.int x4, .int 1]) (rest := []) cvL_68 (hK.k g3) (kX6_ofTask_c l G A (hK.k g3) hy82 g83) rfl rfl ⟨Nat.le_of_ble_eq_true rfl, Nat.le_of_ble_eq_true rfl⟩ rfl hl.1 rfl (lv_room (by simp [rf_cat, int_cat, long_cat])) dL_areTasksRight_143 ⟨Nat.le_of_ble_eq_true rfl, Nat.le_of_ble_eq_true rfl⟩ (fun H locs hR hS => ?_)
                    have hK : mmKN μ y82.2.2 := hK.tr (kX6_ofTask_kn hy82)
                    refine lv_if_lt (tgt := 165) S.1 S.2.1 dL_areTasksRight_146 (by decide) (fun c84 => ?_) (fun c84 => ?_)
                    · have hf := it_t hf c84
                      exact wbL_areTasksRight_165 E0 kk12 hkk12 h0 h1 x2 (x3 + 0) x4 y19.2.1 y21.2.1 y82.2.2 hf _ _ _ hR hS (lv_sub hl [5, 6, 7, 1, 8, 4, 3] rfl)
                    · have hf := it_f hf c84
                      refine mm_aload_n S dL_areTasksRight_149 rfl (lv_at hl 5 rfl) ?_
                      refine lv_iload S.1 S.2.1 dL_areTasksRight_150 (lv_at hl 8 rfl) ?_
                      refine lv_iconst (v := 1) S.1 S.2.1 dL_areTasksRight_152 (by decide) ?_
                      obtain ⟨y85, hy85, hf⟩ := bd hf
                      obtain ⟨g86, hf⟩ := gd hf
                      refine mm_callVi S hR hS hA (As := [.int x4, .int 1]) (rest := []) cvL_68 (hK.k g3) (kX6_ofTask_c l G A (hK.k g3) hy85 g86) rfl rfl ⟨Nat.le_of_ble_eq_true rfl, Nat.le_of_ble_eq_true rfl⟩ rfl hl.1 rfl (lv_room (by simp [rf_cat, int_cat, long_cat])) dL_areTasksRight_153 ⟨Nat.le_of_ble_eq_true rfl, Nat.le_of_ble_eq_true rfl⟩ (fun H locs hR hS => ?_)
                      have hK : mmKN μ y85.2.2 := hK.tr (kX6_ofTask_kn hy85)
                      refine mm_aload_n S dL_areTasksRight_156 rfl (lv_at hl 5 rfl) ?_
                      refine lv_bipush (v := 9) S.1 S.2.1 dL_areTasksRight_157 (by decide) ?_
                      obtain ⟨y87, hy87, hf⟩ := bd hf
                      obtain ⟨g88, hf⟩ := gd hf
                      refine mm_callVi S hR hS hA (As := [.int 9]) (rest := [.int y85.2.1]) cvL_39 (hK.k g3) (kX6_many_c l G A (hK.k g3) hy87 g88) rfl rfl ⟨Nat.le_of_ble_eq_true rfl, Nat.le_of_ble_eq_true rfl⟩ rfl hl.1 rfl (lv_room (by simp [rf_cat, int_cat, long_cat])) dL_areTasksRight_159 ⟨Nat.le_of_ble_eq_true rfl, Nat.le_of_ble_eq_true rfl⟩ (fun H locs hR hS => ?_)
                      have hK : mmKN μ y87.2.2 := hK.tr (kX6_many_kn hy87)
                      refine lv_icmp_le (tgt := 188) S.1 S.2.1 dL_areTasksRight_162 (by decide) (fun c89 => ?_) (fun c89 => ?_)
                      · have hf := it_t hf c89
                        refine lv_iconst (v := 0) S.1 S.2.1 dL_areTasksRight_188 (by decide) ?_
                        obtain rfl := Option.some.inj hf
                        refine W.widen (k := 1) (n := 24) (Nat.le_of_ble_eq_true rfl) (Nat.le_of_ble_eq_true rfl) ?_
                        exact mm_zret S hR hS hr hlocks (Or.inl rfl) dL_areTasksRight_189
                      · have hf := it_f hf c89
                        exact wbL_areTasksRight_165 E0 kk12 hkk12 h0 h1 x2 (x3 + 0) x4 y19.2.1 y21.2.1 y87.2.2 hf _ _ _ hR hS (lv_sub hl [5, 6, 7, 1, 8, 4, 3] rfl)
              · have hf := it_f hf c70
                refine lv_iconst (v := 1) S.1 S.2.1 dL_areTasksRight_116 (by decide) ?_
                refine lv_goto (tgt := 121) S.1 S.2.1 dL_areTasksRight_117 (by decide) ?_
                refine lv_iadd S.1 S.2.1 dL_areTasksRight_121 ?_
                refine lv_istore (i := 8) (lv' := [(8, .int ((0 + 1) + 1)), (3, .int (x3 + 0)), (7, .int 0), (6, .int y21.2.1), (5, .int y19.2.1), (0, rf h0), (1, rf h1), (2, .int x2), (4, .int x4)]) S.1 S.2.1 dL_areTasksRight_122 hl (by decide) rfl (fun ls hl => ?_)
                refine lv_iload S.1 S.2.1 dL_areTasksRight_124 (lv_at hl 0 rfl) ?_
                refine lv_iload S.1 S.2.1 dL_areTasksRight_126 (lv_at hl 2 rfl) ?_
                refine lv_if_eq (tgt := 135) S.1 S.2.1 dL_areTasksRight_128 (by decide) (fun c90 => ?_) (fun c90 => ?_)
                · have hf := it_t hf c90
                  refine lv_iconst (v := 1) S.1 S.2.1 dL_areTasksRight_135 (by decide) ?_
                  refine lv_icmp_ne (tgt := 188) S.1 S.2.1 dL_areTasksRight_136 (by decide) (fun c91 => ?_) (fun c91 => ?_)
                  · have hf := it_f hf c91
                    refine lv_iconst (v := 0) S.1 S.2.1 dL_areTasksRight_188 (by decide) ?_
                    obtain rfl := Option.some.inj hf
                    refine W.widen (k := 1) (n := 24) (Nat.le_of_ble_eq_true rfl) (Nat.le_of_ble_eq_true rfl) ?_
                    exact mm_zret S hR hS hr hlocks (Or.inl rfl) dL_areTasksRight_189
                  · have hf := it_t hf c91
                    refine mm_aload_n S dL_areTasksRight_139 rfl (lv_at hl 5 rfl) ?_
                    refine lv_iload S.1 S.2.1 dL_areTasksRight_140 (lv_at hl 8 rfl) ?_
                    refine lv_iconst (v := 1) S.1 S.2.1 dL_areTasksRight_142 (by decide) ?_
                    obtain ⟨y92, hy92, hf⟩ := bd hf
                    obtain ⟨g93, hf⟩ := gd hf
                    refine mm_callVi S hR hS hA (As := [.int x4, .int 1]) (rest := []) cvL_68 (hK.k g3) (kX6_ofTask_c l G A (hK.k g3) hy92 g93) rfl rfl ⟨Nat.le_of_ble_eq_true rfl, Nat.le_of_ble_eq_true rfl⟩ rfl hl.1 rfl (lv_room (by simp [rf_cat, int_cat, long_cat])) dL_areTasksRight_143 ⟨Nat.le_of_ble_eq_true rfl, Nat.le_of_ble_eq_true rfl⟩ (fun H locs hR hS => ?_)
                    have hK : mmKN μ y92.2.2 := hK.tr (kX6_ofTask_kn hy92)
                    refine lv_if_lt (tgt := 165) S.1 S.2.1 dL_areTasksRight_146 (by decide) (fun c94 => ?_) (fun c94 => ?_)
                    · have hf := it_t hf c94
                      exact wbL_areTasksRight_165 E0 kk12 hkk12 h0 h1 x2 (x3 + 0) x4 y19.2.1 y21.2.1 y92.2.2 hf _ _ _ hR hS (lv_sub hl [5, 6, 7, 1, 8, 4, 3] rfl)
                    · have hf := it_f hf c94
                      refine mm_aload_n S dL_areTasksRight_149 rfl (lv_at hl 5 rfl) ?_
                      refine lv_iload S.1 S.2.1 dL_areTasksRight_150 (lv_at hl 8 rfl) ?_
                      refine lv_iconst (v := 1) S.1 S.2.1 dL_areTasksRight_152 (by decide) ?_
                      obtain ⟨y95, hy95, hf⟩ := bd hf
                      obtain ⟨g96, hf⟩ := gd hf
                      refine mm_callVi S hR hS hA (As := [.int x4, .int 1]) (rest := []) cvL_68 (hK.k g3) (kX6_ofTask_c l G A (hK.k g3) hy95 g96) rfl rfl ⟨Nat.le_of_ble_eq_true rfl, Nat.le_of_ble_eq_true rfl⟩ rfl hl.1 rfl (lv_room (by simp [rf_cat, int_cat, long_cat])) dL_areTasksRight_153 ⟨Nat.le_of_ble_eq_true rfl, Nat.le_of_ble_eq_true rfl⟩ (fun H locs hR hS => ?_)
                      have hK : mmKN μ y95.2.2 := hK.tr (kX6_ofTask_kn hy95)
                      refine mm_aload_n S dL_areTasksRight_156 rfl (lv_at hl 5 rfl) ?_
                      refine lv_bipush (v := 9) S.1 S.2.1 dL_areTasksRight_157 (by decide) ?_
                      obtain ⟨y97, hy97, hf⟩ := bd hf
                      obtain ⟨g98, hf⟩ := gd hf
                      refine mm_callVi S hR hS hA (As := [.int 9]) (rest := [.int y95.2.1]) cvL_39 (hK.k g3) (kX6_many_c l G A (hK.k g3) hy97 g98) rfl rfl ⟨Nat.le_of_ble_eq_true rfl, Nat.le_of_ble_eq_true rfl⟩ rfl hl.1 rfl (lv_room (by simp [rf_cat, int_cat, long_cat])) dL_areTasksRight_159 ⟨Nat.le_of_ble_eq_true rfl, Nat.le_of_ble_eq_true rfl⟩ (fun H locs hR hS => ?_)
                      have hK : mmKN μ y97.2.2 := hK.tr (kX6_many_kn hy97)
                      refine lv_icmp_le (tgt := 188) S.1 S.2.1 dL_areTasksRight_162 (by decide) (fun c99 => ?_) (fun c99 => ?_)
                      · have hf := it_t hf c99
                        refine lv_iconst (v := 0) S.1 S.2.1 dL_areTasksRight_188 (by decide) ?_
                        obtain rfl := Option.some.inj hf
                        refine W.widen (k := 1) (n := 24) (Nat.le_of_ble_eq_true rfl) (Nat.le_of_ble_eq_true rfl) ?_
                        exact mm_zret S hR hS hr hlocks (Or.inl rfl) dL_areTasksRight_189
                      · have hf := it_f hf c99
                        exact wbL_areTasksRight_165 E0 kk12 hkk12 h0 h1 x2 (x3 + 0) x4 y19.2.1 y21.2.1 y97.2.2 hf _ _ _ hR hS (lv_sub hl [5, 6, 7, 1, 8, 4, 3] rfl)
                · have hf := it_f hf c90
                  refine lv_iconst (v := 0) S.1 S.2.1 dL_areTasksRight_131 (by decide) ?_
                  refine lv_goto (tgt := 136) S.1 S.2.1 dL_areTasksRight_132 (by decide) ?_
                  refine lv_icmp_ne (tgt := 188) S.1 S.2.1 dL_areTasksRight_136 (by decide) (fun c100 => ?_) (fun c100 => ?_)
                  · have hf := it_f hf c100
                    refine lv_iconst (v := 0) S.1 S.2.1 dL_areTasksRight_188 (by decide) ?_
                    obtain rfl := Option.some.inj hf
                    refine W.widen (k := 1) (n := 24) (Nat.le_of_ble_eq_true rfl) (Nat.le_of_ble_eq_true rfl) ?_
                    exact mm_zret S hR hS hr hlocks (Or.inl rfl) dL_areTasksRight_189
                  · have hf := it_t hf c100
                    refine mm_aload_n S dL_areTasksRight_139 rfl (lv_at hl 5 rfl) ?_
                    refine lv_iload S.1 S.2.1 dL_areTasksRight_140 (lv_at hl 8 rfl) ?_
                    refine lv_iconst (v := 1) S.1 S.2.1 dL_areTasksRight_142 (by decide) ?_
                    obtain ⟨y101, hy101, hf⟩ := bd hf
                    obtain ⟨g102, hf⟩ := gd hf
                    refine mm_callVi S hR hS hA (As := [.int x4, .int 1]) (rest := []) cvL_68 (hK.k g3) (kX6_ofTask_c l G A (hK.k g3) hy101 g102) rfl rfl ⟨Nat.le_of_ble_eq_true rfl, Nat.le_of_ble_eq_true rfl⟩ rfl hl.1 rfl (lv_room (by simp [rf_cat, int_cat, long_cat])) dL_areTasksRight_143 ⟨Nat.le_of_ble_eq_true rfl, Nat.le_of_ble_eq_true rfl⟩ (fun H locs hR hS => ?_)
                    have hK : mmKN μ y101.2.2 := hK.tr (kX6_ofTask_kn hy101)
                    refine lv_if_lt (tgt := 165) S.1 S.2.1 dL_areTasksRight_146 (by decide) (fun c103 => ?_) (fun c103 => ?_)
                    · have hf := it_t hf c103
                      exact wbL_areTasksRight_165 E0 kk12 hkk12 h0 h1 x2 (x3 + 0) x4 y19.2.1 y21.2.1 y101.2.2 hf _ _ _ hR hS (lv_sub hl [5, 6, 7, 1, 8, 4, 3] rfl)
                    · have hf := it_f hf c103
                      refine mm_aload_n S dL_areTasksRight_149 rfl (lv_at hl 5 rfl) ?_
                      refine lv_iload S.1 S.2.1 dL_areTasksRight_150 (lv_at hl 8 rfl) ?_
                      refine lv_iconst (v := 1) S.1 S.2.1 dL_areTasksRight_152 (by decide) ?_
                      obtain ⟨y104, hy104, hf⟩ := bd hf
                      obtain ⟨g105, hf⟩ := gd hf
                      refine mm_callVi S hR hS hA (As := [.int x4, .int 1]) (rest := []) cvL_68 (hK.k g3) (kX6_ofTask_c l G A (hK.k g3) hy104 g105) rfl rfl ⟨Nat.le_of_ble_eq_true rfl, Nat.le_of_ble_eq_true rfl⟩ rfl hl.1 rfl (lv_room (by simp [rf_cat, int_cat, long_cat])) dL_areTasksRight_153 ⟨Nat.le_of_ble_eq_true rfl, Nat.le_of_ble_eq_true rfl⟩ (fun H locs hR hS => ?_)
                      have hK : mmKN μ y104.2.2 := hK.tr (kX6_ofTask_kn hy104)
                      refine mm_aload_n S dL_areTasksRight_156 rfl (lv_at hl 5 rfl) ?_
                      refine lv_bipush (v := 9) S.1 S.2.1 dL_areTasksRight_157 (by decide) ?_
                      obtain ⟨y106, hy106, hf⟩ := bd hf
                      obtain ⟨g107, hf⟩ := gd hf
                      refine mm_callVi S hR hS hA (As := [.int 9]) (rest := [.int y104.2.1]) cvL_39 (hK.k g3) (kX6_many_c l G A (hK.k g3) hy106 g107) rfl rfl ⟨Nat.le_of_ble_eq_true rfl, Nat.le_of_ble_eq_true rfl⟩ rfl hl.1 rfl (lv_room (by simp [rf_cat, int_cat, long_cat])) dL_areTasksRight_159 ⟨Nat.le_of_ble_eq_true rfl, Nat.le_of_ble_eq_true rfl⟩ (fun H locs hR hS => ?_)
                      have hK : mmKN μ y106.2.2 := hK.tr (kX6_many_kn hy106)
                      refine lv_icmp_le (tgt := 188) S.1 S.2.1 dL_areTasksRight_162 (by decide) (fun c108 => ?_) (fun c108 => ?_)
                      · have hf := it_t hf c108
                        refine lv_iconst (v := 0) S.1 S.2.1 dL_areTasksRight_188 (by decide) ?_
                        obtain rfl := Option.some.inj hf
                        refine W.widen (k := 1) (n := 24) (Nat.le_of_ble_eq_true rfl) (Nat.le_of_ble_eq_true rfl) ?_
                        exact mm_zret S hR hS hr hlocks (Or.inl rfl) dL_areTasksRight_189
                      · have hf := it_f hf c108
                        exact wbL_areTasksRight_165 E0 kk12 hkk12 h0 h1 x2 (x3 + 0) x4 y19.2.1 y21.2.1 y106.2.2 hf _ _ _ hR hS (lv_sub hl [5, 6, 7, 1, 8, 4, 3] rfl)
          · have hf := it_f hf c27
            refine lv_iconst (v := 1) S.1 S.2.1 dL_areTasksRight_90 (by decide) ?_
            refine lv_goto (tgt := 95) S.1 S.2.1 dL_areTasksRight_91 (by decide) ?_
            refine mm_aload_n S dL_areTasksRight_95 rfl (lv_at hl 4 rfl) ?_
            refine lv_iload S.1 S.2.1 dL_areTasksRight_96 (lv_at hl 7 rfl) ?_
            refine lv_iconst (v := 1) S.1 S.2.1 dL_areTasksRight_98 (by decide) ?_
            obtain ⟨y109, hy109, hf⟩ := bd hf
            obtain ⟨g110, hf⟩ := gd hf
            refine mm_callVi S hR hS hA (As := [.int x4, .int 1]) (rest := [.int 1]) cvL_68 (hK.k g3) (kX6_ofTask_c l G A (hK.k g3) hy109 g110) rfl rfl ⟨Nat.le_of_ble_eq_true rfl, Nat.le_of_ble_eq_true rfl⟩ rfl hl.1 rfl (lv_room (by simp [rf_cat, int_cat, long_cat])) dL_areTasksRight_99 ⟨Nat.le_of_ble_eq_true rfl, Nat.le_of_ble_eq_true rfl⟩ (fun H locs hR hS => ?_)
            have hK : mmKN μ y109.2.2 := hK.tr (kX6_ofTask_kn hy109)
            refine lv_if_lt (tgt := 109) S.1 S.2.1 dL_areTasksRight_102 (by decide) (fun c111 => ?_) (fun c111 => ?_)
            · have hf := it_t hf c111
              refine lv_iconst (v := 0) S.1 S.2.1 dL_areTasksRight_109 (by decide) ?_
              refine lv_iadd S.1 S.2.1 dL_areTasksRight_110 ?_
              refine lv_iload S.1 S.2.1 dL_areTasksRight_111 (lv_at hl 2 rfl) ?_
              refine lv_if_lt (tgt := 120) S.1 S.2.1 dL_areTasksRight_113 (by decide) (fun c112 => ?_) (fun c112 => ?_)
              · have hf := it_t hf c112
                refine lv_iconst (v := 0) S.1 S.2.1 dL_areTasksRight_120 (by decide) ?_
                refine lv_iadd S.1 S.2.1 dL_areTasksRight_121 ?_
                refine lv_istore (i := 8) (lv' := [(8, .int ((1 + 0) + 0)), (3, .int (x3 + 0)), (7, .int 0), (6, .int y21.2.1), (5, .int y19.2.1), (0, rf h0), (1, rf h1), (2, .int x2), (4, .int x4)]) S.1 S.2.1 dL_areTasksRight_122 hl (by decide) rfl (fun ls hl => ?_)
                refine lv_iload S.1 S.2.1 dL_areTasksRight_124 (lv_at hl 0 rfl) ?_
                refine lv_iload S.1 S.2.1 dL_areTasksRight_126 (lv_at hl 2 rfl) ?_
                refine lv_if_eq (tgt := 135) S.1 S.2.1 dL_areTasksRight_128 (by decide) (fun c113 => ?_) (fun c113 => ?_)
                · have hf := it_t hf c113
                  refine lv_iconst (v := 1) S.1 S.2.1 dL_areTasksRight_135 (by decide) ?_
                  refine lv_icmp_ne (tgt := 188) S.1 S.2.1 dL_areTasksRight_136 (by decide) (fun c114 => ?_) (fun c114 => ?_)
                  · have hf := it_f hf c114
                    refine lv_iconst (v := 0) S.1 S.2.1 dL_areTasksRight_188 (by decide) ?_
                    obtain rfl := Option.some.inj hf
                    refine W.widen (k := 1) (n := 24) (Nat.le_of_ble_eq_true rfl) (Nat.le_of_ble_eq_true rfl) ?_
                    exact mm_zret S hR hS hr hlocks (Or.inl rfl) dL_areTasksRight_189
                  · have hf := it_t hf c114
                    refine mm_aload_n S dL_areTasksRight_139 rfl (lv_at hl 5 rfl) ?_
                    refine lv_iload S.1 S.2.1 dL_areTasksRight_140 (lv_at hl 8 rfl) ?_
                    refine lv_iconst (v := 1) S.1 S.2.1 dL_areTasksRight_142 (by decide) ?_
                    obtain ⟨y115, hy115, hf⟩ := bd hf
                    obtain ⟨g116, hf⟩ := gd hf
                    refine mm_callVi S hR hS hA (As := [.int x4, .int 1]) (rest := []) cvL_68 (hK.k g3) (kX6_ofTask_c l G A (hK.k g3) hy115 g116) rfl rfl ⟨Nat.le_of_ble_eq_true rfl, Nat.le_of_ble_eq_true rfl⟩ rfl hl.1 rfl (lv_room (by simp [rf_cat, int_cat, long_cat])) dL_areTasksRight_143 ⟨Nat.le_of_ble_eq_true rfl, Nat.le_of_ble_eq_true rfl⟩ (fun H locs hR hS => ?_)
                    have hK : mmKN μ y115.2.2 := hK.tr (kX6_ofTask_kn hy115)
                    refine lv_if_lt (tgt := 165) S.1 S.2.1 dL_areTasksRight_146 (by decide) (fun c117 => ?_) (fun c117 => ?_)
                    · have hf := it_t hf c117
                      exact wbL_areTasksRight_165 E0 kk12 hkk12 h0 h1 x2 (x3 + 0) x4 y19.2.1 y21.2.1 y115.2.2 hf _ _ _ hR hS (lv_sub hl [5, 6, 7, 1, 8, 4, 3] rfl)
                    · have hf := it_f hf c117
                      refine mm_aload_n S dL_areTasksRight_149 rfl (lv_at hl 5 rfl) ?_
                      refine lv_iload S.1 S.2.1 dL_areTasksRight_150 (lv_at hl 8 rfl) ?_
                      refine lv_iconst (v := 1) S.1 S.2.1 dL_areTasksRight_152 (by decide) ?_
                      obtain ⟨y118, hy118, hf⟩ := bd hf
                      obtain ⟨g119, hf⟩ := gd hf
                      refine mm_callVi S hR hS hA (As := [.int x4, .int 1]) (rest := []) cvL_68 (hK.k g3) (kX6_ofTask_c l G A (hK.k g3) hy118 g119) rfl rfl ⟨Nat.le_of_ble_eq_true rfl, Nat.le_of_ble_eq_true rfl⟩ rfl hl.1 rfl (lv_room (by simp [rf_cat, int_cat, long_cat])) dL_areTasksRight_153 ⟨Nat.le_of_ble_eq_true rfl, Nat.le_of_ble_eq_true rfl⟩ (fun H locs hR hS => ?_)
                      have hK : mmKN μ y118.2.2 := hK.tr (kX6_ofTask_kn hy118)
                      refine mm_aload_n S dL_areTasksRight_156 rfl (lv_at hl 5 rfl) ?_
                      refine lv_bipush (v := 9) S.1 S.2.1 dL_areTasksRight_157 (by decide) ?_
                      obtain ⟨y120, hy120, hf⟩ := bd hf
                      obtain ⟨g121, hf⟩ := gd hf
                      refine mm_callVi S hR hS hA (As := [.int 9]) (rest := [.int y118.2.1]) cvL_39 (hK.k g3) (kX6_many_c l G A (hK.k g3) hy120 g121) rfl rfl ⟨Nat.le_of_ble_eq_true rfl, Nat.le_of_ble_eq_true rfl⟩ rfl hl.1 rfl (lv_room (by simp [rf_cat, int_cat, long_cat])) dL_areTasksRight_159 ⟨Nat.le_of_ble_eq_true rfl, Nat.le_of_ble_eq_true rfl⟩ (fun H locs hR hS => ?_)
                      have hK : mmKN μ y120.2.2 := hK.tr (kX6_many_kn hy120)
                      refine lv_icmp_le (tgt := 188) S.1 S.2.1 dL_areTasksRight_162 (by decide) (fun c122 => ?_) (fun c122 => ?_)
                      · have hf := it_t hf c122
                        refine lv_iconst (v := 0) S.1 S.2.1 dL_areTasksRight_188 (by decide) ?_
                        obtain rfl := Option.some.inj hf
                        refine W.widen (k := 1) (n := 24) (Nat.le_of_ble_eq_true rfl) (Nat.le_of_ble_eq_true rfl) ?_
                        exact mm_zret S hR hS hr hlocks (Or.inl rfl) dL_areTasksRight_189
                      · have hf := it_f hf c122
                        exact wbL_areTasksRight_165 E0 kk12 hkk12 h0 h1 x2 (x3 + 0) x4 y19.2.1 y21.2.1 y120.2.2 hf _ _ _ hR hS (lv_sub hl [5, 6, 7, 1, 8, 4, 3] rfl)
                · have hf := it_f hf c113
                  refine lv_iconst (v := 0) S.1 S.2.1 dL_areTasksRight_131 (by decide) ?_
                  refine lv_goto (tgt := 136) S.1 S.2.1 dL_areTasksRight_132 (by decide) ?_
                  refine lv_icmp_ne (tgt := 188) S.1 S.2.1 dL_areTasksRight_136 (by decide) (fun c123 => ?_) (fun c123 => ?_)
                  · have hf := it_f hf c123
                    refine lv_iconst (v := 0) S.1 S.2.1 dL_areTasksRight_188 (by decide) ?_
                    obtain rfl := Option.some.inj hf
                    refine W.widen (k := 1) (n := 24) (Nat.le_of_ble_eq_true rfl) (Nat.le_of_ble_eq_true rfl) ?_
                    exact mm_zret S hR hS hr hlocks (Or.inl rfl) dL_areTasksRight_189
                  · have hf := it_t hf c123
                    refine mm_aload_n S dL_areTasksRight_139 rfl (lv_at hl 5 rfl) ?_
                    refine lv_iload S.1 S.2.1 dL_areTasksRight_140 (lv_at hl 8 rfl) ?_
                    refine lv_iconst (v := 1) S.1 S.2.1 dL_areTasksRight_142 (by decide) ?_
                    obtain ⟨y124, hy124, hf⟩ := bd hf
                    obtain ⟨g125, hf⟩ := gd hf
                    refine mm_callVi S hR hS hA (As := [.int x4, .int 1]) (rest := []) cvL_68 (hK.k g3) (kX6_ofTask_c l G A (hK.k g3) hy124 g125) rfl rfl ⟨Nat.le_of_ble_eq_true rfl, Nat.le_of_ble_eq_true rfl⟩ rfl hl.1 rfl (lv_room (by simp [rf_cat, int_cat, long_cat])) dL_areTasksRight_143 ⟨Nat.le_of_ble_eq_true rfl, Nat.le_of_ble_eq_true rfl⟩ (fun H locs hR hS => ?_)
                    have hK : mmKN μ y124.2.2 := hK.tr (kX6_ofTask_kn hy124)
                    refine lv_if_lt (tgt := 165) S.1 S.2.1 dL_areTasksRight_146 (by decide) (fun c126 => ?_) (fun c126 => ?_)
                    · have hf := it_t hf c126
                      exact wbL_areTasksRight_165 E0 kk12 hkk12 h0 h1 x2 (x3 + 0) x4 y19.2.1 y21.2.1 y124.2.2 hf _ _ _ hR hS (lv_sub hl [5, 6, 7, 1, 8, 4, 3] rfl)
                    · have hf := it_f hf c126
                      refine mm_aload_n S dL_areTasksRight_149 rfl (lv_at hl 5 rfl) ?_
                      refine lv_iload S.1 S.2.1 dL_areTasksRight_150 (lv_at hl 8 rfl) ?_
                      refine lv_iconst (v := 1) S.1 S.2.1 dL_areTasksRight_152 (by decide) ?_
                      obtain ⟨y127, hy127, hf⟩ := bd hf
                      obtain ⟨g128, hf⟩ := gd hf
                      refine mm_callVi S hR hS hA (As := [.int x4, .int 1]) (rest := []) cvL_68 (hK.k g3) (kX6_ofTask_c l G A (hK.k g3) hy127 g128) rfl rfl ⟨Nat.le_of_ble_eq_true rfl, Nat.le_of_ble_eq_true rfl⟩ rfl hl.1 rfl (lv_room (by simp [rf_cat, int_cat, long_cat])) dL_areTasksRight_153 ⟨Nat.le_of_ble_eq_true rfl, Nat.le_of_ble_eq_true rfl⟩ (fun H locs hR hS => ?_)
                      have hK : mmKN μ y127.2.2 := hK.tr (kX6_ofTask_kn hy127)
                      refine mm_aload_n S dL_areTasksRight_156 rfl (lv_at hl 5 rfl) ?_
                      refine lv_bipush (v := 9) S.1 S.2.1 dL_areTasksRight_157 (by decide) ?_
                      obtain ⟨y129, hy129, hf⟩ := bd hf
                      obtain ⟨g130, hf⟩ := gd hf
                      refine mm_callVi S hR hS hA (As := [.int 9]) (rest := [.int y127.2.1]) cvL_39 (hK.k g3) (kX6_many_c l G A (hK.k g3) hy129 g130) rfl rfl ⟨Nat.le_of_ble_eq_true rfl, Nat.le_of_ble_eq_true rfl⟩ rfl hl.1 rfl (lv_room (by simp [rf_cat, int_cat, long_cat])) dL_areTasksRight_159 ⟨Nat.le_of_ble_eq_true rfl, Nat.le_of_ble_eq_true rfl⟩ (fun H locs hR hS => ?_)
                      have hK : mmKN μ y129.2.2 := hK.tr (kX6_many_kn hy129)
                      refine lv_icmp_le (tgt := 188) S.1 S.2.1 dL_areTasksRight_162 (by decide) (fun c131 => ?_) (fun c131 => ?_)
                      · have hf := it_t hf c131
                        refine lv_iconst (v := 0) S.1 S.2.1 dL_areTasksRight_188 (by decide) ?_
                        obtain rfl := Option.some.inj hf
                        refine W.widen (k := 1) (n := 24) (Nat.le_of_ble_eq_true rfl) (Nat.le_of_ble_eq_true rfl) ?_
                        exact mm_zret S hR hS hr hlocks (Or.inl rfl) dL_areTasksRight_189
                      · have hf := it_f hf c131
                        exact wbL_areTasksRight_165 E0 kk12 hkk12 h0 h1 x2 (x3 + 0) x4 y19.2.1 y21.2.1 y129.2.2 hf _ _ _ hR hS (lv_sub hl [5, 6, 7, 1, 8, 4, 3] rfl)
              · have hf := it_f hf c112
                refine lv_iconst (v := 1) S.1 S.2.1 dL_areTasksRight_116 (by decide) ?_
                refine lv_goto (tgt := 121) S.1 S.2.1 dL_areTasksRight_117 (by decide) ?_
                refine lv_iadd S.1 S.2.1 dL_areTasksRight_121 ?_
                refine lv_istore (i := 8) (lv' := [(8, .int ((1 + 0) + 1)), (3, .int (x3 + 0)), (7, .int 0), (6, .int y21.2.1), (5, .int y19.2.1), (0, rf h0), (1, rf h1), (2, .int x2), (4, .int x4)]) S.1 S.2.1 dL_areTasksRight_122 hl (by decide) rfl (fun ls hl => ?_)
                refine lv_iload S.1 S.2.1 dL_areTasksRight_124 (lv_at hl 0 rfl) ?_
                refine lv_iload S.1 S.2.1 dL_areTasksRight_126 (lv_at hl 2 rfl) ?_
                refine lv_if_eq (tgt := 135) S.1 S.2.1 dL_areTasksRight_128 (by decide) (fun c132 => ?_) (fun c132 => ?_)
                · have hf := it_t hf c132
                  refine lv_iconst (v := 1) S.1 S.2.1 dL_areTasksRight_135 (by decide) ?_
                  refine lv_icmp_ne (tgt := 188) S.1 S.2.1 dL_areTasksRight_136 (by decide) (fun c133 => ?_) (fun c133 => ?_)
                  · have hf := it_f hf c133
                    refine lv_iconst (v := 0) S.1 S.2.1 dL_areTasksRight_188 (by decide) ?_
                    obtain rfl := Option.some.inj hf
                    refine W.widen (k := 1) (n := 24) (Nat.le_of_ble_eq_true rfl) (Nat.le_of_ble_eq_true rfl) ?_
                    exact mm_zret S hR hS hr hlocks (Or.inl rfl) dL_areTasksRight_189
                  · have hf := it_t hf c133
                    refine mm_aload_n S dL_areTasksRight_139 rfl (lv_at hl 5 rfl) ?_
                    refine lv_iload S.1 S.2.1 dL_areTasksRight_140 (lv_at hl 8 rfl) ?_
                    refine lv_iconst (v := 1) S.1 S.2.1 dL_areTasksRight_142 (by decide) ?_
                    obtain ⟨y134, hy134, hf⟩ := bd hf
                    obtain ⟨g135, hf⟩ := gd hf
                    refine mm_callVi S hR hS hA (As := [.int x4, .int 1]) (rest := []) cvL_68 (hK.k g3) (kX6_ofTask_c l G A (hK.k g3) hy134 g135) rfl rfl ⟨Nat.le_of_ble_eq_true rfl, Nat.le_of_ble_eq_true rfl⟩ rfl hl.1 rfl (lv_room (by simp [rf_cat, int_cat, long_cat])) dL_areTasksRight_143 ⟨Nat.le_of_ble_eq_true rfl, Nat.le_of_ble_eq_true rfl⟩ (fun H locs hR hS => ?_)
                    have hK : mmKN μ y134.2.2 := hK.tr (kX6_ofTask_kn hy134)
                    refine lv_if_lt (tgt := 165) S.1 S.2.1 dL_areTasksRight_146 (by decide) (fun c136 => ?_) (fun c136 => ?_)
                    · have hf := it_t hf c136
                      exact wbL_areTasksRight_165 E0 kk12 hkk12 h0 h1 x2 (x3 + 0) x4 y19.2.1 y21.2.1 y134.2.2 hf _ _ _ hR hS (lv_sub hl [5, 6, 7, 1, 8, 4, 3] rfl)
                    · have hf := it_f hf c136
                      refine mm_aload_n S dL_areTasksRight_149 rfl (lv_at hl 5 rfl) ?_
                      refine lv_iload S.1 S.2.1 dL_areTasksRight_150 (lv_at hl 8 rfl) ?_
                      refine lv_iconst (v := 1) S.1 S.2.1 dL_areTasksRight_152 (by decide) ?_
                      obtain ⟨y137, hy137, hf⟩ := bd hf
                      obtain ⟨g138, hf⟩ := gd hf
                      refine mm_callVi S hR hS hA (As := [.int x4, .int 1]) (rest := []) cvL_68 (hK.k g3) (kX6_ofTask_c l G A (hK.k g3) hy137 g138) rfl rfl ⟨Nat.le_of_ble_eq_true rfl, Nat.le_of_ble_eq_true rfl⟩ rfl hl.1 rfl (lv_room (by simp [rf_cat, int_cat, long_cat])) dL_areTasksRight_153 ⟨Nat.le_of_ble_eq_true rfl, Nat.le_of_ble_eq_true rfl⟩ (fun H locs hR hS => ?_)
                      have hK : mmKN μ y137.2.2 := hK.tr (kX6_ofTask_kn hy137)
                      refine mm_aload_n S dL_areTasksRight_156 rfl (lv_at hl 5 rfl) ?_
                      refine lv_bipush (v := 9) S.1 S.2.1 dL_areTasksRight_157 (by decide) ?_
                      obtain ⟨y139, hy139, hf⟩ := bd hf
                      obtain ⟨g140, hf⟩ := gd hf
                      refine mm_callVi S hR hS hA (As := [.int 9]) (rest := [.int y137.2.1]) cvL_39 (hK.k g3) (kX6_many_c l G A (hK.k g3) hy139 g140) rfl rfl ⟨Nat.le_of_ble_eq_true rfl, Nat.le_of_ble_eq_true rfl⟩ rfl hl.1 rfl (lv_room (by simp [rf_cat, int_cat, long_cat])) dL_areTasksRight_159 ⟨Nat.le_of_ble_eq_true rfl, Nat.le_of_ble_eq_true rfl⟩ (fun H locs hR hS => ?_)
                      have hK : mmKN μ y139.2.2 := hK.tr (kX6_many_kn hy139)
                      refine lv_icmp_le (tgt := 188) S.1 S.2.1 dL_areTasksRight_162 (by decide) (fun c141 => ?_) (fun c141 => ?_)
                      · have hf := it_t hf c141
                        refine lv_iconst (v := 0) S.1 S.2.1 dL_areTasksRight_188 (by decide) ?_
                        obtain rfl := Option.some.inj hf
                        refine W.widen (k := 1) (n := 24) (Nat.le_of_ble_eq_true rfl) (Nat.le_of_ble_eq_true rfl) ?_
                        exact mm_zret S hR hS hr hlocks (Or.inl rfl) dL_areTasksRight_189
                      · have hf := it_f hf c141
                        exact wbL_areTasksRight_165 E0 kk12 hkk12 h0 h1 x2 (x3 + 0) x4 y19.2.1 y21.2.1 y139.2.2 hf _ _ _ hR hS (lv_sub hl [5, 6, 7, 1, 8, 4, 3] rfl)
                · have hf := it_f hf c132
                  refine lv_iconst (v := 0) S.1 S.2.1 dL_areTasksRight_131 (by decide) ?_
                  refine lv_goto (tgt := 136) S.1 S.2.1 dL_areTasksRight_132 (by decide) ?_
                  refine lv_icmp_ne (tgt := 188) S.1 S.2.1 dL_areTasksRight_136 (by decide) (fun c142 => ?_) (fun c142 => ?_)
                  · have hf := it_f hf c142
                    refine lv_iconst (v := 0) S.1 S.2.1 dL_areTasksRight_188 (by decide) ?_
                    obtain rfl := Option.some.inj hf
                    refine W.widen (k := 1) (n := 24) (Nat.le_of_ble_eq_true rfl) (Nat.le_of_ble_eq_true rfl) ?_
                    exact mm_zret S hR hS hr hlocks (Or.inl rfl) dL_areTasksRight_189
                  · have hf := it_t hf c142
                    refine mm_aload_n S dL_areTasksRight_139 rfl (lv_at hl 5 rfl) ?_
                    refine lv_iload S.1 S.2.1 dL_areTasksRight_140 (lv_at hl 8 rfl) ?_
                    refine lv_iconst (v := 1) S.1 S.2.1 dL_areTasksRight_142 (by decide) ?_
                    obtain ⟨y143, hy143, hf⟩ := bd hf
                    obtain ⟨g144, hf⟩ := gd hf
                    refine mm_callVi S hR hS hA (As := [.int x4, .int 1]) (rest := []) cvL_68 (hK.k g3) (kX6_ofTask_c l G A (hK.k g3) hy143 g144) rfl rfl ⟨Nat.le_of_ble_eq_true rfl, Nat.le_of_ble_eq_true rfl⟩ rfl hl.1 rfl (lv_room (by simp [rf_cat, int_cat, long_cat])) dL_areTasksRight_143 ⟨Nat.le_of_ble_eq_true rfl, Nat.le_of_ble_eq_true rfl⟩ (fun H locs hR hS => ?_)
                    have hK : mmKN μ y143.2.2 := hK.tr (kX6_ofTask_kn hy143)
                    refine lv_if_lt (tgt := 165) S.1 S.2.1 dL_areTasksRight_146 (by decide) (fun c145 => ?_) (fun c145 => ?_)
                    · have hf := it_t hf c145
                      exact wbL_areTasksRight_165 E0 kk12 hkk12 h0 h1 x2 (x3 + 0) x4 y19.2.1 y21.2.1 y143.2.2 hf _ _ _ hR hS (lv_sub hl [5, 6, 7, 1, 8, 4, 3] rfl)
                    · have hf := it_f hf c145
                      refine mm_aload_n S dL_areTasksRight_149 rfl (lv_at hl 5 rfl) ?_
                      refine lv_iload S.1 S.2.1 dL_areTasksRight_150 (lv_at hl 8 rfl) ?_
                      refine lv_iconst (v := 1) S.1 S.2.1 dL_areTasksRight_152 (by decide) ?_
                      obtain ⟨y146, hy146, hf⟩ := bd hf
                      obtain ⟨g147, hf⟩ := gd hf
                      refine mm_callVi S hR hS hA (As := [.int x4, .int 1]) (rest := []) cvL_68 (hK.k g3) (kX6_ofTask_c l G A (hK.k g3) hy146 g147) rfl rfl ⟨Nat.le_of_ble_eq_true rfl, Nat.le_of_ble_eq_true rfl⟩ rfl hl.1 rfl (lv_room (by simp [rf_cat, int_cat, long_cat])) dL_areTasksRight_153 ⟨Nat.le_of_ble_eq_true rfl, Nat.le_of_ble_eq_true rfl⟩ (fun H locs hR hS => ?_)
                      have hK : mmKN μ y146.2.2 := hK.tr (kX6_ofTask_kn hy146)
                      refine mm_aload_n S dL_areTasksRight_156 rfl (lv_at hl 5 rfl) ?_
                      refine lv_bipush (v := 9) S.1 S.2.1 dL_areTasksRight_157 (by decide) ?_
                      obtain ⟨y148, hy148, hf⟩ := bd hf
                      obtain ⟨g149, hf⟩ := gd hf
                      refine mm_callVi S hR hS hA (As := [.int 9]) (rest := [.int y146.2.1]) cvL_39 (hK.k g3) (kX6_many_c l G A (hK.k g3) hy148 g149) rfl rfl ⟨Nat.le_of_ble_eq_true rfl, Nat.le_of_ble_eq_true rfl⟩ rfl hl.1 rfl (lv_room (by simp [rf_cat, int_cat, long_cat])) dL_areTasksRight_159 ⟨Nat.le_of_ble_eq_true rfl, Nat.le_of_ble_eq_true rfl⟩ (fun H locs hR hS => ?_)
                      have hK : mmKN μ y148.2.2 := hK.tr (kX6_many_kn hy148)
                      refine lv_icmp_le (tgt := 188) S.1 S.2.1 dL_areTasksRight_162 (by decide) (fun c150 => ?_) (fun c150 => ?_)
                      · have hf := it_t hf c150
                        refine lv_iconst (v := 0) S.1 S.2.1 dL_areTasksRight_188 (by decide) ?_
                        obtain rfl := Option.some.inj hf
                        refine W.widen (k := 1) (n := 24) (Nat.le_of_ble_eq_true rfl) (Nat.le_of_ble_eq_true rfl) ?_
                        exact mm_zret S hR hS hr hlocks (Or.inl rfl) dL_areTasksRight_189
                      · have hf := it_f hf c150
                        exact wbL_areTasksRight_165 E0 kk12 hkk12 h0 h1 x2 (x3 + 0) x4 y19.2.1 y21.2.1 y148.2.2 hf _ _ _ hR hS (lv_sub hl [5, 6, 7, 1, 8, 4, 3] rfl)
            · have hf := it_f hf c111
              refine lv_iconst (v := 1) S.1 S.2.1 dL_areTasksRight_105 (by decide) ?_
              refine lv_goto (tgt := 110) S.1 S.2.1 dL_areTasksRight_106 (by decide) ?_
              refine lv_iadd S.1 S.2.1 dL_areTasksRight_110 ?_
              refine lv_iload S.1 S.2.1 dL_areTasksRight_111 (lv_at hl 2 rfl) ?_
              refine lv_if_lt (tgt := 120) S.1 S.2.1 dL_areTasksRight_113 (by decide) (fun c151 => ?_) (fun c151 => ?_)
              · have hf := it_t hf c151
                refine lv_iconst (v := 0) S.1 S.2.1 dL_areTasksRight_120 (by decide) ?_
                refine lv_iadd S.1 S.2.1 dL_areTasksRight_121 ?_
                refine lv_istore (i := 8) (lv' := [(8, .int ((1 + 1) + 0)), (3, .int (x3 + 0)), (7, .int 0), (6, .int y21.2.1), (5, .int y19.2.1), (0, rf h0), (1, rf h1), (2, .int x2), (4, .int x4)]) S.1 S.2.1 dL_areTasksRight_122 hl (by decide) rfl (fun ls hl => ?_)
                refine lv_iload S.1 S.2.1 dL_areTasksRight_124 (lv_at hl 0 rfl) ?_
                refine lv_iload S.1 S.2.1 dL_areTasksRight_126 (lv_at hl 2 rfl) ?_
                refine lv_if_eq (tgt := 135) S.1 S.2.1 dL_areTasksRight_128 (by decide) (fun c152 => ?_) (fun c152 => ?_)
                · have hf := it_t hf c152
                  refine lv_iconst (v := 1) S.1 S.2.1 dL_areTasksRight_135 (by decide) ?_
                  refine lv_icmp_ne (tgt := 188) S.1 S.2.1 dL_areTasksRight_136 (by decide) (fun c153 => ?_) (fun c153 => ?_)
                  · have hf := it_f hf c153
                    refine lv_iconst (v := 0) S.1 S.2.1 dL_areTasksRight_188 (by decide) ?_
                    obtain rfl := Option.some.inj hf
                    refine W.widen (k := 1) (n := 24) (Nat.le_of_ble_eq_true rfl) (Nat.le_of_ble_eq_true rfl) ?_
                    exact mm_zret S hR hS hr hlocks (Or.inl rfl) dL_areTasksRight_189
                  · have hf := it_t hf c153
                    refine mm_aload_n S dL_areTasksRight_139 rfl (lv_at hl 5 rfl) ?_
                    refine lv_iload S.1 S.2.1 dL_areTasksRight_140 (lv_at hl 8 rfl) ?_
                    refine lv_iconst (v := 1) S.1 S.2.1 dL_areTasksRight_142 (by decide) ?_
                    obtain ⟨y154, hy154, hf⟩ := bd hf
                    obtain ⟨g155, hf⟩ := gd hf
                    refine mm_callVi S hR hS hA (As := [.int x4, .int 1]) (rest := []) cvL_68 (hK.k g3) (kX6_ofTask_c l G A (hK.k g3) hy154 g155) rfl rfl ⟨Nat.le_of_ble_eq_true rfl, Nat.le_of_ble_eq_true rfl⟩ rfl hl.1 rfl (lv_room (by simp [rf_cat, int_cat, long_cat])) dL_areTasksRight_143 ⟨Nat.le_of_ble_eq_true rfl, Nat.le_of_ble_eq_true rfl⟩ (fun H locs hR hS => ?_)
                    have hK : mmKN μ y154.2.2 := hK.tr (kX6_ofTask_kn hy154)
                    refine lv_if_lt (tgt := 165) S.1 S.2.1 dL_areTasksRight_146 (by decide) (fun c156 => ?_) (fun c156 => ?_)
                    · have hf := it_t hf c156
                      exact wbL_areTasksRight_165 E0 kk12 hkk12 h0 h1 x2 (x3 + 0) x4 y19.2.1 y21.2.1 y154.2.2 hf _ _ _ hR hS (lv_sub hl [5, 6, 7, 1, 8, 4, 3] rfl)
                    · have hf := it_f hf c156
                      refine mm_aload_n S dL_areTasksRight_149 rfl (lv_at hl 5 rfl) ?_
                      refine lv_iload S.1 S.2.1 dL_areTasksRight_150 (lv_at hl 8 rfl) ?_
                      refine lv_iconst (v := 1) S.1 S.2.1 dL_areTasksRight_152 (by decide) ?_
                      obtain ⟨y157, hy157, hf⟩ := bd hf
                      obtain ⟨g158, hf⟩ := gd hf
                      refine mm_callVi S hR hS hA (As := [.int x4, .int 1]) (rest := []) cvL_68 (hK.k g3) (kX6_ofTask_c l G A (hK.k g3) hy157 g158) rfl rfl ⟨Nat.le_of_ble_eq_true rfl, Nat.le_of_ble_eq_true rfl⟩ rfl hl.1 rfl (lv_room (by simp [rf_cat, int_cat, long_cat])) dL_areTasksRight_153 ⟨Nat.le_of_ble_eq_true rfl, Nat.le_of_ble_eq_true rfl⟩ (fun H locs hR hS => ?_)
                      have hK : mmKN μ y157.2.2 := hK.tr (kX6_ofTask_kn hy157)
                      refine mm_aload_n S dL_areTasksRight_156 rfl (lv_at hl 5 rfl) ?_
                      refine lv_bipush (v := 9) S.1 S.2.1 dL_areTasksRight_157 (by decide) ?_
                      obtain ⟨y159, hy159, hf⟩ := bd hf
                      obtain ⟨g160, hf⟩ := gd hf
                      refine mm_callVi S hR hS hA (As := [.int 9]) (rest := [.int y157.2.1]) cvL_39 (hK.k g3) (kX6_many_c l G A (hK.k g3) hy159 g160) rfl rfl ⟨Nat.le_of_ble_eq_true rfl, Nat.le_of_ble_eq_true rfl⟩ rfl hl.1 rfl (lv_room (by simp [rf_cat, int_cat, long_cat])) dL_areTasksRight_159 ⟨Nat.le_of_ble_eq_true rfl, Nat.le_of_ble_eq_true rfl⟩ (fun H locs hR hS => ?_)
                      have hK : mmKN μ y159.2.2 := hK.tr (kX6_many_kn hy159)
                      refine lv_icmp_le (tgt := 188) S.1 S.2.1 dL_areTasksRight_162 (by decide) (fun c161 => ?_) (fun c161 => ?_)
                      · have hf := it_t hf c161
                        refine lv_iconst (v := 0) S.1 S.2.1 dL_areTasksRight_188 (by decide) ?_
                        obtain rfl := Option.some.inj hf
                        refine W.widen (k := 1) (n := 24) (Nat.le_of_ble_eq_true rfl) (Nat.le_of_ble_eq_true rfl) ?_
                        exact mm_zret S hR hS hr hlocks (Or.inl rfl) dL_areTasksRight_189
                      · have hf := it_f hf c161
                        exact wbL_areTasksRight_165 E0 kk12 hkk12 h0 h1 x2 (x3 + 0) x4 y19.2.1 y21.2.1 y159.2.2 hf _ _ _ hR hS (lv_sub hl [5, 6, 7, 1, 8, 4, 3] rfl)
                · have hf := it_f hf c152
                  refine lv_iconst (v := 0) S.1 S.2.1 dL_areTasksRight_131 (by decide) ?_
                  refine lv_goto (tgt := 136) S.1 S.2.1 dL_areTasksRight_132 (by decide) ?_
                  refine lv_icmp_ne (tgt := 188) S.1 S.2.1 dL_areTasksRight_136 (by decide) (fun c162 => ?_) (fun c162 => ?_)
                  · have hf := it_f hf c162
                    refine lv_iconst (v := 0) S.1 S.2.1 dL_areTasksRight_188 (by decide) ?_
                    obtain rfl := Option.some.inj hf
                    refine W.widen (k := 1) (n := 24) (Nat.le_of_ble_eq_true rfl) (Nat.le_of_ble_eq_true rfl) ?_
                    exact mm_zret S hR hS hr hlocks (Or.inl rfl) dL_areTasksRight_189
                  · have hf := it_t hf c162
                    refine mm_aload_n S dL_areTasksRight_139 rfl (lv_at hl 5 rfl) ?_
                    refine lv_iload S.1 S.2.1 dL_areTasksRight_140 (lv_at hl 8 rfl) ?_
                    refine lv_iconst (v := 1) S.1 S.2.1 dL_areTasksRight_142 (by decide) ?_
                    obtain ⟨y163, hy163, hf⟩ := bd hf
                    obtain ⟨g164, hf⟩ := gd hf
                    refine mm_callVi S hR hS hA (As := [.int x4, .int 1]) (rest := []) cvL_68 (hK.k g3) (kX6_ofTask_c l G A (hK.k g3) hy163 g164) rfl rfl ⟨Nat.le_of_ble_eq_true rfl, Nat.le_of_ble_eq_true rfl⟩ rfl hl.1 rfl (lv_room (by simp [rf_cat, int_cat, long_cat])) dL_areTasksRight_143 ⟨Nat.le_of_ble_eq_true rfl, Nat.le_of_ble_eq_true rfl⟩ (fun H locs hR hS => ?_)
                    have hK : mmKN μ y163.2.2 := hK.tr (kX6_ofTask_kn hy163)
                    refine lv_if_lt (tgt := 165) S.1 S.2.1 dL_areTasksRight_146 (by decide) (fun c165 => ?_) (fun c165 => ?_)
                    · have hf := it_t hf c165
                      exact wbL_areTasksRight_165 E0 kk12 hkk12 h0 h1 x2 (x3 + 0) x4 y19.2.1 y21.2.1 y163.2.2 hf _ _ _ hR hS (lv_sub hl [5, 6, 7, 1, 8, 4, 3] rfl)
                    · have hf := it_f hf c165
                      refine mm_aload_n S dL_areTasksRight_149 rfl (lv_at hl 5 rfl) ?_
                      refine lv_iload S.1 S.2.1 dL_areTasksRight_150 (lv_at hl 8 rfl) ?_
                      refine lv_iconst (v := 1) S.1 S.2.1 dL_areTasksRight_152 (by decide) ?_
                      obtain ⟨y166, hy166, hf⟩ := bd hf
                      obtain ⟨g167, hf⟩ := gd hf
                      refine mm_callVi S hR hS hA (As := [.int x4, .int 1]) (rest := []) cvL_68 (hK.k g3) (kX6_ofTask_c l G A (hK.k g3) hy166 g167) rfl rfl ⟨Nat.le_of_ble_eq_true rfl, Nat.le_of_ble_eq_true rfl⟩ rfl hl.1 rfl (lv_room (by simp [rf_cat, int_cat, long_cat])) dL_areTasksRight_153 ⟨Nat.le_of_ble_eq_true rfl, Nat.le_of_ble_eq_true rfl⟩ (fun H locs hR hS => ?_)
                      have hK : mmKN μ y166.2.2 := hK.tr (kX6_ofTask_kn hy166)
                      refine mm_aload_n S dL_areTasksRight_156 rfl (lv_at hl 5 rfl) ?_
                      refine lv_bipush (v := 9) S.1 S.2.1 dL_areTasksRight_157 (by decide) ?_
                      obtain ⟨y168, hy168, hf⟩ := bd hf
                      obtain ⟨g169, hf⟩ := gd hf
                      refine mm_callVi S hR hS hA (As := [.int 9]) (rest := [.int y166.2.1]) cvL_39 (hK.k g3) (kX6_many_c l G A (hK.k g3) hy168 g169) rfl rfl ⟨Nat.le_of_ble_eq_true rfl, Nat.le_of_ble_eq_true rfl⟩ rfl hl.1 rfl (lv_room (by simp [rf_cat, int_cat, long_cat])) dL_areTasksRight_159 ⟨Nat.le_of_ble_eq_true rfl, Nat.le_of_ble_eq_true rfl⟩ (fun H locs hR hS => ?_)
                      have hK : mmKN μ y168.2.2 := hK.tr (kX6_many_kn hy168)
                      refine lv_icmp_le (tgt := 188) S.1 S.2.1 dL_areTasksRight_162 (by decide) (fun c170 => ?_) (fun c170 => ?_)
                      · have hf := it_t hf c170
                        refine lv_iconst (v := 0) S.1 S.2.1 dL_areTasksRight_188 (by decide) ?_
                        obtain rfl := Option.some.inj hf
                        refine W.widen (k := 1) (n := 24) (Nat.le_of_ble_eq_true rfl) (Nat.le_of_ble_eq_true rfl) ?_
                        exact mm_zret S hR hS hr hlocks (Or.inl rfl) dL_areTasksRight_189
                      · have hf := it_f hf c170
                        exact wbL_areTasksRight_165 E0 kk12 hkk12 h0 h1 x2 (x3 + 0) x4 y19.2.1 y21.2.1 y168.2.2 hf _ _ _ hR hS (lv_sub hl [5, 6, 7, 1, 8, 4, 3] rfl)
              · have hf := it_f hf c151
                refine lv_iconst (v := 1) S.1 S.2.1 dL_areTasksRight_116 (by decide) ?_
                refine lv_goto (tgt := 121) S.1 S.2.1 dL_areTasksRight_117 (by decide) ?_
                refine lv_iadd S.1 S.2.1 dL_areTasksRight_121 ?_
                refine lv_istore (i := 8) (lv' := [(8, .int ((1 + 1) + 1)), (3, .int (x3 + 0)), (7, .int 0), (6, .int y21.2.1), (5, .int y19.2.1), (0, rf h0), (1, rf h1), (2, .int x2), (4, .int x4)]) S.1 S.2.1 dL_areTasksRight_122 hl (by decide) rfl (fun ls hl => ?_)
                refine lv_iload S.1 S.2.1 dL_areTasksRight_124 (lv_at hl 0 rfl) ?_
                refine lv_iload S.1 S.2.1 dL_areTasksRight_126 (lv_at hl 2 rfl) ?_
                refine lv_if_eq (tgt := 135) S.1 S.2.1 dL_areTasksRight_128 (by decide) (fun c171 => ?_) (fun c171 => ?_)
                · have hf := it_t hf c171
                  refine lv_iconst (v := 1) S.1 S.2.1 dL_areTasksRight_135 (by decide) ?_
                  refine lv_icmp_ne (tgt := 188) S.1 S.2.1 dL_areTasksRight_136 (by decide) (fun c172 => ?_) (fun c172 => ?_)
                  · have hf := it_f hf c172
                    refine lv_iconst (v := 0) S.1 S.2.1 dL_areTasksRight_188 (by decide) ?_
                    obtain rfl := Option.some.inj hf
                    refine W.widen (k := 1) (n := 24) (Nat.le_of_ble_eq_true rfl) (Nat.le_of_ble_eq_true rfl) ?_
                    exact mm_zret S hR hS hr hlocks (Or.inl rfl) dL_areTasksRight_189
                  · have hf := it_t hf c172
                    refine mm_aload_n S dL_areTasksRight_139 rfl (lv_at hl 5 rfl) ?_
                    refine lv_iload S.1 S.2.1 dL_areTasksRight_140 (lv_at hl 8 rfl) ?_
                    refine lv_iconst (v := 1) S.1 S.2.1 dL_areTasksRight_142 (by decide) ?_
                    obtain ⟨y173, hy173, hf⟩ := bd hf
                    obtain ⟨g174, hf⟩ := gd hf
                    refine mm_callVi S hR hS hA (As := [.int x4, .int 1]) (rest := []) cvL_68 (hK.k g3) (kX6_ofTask_c l G A (hK.k g3) hy173 g174) rfl rfl ⟨Nat.le_of_ble_eq_true rfl, Nat.le_of_ble_eq_true rfl⟩ rfl hl.1 rfl (lv_room (by simp [rf_cat, int_cat, long_cat])) dL_areTasksRight_143 ⟨Nat.le_of_ble_eq_true rfl, Nat.le_of_ble_eq_true rfl⟩ (fun H locs hR hS => ?_)
                    have hK : mmKN μ y173.2.2 := hK.tr (kX6_ofTask_kn hy173)
                    refine lv_if_lt (tgt := 165) S.1 S.2.1 dL_areTasksRight_146 (by decide) (fun c175 => ?_) (fun c175 => ?_)
                    · have hf := it_t hf c175
                      exact wbL_areTasksRight_165 E0 kk12 hkk12 h0 h1 x2 (x3 + 0) x4 y19.2.1 y21.2.1 y173.2.2 hf _ _ _ hR hS (lv_sub hl [5, 6, 7, 1, 8, 4, 3] rfl)
                    · have hf := it_f hf c175
                      refine mm_aload_n S dL_areTasksRight_149 rfl (lv_at hl 5 rfl) ?_
                      refine lv_iload S.1 S.2.1 dL_areTasksRight_150 (lv_at hl 8 rfl) ?_
                      refine lv_iconst (v := 1) S.1 S.2.1 dL_areTasksRight_152 (by decide) ?_
                      obtain ⟨y176, hy176, hf⟩ := bd hf
                      obtain ⟨g177, hf⟩ := gd hf
                      refine mm_callVi S hR hS hA (As := [.int x4, .int 1]) (rest := []) cvL_68 (hK.k g3) (kX6_ofTask_c l G A (hK.k g3) hy176 g177) rfl rfl ⟨Nat.le_of_ble_eq_true rfl, Nat.le_of_ble_eq_true rfl⟩ rfl hl.1 rfl (lv_room (by simp [rf_cat, int_cat, long_cat])) dL_areTasksRight_153 ⟨Nat.le_of_ble_eq_true rfl, Nat.le_of_ble_eq_true rfl⟩ (fun H locs hR hS => ?_)
                      have hK : mmKN μ y176.2.2 := hK.tr (kX6_ofTask_kn hy176)
                      refine mm_aload_n S dL_areTasksRight_156 rfl (lv_at hl 5 rfl) ?_
                      refine lv_bipush (v := 9) S.1 S.2.1 dL_areTasksRight_157 (by decide) ?_
                      obtain ⟨y178, hy178, hf⟩ := bd hf
                      obtain ⟨g179, hf⟩ := gd hf
                      refine mm_callVi S hR hS hA (As := [.int 9]) (rest := [.int y176.2.1]) cvL_39 (hK.k g3) (kX6_many_c l G A (hK.k g3) hy178 g179) rfl rfl ⟨Nat.le_of_ble_eq_true rfl, Nat.le_of_ble_eq_true rfl⟩ rfl hl.1 rfl (lv_room (by simp [rf_cat, int_cat, long_cat])) dL_areTasksRight_159 ⟨Nat.le_of_ble_eq_true rfl, Nat.le_of_ble_eq_true rfl⟩ (fun H locs hR hS => ?_)
                      have hK : mmKN μ y178.2.2 := hK.tr (kX6_many_kn hy178)
                      refine lv_icmp_le (tgt := 188) S.1 S.2.1 dL_areTasksRight_162 (by decide) (fun c180 => ?_) (fun c180 => ?_)
                      · have hf := it_t hf c180
                        refine lv_iconst (v := 0) S.1 S.2.1 dL_areTasksRight_188 (by decide) ?_
                        obtain rfl := Option.some.inj hf
                        refine W.widen (k := 1) (n := 24) (Nat.le_of_ble_eq_true rfl) (Nat.le_of_ble_eq_true rfl) ?_
                        exact mm_zret S hR hS hr hlocks (Or.inl rfl) dL_areTasksRight_189
                      · have hf := it_f hf c180
                        exact wbL_areTasksRight_165 E0 kk12 hkk12 h0 h1 x2 (x3 + 0) x4 y19.2.1 y21.2.1 y178.2.2 hf _ _ _ hR hS (lv_sub hl [5, 6, 7, 1, 8, 4, 3] rfl)
                · have hf := it_f hf c171
                  refine lv_iconst (v := 0) S.1 S.2.1 dL_areTasksRight_131 (by decide) ?_
                  refine lv_goto (tgt := 136) S.1 S.2.1 dL_areTasksRight_132 (by decide) ?_
                  refine lv_icmp_ne (tgt := 188) S.1 S.2.1 dL_areTasksRight_136 (by decide) (fun c181 => ?_) (fun c181 => ?_)
                  · have hf := it_f hf c181
                    refine lv_iconst (v := 0) S.1 S.2.1 dL_areTasksRight_188 (by decide) ?_
                    obtain rfl := Option.some.inj hf
                    refine W.widen (k := 1) (n := 24) (Nat.le_of_ble_eq_true rfl) (Nat.le_of_ble_eq_true rfl) ?_
                    exact mm_zret S hR hS hr hlocks (Or.inl rfl) dL_areTasksRight_189
                  · have hf := it_t hf c181
                    refine mm_aload_n S dL_areTasksRight_139 rfl (lv_at hl 5 rfl) ?_
                    refine lv_iload S.1 S.2.1 dL_areTasksRight_140 (lv_at hl 8 rfl) ?_
                    refine lv_iconst (v := 1) S.1 S.2.1 dL_areTasksRight_142 (by decide) ?_
                    obtain ⟨y182, hy182, hf⟩ := bd hf
                    obtain ⟨g183, hf⟩ := gd hf
                    refine mm_callVi S hR hS hA (As := [.int x4, .int 1]) (rest := []) cvL_68 (hK.k g3) (kX6_ofTask_c l G A (hK.k g3) hy182 g183) rfl rfl ⟨Nat.le_of_ble_eq_true rfl, Nat.le_of_ble_eq_true rfl⟩ rfl hl.1 rfl (lv_room (by simp [rf_cat, int_cat, long_cat])) dL_areTasksRight_143 ⟨Nat.le_of_ble_eq_true rfl, Nat.le_of_ble_eq_true rfl⟩ (fun H locs hR hS => ?_)
                    have hK : mmKN μ y182.2.2 := hK.tr (kX6_ofTask_kn hy182)
                    refine lv_if_lt (tgt := 165) S.1 S.2.1 dL_areTasksRight_146 (by decide) (fun c184 => ?_) (fun c184 => ?_)
                    · have hf := it_t hf c184
                      exact wbL_areTasksRight_165 E0 kk12 hkk12 h0 h1 x2 (x3 + 0) x4 y19.2.1 y21.2.1 y182.2.2 hf _ _ _ hR hS (lv_sub hl [5, 6, 7, 1, 8, 4, 3] rfl)
                    · have hf := it_f hf c184
                      refine mm_aload_n S dL_areTasksRight_149 rfl (lv_at hl 5 rfl) ?_
                      refine lv_iload S.1 S.2.1 dL_areTasksRight_150 (lv_at hl 8 rfl) ?_
                      refine lv_iconst (v := 1) S.1 S.2.1 dL_areTasksRight_152 (by decide) ?_
                      obtain ⟨y185, hy185, hf⟩ := bd hf
                      obtain ⟨g186, hf⟩ := gd hf
                      refine mm_callVi S hR hS hA (As := [.int x4, .int 1]) (rest := []) cvL_68 (hK.k g3) (kX6_ofTask_c l G A (hK.k g3) hy185 g186) rfl rfl ⟨Nat.le_of_ble_eq_true rfl, Nat.le_of_ble_eq_true rfl⟩ rfl hl.1 rfl (lv_room (by simp [rf_cat, int_cat, long_cat])) dL_areTasksRight_153 ⟨Nat.le_of_ble_eq_true rfl, Nat.le_of_ble_eq_true rfl⟩ (fun H locs hR hS => ?_)
                      have hK : mmKN μ y185.2.2 := hK.tr (kX6_ofTask_kn hy185)
                      refine mm_aload_n S dL_areTasksRight_156 rfl (lv_at hl 5 rfl) ?_
                      refine lv_bipush (v := 9) S.1 S.2.1 dL_areTasksRight_157 (by decide) ?_
                      obtain ⟨y187, hy187, hf⟩ := bd hf
                      obtain ⟨g188, hf⟩ := gd hf
                      refine mm_callVi S hR hS hA (As := [.int 9]) (rest := [.int y185.2.1]) cvL_39 (hK.k g3) (kX6_many_c l G A (hK.k g3) hy187 g188) rfl rfl ⟨Nat.le_of_ble_eq_true rfl, Nat.le_of_ble_eq_true rfl⟩ rfl hl.1 rfl (lv_room (by simp [rf_cat, int_cat, long_cat])) dL_areTasksRight_159 ⟨Nat.le_of_ble_eq_true rfl, Nat.le_of_ble_eq_true rfl⟩ (fun H locs hR hS => ?_)
                      have hK : mmKN μ y187.2.2 := hK.tr (kX6_many_kn hy187)
                      refine lv_icmp_le (tgt := 188) S.1 S.2.1 dL_areTasksRight_162 (by decide) (fun c189 => ?_) (fun c189 => ?_)
                      · have hf := it_t hf c189
                        refine lv_iconst (v := 0) S.1 S.2.1 dL_areTasksRight_188 (by decide) ?_
                        obtain rfl := Option.some.inj hf
                        refine W.widen (k := 1) (n := 24) (Nat.le_of_ble_eq_true rfl) (Nat.le_of_ble_eq_true rfl) ?_
                        exact mm_zret S hR hS hr hlocks (Or.inl rfl) dL_areTasksRight_189
                      · have hf := it_f hf c189
                        exact wbL_areTasksRight_165 E0 kk12 hkk12 h0 h1 x2 (x3 + 0) x4 y19.2.1 y21.2.1 y187.2.2 hf _ _ _ hR hS (lv_sub hl [5, 6, 7, 1, 8, 4, 3] rfl)
        · have hf := it_f hf c26
          refine lv_iconst (v := 1) S.1 S.2.1 dL_areTasksRight_78 (by decide) ?_
          refine lv_goto (tgt := 83) S.1 S.2.1 dL_areTasksRight_79 (by decide) ?_
          refine lv_iadd S.1 S.2.1 dL_areTasksRight_83 ?_
          refine lv_istore_n (i := 3) (lv' := [(3, .int (x3 + 1)), (7, .int 0), (6, .int y21.2.1), (5, .int y19.2.1), (0, rf h0), (1, rf h1), (2, .int x2), (4, .int x4)]) S.1 S.2.1 dL_areTasksRight_84 rfl hl (by decide) rfl (fun ls hl => ?_)
          refine lv_iload S.1 S.2.1 dL_areTasksRight_85 (lv_at hl 3 rfl) ?_
          refine lv_if_lt (tgt := 94) S.1 S.2.1 dL_areTasksRight_87 (by decide) (fun c190 => ?_) (fun c190 => ?_)
          · have hf := it_t hf c190
            refine lv_iconst (v := 0) S.1 S.2.1 dL_areTasksRight_94 (by decide) ?_
            refine mm_aload_n S dL_areTasksRight_95 rfl (lv_at hl 4 rfl) ?_
            refine lv_iload S.1 S.2.1 dL_areTasksRight_96 (lv_at hl 7 rfl) ?_
            refine lv_iconst (v := 1) S.1 S.2.1 dL_areTasksRight_98 (by decide) ?_
            obtain ⟨y191, hy191, hf⟩ := bd hf
            obtain ⟨g192, hf⟩ := gd hf
            refine mm_callVi S hR hS hA (As := [.int x4, .int 1]) (rest := [.int 0]) cvL_68 (hK.k g3) (kX6_ofTask_c l G A (hK.k g3) hy191 g192) rfl rfl ⟨Nat.le_of_ble_eq_true rfl, Nat.le_of_ble_eq_true rfl⟩ rfl hl.1 rfl (lv_room (by simp [rf_cat, int_cat, long_cat])) dL_areTasksRight_99 ⟨Nat.le_of_ble_eq_true rfl, Nat.le_of_ble_eq_true rfl⟩ (fun H locs hR hS => ?_)
            have hK : mmKN μ y191.2.2 := hK.tr (kX6_ofTask_kn hy191)
            refine lv_if_lt (tgt := 109) S.1 S.2.1 dL_areTasksRight_102 (by decide) (fun c193 => ?_) (fun c193 => ?_)
            · have hf := it_t hf c193
              refine lv_iconst (v := 0) S.1 S.2.1 dL_areTasksRight_109 (by decide) ?_
              refine lv_iadd S.1 S.2.1 dL_areTasksRight_110 ?_
              refine lv_iload S.1 S.2.1 dL_areTasksRight_111 (lv_at hl 2 rfl) ?_
              refine lv_if_lt (tgt := 120) S.1 S.2.1 dL_areTasksRight_113 (by decide) (fun c194 => ?_) (fun c194 => ?_)
              · have hf := it_t hf c194
                refine lv_iconst (v := 0) S.1 S.2.1 dL_areTasksRight_120 (by decide) ?_
                refine lv_iadd S.1 S.2.1 dL_areTasksRight_121 ?_
                refine lv_istore (i := 8) (lv' := [(8, .int ((0 + 0) + 0)), (3, .int (x3 + 1)), (7, .int 0), (6, .int y21.2.1), (5, .int y19.2.1), (0, rf h0), (1, rf h1), (2, .int x2), (4, .int x4)]) S.1 S.2.1 dL_areTasksRight_122 hl (by decide) rfl (fun ls hl => ?_)
                refine lv_iload S.1 S.2.1 dL_areTasksRight_124 (lv_at hl 0 rfl) ?_
                refine lv_iload S.1 S.2.1 dL_areTasksRight_126 (lv_at hl 2 rfl) ?_
                refine lv_if_eq (tgt := 135) S.1 S.2.1 dL_areTasksRight_128 (by decide) (fun c195 => ?_) (fun c195 => ?_)
                · have hf := it_t hf c195
                  refine lv_iconst (v := 1) S.1 S.2.1 dL_areTasksRight_135 (by decide) ?_
                  refine lv_icmp_ne (tgt := 188) S.1 S.2.1 dL_areTasksRight_136 (by decide) (fun c196 => ?_) (fun c196 => ?_)
                  · have hf := it_f hf c196
                    refine lv_iconst (v := 0) S.1 S.2.1 dL_areTasksRight_188 (by decide) ?_
                    obtain rfl := Option.some.inj hf
                    refine W.widen (k := 1) (n := 24) (Nat.le_of_ble_eq_true rfl) (Nat.le_of_ble_eq_true rfl) ?_
                    exact mm_zret S hR hS hr hlocks (Or.inl rfl) dL_areTasksRight_189
                  · have hf := it_t hf c196
                    refine mm_aload_n S dL_areTasksRight_139 rfl (lv_at hl 5 rfl) ?_
                    refine lv_iload S.1 S.2.1 dL_areTasksRight_140 (lv_at hl 8 rfl) ?_
                    refine lv_iconst (v := 1) S.1 S.2.1 dL_areTasksRight_142 (by decide) ?_
                    obtain ⟨y197, hy197, hf⟩ := bd hf
                    obtain ⟨g198, hf⟩ := gd hf
                    refine mm_callVi S hR hS hA (As := [.int x4, .int 1]) (rest := []) cvL_68 (hK.k g3) (kX6_ofTask_c l G A (hK.k g3) hy197 g198) rfl rfl ⟨Nat.le_of_ble_eq_true rfl, Nat.le_of_ble_eq_true rfl⟩ rfl hl.1 rfl (lv_room (by simp [rf_cat, int_cat, long_cat])) dL_areTasksRight_143 ⟨Nat.le_of_ble_eq_true rfl, Nat.le_of_ble_eq_true rfl⟩ (fun H locs hR hS => ?_)
                    have hK : mmKN μ y197.2.2 := hK.tr (kX6_ofTask_kn hy197)
                    refine lv_if_lt (tgt := 165) S.1 S.2.1 dL_areTasksRight_146 (by decide) (fun c199 => ?_) (fun c199 => ?_)
                    · have hf := it_t hf c199
                      exact wbL_areTasksRight_165 E0 kk12 hkk12 h0 h1 x2 (x3 + 1) x4 y19.2.1 y21.2.1 y197.2.2 hf _ _ _ hR hS (lv_sub hl [5, 6, 7, 1, 8, 4, 3] rfl)
                    · have hf := it_f hf c199
                      refine mm_aload_n S dL_areTasksRight_149 rfl (lv_at hl 5 rfl) ?_
                      refine lv_iload S.1 S.2.1 dL_areTasksRight_150 (lv_at hl 8 rfl) ?_
                      refine lv_iconst (v := 1) S.1 S.2.1 dL_areTasksRight_152 (by decide) ?_
                      obtain ⟨y200, hy200, hf⟩ := bd hf
                      obtain ⟨g201, hf⟩ := gd hf
                      refine mm_callVi S hR hS hA (As := [.int x4, .int 1]) (rest := []) cvL_68 (hK.k g3) (kX6_ofTask_c l G A (hK.k g3) hy200 g201) rfl rfl ⟨Nat.le_of_ble_eq_true rfl, Nat.le_of_ble_eq_true rfl⟩ rfl hl.1 rfl (lv_room (by simp [rf_cat, int_cat, long_cat])) dL_areTasksRight_153 ⟨Nat.le_of_ble_eq_true rfl, Nat.le_of_ble_eq_true rfl⟩ (fun H locs hR hS => ?_)
                      have hK : mmKN μ y200.2.2 := hK.tr (kX6_ofTask_kn hy200)
                      refine mm_aload_n S dL_areTasksRight_156 rfl (lv_at hl 5 rfl) ?_
                      refine lv_bipush (v := 9) S.1 S.2.1 dL_areTasksRight_157 (by decide) ?_
                      obtain ⟨y202, hy202, hf⟩ := bd hf
                      obtain ⟨g203, hf⟩ := gd hf
                      refine mm_callVi S hR hS hA (As := [.int 9]) (rest := [.int y200.2.1]) cvL_39 (hK.k g3) (kX6_many_c l G A (hK.k g3) hy202 g203) rfl rfl ⟨Nat.le_of_ble_eq_true rfl, Nat.le_of_ble_eq_true rfl⟩ rfl hl.1 rfl (lv_room (by simp [rf_cat, int_cat, long_cat])) dL_areTasksRight_159 ⟨Nat.le_of_ble_eq_true rfl, Nat.le_of_ble_eq_true rfl⟩ (fun H locs hR hS => ?_)
                      have hK : mmKN μ y202.2.2 := hK.tr (kX6_many_kn hy202)
                      refine lv_icmp_le (tgt := 188) S.1 S.2.1 dL_areTasksRight_162 (by decide) (fun c204 => ?_) (fun c204 => ?_)
                      · have hf := it_t hf c204
                        refine lv_iconst (v := 0) S.1 S.2.1 dL_areTasksRight_188 (by decide) ?_
                        obtain rfl := Option.some.inj hf
                        refine W.widen (k := 1) (n := 24) (Nat.le_of_ble_eq_true rfl) (Nat.le_of_ble_eq_true rfl) ?_
                        exact mm_zret S hR hS hr hlocks (Or.inl rfl) dL_areTasksRight_189
                      · have hf := it_f hf c204
                        exact wbL_areTasksRight_165 E0 kk12 hkk12 h0 h1 x2 (x3 + 1) x4 y19.2.1 y21.2.1 y202.2.2 hf _ _ _ hR hS (lv_sub hl [5, 6, 7, 1, 8, 4, 3] rfl)
                · have hf := it_f hf c195
                  refine lv_iconst (v := 0) S.1 S.2.1 dL_areTasksRight_131 (by decide) ?_
                  refine lv_goto (tgt := 136) S.1 S.2.1 dL_areTasksRight_132 (by decide) ?_
                  refine lv_icmp_ne (tgt := 188) S.1 S.2.1 dL_areTasksRight_136 (by decide) (fun c205 => ?_) (fun c205 => ?_)
                  · have hf := it_f hf c205
                    refine lv_iconst (v := 0) S.1 S.2.1 dL_areTasksRight_188 (by decide) ?_
                    obtain rfl := Option.some.inj hf
                    refine W.widen (k := 1) (n := 24) (Nat.le_of_ble_eq_true rfl) (Nat.le_of_ble_eq_true rfl) ?_
                    exact mm_zret S hR hS hr hlocks (Or.inl rfl) dL_areTasksRight_189
                  · have hf := it_t hf c205
                    refine mm_aload_n S dL_areTasksRight_139 rfl (lv_at hl 5 rfl) ?_
                    refine lv_iload S.1 S.2.1 dL_areTasksRight_140 (lv_at hl 8 rfl) ?_
                    refine lv_iconst (v := 1) S.1 S.2.1 dL_areTasksRight_142 (by decide) ?_
                    obtain ⟨y206, hy206, hf⟩ := bd hf
                    obtain ⟨g207, hf⟩ := gd hf
                    refine mm_callVi S hR hS hA (As := [.int x4, .int 1]) (rest := []) cvL_68 (hK.k g3) (kX6_ofTask_c l G A (hK.k g3) hy206 g207) rfl rfl ⟨Nat.le_of_ble_eq_true rfl, Nat.le_of_ble_eq_true rfl⟩ rfl hl.1 rfl (lv_room (by simp [rf_cat, int_cat, long_cat])) dL_areTasksRight_143 ⟨Nat.le_of_ble_eq_true rfl, Nat.le_of_ble_eq_true rfl⟩ (fun H locs hR hS => ?_)
                    have hK : mmKN μ y206.2.2 := hK.tr (kX6_ofTask_kn hy206)
                    refine lv_if_lt (tgt := 165) S.1 S.2.1 dL_areTasksRight_146 (by decide) (fun c208 => ?_) (fun c208 => ?_)
                    · have hf := it_t hf c208
                      exact wbL_areTasksRight_165 E0 kk12 hkk12 h0 h1 x2 (x3 + 1) x4 y19.2.1 y21.2.1 y206.2.2 hf _ _ _ hR hS (lv_sub hl [5, 6, 7, 1, 8, 4, 3] rfl)
                    · have hf := it_f hf c208
                      refine mm_aload_n S dL_areTasksRight_149 rfl (lv_at hl 5 rfl) ?_
                      refine lv_iload S.1 S.2.1 dL_areTasksRight_150 (lv_at hl 8 rfl) ?_
                      refine lv_iconst (v := 1) S.1 S.2.1 dL_areTasksRight_152 (by decide) ?_
                      obtain ⟨y209, hy209, hf⟩ := bd hf
                      obtain ⟨g210, hf⟩ := gd hf
                      refine mm_callVi S hR hS hA (As := [.int x4, .int 1]) (rest := []) cvL_68 (hK.k g3) (kX6_ofTask_c l G A (hK.k g3) hy209 g210) rfl rfl ⟨Nat.le_of_ble_eq_true rfl, Nat.le_of_ble_eq_true rfl⟩ rfl hl.1 rfl (lv_room (by simp [rf_cat, int_cat, long_cat])) dL_areTasksRight_153 ⟨Nat.le_of_ble_eq_true rfl, Nat.le_of_ble_eq_true rfl⟩ (fun H locs hR hS => ?_)
                      have hK : mmKN μ y209.2.2 := hK.tr (kX6_ofTask_kn hy209)
                      refine mm_aload_n S dL_areTasksRight_156 rfl (lv_at hl 5 rfl) ?_
                      refine lv_bipush (v := 9) S.1 S.2.1 dL_areTasksRight_157 (by decide) ?_
                      obtain ⟨y211, hy211, hf⟩ := bd hf
                      obtain ⟨g212, hf⟩ := gd hf
                      refine mm_callVi S hR hS hA (As := [.int 9]) (rest := [.int y209.2.1]) cvL_39 (hK.k g3) (kX6_many_c l G A (hK.k g3) hy211 g212) rfl rfl ⟨Nat.le_of_ble_eq_true rfl, Nat.le_of_ble_eq_true rfl⟩ rfl hl.1 rfl (lv_room (by simp [rf_cat, int_cat, long_cat])) dL_areTasksRight_159 ⟨Nat.le_of_ble_eq_true rfl, Nat.le_of_ble_eq_true rfl⟩ (fun H locs hR hS => ?_)
                      have hK : mmKN μ y211.2.2 := hK.tr (kX6_many_kn hy211)
                      refine lv_icmp_le (tgt := 188) S.1 S.2.1 dL_areTasksRight_162 (by decide) (fun c213 => ?_) (fun c213 => ?_)
                      · have hf := it_t hf c213
                        refine lv_iconst (v := 0) S.1 S.2.1 dL_areTasksRight_188 (by decide) ?_
                        obtain rfl := Option.some.inj hf
                        refine W.widen (k := 1) (n := 24) (Nat.le_of_ble_eq_true rfl) (Nat.le_of_ble_eq_true rfl) ?_
                        exact mm_zret S hR hS hr hlocks (Or.inl rfl) dL_areTasksRight_189
                      · have hf := it_f hf c213
                        exact wbL_areTasksRight_165 E0 kk12 hkk12 h0 h1 x2 (x3 + 1) x4 y19.2.1 y21.2.1 y211.2.2 hf _ _ _ hR hS (lv_sub hl [5, 6, 7, 1, 8, 4, 3] rfl)
              · have hf := it_f hf c194
                refine lv_iconst (v := 1) S.1 S.2.1 dL_areTasksRight_116 (by decide) ?_
                refine lv_goto (tgt := 121) S.1 S.2.1 dL_areTasksRight_117 (by decide) ?_
                refine lv_iadd S.1 S.2.1 dL_areTasksRight_121 ?_
                refine lv_istore (i := 8) (lv' := [(8, .int ((0 + 0) + 1)), (3, .int (x3 + 1)), (7, .int 0), (6, .int y21.2.1), (5, .int y19.2.1), (0, rf h0), (1, rf h1), (2, .int x2), (4, .int x4)]) S.1 S.2.1 dL_areTasksRight_122 hl (by decide) rfl (fun ls hl => ?_)
                refine lv_iload S.1 S.2.1 dL_areTasksRight_124 (lv_at hl 0 rfl) ?_
                refine lv_iload S.1 S.2.1 dL_areTasksRight_126 (lv_at hl 2 rfl) ?_
                refine lv_if_eq (tgt := 135) S.1 S.2.1 dL_areTasksRight_128 (by decide) (fun c214 => ?_) (fun c214 => ?_)
                · have hf := it_t hf c214
                  refine lv_iconst (v := 1) S.1 S.2.1 dL_areTasksRight_135 (by decide) ?_
                  refine lv_icmp_ne (tgt := 188) S.1 S.2.1 dL_areTasksRight_136 (by decide) (fun c215 => ?_) (fun c215 => ?_)
                  · have hf := it_f hf c215
                    refine lv_iconst (v := 0) S.1 S.2.1 dL_areTasksRight_188 (by decide) ?_
                    obtain rfl := Option.some.inj hf
                    refine W.widen (k := 1) (n := 24) (Nat.le_of_ble_eq_true rfl) (Nat.le_of_ble_eq_true rfl) ?_
                    exact mm_zret S hR hS hr hlocks (Or.inl rfl) dL_areTasksRight_189
                  · have hf := it_t hf c215
                    refine mm_aload_n S dL_areTasksRight_139 rfl (lv_at hl 5 rfl) ?_
                    refine lv_iload S.1 S.2.1 dL_areTasksRight_140 (lv_at hl 8 rfl) ?_
                    refine lv_iconst (v := 1) S.1 S.2.1 dL_areTasksRight_142 (by decide) ?_
                    obtain ⟨y216, hy216, hf⟩ := bd hf
                    obtain ⟨g217, hf⟩ := gd hf
                    refine mm_callVi S hR hS hA (As := [.int x4, .int 1]) (rest := []) cvL_68 (hK.k g3) (kX6_ofTask_c l G A (hK.k g3) hy216 g217) rfl rfl ⟨Nat.le_of_ble_eq_true rfl, Nat.le_of_ble_eq_true rfl⟩ rfl hl.1 rfl (lv_room (by simp [rf_cat, int_cat, long_cat])) dL_areTasksRight_143 ⟨Nat.le_of_ble_eq_true rfl, Nat.le_of_ble_eq_true rfl⟩ (fun H locs hR hS => ?_)
                    have hK : mmKN μ y216.2.2 := hK.tr (kX6_ofTask_kn hy216)
                    refine lv_if_lt (tgt := 165) S.1 S.2.1 dL_areTasksRight_146 (by decide) (fun c218 => ?_) (fun c218 => ?_)
                    · have hf := it_t hf c218
                      exact wbL_areTasksRight_165 E0 kk12 hkk12 h0 h1 x2 (x3 + 1) x4 y19.2.1 y21.2.1 y216.2.2 hf _ _ _ hR hS (lv_sub hl [5, 6, 7, 1, 8, 4, 3] rfl)
                    · have hf := it_f hf c218
                      refine mm_aload_n S dL_areTasksRight_149 rfl (lv_at hl 5 rfl) ?_
                      refine lv_iload S.1 S.2.1 dL_areTasksRight_150 (lv_at hl 8 rfl) ?_
                      refine lv_iconst (v := 1) S.1 S.2.1 dL_areTasksRight_152 (by decide) ?_
                      obtain ⟨y219, hy219, hf⟩ := bd hf
                      obtain ⟨g220, hf⟩ := gd hf
                      refine mm_callVi S hR hS hA (As := [.int x4, .int 1]) (rest := []) cvL_68 (hK.k g3) (kX6_ofTask_c l G A (hK.k g3) hy219 g220) rfl rfl ⟨Nat.le_of_ble_eq_true rfl, Nat.le_of_ble_eq_true rfl⟩ rfl hl.1 rfl (lv_room (by simp [rf_cat, int_cat, long_cat])) dL_areTasksRight_153 ⟨Nat.le_of_ble_eq_true rfl, Nat.le_of_ble_eq_true rfl⟩ (fun H locs hR hS => ?_)
                      have hK : mmKN μ y219.2.2 := hK.tr (kX6_ofTask_kn hy219)
                      refine mm_aload_n S dL_areTasksRight_156 rfl (lv_at hl 5 rfl) ?_
                      refine lv_bipush (v := 9) S.1 S.2.1 dL_areTasksRight_157 (by decide) ?_
                      obtain ⟨y221, hy221, hf⟩ := bd hf
                      obtain ⟨g222, hf⟩ := gd hf
                      refine mm_callVi S hR hS hA (As := [.int 9]) (rest := [.int y219.2.1]) cvL_39 (hK.k g3) (kX6_many_c l G A (hK.k g3) hy221 g222) rfl rfl ⟨Nat.le_of_ble_eq_true rfl, Nat.le_of_ble_eq_true rfl⟩ rfl hl.1 rfl (lv_room (by simp [rf_cat, int_cat, long_cat])) dL_areTasksRight_159 ⟨Nat.le_of_ble_eq_true rfl, Nat.le_of_ble_eq_true rfl⟩ (fun H locs hR hS => ?_)
                      have hK : mmKN μ y221.2.2 := hK.tr (kX6_many_kn hy221)
                      refine lv_icmp_le (tgt := 188) S.1 S.2.1 dL_areTasksRight_162 (by decide) (fun c223 => ?_) (fun c223 => ?_)
                      · have hf := it_t hf c223
                        refine lv_iconst (v := 0) S.1 S.2.1 dL_areTasksRight_188 (by decide) ?_
                        obtain rfl := Option.some.inj hf
                        refine W.widen (k := 1) (n := 24) (Nat.le_of_ble_eq_true rfl) (Nat.le_of_ble_eq_true rfl) ?_
                        exact mm_zret S hR hS hr hlocks (Or.inl rfl) dL_areTasksRight_189
                      · have hf := it_f hf c223
                        exact wbL_areTasksRight_165 E0 kk12 hkk12 h0 h1 x2 (x3 + 1) x4 y19.2.1 y21.2.1 y221.2.2 hf _ _ _ hR hS (lv_sub hl [5, 6, 7, 1, 8, 4, 3] rfl)
                · have hf := it_f hf c214
                  refine lv_iconst (v := 0) S.1 S.2.1 dL_areTasksRight_131 (by decide) ?_
                  refine lv_goto (tgt := 136) S.1 S.2.1 dL_areTasksRight_132 (by decide) ?_
                  refine lv_icmp_ne (tgt := 188) S.1 S.2.1 dL_areTasksRight_136 (by decide) (fun c224 => ?_) (fun c224 => ?_)
                  · have hf := it_f hf c224
                    refine lv_iconst (v := 0) S.1 S.2.1 dL_areTasksRight_188 (by decide) ?_
                    obtain rfl := Option.some.inj hf
                    refine W.widen (k := 1) (n := 24) (Nat.le_of_ble_eq_true rfl) (Nat.le_of_ble_eq_true rfl) ?_
                    exact mm_zret S hR hS hr hlocks (Or.inl rfl) dL_areTasksRight_189
                  · have hf := it_t hf c224
                    refine mm_aload_n S dL_areTasksRight_139 rfl (lv_at hl 5 rfl) ?_
                    refine lv_iload S.1 S.2.1 dL_areTasksRight_140 (lv_at hl 8 rfl) ?_
                    refine lv_iconst (v := 1) S.1 S.2.1 dL_areTasksRight_142 (by decide) ?_
                    obtain ⟨y225, hy225, hf⟩ := bd hf
                    obtain ⟨g226, hf⟩ := gd hf
                    refine mm_callVi S hR hS hA (As := [.int x4, .int 1]) (rest := []) cvL_68 (hK.k g3) (kX6_ofTask_c l G A (hK.k g3) hy225 g226) rfl rfl ⟨Nat.le_of_ble_eq_true rfl, Nat.le_of_ble_eq_true rfl⟩ rfl hl.1 rfl (lv_room (by simp [rf_cat, int_cat, long_cat])) dL_areTasksRight_143 ⟨Nat.le_of_ble_eq_true rfl, Nat.le_of_ble_eq_true rfl⟩ (fun H locs hR hS => ?_)
                    have hK : mmKN μ y225.2.2 := hK.tr (kX6_ofTask_kn hy225)
                    refine lv_if_lt (tgt := 165) S.1 S.2.1 dL_areTasksRight_146 (by decide) (fun c227 => ?_) (fun c227 => ?_)
                    · have hf := it_t hf c227
                      exact wbL_areTasksRight_165 E0 kk12 hkk12 h0 h1 x2 (x3 + 1) x4 y19.2.1 y21.2.1 y225.2.2 hf _ _ _ hR hS (lv_sub hl [5, 6, 7, 1, 8, 4, 3] rfl)
                    · have hf := it_f hf c227
                      refine mm_aload_n S dL_areTasksRight_149 rfl (lv_at hl 5 rfl) ?_
                      refine lv_iload S.1 S.2.1 dL_areTasksRight_150 (lv_at hl 8 rfl) ?_
                      refine lv_iconst (v := 1) S.1 S.2.1 dL_areTasksRight_152 (by decide) ?_
                      obtain ⟨y228, hy228, hf⟩ := bd hf
                      obtain ⟨g229, hf⟩ := gd hf
                      refine mm_callVi S hR hS hA (As := [.int x4, .int 1]) (rest := []) cvL_68 (hK.k g3) (kX6_ofTask_c l G A (hK.k g3) hy228 g229) rfl rfl ⟨Nat.le_of_ble_eq_true rfl, Nat.le_of_ble_eq_true rfl⟩ rfl hl.1 rfl (lv_room (by simp [rf_cat, int_cat, long_cat])) dL_areTasksRight_153 ⟨Nat.le_of_ble_eq_true rfl, Nat.le_of_ble_eq_true rfl⟩ (fun H locs hR hS => ?_)
                      have hK : mmKN μ y228.2.2 := hK.tr (kX6_ofTask_kn hy228)
                      refine mm_aload_n S dL_areTasksRight_156 rfl (lv_at hl 5 rfl) ?_
                      refine lv_bipush (v := 9) S.1 S.2.1 dL_areTasksRight_157 (by decide) ?_
                      obtain ⟨y230, hy230, hf⟩ := bd hf
                      obtain ⟨g231, hf⟩ := gd hf
                      refine mm_callVi S hR hS hA (As := [.int 9]) (rest := [.int y228.2.1]) cvL_39 (hK.k g3) (kX6_many_c l G A (hK.k g3) hy230 g231) rfl rfl ⟨Nat.le_of_ble_eq_true rfl, Nat.le_of_ble_eq_true rfl⟩ rfl hl.1 rfl (lv_room (by simp [rf_cat, int_cat, long_cat])) dL_areTasksRight_159 ⟨Nat.le_of_ble_eq_true rfl, Nat.le_of_ble_eq_true rfl⟩ (fun H locs hR hS => ?_)
                      have hK : mmKN μ y230.2.2 := hK.tr (kX6_many_kn hy230)
                      refine lv_icmp_le (tgt := 188) S.1 S.2.1 dL_areTasksRight_162 (by decide) (fun c232 => ?_) (fun c232 => ?_)
                      · have hf := it_t hf c232
                        refine lv_iconst (v := 0) S.1 S.2.1 dL_areTasksRight_188 (by decide) ?_
                        obtain rfl := Option.some.inj hf
                        refine W.widen (k := 1) (n := 24) (Nat.le_of_ble_eq_true rfl) (Nat.le_of_ble_eq_true rfl) ?_
                        exact mm_zret S hR hS hr hlocks (Or.inl rfl) dL_areTasksRight_189
                      · have hf := it_f hf c232
                        exact wbL_areTasksRight_165 E0 kk12 hkk12 h0 h1 x2 (x3 + 1) x4 y19.2.1 y21.2.1 y230.2.2 hf _ _ _ hR hS (lv_sub hl [5, 6, 7, 1, 8, 4, 3] rfl)
            · have hf := it_f hf c193
              refine lv_iconst (v := 1) S.1 S.2.1 dL_areTasksRight_105 (by decide) ?_
              refine lv_goto (tgt := 110) S.1 S.2.1 dL_areTasksRight_106 (by decide) ?_
              refine lv_iadd S.1 S.2.1 dL_areTasksRight_110 ?_
              refine lv_iload S.1 S.2.1 dL_areTasksRight_111 (lv_at hl 2 rfl) ?_
              refine lv_if_lt (tgt := 120) S.1 S.2.1 dL_areTasksRight_113 (by decide) (fun c233 => ?_) (fun c233 => ?_)
              · have hf := it_t hf c233
                refine lv_iconst (v := 0) S.1 S.2.1 dL_areTasksRight_120 (by decide) ?_
                refine lv_iadd S.1 S.2.1 dL_areTasksRight_121 ?_
                refine lv_istore (i := 8) (lv' := [(8, .int ((0 + 1) + 0)), (3, .int (x3 + 1)), (7, .int 0), (6, .int y21.2.1), (5, .int y19.2.1), (0, rf h0), (1, rf h1), (2, .int x2), (4, .int x4)]) S.1 S.2.1 dL_areTasksRight_122 hl (by decide) rfl (fun ls hl => ?_)
                refine lv_iload S.1 S.2.1 dL_areTasksRight_124 (lv_at hl 0 rfl) ?_
                refine lv_iload S.1 S.2.1 dL_areTasksRight_126 (lv_at hl 2 rfl) ?_
                refine lv_if_eq (tgt := 135) S.1 S.2.1 dL_areTasksRight_128 (by decide) (fun c234 => ?_) (fun c234 => ?_)
                · have hf := it_t hf c234
                  refine lv_iconst (v := 1) S.1 S.2.1 dL_areTasksRight_135 (by decide) ?_
                  refine lv_icmp_ne (tgt := 188) S.1 S.2.1 dL_areTasksRight_136 (by decide) (fun c235 => ?_) (fun c235 => ?_)
                  · have hf := it_f hf c235
                    refine lv_iconst (v := 0) S.1 S.2.1 dL_areTasksRight_188 (by decide) ?_
                    obtain rfl := Option.some.inj hf
                    refine W.widen (k := 1) (n := 24) (Nat.le_of_ble_eq_true rfl) (Nat.le_of_ble_eq_true rfl) ?_
                    exact mm_zret S hR hS hr hlocks (Or.inl rfl) dL_areTasksRight_189
                  · have hf := it_t hf c235
                    refine mm_aload_n S dL_areTasksRight_139 rfl (lv_at hl 5 rfl) ?_
                    refine lv_iload S.1 S.2.1 dL_areTasksRight_140 (lv_at hl 8 rfl) ?_
                    refine lv_iconst (v := 1) S.1 S.2.1 dL_areTasksRight_142 (by decide) ?_
                    obtain ⟨y236, hy236, hf⟩ := bd hf
                    obtain ⟨g237, hf⟩ := gd hf
                    refine mm_callVi S hR hS hA (As := [.int x4, .int 1]) (rest := []) cvL_68 (hK.k g3) (kX6_ofTask_c l G A (hK.k g3) hy236 g237) rfl rfl ⟨Nat.le_of_ble_eq_true rfl, Nat.le_of_ble_eq_true rfl⟩ rfl hl.1 rfl (lv_room (by simp [rf_cat, int_cat, long_cat])) dL_areTasksRight_143 ⟨Nat.le_of_ble_eq_true rfl, Nat.le_of_ble_eq_true rfl⟩ (fun H locs hR hS => ?_)
                    have hK : mmKN μ y236.2.2 := hK.tr (kX6_ofTask_kn hy236)
                    refine lv_if_lt (tgt := 165) S.1 S.2.1 dL_areTasksRight_146 (by decide) (fun c238 => ?_) (fun c238 => ?_)
                    · have hf := it_t hf c238
                      exact wbL_areTasksRight_165 E0 kk12 hkk12 h0 h1 x2 (x3 + 1) x4 y19.2.1 y21.2.1 y236.2.2 hf _ _ _ hR hS (lv_sub hl [5, 6, 7, 1, 8, 4, 3] rfl)
                    · have hf := it_f hf c238
                      refine mm_aload_n S dL_areTasksRight_149 rfl (lv_at hl 5 rfl) ?_
                      refine lv_iload S.1 S.2.1 dL_areTasksRight_150 (lv_at hl 8 rfl) ?_
                      refine lv_iconst (v := 1) S.1 S.2.1 dL_areTasksRight_152 (by decide) ?_
                      obtain ⟨y239, hy239, hf⟩ := bd hf
                      obtain ⟨g240, hf⟩ := gd hf
                      refine mm_callVi S hR hS hA (As := [.int x4, .int 1]) (rest := []) cvL_68 (hK.k g3) (kX6_ofTask_c l G A (hK.k g3) hy239 g240) rfl rfl ⟨Nat.le_of_ble_eq_true rfl, Nat.le_of_ble_eq_true rfl⟩ rfl hl.1 rfl (lv_room (by simp [rf_cat, int_cat, long_cat])) dL_areTasksRight_153 ⟨Nat.le_of_ble_eq_true rfl, Nat.le_of_ble_eq_true rfl⟩ (fun H locs hR hS => ?_)
                      have hK : mmKN μ y239.2.2 := hK.tr (kX6_ofTask_kn hy239)
                      refine mm_aload_n S dL_areTasksRight_156 rfl (lv_at hl 5 rfl) ?_
                      refine lv_bipush (v := 9) S.1 S.2.1 dL_areTasksRight_157 (by decide) ?_
                      obtain ⟨y241, hy241, hf⟩ := bd hf
                      obtain ⟨g242, hf⟩ := gd hf
                      refine mm_callVi S hR hS hA (As := [.int 9]) (rest := [.int y239.2.1]) cvL_39 (hK.k g3) (kX6_many_c l G A (hK.k g3) hy241 g242) rfl rfl ⟨Nat.le_of_ble_eq_true rfl, Nat.le_of_ble_eq_true rfl⟩ rfl hl.1 rfl (lv_room (by simp [rf_cat, int_cat, long_cat])) dL_areTasksRight_159 ⟨Nat.le_of_ble_eq_true rfl, Nat.le_of_ble_eq_true rfl⟩ (fun H locs hR hS => ?_)
                      have hK : mmKN μ y241.2.2 := hK.tr (kX6_many_kn hy241)
                      refine lv_icmp_le (tgt := 188) S.1 S.2.1 dL_areTasksRight_162 (by decide) (fun c243 => ?_) (fun c243 => ?_)
                      · have hf := it_t hf c243
                        refine lv_iconst (v := 0) S.1 S.2.1 dL_areTasksRight_188 (by decide) ?_
                        obtain rfl := Option.some.inj hf
                        refine W.widen (k := 1) (n := 24) (Nat.le_of_ble_eq_true rfl) (Nat.le_of_ble_eq_true rfl) ?_
                        exact mm_zret S hR hS hr hlocks (Or.inl rfl) dL_areTasksRight_189
                      · have hf := it_f hf c243
                        exact wbL_areTasksRight_165 E0 kk12 hkk12 h0 h1 x2 (x3 + 1) x4 y19.2.1 y21.2.1 y241.2.2 hf _ _ _ hR hS (lv_sub hl [5, 6, 7, 1, 8, 4, 3] rfl)
                · have hf := it_f hf c234
                  refine lv_iconst (v := 0) S.1 S.2.1 dL_areTasksRight_131 (by decide) ?_
                  refine lv_goto (tgt := 136) S.1 S.2.1 dL_areTasksRight_132 (by decide) ?_
                  refine lv_icmp_ne (tgt := 188) S.1 S.2.1 dL_areTasksRight_136 (by decide) (fun c244 => ?_) (fun c244 => ?_)
                  · have hf := it_f hf c244
                    refine lv_iconst (v := 0) S.1 S.2.1 dL_areTasksRight_188 (by decide) ?_
                    obtain rfl := Option.some.inj hf
                    refine W.widen (k := 1) (n := 24) (Nat.le_of_ble_eq_true rfl) (Nat.le_of_ble_eq_true rfl) ?_
                    exact mm_zret S hR hS hr hlocks (Or.inl rfl) dL_areTasksRight_189
                  · have hf := it_t hf c244
                    refine mm_aload_n S dL_areTasksRight_139 rfl (lv_at hl 5 rfl) ?_
                    refine lv_iload S.1 S.2.1 dL_areTasksRight_140 (lv_at hl 8 rfl) ?_
                    refine lv_iconst (v := 1) S.1 S.2.1 dL_areTasksRight_142 (by decide) ?_
                    obtain ⟨y245, hy245, hf⟩ := bd hf
                    obtain ⟨g246, hf⟩ := gd hf
                    refine mm_callVi S hR hS hA (As := [.int x4, .int 1]) (rest := []) cvL_68 (hK.k g3) (kX6_ofTask_c l G A (hK.k g3) hy245 g246) rfl rfl ⟨Nat.le_of_ble_eq_true rfl, Nat.le_of_ble_eq_true rfl⟩ rfl hl.1 rfl (lv_room (by simp [rf_cat, int_cat, long_cat])) dL_areTasksRight_143 ⟨Nat.le_of_ble_eq_true rfl, Nat.le_of_ble_eq_true rfl⟩ (fun H locs hR hS => ?_)
                    have hK : mmKN μ y245.2.2 := hK.tr (kX6_ofTask_kn hy245)
                    refine lv_if_lt (tgt := 165) S.1 S.2.1 dL_areTasksRight_146 (by decide) (fun c247 => ?_) (fun c247 => ?_)
                    · have hf := it_t hf c247
                      exact wbL_areTasksRight_165 E0 kk12 hkk12 h0 h1 x2 (x3 + 1) x4 y19.2.1 y21.2.1 y245.2.2 hf _ _ _ hR hS (lv_sub hl [5, 6, 7, 1, 8, 4, 3] rfl)
                    · have hf := it_f hf c247
                      refine mm_aload_n S dL_areTasksRight_149 rfl (lv_at hl 5 rfl) ?_
                      refine lv_iload S.1 S.2.1 dL_areTasksRight_150 (lv_at hl 8 rfl) ?_
                      refine lv_iconst (v := 1) S.1 S.2.1 dL_areTasksRight_152 (by decide) ?_
                      obtain ⟨y248, hy248, hf⟩ := bd hf
                      obtain ⟨g249, hf⟩ := gd hf
                      refine mm_callVi S hR hS hA (As := [.int x4, .int 1]) (rest := []) cvL_68 (hK.k g3) (kX6_ofTask_c l G A (hK.k g3) hy248 g249) rfl rfl ⟨Nat.le_of_ble_eq_true rfl, Nat.le_of_ble_eq_true rfl⟩ rfl hl.1 rfl (lv_room (by simp [rf_cat, int_cat, long_cat])) dL_areTasksRight_153 ⟨Nat.le_of_ble_eq_true rfl, Nat.le_of_ble_eq_true rfl⟩ (fun H locs hR hS => ?_)
                      have hK : mmKN μ y248.2.2 := hK.tr (kX6_ofTask_kn hy248)
                      refine mm_aload_n S dL_areTasksRight_156 rfl (lv_at hl 5 rfl) ?_
                      refine lv_bipush (v := 9) S.1 S.2.1 dL_areTasksRight_157 (by decide) ?_
                      obtain ⟨y250, hy250, hf⟩ := bd hf
                      obtain ⟨g251, hf⟩ := gd hf
                      refine mm_callVi S hR hS hA (As := [.int 9]) (rest := [.int y248.2.1]) cvL_39 (hK.k g3) (kX6_many_c l G A (hK.k g3) hy250 g251) rfl rfl ⟨Nat.le_of_ble_eq_true rfl, Nat.le_of_ble_eq_true rfl⟩ rfl hl.1 rfl (lv_room (by simp [rf_cat, int_cat, long_cat])) dL_areTasksRight_159 ⟨Nat.le_of_ble_eq_true rfl, Nat.le_of_ble_eq_true rfl⟩ (fun H locs hR hS => ?_)
                      have hK : mmKN μ y250.2.2 := hK.tr (kX6_many_kn hy250)
                      refine lv_icmp_le (tgt := 188) S.1 S.2.1 dL_areTasksRight_162 (by decide) (fun c252 => ?_) (fun c252 => ?_)
                      · have hf := it_t hf c252
                        refine lv_iconst (v := 0) S.1 S.2.1 dL_areTasksRight_188 (by decide) ?_
                        obtain rfl := Option.some.inj hf
                        refine W.widen (k := 1) (n := 24) (Nat.le_of_ble_eq_true rfl) (Nat.le_of_ble_eq_true rfl) ?_
                        exact mm_zret S hR hS hr hlocks (Or.inl rfl) dL_areTasksRight_189
                      · have hf := it_f hf c252
                        exact wbL_areTasksRight_165 E0 kk12 hkk12 h0 h1 x2 (x3 + 1) x4 y19.2.1 y21.2.1 y250.2.2 hf _ _ _ hR hS (lv_sub hl [5, 6, 7, 1, 8, 4, 3] rfl)
              · have hf := it_f hf c233
                refine lv_iconst (v := 1) S.1 S.2.1 dL_areTasksRight_116 (by decide) ?_
                refine lv_goto (tgt := 121) S.1 S.2.1 dL_areTasksRight_117 (by decide) ?_
                refine lv_iadd S.1 S.2.1 dL_areTasksRight_121 ?_
                refine lv_istore (i := 8) (lv' := [(8, .int ((0 + 1) + 1)), (3, .int (x3 + 1)), (7, .int 0), (6, .int y21.2.1), (5, .int y19.2.1), (0, rf h0), (1, rf h1), (2, .int x2), (4, .int x4)]) S.1 S.2.1 dL_areTasksRight_122 hl (by decide) rfl (fun ls hl => ?_)
                refine lv_iload S.1 S.2.1 dL_areTasksRight_124 (lv_at hl 0 rfl) ?_
                refine lv_iload S.1 S.2.1 dL_areTasksRight_126 (lv_at hl 2 rfl) ?_
                refine lv_if_eq (tgt := 135) S.1 S.2.1 dL_areTasksRight_128 (by decide) (fun c253 => ?_) (fun c253 => ?_)
                · have hf := it_t hf c253
                  refine lv_iconst (v := 1) S.1 S.2.1 dL_areTasksRight_135 (by decide) ?_
                  refine lv_icmp_ne (tgt := 188) S.1 S.2.1 dL_areTasksRight_136 (by decide) (fun c254 => ?_) (fun c254 => ?_)
                  · have hf := it_f hf c254
                    refine lv_iconst (v := 0) S.1 S.2.1 dL_areTasksRight_188 (by decide) ?_
                    obtain rfl := Option.some.inj hf
                    refine W.widen (k := 1) (n := 24) (Nat.le_of_ble_eq_true rfl) (Nat.le_of_ble_eq_true rfl) ?_
                    exact mm_zret S hR hS hr hlocks (Or.inl rfl) dL_areTasksRight_189
                  · have hf := it_t hf c254
                    refine mm_aload_n S dL_areTasksRight_139 rfl (lv_at hl 5 rfl) ?_
                    refine lv_iload S.1 S.2.1 dL_areTasksRight_140 (lv_at hl 8 rfl) ?_
                    refine lv_iconst (v := 1) S.1 S.2.1 dL_areTasksRight_142 (by decide) ?_
                    obtain ⟨y255, hy255, hf⟩ := bd hf
                    obtain ⟨g256, hf⟩ := gd hf
                    refine mm_callVi S hR hS hA (As := [.int x4, .int 1]) (rest := []) cvL_68 (hK.k g3) (kX6_ofTask_c l G A (hK.k g3) hy255 g256) rfl rfl ⟨Nat.le_of_ble_eq_true rfl, Nat.le_of_ble_eq_true rfl⟩ rfl hl.1 rfl (lv_room (by simp [rf_cat, int_cat, long_cat])) dL_areTasksRight_143 ⟨Nat.le_of_ble_eq_true rfl, Nat.le_of_ble_eq_true rfl⟩ (fun H locs hR hS => ?_)
                    have hK : mmKN μ y255.2.2 := hK.tr (kX6_ofTask_kn hy255)
                    refine lv_if_lt (tgt := 165) S.1 S.2.1 dL_areTasksRight_146 (by decide) (fun c257 => ?_) (fun c257 => ?_)
                    · have hf := it_t hf c257
                      exact wbL_areTasksRight_165 E0 kk12 hkk12 h0 h1 x2 (x3 + 1) x4 y19.2.1 y21.2.1 y255.2.2 hf _ _ _ hR hS (lv_sub hl [5, 6, 7, 1, 8, 4, 3] rfl)
                    · have hf := it_f hf c257
                      refine mm_aload_n S dL_areTasksRight_149 rfl (lv_at hl 5 rfl) ?_
                      refine lv_iload S.1 S.2.1 dL_areTasksRight_150 (lv_at hl 8 rfl) ?_
                      refine lv_iconst (v := 1) S.1 S.2.1 dL_areTasksRight_152 (by decide) ?_
                      obtain ⟨y258, hy258, hf⟩ := bd hf
                      obtain ⟨g259, hf⟩ := gd hf
                      refine mm_callVi S hR hS hA (As := [.int x4, .int 1]) (rest := []) cvL_68 (hK.k g3) (kX6_ofTask_c l G A (hK.k g3) hy258 g259) rfl rfl ⟨Nat.le_of_ble_eq_true rfl, Nat.le_of_ble_eq_true rfl⟩ rfl hl.1 rfl (lv_room (by simp [rf_cat, int_cat, long_cat])) dL_areTasksRight_153 ⟨Nat.le_of_ble_eq_true rfl, Nat.le_of_ble_eq_true rfl⟩ (fun H locs hR hS => ?_)
                      have hK : mmKN μ y258.2.2 := hK.tr (kX6_ofTask_kn hy258)
                      refine mm_aload_n S dL_areTasksRight_156 rfl (lv_at hl 5 rfl) ?_
                      refine lv_bipush (v := 9) S.1 S.2.1 dL_areTasksRight_157 (by decide) ?_
                      obtain ⟨y260, hy260, hf⟩ := bd hf
                      obtain ⟨g261, hf⟩ := gd hf
                      refine mm_callVi S hR hS hA (As := [.int 9]) (rest := [.int y258.2.1]) cvL_39 (hK.k g3) (kX6_many_c l G A (hK.k g3) hy260 g261) rfl rfl ⟨Nat.le_of_ble_eq_true rfl, Nat.le_of_ble_eq_true rfl⟩ rfl hl.1 rfl (lv_room (by simp [rf_cat, int_cat, long_cat])) dL_areTasksRight_159 ⟨Nat.le_of_ble_eq_true rfl, Nat.le_of_ble_eq_true rfl⟩ (fun H locs hR hS => ?_)
                      have hK : mmKN μ y260.2.2 := hK.tr (kX6_many_kn hy260)
                      refine lv_icmp_le (tgt := 188) S.1 S.2.1 dL_areTasksRight_162 (by decide) (fun c262 => ?_) (fun c262 => ?_)
                      · have hf := it_t hf c262
                        refine lv_iconst (v := 0) S.1 S.2.1 dL_areTasksRight_188 (by decide) ?_
                        obtain rfl := Option.some.inj hf
                        refine W.widen (k := 1) (n := 24) (Nat.le_of_ble_eq_true rfl) (Nat.le_of_ble_eq_true rfl) ?_
                        exact mm_zret S hR hS hr hlocks (Or.inl rfl) dL_areTasksRight_189
                      · have hf := it_f hf c262
                        exact wbL_areTasksRight_165 E0 kk12 hkk12 h0 h1 x2 (x3 + 1) x4 y19.2.1 y21.2.1 y260.2.2 hf _ _ _ hR hS (lv_sub hl [5, 6, 7, 1, 8, 4, 3] rfl)
                · have hf := it_f hf c253
                  refine lv_iconst (v := 0) S.1 S.2.1 dL_areTasksRight_131 (by decide) ?_
                  refine lv_goto (tgt := 136) S.1 S.2.1 dL_areTasksRight_132 (by decide) ?_
                  refine lv_icmp_ne (tgt := 188) S.1 S.2.1 dL_areTasksRight_136 (by decide) (fun c263 => ?_) (fun c263 => ?_)
                  · have hf := it_f hf c263
                    refine lv_iconst (v := 0) S.1 S.2.1 dL_areTasksRight_188 (by decide) ?_
                    obtain rfl := Option.some.inj hf
                    refine W.widen (k := 1) (n := 24) (Nat.le_of_ble_eq_true rfl) (Nat.le_of_ble_eq_true rfl) ?_
                    exact mm_zret S hR hS hr hlocks (Or.inl rfl) dL_areTasksRight_189
                  · have hf := it_t hf c263
                    refine mm_aload_n S dL_areTasksRight_139 rfl (lv_at hl 5 rfl) ?_
                    refine lv_iload S.1 S.2.1 dL_areTasksRight_140 (lv_at hl 8 rfl) ?_
                    refine lv_iconst (v := 1) S.1 S.2.1 dL_areTasksRight_142 (by decide) ?_
                    obtain ⟨y264, hy264, hf⟩ := bd hf
                    obtain ⟨g265, hf⟩ := gd hf
                    refine mm_callVi S hR hS hA (As := [.int x4, .int 1]) (rest := []) cvL_68 (hK.k g3) (kX6_ofTask_c l G A (hK.k g3) hy264 g265) rfl rfl ⟨Nat.le_of_ble_eq_true rfl, Nat.le_of_ble_eq_true rfl⟩ rfl hl.1 rfl (lv_room (by simp [rf_cat, int_cat, long_cat])) dL_areTasksRight_143 ⟨Nat.le_of_ble_eq_true rfl, Nat.le_of_ble_eq_true rfl⟩ (fun H locs hR hS => ?_)
                    have hK : mmKN μ y264.2.2 := hK.tr (kX6_ofTask_kn hy264)
                    refine lv_if_lt (tgt := 165) S.1 S.2.1 dL_areTasksRight_146 (by decide) (fun c266 => ?_) (fun c266 => ?_)
                    · have hf := it_t hf c266
                      exact wbL_areTasksRight_165 E0 kk12 hkk12 h0 h1 x2 (x3 + 1) x4 y19.2.1 y21.2.1 y264.2.2 hf _ _ _ hR hS (lv_sub hl [5, 6, 7, 1, 8, 4, 3] rfl)
                    · have hf := it_f hf c266
                      refine mm_aload_n S dL_areTasksRight_149 rfl (lv_at hl 5 rfl) ?_
                      refine lv_iload S.1 S.2.1 dL_areTasksRight_150 (lv_at hl 8 rfl) ?_
                      refine lv_iconst (v := 1) S.1 S.2.1 dL_areTasksRight_152 (by decide) ?_
                      obtain ⟨y267, hy267, hf⟩ := bd hf
                      obtain ⟨g268, hf⟩ := gd hf
                      refine mm_callVi S hR hS hA (As := [.int x4, .int 1]) (rest := []) cvL_68 (hK.k g3) (kX6_ofTask_c l G A (hK.k g3) hy267 g268) rfl rfl ⟨Nat.le_of_ble_eq_true rfl, Nat.le_of_ble_eq_true rfl⟩ rfl hl.1 rfl (lv_room (by simp [rf_cat, int_cat, long_cat])) dL_areTasksRight_153 ⟨Nat.le_of_ble_eq_true rfl, Nat.le_of_ble_eq_true rfl⟩ (fun H locs hR hS => ?_)
                      have hK : mmKN μ y267.2.2 := hK.tr (kX6_ofTask_kn hy267)
                      refine mm_aload_n S dL_areTasksRight_156 rfl (lv_at hl 5 rfl) ?_
                      refine lv_bipush (v := 9) S.1 S.2.1 dL_areTasksRight_157 (by decide) ?_
                      obtain ⟨y269, hy269, hf⟩ := bd hf
                      obtain ⟨g270, hf⟩ := gd hf
                      refine mm_callVi S hR hS hA (As := [.int 9]) (rest := [.int y267.2.1]) cvL_39 (hK.k g3) (kX6_many_c l G A (hK.k g3) hy269 g270) rfl rfl ⟨Nat.le_of_ble_eq_true rfl, Nat.le_of_ble_eq_true rfl⟩ rfl hl.1 rfl (lv_room (by simp [rf_cat, int_cat, long_cat])) dL_areTasksRight_159 ⟨Nat.le_of_ble_eq_true rfl, Nat.le_of_ble_eq_true rfl⟩ (fun H locs hR hS => ?_)
                      have hK : mmKN μ y269.2.2 := hK.tr (kX6_many_kn hy269)
                      refine lv_icmp_le (tgt := 188) S.1 S.2.1 dL_areTasksRight_162 (by decide) (fun c271 => ?_) (fun c271 => ?_)
                      · have hf := it_t hf c271
                        refine lv_iconst (v := 0) S.1 S.2.1 dL_areTasksRight_188 (by decide) ?_
                        obtain rfl := Option.some.inj hf
                        refine W.widen (k := 1) (n := 24) (Nat.le_of_ble_eq_true rfl) (Nat.le_of_ble_eq_true rfl) ?_
                        exact mm_zret S hR hS hr hlocks (Or.inl rfl) dL_areTasksRight_189
                      · have hf := it_f hf c271
                        exact wbL_areTasksRight_165 E0 kk12 hkk12 h0 h1 x2 (x3 + 1) x4 y19.2.1 y21.2.1 y269.2.2 hf _ _ _ hR hS (lv_sub hl [5, 6, 7, 1, 8, 4, 3] rfl)
          · have hf := it_f hf c190
            refine lv_iconst (v := 1) S.1 S.2.1 dL_areTasksRight_90 (by decide) ?_
            refine lv_goto (tgt := 95) S.1 S.2.1 dL_areTasksRight_91 (by decide) ?_
            refine mm_aload_n S dL_areTasksRight_95 rfl (lv_at hl 4 rfl) ?_
            refine lv_iload S.1 S.2.1 dL_areTasksRight_96 (lv_at hl 7 rfl) ?_
            refine lv_iconst (v := 1) S.1 S.2.1 dL_areTasksRight_98 (by decide) ?_
            obtain ⟨y272, hy272, hf⟩ := bd hf
            obtain ⟨g273, hf⟩ := gd hf
            refine mm_callVi S hR hS hA (As := [.int x4, .int 1]) (rest := [.int 1]) cvL_68 (hK.k g3) (kX6_ofTask_c l G A (hK.k g3) hy272 g273) rfl rfl ⟨Nat.le_of_ble_eq_true rfl, Nat.le_of_ble_eq_true rfl⟩ rfl hl.1 rfl (lv_room (by simp [rf_cat, int_cat, long_cat])) dL_areTasksRight_99 ⟨Nat.le_of_ble_eq_true rfl, Nat.le_of_ble_eq_true rfl⟩ (fun H locs hR hS => ?_)
            have hK : mmKN μ y272.2.2 := hK.tr (kX6_ofTask_kn hy272)
            refine lv_if_lt (tgt := 109) S.1 S.2.1 dL_areTasksRight_102 (by decide) (fun c274 => ?_) (fun c274 => ?_)
            · have hf := it_t hf c274
              refine lv_iconst (v := 0) S.1 S.2.1 dL_areTasksRight_109 (by decide) ?_
              refine lv_iadd S.1 S.2.1 dL_areTasksRight_110 ?_
              refine lv_iload S.1 S.2.1 dL_areTasksRight_111 (lv_at hl 2 rfl) ?_
              refine lv_if_lt (tgt := 120) S.1 S.2.1 dL_areTasksRight_113 (by decide) (fun c275 => ?_) (fun c275 => ?_)
              · have hf := it_t hf c275
                refine lv_iconst (v := 0) S.1 S.2.1 dL_areTasksRight_120 (by decide) ?_
                refine lv_iadd S.1 S.2.1 dL_areTasksRight_121 ?_
                refine lv_istore (i := 8) (lv' := [(8, .int ((1 + 0) + 0)), (3, .int (x3 + 1)), (7, .int 0), (6, .int y21.2.1), (5, .int y19.2.1), (0, rf h0), (1, rf h1), (2, .int x2), (4, .int x4)]) S.1 S.2.1 dL_areTasksRight_122 hl (by decide) rfl (fun ls hl => ?_)
                refine lv_iload S.1 S.2.1 dL_areTasksRight_124 (lv_at hl 0 rfl) ?_
                refine lv_iload S.1 S.2.1 dL_areTasksRight_126 (lv_at hl 2 rfl) ?_
                refine lv_if_eq (tgt := 135) S.1 S.2.1 dL_areTasksRight_128 (by decide) (fun c276 => ?_) (fun c276 => ?_)
                · have hf := it_t hf c276
                  refine lv_iconst (v := 1) S.1 S.2.1 dL_areTasksRight_135 (by decide) ?_
                  refine lv_icmp_ne (tgt := 188) S.1 S.2.1 dL_areTasksRight_136 (by decide) (fun c277 => ?_) (fun c277 => ?_)
                  · have hf := it_f hf c277
                    refine lv_iconst (v := 0) S.1 S.2.1 dL_areTasksRight_188 (by decide) ?_
                    obtain rfl := Option.some.inj hf
                    refine W.widen (k := 1) (n := 24) (Nat.le_of_ble_eq_true rfl) (Nat.le_of_ble_eq_true rfl) ?_
                    exact mm_zret S hR hS hr hlocks (Or.inl rfl) dL_areTasksRight_189
                  · have hf := it_t hf c277
                    refine mm_aload_n S dL_areTasksRight_139 rfl (lv_at hl 5 rfl) ?_
                    refine lv_iload S.1 S.2.1 dL_areTasksRight_140 (lv_at hl 8 rfl) ?_
                    refine lv_iconst (v := 1) S.1 S.2.1 dL_areTasksRight_142 (by decide) ?_
                    obtain ⟨y278, hy278, hf⟩ := bd hf
                    obtain ⟨g279, hf⟩ := gd hf
                    refine mm_callVi S hR hS hA (As := [.int x4, .int 1]) (rest := []) cvL_68 (hK.k g3) (kX6_ofTask_c l G A (hK.k g3) hy278 g279) rfl rfl ⟨Nat.le_of_ble_eq_true rfl, Nat.le_of_ble_eq_true rfl⟩ rfl hl.1 rfl (lv_room (by simp [rf_cat, int_cat, long_cat])) dL_areTasksRight_143 ⟨Nat.le_of_ble_eq_true rfl, Nat.le_of_ble_eq_true rfl⟩ (fun H locs hR hS => ?_)
                    have hK : mmKN μ y278.2.2 := hK.tr (kX6_ofTask_kn hy278)
                    refine lv_if_lt (tgt := 165) S.1 S.2.1 dL_areTasksRight_146 (by decide) (fun c280 => ?_) (fun c280 => ?_)
                    · have hf := it_t hf c280
                      exact wbL_areTasksRight_165 E0 kk12 hkk12 h0 h1 x2 (x3 + 1) x4 y19.2.1 y21.2.1 y278.2.2 hf _ _ _ hR hS (lv_sub hl [5, 6, 7, 1, 8, 4, 3] rfl)
                    · have hf := it_f hf c280
                      refine mm_aload_n S dL_areTasksRight_149 rfl (lv_at hl 5 rfl) ?_
                      refine lv_iload S.1 S.2.1 dL_areTasksRight_150 (lv_at hl 8 rfl) ?_
                      refine lv_iconst (v := 1) S.1 S.2.1 dL_areTasksRight_152 (by decide) ?_
                      obtain ⟨y281, hy281, hf⟩ := bd hf
                      obtain ⟨g282, hf⟩ := gd hf
                      refine mm_callVi S hR hS hA (As := [.int x4, .int 1]) (rest := []) cvL_68 (hK.k g3) (kX6_ofTask_c l G A (hK.k g3) hy281 g282) rfl rfl ⟨Nat.le_of_ble_eq_true rfl, Nat.le_of_ble_eq_true rfl⟩ rfl hl.1 rfl (lv_room (by simp [rf_cat, int_cat, long_cat])) dL_areTasksRight_153 ⟨Nat.le_of_ble_eq_true rfl, Nat.le_of_ble_eq_true rfl⟩ (fun H locs hR hS => ?_)
                      have hK : mmKN μ y281.2.2 := hK.tr (kX6_ofTask_kn hy281)
                      refine mm_aload_n S dL_areTasksRight_156 rfl (lv_at hl 5 rfl) ?_
                      refine lv_bipush (v := 9) S.1 S.2.1 dL_areTasksRight_157 (by decide) ?_
                      obtain ⟨y283, hy283, hf⟩ := bd hf
                      obtain ⟨g284, hf⟩ := gd hf
                      refine mm_callVi S hR hS hA (As := [.int 9]) (rest := [.int y281.2.1]) cvL_39 (hK.k g3) (kX6_many_c l G A (hK.k g3) hy283 g284) rfl rfl ⟨Nat.le_of_ble_eq_true rfl, Nat.le_of_ble_eq_true rfl⟩ rfl hl.1 rfl (lv_room (by simp [rf_cat, int_cat, long_cat])) dL_areTasksRight_159 ⟨Nat.le_of_ble_eq_true rfl, Nat.le_of_ble_eq_true rfl⟩ (fun H locs hR hS => ?_)
                      have hK : mmKN μ y283.2.2 := hK.tr (kX6_many_kn hy283)
                      refine lv_icmp_le (tgt := 188) S.1 S.2.1 dL_areTasksRight_162 (by decide) (fun c285 => ?_) (fun c285 => ?_)
                      · have hf := it_t hf c285
                        refine lv_iconst (v := 0) S.1 S.2.1 dL_areTasksRight_188 (by decide) ?_
                        obtain rfl := Option.some.inj hf
                        refine W.widen (k := 1) (n := 24) (Nat.le_of_ble_eq_true rfl) (Nat.le_of_ble_eq_true rfl) ?_
                        exact mm_zret S hR hS hr hlocks (Or.inl rfl) dL_areTasksRight_189
                      · have hf := it_f hf c285
                        exact wbL_areTasksRight_165 E0 kk12 hkk12 h0 h1 x2 (x3 + 1) x4 y19.2.1 y21.2.1 y283.2.2 hf _ _ _ hR hS (lv_sub hl [5, 6, 7, 1, 8, 4, 3] rfl)
                · have hf := it_f hf c276
                  refine lv_iconst (v := 0) S.1 S.2.1 dL_areTasksRight_131 (by decide) ?_
                  refine lv_goto (tgt := 136) S.1 S.2.1 dL_areTasksRight_132 (by decide) ?_
                  refine lv_icmp_ne (tgt := 188) S.1 S.2.1 dL_areTasksRight_136 (by decide) (fun c286 => ?_) (fun c286 => ?_)
                  · have hf := it_f hf c286
                    refine lv_iconst (v := 0) S.1 S.2.1 dL_areTasksRight_188 (by decide) ?_
                    obtain rfl := Option.some.inj hf
                    refine W.widen (k := 1) (n := 24) (Nat.le_of_ble_eq_true rfl) (Nat.le_of_ble_eq_true rfl) ?_
                    exact mm_zret S hR hS hr hlocks (Or.inl rfl) dL_areTasksRight_189
                  · have hf := it_t hf c286
                    refine mm_aload_n S dL_areTasksRight_139 rfl (lv_at hl 5 rfl) ?_
                    refine lv_iload S.1 S.2.1 dL_areTasksRight_140 (lv_at hl 8 rfl) ?_
                    refine lv_iconst (v := 1) S.1 S.2.1 dL_areTasksRight_142 (by decide) ?_
                    obtain ⟨y287, hy287, hf⟩ := bd hf
                    obtain ⟨g288, hf⟩ := gd hf
                    refine mm_callVi S hR hS hA (As := [.int x4, .int 1]) (rest := []) cvL_68 (hK.k g3) (kX6_ofTask_c l G A (hK.k g3) hy287 g288) rfl rfl ⟨Nat.le_of_ble_eq_true rfl, Nat.le_of_ble_eq_true rfl⟩ rfl hl.1 rfl (lv_room (by simp [rf_cat, int_cat, long_cat])) dL_areTasksRight_143 ⟨Nat.le_of_ble_eq_true rfl, Nat.le_of_ble_eq_true rfl⟩ (fun H locs hR hS => ?_)
                    have hK : mmKN μ y287.2.2 := hK.tr (kX6_ofTask_kn hy287)
                    refine lv_if_lt (tgt := 165) S.1 S.2.1 dL_areTasksRight_146 (by decide) (fun c289 => ?_) (fun c289 => ?_)
                    · have hf := it_t hf c289
                      exact wbL_areTasksRight_165 E0 kk12 hkk12 h0 h1 x2 (x3 + 1) x4 y19.2.1 y21.2.1 y287.2.2 hf _ _ _ hR hS (lv_sub hl [5, 6, 7, 1, 8, 4, 3] rfl)
                    · have hf := it_f hf c289
                      refine mm_aload_n S dL_areTasksRight_149 rfl (lv_at hl 5 rfl) ?_
                      refine lv_iload S.1 S.2.1 dL_areTasksRight_150 (lv_at hl 8 rfl) ?_
                      refine lv_iconst (v := 1) S.1 S.2.1 dL_areTasksRight_152 (by decide) ?_
                      obtain ⟨y290, hy290, hf⟩ := bd hf
                      obtain ⟨g291, hf⟩ := gd hf
                      refine mm_callVi S hR hS hA (As := [.int x4, .int 1]) (rest := []) cvL_68 (hK.k g3) (kX6_ofTask_c l G A (hK.k g3) hy290 g291) rfl rfl ⟨Nat.le_of_ble_eq_true rfl, Nat.le_of_ble_eq_true rfl⟩ rfl hl.1 rfl (lv_room (by simp [rf_cat, int_cat, long_cat])) dL_areTasksRight_153 ⟨Nat.le_of_ble_eq_true rfl, Nat.le_of_ble_eq_true rfl⟩ (fun H locs hR hS => ?_)
                      have hK : mmKN μ y290.2.2 := hK.tr (kX6_ofTask_kn hy290)
                      refine mm_aload_n S dL_areTasksRight_156 rfl (lv_at hl 5 rfl) ?_
                      refine lv_bipush (v := 9) S.1 S.2.1 dL_areTasksRight_157 (by decide) ?_
                      obtain ⟨y292, hy292, hf⟩ := bd hf
                      obtain ⟨g293, hf⟩ := gd hf
                      refine mm_callVi S hR hS hA (As := [.int 9]) (rest := [.int y290.2.1]) cvL_39 (hK.k g3) (kX6_many_c l G A (hK.k g3) hy292 g293) rfl rfl ⟨Nat.le_of_ble_eq_true rfl, Nat.le_of_ble_eq_true rfl⟩ rfl hl.1 rfl (lv_room (by simp [rf_cat, int_cat, long_cat])) dL_areTasksRight_159 ⟨Nat.le_of_ble_eq_true rfl, Nat.le_of_ble_eq_true rfl⟩ (fun H locs hR hS => ?_)
                      have hK : mmKN μ y292.2.2 := hK.tr (kX6_many_kn hy292)
                      refine lv_icmp_le (tgt := 188) S.1 S.2.1 dL_areTasksRight_162 (by decide) (fun c294 => ?_) (fun c294 => ?_)
                      · have hf := it_t hf c294
                        refine lv_iconst (v := 0) S.1 S.2.1 dL_areTasksRight_188 (by decide) ?_
                        obtain rfl := Option.some.inj hf
                        refine W.widen (k := 1) (n := 24) (Nat.le_of_ble_eq_true rfl) (Nat.le_of_ble_eq_true rfl) ?_
                        exact mm_zret S hR hS hr hlocks (Or.inl rfl) dL_areTasksRight_189
                      · have hf := it_f hf c294
                        exact wbL_areTasksRight_165 E0 kk12 hkk12 h0 h1 x2 (x3 + 1) x4 y19.2.1 y21.2.1 y292.2.2 hf _ _ _ hR hS (lv_sub hl [5, 6, 7, 1, 8, 4, 3] rfl)
              · have hf := it_f hf c275
                refine lv_iconst (v := 1) S.1 S.2.1 dL_areTasksRight_116 (by decide) ?_
                refine lv_goto (tgt := 121) S.1 S.2.1 dL_areTasksRight_117 (by decide) ?_
                refine lv_iadd S.1 S.2.1 dL_areTasksRight_121 ?_
                refine lv_istore (i := 8) (lv' := [(8, .int ((1 + 0) + 1)), (3, .int (x3 + 1)), (7, .int 0), (6, .int y21.2.1), (5, .int y19.2.1), (0, rf h0), (1, rf h1), (2, .int x2), (4, .int x4)]) S.1 S.2.1 dL_areTasksRight_122 hl (by decide) rfl (fun ls hl => ?_)
                refine lv_iload S.1 S.2.1 dL_areTasksRight_124 (lv_at hl 0 rfl) ?_
                refine lv_iload S.1 S.2.1 dL_areTasksRight_126 (lv_at hl 2 rfl) ?_
                refine lv_if_eq (tgt := 135) S.1 S.2.1 dL_areTasksRight_128 (by decide) (fun c295 => ?_) (fun c295 => ?_)
                · have hf := it_t hf c295
                  refine lv_iconst (v := 1) S.1 S.2.1 dL_areTasksRight_135 (by decide) ?_
                  refine lv_icmp_ne (tgt := 188) S.1 S.2.1 dL_areTasksRight_136 (by decide) (fun c296 => ?_) (fun c296 => ?_)
                  · have hf := it_f hf c296
                    refine lv_iconst (v := 0) S.1 S.2.1 dL_areTasksRight_188 (by decide) ?_
                    obtain rfl := Option.some.inj hf
                    refine W.widen (k := 1) (n := 24) (Nat.le_of_ble_eq_true rfl) (Nat.le_of_ble_eq_true rfl) ?_
                    exact mm_zret S hR hS hr hlocks (Or.inl rfl) dL_areTasksRight_189
                  · have hf := it_t hf c296
                    refine mm_aload_n S dL_areTasksRight_139 rfl (lv_at hl 5 rfl) ?_
                    refine lv_iload S.1 S.2.1 dL_areTasksRight_140 (lv_at hl 8 rfl) ?_
                    refine lv_iconst (v := 1) S.1 S.2.1 dL_areTasksRight_142 (by decide) ?_
                    obtain ⟨y297, hy297, hf⟩ := bd hf
                    obtain ⟨g298, hf⟩ := gd hf
                    refine mm_callVi S hR hS hA (As := [.int x4, .int 1]) (rest := []) cvL_68 (hK.k g3) (kX6_ofTask_c l G A (hK.k g3) hy297 g298) rfl rfl ⟨Nat.le_of_ble_eq_true rfl, Nat.le_of_ble_eq_true rfl⟩ rfl hl.1 rfl (lv_room (by simp [rf_cat, int_cat, long_cat])) dL_areTasksRight_143 ⟨Nat.le_of_ble_eq_true rfl, Nat.le_of_ble_eq_true rfl⟩ (fun H locs hR hS => ?_)
                    have hK : mmKN μ y297.2.2 := hK.tr (kX6_ofTask_kn hy297)
                    refine lv_if_lt (tgt := 165) S.1 S.2.1 dL_areTasksRight_146 (by decide) (fun c299 => ?_) (fun c299 => ?_)
                    · have hf := it_t hf c299
                      exact wbL_areTasksRight_165 E0 kk12 hkk12 h0 h1 x2 (x3 + 1) x4 y19.2.1 y21.2.1 y297.2.2 hf _ _ _ hR hS (lv_sub hl [5, 6, 7, 1, 8, 4, 3] rfl)
                    · have hf := it_f hf c299
                      refine mm_aload_n S dL_areTasksRight_149 rfl (lv_at hl 5 rfl) ?_
                      refine lv_iload S.1 S.2.1 dL_areTasksRight_150 (lv_at hl 8 rfl) ?_
                      refine lv_iconst (v := 1) S.1 S.2.1 dL_areTasksRight_152 (by decide) ?_
                      obtain ⟨y300, hy300, hf⟩ := bd hf
                      obtain ⟨g301, hf⟩ := gd hf
                      refine mm_callVi S hR hS hA (As := [.int x4, .int 1]) (rest := []) cvL_68 (hK.k g3) (kX6_ofTask_c l G A (hK.k g3) hy300 g301) rfl rfl ⟨Nat.le_of_ble_eq_true rfl, Nat.le_of_ble_eq_true rfl⟩ rfl hl.1 rfl (lv_room (by simp [rf_cat, int_cat, long_cat])) dL_areTasksRight_153 ⟨Nat.le_of_ble_eq_true rfl, Nat.le_of_ble_eq_true rfl⟩ (fun H locs hR hS => ?_)
                      have hK : mmKN μ y300.2.2 := hK.tr (kX6_ofTask_kn hy300)
                      refine mm_aload_n S dL_areTasksRight_156 rfl (lv_at hl 5 rfl) ?_
                      refine lv_bipush (v := 9) S.1 S.2.1 dL_areTasksRight_157 (by decide) ?_
                      obtain ⟨y302, hy302, hf⟩ := bd hf
                      obtain ⟨g303, hf⟩ := gd hf
                      refine mm_callVi S hR hS hA (As := [.int 9]) (rest := [.int y300.2.1]) cvL_39 (hK.k g3) (kX6_many_c l G A (hK.k g3) hy302 g303) rfl rfl ⟨Nat.le_of_ble_eq_true rfl, Nat.le_of_ble_eq_true rfl⟩ rfl hl.1 rfl (lv_room (by simp [rf_cat, int_cat, long_cat])) dL_areTasksRight_159 ⟨Nat.le_of_ble_eq_true rfl, Nat.le_of_ble_eq_true rfl⟩ (fun H locs hR hS => ?_)
                      have hK : mmKN μ y302.2.2 := hK.tr (kX6_many_kn hy302)
                      refine lv_icmp_le (tgt := 188) S.1 S.2.1 dL_areTasksRight_162 (by decide) (fun c304 => ?_) (fun c304 => ?_)
                      · have hf := it_t hf c304
                        refine lv_iconst (v := 0) S.1 S.2.1 dL_areTasksRight_188 (by decide) ?_
                        obtain rfl := Option.some.inj hf
                        refine W.widen (k := 1) (n := 24) (Nat.le_of_ble_eq_true rfl) (Nat.le_of_ble_eq_true rfl) ?_
                        exact mm_zret S hR hS hr hlocks (Or.inl rfl) dL_areTasksRight_189
                      · have hf := it_f hf c304
                        exact wbL_areTasksRight_165 E0 kk12 hkk12 h0 h1 x2 (x3 + 1) x4 y19.2.1 y21.2.1 y302.2.2 hf _ _ _ hR hS (lv_sub hl [5, 6, 7, 1, 8, 4, 3] rfl)
                · have hf := it_f hf c295
                  refine lv_iconst (v := 0) S.1 S.2.1 dL_areTasksRight_131 (by decide) ?_
                  refine lv_goto (tgt := 136) S.1 S.2.1 dL_areTasksRight_132 (by decide) ?_
                  refine lv_icmp_ne (tgt := 188) S.1 S.2.1 dL_areTasksRight_136 (by decide) (fun c305 => ?_) (fun c305 => ?_)
                  · have hf := it_f hf c305
                    refine lv_iconst (v := 0) S.1 S.2.1 dL_areTasksRight_188 (by decide) ?_
                    obtain rfl := Option.some.inj hf
                    refine W.widen (k := 1) (n := 24) (Nat.le_of_ble_eq_true rfl) (Nat.le_of_ble_eq_true rfl) ?_
                    exact mm_zret S hR hS hr hlocks (Or.inl rfl) dL_areTasksRight_189
                  · have hf := it_t hf c305
                    refine mm_aload_n S dL_areTasksRight_139 rfl (lv_at hl 5 rfl) ?_
                    refine lv_iload S.1 S.2.1 dL_areTasksRight_140 (lv_at hl 8 rfl) ?_
                    refine lv_iconst (v := 1) S.1 S.2.1 dL_areTasksRight_142 (by decide) ?_
                    obtain ⟨y306, hy306, hf⟩ := bd hf
                    obtain ⟨g307, hf⟩ := gd hf
                    refine mm_callVi S hR hS hA (As := [.int x4, .int 1]) (rest := []) cvL_68 (hK.k g3) (kX6_ofTask_c l G A (hK.k g3) hy306 g307) rfl rfl ⟨Nat.le_of_ble_eq_true rfl, Nat.le_of_ble_eq_true rfl⟩ rfl hl.1 rfl (lv_room (by simp [rf_cat, int_cat, long_cat])) dL_areTasksRight_143 ⟨Nat.le_of_ble_eq_true rfl, Nat.le_of_ble_eq_true rfl⟩ (fun H locs hR hS => ?_)
                    have hK : mmKN μ y306.2.2 := hK.tr (kX6_ofTask_kn hy306)
                    refine lv_if_lt (tgt := 165) S.1 S.2.1 dL_areTasksRight_146 (by decide) (fun c308 => ?_) (fun c308 => ?_)
                    · have hf := it_t hf c308
                      exact wbL_areTasksRight_165 E0 kk12 hkk12 h0 h1 x2 (x3 + 1) x4 y19.2.1 y21.2.1 y306.2.2 hf _ _ _ hR hS (lv_sub hl [5, 6, 7, 1, 8, 4, 3] rfl)
                    · have hf := it_f hf c308
                      refine mm_aload_n S dL_areTasksRight_149 rfl (lv_at hl 5 rfl) ?_
                      refine lv_iload S.1 S.2.1 dL_areTasksRight_150 (lv_at hl 8 rfl) ?_
                      refine lv_iconst (v := 1) S.1 S.2.1 dL_areTasksRight_152 (by decide) ?_
                      obtain ⟨y309, hy309, hf⟩ := bd hf
                      obtain ⟨g310, hf⟩ := gd hf
                      refine mm_callVi S hR hS hA (As := [.int x4, .int 1]) (rest := []) cvL_68 (hK.k g3) (kX6_ofTask_c l G A (hK.k g3) hy309 g310) rfl rfl ⟨Nat.le_of_ble_eq_true rfl, Nat.le_of_ble_eq_true rfl⟩ rfl hl.1 rfl (lv_room (by simp [rf_cat, int_cat, long_cat])) dL_areTasksRight_153 ⟨Nat.le_of_ble_eq_true rfl, Nat.le_of_ble_eq_true rfl⟩ (fun H locs hR hS => ?_)
                      have hK : mmKN μ y309.2.2 := hK.tr (kX6_ofTask_kn hy309)
                      refine mm_aload_n S dL_areTasksRight_156 rfl (lv_at hl 5 rfl) ?_
                      refine lv_bipush (v := 9) S.1 S.2.1 dL_areTasksRight_157 (by decide) ?_
                      obtain ⟨y311, hy311, hf⟩ := bd hf
                      obtain ⟨g312, hf⟩ := gd hf
                      refine mm_callVi S hR hS hA (As := [.int 9]) (rest := [.int y309.2.1]) cvL_39 (hK.k g3) (kX6_many_c l G A (hK.k g3) hy311 g312) rfl rfl ⟨Nat.le_of_ble_eq_true rfl, Nat.le_of_ble_eq_true rfl⟩ rfl hl.1 rfl (lv_room (by simp [rf_cat, int_cat, long_cat])) dL_areTasksRight_159 ⟨Nat.le_of_ble_eq_true rfl, Nat.le_of_ble_eq_true rfl⟩ (fun H locs hR hS => ?_)
                      have hK : mmKN μ y311.2.2 := hK.tr (kX6_many_kn hy311)
                      refine lv_icmp_le (tgt := 188) S.1 S.2.1 dL_areTasksRight_162 (by decide) (fun c313 => ?_) (fun c313 => ?_)
                      · have hf := it_t hf c313
                        refine lv_iconst (v := 0) S.1 S.2.1 dL_areTasksRight_188 (by decide) ?_
                        obtain rfl := Option.some.inj hf
                        refine W.widen (k := 1) (n := 24) (Nat.le_of_ble_eq_true rfl) (Nat.le_of_ble_eq_true rfl) ?_
                        exact mm_zret S hR hS hr hlocks (Or.inl rfl) dL_areTasksRight_189
                      · have hf := it_f hf c313
                        exact wbL_areTasksRight_165 E0 kk12 hkk12 h0 h1 x2 (x3 + 1) x4 y19.2.1 y21.2.1 y311.2.2 hf _ _ _ hR hS (lv_sub hl [5, 6, 7, 1, 8, 4, 3] rfl)
            · have hf := it_f hf c274
              refine lv_iconst (v := 1) S.1 S.2.1 dL_areTasksRight_105 (by decide) ?_
              refine lv_goto (tgt := 110) S.1 S.2.1 dL_areTasksRight_106 (by decide) ?_
              refine lv_iadd S.1 S.2.1 dL_areTasksRight_110 ?_
              refine lv_iload S.1 S.2.1 dL_areTasksRight_111 (lv_at hl 2 rfl) ?_
              refine lv_if_lt (tgt := 120) S.1 S.2.1 dL_areTasksRight_113 (by decide) (fun c314 => ?_) (fun c314 => ?_)
              · have hf := it_t hf c314
                refine lv_iconst (v := 0) S.1 S.2.1 dL_areTasksRight_120 (by decide) ?_
                refine lv_iadd S.1 S.2.1 dL_areTasksRight_121 ?_
                refine lv_istore (i := 8) (lv' := [(8, .int ((1 + 1) + 0)), (3, .int (x3 + 1)), (7, .int 0), (6, .int y21.2.1), (5, .int y19.2.1), (0, rf h0), (1, rf h1), (2, .int x2), (4, .int x4)]) S.1 S.2.1 dL_areTasksRight_122 hl (by decide) rfl (fun ls hl => ?_)
                refine lv_iload S.1 S.2.1 dL_areTasksRight_124 (lv_at hl 0 rfl) ?_
                refine lv_iload S.1 S.2.1 dL_areTasksRight_126 (lv_at hl 2 rfl) ?_
                refine lv_if_eq (tgt := 135) S.1 S.2.1 dL_areTasksRight_128 (by decide) (fun c315 => ?_) (fun c315 => ?_)
                · have hf := it_t hf c315
                  refine lv_iconst (v := 1) S.1 S.2.1 dL_areTasksRight_135 (by decide) ?_
                  refine lv_icmp_ne (tgt := 188) S.1 S.2.1 dL_areTasksRight_136 (by decide) (fun c316 => ?_) (fun c316 => ?_)
                  · have hf := it_f hf c316
                    refine lv_iconst (v := 0) S.1 S.2.1 dL_areTasksRight_188 (by decide) ?_
                    obtain rfl := Option.some.inj hf
                    refine W.widen (k := 1) (n := 24) (Nat.le_of_ble_eq_true rfl) (Nat.le_of_ble_eq_true rfl) ?_
                    exact mm_zret S hR hS hr hlocks (Or.inl rfl) dL_areTasksRight_189
                  · have hf := it_t hf c316
                    refine mm_aload_n S dL_areTasksRight_139 rfl (lv_at hl 5 rfl) ?_
                    refine lv_iload S.1 S.2.1 dL_areTasksRight_140 (lv_at hl 8 rfl) ?_
                    refine lv_iconst (v := 1) S.1 S.2.1 dL_areTasksRight_142 (by decide) ?_
                    obtain ⟨y317, hy317, hf⟩ := bd hf
                    obtain ⟨g318, hf⟩ := gd hf
                    refine mm_callVi S hR hS hA (As := [.int x4, .int 1]) (rest := []) cvL_68 (hK.k g3) (kX6_ofTask_c l G A (hK.k g3) hy317 g318) rfl rfl ⟨Nat.le_of_ble_eq_true rfl, Nat.le_of_ble_eq_true rfl⟩ rfl hl.1 rfl (lv_room (by simp [rf_cat, int_cat, long_cat])) dL_areTasksRight_143 ⟨Nat.le_of_ble_eq_true rfl, Nat.le_of_ble_eq_true rfl⟩ (fun H locs hR hS => ?_)
                    have hK : mmKN μ y317.2.2 := hK.tr (kX6_ofTask_kn hy317)
                    refine lv_if_lt (tgt := 165) S.1 S.2.1 dL_areTasksRight_146 (by decide) (fun c319 => ?_) (fun c319 => ?_)
                    · have hf := it_t hf c319
                      exact wbL_areTasksRight_165 E0 kk12 hkk12 h0 h1 x2 (x3 + 1) x4 y19.2.1 y21.2.1 y317.2.2 hf _ _ _ hR hS (lv_sub hl [5, 6, 7, 1, 8, 4, 3] rfl)
                    · have hf := it_f hf c319
                      refine mm_aload_n S dL_areTasksRight_149 rfl (lv_at hl 5 rfl) ?_
                      refine lv_iload S.1 S.2.1 dL_areTasksRight_150 (lv_at hl 8 rfl) ?_
                      refine lv_iconst (v := 1) S.1 S.2.1 dL_areTasksRight_152 (by decide) ?_
                      obtain ⟨y320, hy320, hf⟩ := bd hf
                      obtain ⟨g321, hf⟩ := gd hf
                      refine mm_callVi S hR hS hA (As := [.int x4, .int 1]) (rest := []) cvL_68 (hK.k g3) (kX6_ofTask_c l G A (hK.k g3) hy320 g321) rfl rfl ⟨Nat.le_of_ble_eq_true rfl, Nat.le_of_ble_eq_true rfl⟩ rfl hl.1 rfl (lv_room (by simp [rf_cat, int_cat, long_cat])) dL_areTasksRight_153 ⟨Nat.le_of_ble_eq_true rfl, Nat.le_of_ble_eq_true rfl⟩ (fun H locs hR hS => ?_)
                      have hK : mmKN μ y320.2.2 := hK.tr (kX6_ofTask_kn hy320)
                      refine mm_aload_n S dL_areTasksRight_156 rfl (lv_at hl 5 rfl) ?_
                      refine lv_bipush (v := 9) S.1 S.2.1 dL_areTasksRight_157 (by decide) ?_
                      obtain ⟨y322, hy322, hf⟩ := bd hf
                      obtain ⟨g323, hf⟩ := gd hf
                      refine mm_callVi S hR hS hA (As := [.int 9]) (rest := [.int y320.2.1]) cvL_39 (hK.k g3) (kX6_many_c l G A (hK.k g3) hy322 g323) rfl rfl ⟨Nat.le_of_ble_eq_true rfl, Nat.le_of_ble_eq_true rfl⟩ rfl hl.1 rfl (lv_room (by simp [rf_cat, int_cat, long_cat])) dL_areTasksRight_159 ⟨Nat.le_of_ble_eq_true rfl, Nat.le_of_ble_eq_true rfl⟩ (fun H locs hR hS => ?_)
                      have hK : mmKN μ y322.2.2 := hK.tr (kX6_many_kn hy322)
                      refine lv_icmp_le (tgt := 188) S.1 S.2.1 dL_areTasksRight_162 (by decide) (fun c324 => ?_) (fun c324 => ?_)
                      · have hf := it_t hf c324
                        refine lv_iconst (v := 0) S.1 S.2.1 dL_areTasksRight_188 (by decide) ?_
                        obtain rfl := Option.some.inj hf
                        refine W.widen (k := 1) (n := 24) (Nat.le_of_ble_eq_true rfl) (Nat.le_of_ble_eq_true rfl) ?_
                        exact mm_zret S hR hS hr hlocks (Or.inl rfl) dL_areTasksRight_189
                      · have hf := it_f hf c324
                        exact wbL_areTasksRight_165 E0 kk12 hkk12 h0 h1 x2 (x3 + 1) x4 y19.2.1 y21.2.1 y322.2.2 hf _ _ _ hR hS (lv_sub hl [5, 6, 7, 1, 8, 4, 3] rfl)
                · have hf := it_f hf c315
                  refine lv_iconst (v := 0) S.1 S.2.1 dL_areTasksRight_131 (by decide) ?_
                  refine lv_goto (tgt := 136) S.1 S.2.1 dL_areTasksRight_132 (by decide) ?_
                  refine lv_icmp_ne (tgt := 188) S.1 S.2.1 dL_areTasksRight_136 (by decide) (fun c325 => ?_) (fun c325 => ?_)
                  · have hf := it_f hf c325
                    refine lv_iconst (v := 0) S.1 S.2.1 dL_areTasksRight_188 (by decide) ?_
                    obtain rfl := Option.some.inj hf
                    refine W.widen (k := 1) (n := 24) (Nat.le_of_ble_eq_true rfl) (Nat.le_of_ble_eq_true rfl) ?_
                    exact mm_zret S hR hS hr hlocks (Or.inl rfl) dL_areTasksRight_189
                  · have hf := it_t hf c325
                    refine mm_aload_n S dL_areTasksRight_139 rfl (lv_at hl 5 rfl) ?_
                    refine lv_iload S.1 S.2.1 dL_areTasksRight_140 (lv_at hl 8 rfl) ?_
                    refine lv_iconst (v := 1) S.1 S.2.1 dL_areTasksRight_142 (by decide) ?_
                    obtain ⟨y326, hy326, hf⟩ := bd hf
                    obtain ⟨g327, hf⟩ := gd hf
                    refine mm_callVi S hR hS hA (As := [.int x4, .int 1]) (rest := []) cvL_68 (hK.k g3) (kX6_ofTask_c l G A (hK.k g3) hy326 g327) rfl rfl ⟨Nat.le_of_ble_eq_true rfl, Nat.le_of_ble_eq_true rfl⟩ rfl hl.1 rfl (lv_room (by simp [rf_cat, int_cat, long_cat])) dL_areTasksRight_143 ⟨Nat.le_of_ble_eq_true rfl, Nat.le_of_ble_eq_true rfl⟩ (fun H locs hR hS => ?_)
                    have hK : mmKN μ y326.2.2 := hK.tr (kX6_ofTask_kn hy326)
                    refine lv_if_lt (tgt := 165) S.1 S.2.1 dL_areTasksRight_146 (by decide) (fun c328 => ?_) (fun c328 => ?_)
                    · have hf := it_t hf c328
                      exact wbL_areTasksRight_165 E0 kk12 hkk12 h0 h1 x2 (x3 + 1) x4 y19.2.1 y21.2.1 y326.2.2 hf _ _ _ hR hS (lv_sub hl [5, 6, 7, 1, 8, 4, 3] rfl)
                    · have hf := it_f hf c328
                      refine mm_aload_n S dL_areTasksRight_149 rfl (lv_at hl 5 rfl) ?_
                      refine lv_iload S.1 S.2.1 dL_areTasksRight_150 (lv_at hl 8 rfl) ?_
                      refine lv_iconst (v := 1) S.1 S.2.1 dL_areTasksRight_152 (by decide) ?_
                      obtain ⟨y329, hy329, hf⟩ := bd hf
                      obtain ⟨g330, hf⟩ := gd hf
                      refine mm_callVi S hR hS hA (As := [.int x4, .int 1]) (rest := []) cvL_68 (hK.k g3) (kX6_ofTask_c l G A (hK.k g3) hy329 g330) rfl rfl ⟨Nat.le_of_ble_eq_true rfl, Nat.le_of_ble_eq_true rfl⟩ rfl hl.1 rfl (lv_room (by simp [rf_cat, int_cat, long_cat])) dL_areTasksRight_153 ⟨Nat.le_of_ble_eq_true rfl, Nat.le_of_ble_eq_true rfl⟩ (fun H locs hR hS => ?_)
                      have hK : mmKN μ y329.2.2 := hK.tr (kX6_ofTask_kn hy329)
                      refine mm_aload_n S dL_areTasksRight_156 rfl (lv_at hl 5 rfl) ?_
                      refine lv_bipush (v := 9) S.1 S.2.1 dL_areTasksRight_157 (by decide) ?_
                      obtain ⟨y331, hy331, hf⟩ := bd hf
                      obtain ⟨g332, hf⟩ := gd hf
                      refine mm_callVi S hR hS hA (As := [.int 9]) (rest := [.int y329.2.1]) cvL_39 (hK.k g3) (kX6_many_c l G A (hK.k g3) hy331 g332) rfl rfl ⟨Nat.le_of_ble_eq_true rfl, Nat.le_of_ble_eq_true rfl⟩ rfl hl.1 rfl (lv_room (by simp [rf_cat, int_cat, long_cat])) dL_areTasksRight_159 ⟨Nat.le_of_ble_eq_true rfl, Nat.le_of_ble_eq_true rfl⟩ (fun H locs hR hS => ?_)
                      have hK : mmKN μ y331.2.2 := hK.tr (kX6_many_kn hy331)
                      refine lv_icmp_le (tgt := 188) S.1 S.2.1 dL_areTasksRight_162 (by decide) (fun c333 => ?_) (fun c333 => ?_)
                      · have hf := it_t hf c333
                        refine lv_iconst (v := 0) S.1 S.2.1 dL_areTasksRight_188 (by decide) ?_
                        obtain rfl := Option.some.inj hf
                        refine W.widen (k := 1) (n := 24) (Nat.le_of_ble_eq_true rfl) (Nat.le_of_ble_eq_true rfl) ?_
                        exact mm_zret S hR hS hr hlocks (Or.inl rfl) dL_areTasksRight_189
                      · have hf := it_f hf c333
                        exact wbL_areTasksRight_165 E0 kk12 hkk12 h0 h1 x2 (x3 + 1) x4 y19.2.1 y21.2.1 y331.2.2 hf _ _ _ hR hS (lv_sub hl [5, 6, 7, 1, 8, 4, 3] rfl)
              · have hf := it_f hf c314
                refine lv_iconst (v := 1) S.1 S.2.1 dL_areTasksRight_116 (by decide) ?_
                refine lv_goto (tgt := 121) S.1 S.2.1 dL_areTasksRight_117 (by decide) ?_
                refine lv_iadd S.1 S.2.1 dL_areTasksRight_121 ?_
                refine lv_istore (i := 8) (lv' := [(8, .int ((1 + 1) + 1)), (3, .int (x3 + 1)), (7, .int 0), (6, .int y21.2.1), (5, .int y19.2.1), (0, rf h0), (1, rf h1), (2, .int x2), (4, .int x4)]) S.1 S.2.1 dL_areTasksRight_122 hl (by decide) rfl (fun ls hl => ?_)
                refine lv_iload S.1 S.2.1 dL_areTasksRight_124 (lv_at hl 0 rfl) ?_
                refine lv_iload S.1 S.2.1 dL_areTasksRight_126 (lv_at hl 2 rfl) ?_
                refine lv_if_eq (tgt := 135) S.1 S.2.1 dL_areTasksRight_128 (by decide) (fun c334 => ?_) (fun c334 => ?_)
                · have hf := it_t hf c334
                  refine lv_iconst (v := 1) S.1 S.2.1 dL_areTasksRight_135 (by decide) ?_
                  refine lv_icmp_ne (tgt := 188) S.1 S.2.1 dL_areTasksRight_136 (by decide) (fun c335 => ?_) (fun c335 => ?_)
                  · have hf := it_f hf c335
                    refine lv_iconst (v := 0) S.1 S.2.1 dL_areTasksRight_188 (by decide) ?_
                    obtain rfl := Option.some.inj hf
                    refine W.widen (k := 1) (n := 24) (Nat.le_of_ble_eq_true rfl) (Nat.le_of_ble_eq_true rfl) ?_
                    exact mm_zret S hR hS hr hlocks (Or.inl rfl) dL_areTasksRight_189
                  · have hf := it_t hf c335
                    refine mm_aload_n S dL_areTasksRight_139 rfl (lv_at hl 5 rfl) ?_
                    refine lv_iload S.1 S.2.1 dL_areTasksRight_140 (lv_at hl 8 rfl) ?_
                    refine lv_iconst (v := 1) S.1 S.2.1 dL_areTasksRight_142 (by decide) ?_
                    obtain ⟨y336, hy336, hf⟩ := bd hf
                    obtain ⟨g337, hf⟩ := gd hf
                    refine mm_callVi S hR hS hA (As := [.int x4, .int 1]) (rest := []) cvL_68 (hK.k g3) (kX6_ofTask_c l G A (hK.k g3) hy336 g337) rfl rfl ⟨Nat.le_of_ble_eq_true rfl, Nat.le_of_ble_eq_true rfl⟩ rfl hl.1 rfl (lv_room (by simp [rf_cat, int_cat, long_cat])) dL_areTasksRight_143 ⟨Nat.le_of_ble_eq_true rfl, Nat.le_of_ble_eq_true rfl⟩ (fun H locs hR hS => ?_)
                    have hK : mmKN μ y336.2.2 := hK.tr (kX6_ofTask_kn hy336)
                    refine lv_if_lt (tgt := 165) S.1 S.2.1 dL_areTasksRight_146 (by decide) (fun c338 => ?_) (fun c338 => ?_)
                    · have hf := it_t hf c338
                      exact wbL_areTasksRight_165 E0 kk12 hkk12 h0 h1 x2 (x3 + 1) x4 y19.2.1 y21.2.1 y336.2.2 hf _ _ _ hR hS (lv_sub hl [5, 6, 7, 1, 8, 4, 3] rfl)
                    · have hf := it_f hf c338
                      refine mm_aload_n S dL_areTasksRight_149 rfl (lv_at hl 5 rfl) ?_
                      refine lv_iload S.1 S.2.1 dL_areTasksRight_150 (lv_at hl 8 rfl) ?_
                      refine lv_iconst (v := 1) S.1 S.2.1 dL_areTasksRight_152 (by decide) ?_
                      obtain ⟨y339, hy339, hf⟩ := bd hf
                      obtain ⟨g340, hf⟩ := gd hf
                      refine mm_callVi S hR hS hA (As := [.int x4, .int 1]) (rest := []) cvL_68 (hK.k g3) (kX6_ofTask_c l G A (hK.k g3) hy339 g340) rfl rfl ⟨Nat.le_of_ble_eq_true rfl, Nat.le_of_ble_eq_true rfl⟩ rfl hl.1 rfl (lv_room (by simp [rf_cat, int_cat, long_cat])) dL_areTasksRight_153 ⟨Nat.le_of_ble_eq_true rfl, Nat.le_of_ble_eq_true rfl⟩ (fun H locs hR hS => ?_)
                      have hK : mmKN μ y339.2.2 := hK.tr (kX6_ofTask_kn hy339)
                      refine mm_aload_n S dL_areTasksRight_156 rfl (lv_at hl 5 rfl) ?_
                      refine lv_bipush (v := 9) S.1 S.2.1 dL_areTasksRight_157 (by decide) ?_
                      obtain ⟨y341, hy341, hf⟩ := bd hf
                      obtain ⟨g342, hf⟩ := gd hf
                      refine mm_callVi S hR hS hA (As := [.int 9]) (rest := [.int y339.2.1]) cvL_39 (hK.k g3) (kX6_many_c l G A (hK.k g3) hy341 g342) rfl rfl ⟨Nat.le_of_ble_eq_true rfl, Nat.le_of_ble_eq_true rfl⟩ rfl hl.1 rfl (lv_room (by simp [rf_cat, int_cat, long_cat])) dL_areTasksRight_159 ⟨Nat.le_of_ble_eq_true rfl, Nat.le_of_ble_eq_true rfl⟩ (fun H locs hR hS => ?_)
                      have hK : mmKN μ y341.2.2 := hK.tr (kX6_many_kn hy341)
                      refine lv_icmp_le (tgt := 188) S.1 S.2.1 dL_areTasksRight_162 (by decide) (fun c343 => ?_) (fun c343 => ?_)
                      · have hf := it_t hf c343
                        refine lv_iconst (v := 0) S.1 S.2.1 dL_areTasksRight_188 (by decide) ?_
                        obtain rfl := Option.some.inj hf
                        refine W.widen (k := 1) (n := 24) (Nat.le_of_ble_eq_true rfl) (Nat.le_of_ble_eq_true rfl) ?_
                        exact mm_zret S hR hS hr hlocks (Or.inl rfl) dL_areTasksRight_189
                      · have hf := it_f hf c343
                        exact wbL_areTasksRight_165 E0 kk12 hkk12 h0 h1 x2 (x3 + 1) x4 y19.2.1 y21.2.1 y341.2.2 hf _ _ _ hR hS (lv_sub hl [5, 6, 7, 1, 8, 4, 3] rfl)
                · have hf := it_f hf c334
                  refine lv_iconst (v := 0) S.1 S.2.1 dL_areTasksRight_131 (by decide) ?_
                  refine lv_goto (tgt := 136) S.1 S.2.1 dL_areTasksRight_132 (by decide) ?_
                  refine lv_icmp_ne (tgt := 188) S.1 S.2.1 dL_areTasksRight_136 (by decide) (fun c344 => ?_) (fun c344 => ?_)
                  · have hf := it_f hf c344
                    refine lv_iconst (v := 0) S.1 S.2.1 dL_areTasksRight_188 (by decide) ?_
                    obtain rfl := Option.some.inj hf
                    refine W.widen (k := 1) (n := 24) (Nat.le_of_ble_eq_true rfl) (Nat.le_of_ble_eq_true rfl) ?_
                    exact mm_zret S hR hS hr hlocks (Or.inl rfl) dL_areTasksRight_189
                  · have hf := it_t hf c344
                    refine mm_aload_n S dL_areTasksRight_139 rfl (lv_at hl 5 rfl) ?_
                    refine lv_iload S.1 S.2.1 dL_areTasksRight_140 (lv_at hl 8 rfl) ?_
                    refine lv_iconst (v := 1) S.1 S.2.1 dL_areTasksRight_142 (by decide) ?_
                    obtain ⟨y345, hy345, hf⟩ := bd hf
                    obtain ⟨g346, hf⟩ := gd hf
                    refine mm_callVi S hR hS hA (As := [.int x4, .int 1]) (rest := []) cvL_68 (hK.k g3) (kX6_ofTask_c l G A (hK.k g3) hy345 g346) rfl rfl ⟨Nat.le_of_ble_eq_true rfl, Nat.le_of_ble_eq_true rfl⟩ rfl hl.1 rfl (lv_room (by simp [rf_cat, int_cat, long_cat])) dL_areTasksRight_143 ⟨Nat.le_of_ble_eq_true rfl, Nat.le_of_ble_eq_true rfl⟩ (fun H locs hR hS => ?_)
                    have hK : mmKN μ y345.2.2 := hK.tr (kX6_ofTask_kn hy345)
                    refine lv_if_lt (tgt := 165) S.1 S.2.1 dL_areTasksRight_146 (by decide) (fun c347 => ?_) (fun c347 => ?_)
                    · have hf := it_t hf c347
                      exact wbL_areTasksRight_165 E0 kk12 hkk12 h0 h1 x2 (x3 + 1) x4 y19.2.1 y21.2.1 y345.2.2 hf _ _ _ hR hS (lv_sub hl [5, 6, 7, 1, 8, 4, 3] rfl)
                    · have hf := it_f hf c347
                      refine mm_aload_n S dL_areTasksRight_149 rfl (lv_at hl 5 rfl) ?_
                      refine lv_iload S.1 S.2.1 dL_areTasksRight_150 (lv_at hl 8 rfl) ?_
                      refine lv_iconst (v := 1) S.1 S.2.1 dL_areTasksRight_152 (by decide) ?_
                      obtain ⟨y348, hy348, hf⟩ := bd hf
                      obtain ⟨g349, hf⟩ := gd hf
                      refine mm_callVi S hR hS hA (As := [.int x4, .int 1]) (rest := []) cvL_68 (hK.k g3) (kX6_ofTask_c l G A (hK.k g3) hy348 g349) rfl rfl ⟨Nat.le_of_ble_eq_true rfl, Nat.le_of_ble_eq_true rfl⟩ rfl hl.1 rfl (lv_room (by simp [rf_cat, int_cat, long_cat])) dL_areTasksRight_153 ⟨Nat.le_of_ble_eq_true rfl, Nat.le_of_ble_eq_true rfl⟩ (fun H locs hR hS => ?_)
                      have hK : mmKN μ y348.2.2 := hK.tr (kX6_ofTask_kn hy348)
                      refine mm_aload_n S dL_areTasksRight_156 rfl (lv_at hl 5 rfl) ?_
                      refine lv_bipush (v := 9) S.1 S.2.1 dL_areTasksRight_157 (by decide) ?_
                      obtain ⟨y350, hy350, hf⟩ := bd hf
                      obtain ⟨g351, hf⟩ := gd hf
                      refine mm_callVi S hR hS hA (As := [.int 9]) (rest := [.int y348.2.1]) cvL_39 (hK.k g3) (kX6_many_c l G A (hK.k g3) hy350 g351) rfl rfl ⟨Nat.le_of_ble_eq_true rfl, Nat.le_of_ble_eq_true rfl⟩ rfl hl.1 rfl (lv_room (by simp [rf_cat, int_cat, long_cat])) dL_areTasksRight_159 ⟨Nat.le_of_ble_eq_true rfl, Nat.le_of_ble_eq_true rfl⟩ (fun H locs hR hS => ?_)
                      have hK : mmKN μ y350.2.2 := hK.tr (kX6_many_kn hy350)
                      refine lv_icmp_le (tgt := 188) S.1 S.2.1 dL_areTasksRight_162 (by decide) (fun c352 => ?_) (fun c352 => ?_)
                      · have hf := it_t hf c352
                        refine lv_iconst (v := 0) S.1 S.2.1 dL_areTasksRight_188 (by decide) ?_
                        obtain rfl := Option.some.inj hf
                        refine W.widen (k := 1) (n := 24) (Nat.le_of_ble_eq_true rfl) (Nat.le_of_ble_eq_true rfl) ?_
                        exact mm_zret S hR hS hr hlocks (Or.inl rfl) dL_areTasksRight_189
                      · have hf := it_f hf c352
                        exact wbL_areTasksRight_165 E0 kk12 hkk12 h0 h1 x2 (x3 + 1) x4 y19.2.1 y21.2.1 y350.2.2 hf _ _ _ hR hS (lv_sub hl [5, 6, 7, 1, 8, 4, 3] rfl)
      · have hf := it_f hf c25
        refine lv_iconst (v := 1) S.1 S.2.1 dL_areTasksRight_65 (by decide) ?_
        refine lv_goto (tgt := 70) S.1 S.2.1 dL_areTasksRight_66 (by decide) ?_
        refine lv_istore (i := 7) (lv' := [(7, .int 1), (6, .int y21.2.1), (5, .int y19.2.1), (0, rf h0), (1, rf h1), (2, .int x2), (3, .int x3), (4, .int x4)]) S.1 S.2.1 dL_areTasksRight_70 hl (by decide) rfl (fun ls hl => ?_)
        refine lv_iload_n S.1 S.2.1 dL_areTasksRight_72 rfl (lv_at hl 6 rfl) ?_
        refine lv_iload S.1 S.2.1 dL_areTasksRight_73 (lv_at hl 0 rfl) ?_
        refine lv_if_eq (tgt := 82) S.1 S.2.1 dL_areTasksRight_75 (by decide) (fun c353 => ?_) (fun c353 => ?_)
        · have hf := it_t hf c353
          refine lv_iconst (v := 0) S.1 S.2.1 dL_areTasksRight_82 (by decide) ?_
          refine lv_iadd S.1 S.2.1 dL_areTasksRight_83 ?_
          refine lv_istore_n (i := 3) (lv' := [(3, .int (x3 + 0)), (7, .int 1), (6, .int y21.2.1), (5, .int y19.2.1), (0, rf h0), (1, rf h1), (2, .int x2), (4, .int x4)]) S.1 S.2.1 dL_areTasksRight_84 rfl hl (by decide) rfl (fun ls hl => ?_)
          refine lv_iload S.1 S.2.1 dL_areTasksRight_85 (lv_at hl 3 rfl) ?_
          refine lv_if_lt (tgt := 94) S.1 S.2.1 dL_areTasksRight_87 (by decide) (fun c354 => ?_) (fun c354 => ?_)
          · have hf := it_t hf c354
            refine lv_iconst (v := 0) S.1 S.2.1 dL_areTasksRight_94 (by decide) ?_
            refine mm_aload_n S dL_areTasksRight_95 rfl (lv_at hl 4 rfl) ?_
            refine lv_iload S.1 S.2.1 dL_areTasksRight_96 (lv_at hl 7 rfl) ?_
            refine lv_iconst (v := 1) S.1 S.2.1 dL_areTasksRight_98 (by decide) ?_
            obtain ⟨y355, hy355, hf⟩ := bd hf
            obtain ⟨g356, hf⟩ := gd hf
            refine mm_callVi S hR hS hA (As := [.int x4, .int 1]) (rest := [.int 0]) cvL_68 (hK.k g3) (kX6_ofTask_c l G A (hK.k g3) hy355 g356) rfl rfl ⟨Nat.le_of_ble_eq_true rfl, Nat.le_of_ble_eq_true rfl⟩ rfl hl.1 rfl (lv_room (by simp [rf_cat, int_cat, long_cat])) dL_areTasksRight_99 ⟨Nat.le_of_ble_eq_true rfl, Nat.le_of_ble_eq_true rfl⟩ (fun H locs hR hS => ?_)
            have hK : mmKN μ y355.2.2 := hK.tr (kX6_ofTask_kn hy355)
            refine lv_if_lt (tgt := 109) S.1 S.2.1 dL_areTasksRight_102 (by decide) (fun c357 => ?_) (fun c357 => ?_)
            · have hf := it_t hf c357
              refine lv_iconst (v := 0) S.1 S.2.1 dL_areTasksRight_109 (by decide) ?_
              refine lv_iadd S.1 S.2.1 dL_areTasksRight_110 ?_
              refine lv_iload S.1 S.2.1 dL_areTasksRight_111 (lv_at hl 2 rfl) ?_
              refine lv_if_lt (tgt := 120) S.1 S.2.1 dL_areTasksRight_113 (by decide) (fun c358 => ?_) (fun c358 => ?_)
              · have hf := it_t hf c358
                refine lv_iconst (v := 0) S.1 S.2.1 dL_areTasksRight_120 (by decide) ?_
                refine lv_iadd S.1 S.2.1 dL_areTasksRight_121 ?_
                refine lv_istore (i := 8) (lv' := [(8, .int ((0 + 0) + 0)), (3, .int (x3 + 0)), (7, .int 1), (6, .int y21.2.1), (5, .int y19.2.1), (0, rf h0), (1, rf h1), (2, .int x2), (4, .int x4)]) S.1 S.2.1 dL_areTasksRight_122 hl (by decide) rfl (fun ls hl => ?_)
                refine lv_iload S.1 S.2.1 dL_areTasksRight_124 (lv_at hl 0 rfl) ?_
                refine lv_iload S.1 S.2.1 dL_areTasksRight_126 (lv_at hl 2 rfl) ?_
                refine lv_if_eq (tgt := 135) S.1 S.2.1 dL_areTasksRight_128 (by decide) (fun c359 => ?_) (fun c359 => ?_)
                · have hf := it_t hf c359
                  refine lv_iconst (v := 1) S.1 S.2.1 dL_areTasksRight_135 (by decide) ?_
                  refine lv_icmp_ne (tgt := 188) S.1 S.2.1 dL_areTasksRight_136 (by decide) (fun c360 => ?_) (fun c360 => ?_)
                  · have hf := it_f hf c360
                    refine lv_iconst (v := 0) S.1 S.2.1 dL_areTasksRight_188 (by decide) ?_
                    obtain rfl := Option.some.inj hf
                    refine W.widen (k := 1) (n := 24) (Nat.le_of_ble_eq_true rfl) (Nat.le_of_ble_eq_true rfl) ?_
                    exact mm_zret S hR hS hr hlocks (Or.inl rfl) dL_areTasksRight_189
                  · have hf := it_t hf c360
                    refine mm_aload_n S dL_areTasksRight_139 rfl (lv_at hl 5 rfl) ?_
                    refine lv_iload S.1 S.2.1 dL_areTasksRight_140 (lv_at hl 8 rfl) ?_
                    refine lv_iconst (v := 1) S.1 S.2.1 dL_areTasksRight_142 (by decide) ?_
                    obtain ⟨y361, hy361, hf⟩ := bd hf
                    obtain ⟨g362, hf⟩ := gd hf
                    refine mm_callVi S hR hS hA (As := [.int x4, .int 1]) (rest := []) cvL_68 (hK.k g3) (kX6_ofTask_c l G A (hK.k g3) hy361 g362) rfl rfl ⟨Nat.le_of_ble_eq_true rfl, Nat.le_of_ble_eq_true rfl⟩ rfl hl.1 rfl (lv_room (by simp [rf_cat, int_cat, long_cat])) dL_areTasksRight_143 ⟨Nat.le_of_ble_eq_true rfl, Nat.le_of_ble_eq_true rfl⟩ (fun H locs hR hS => ?_)
                    have hK : mmKN μ y361.2.2 := hK.tr (kX6_ofTask_kn hy361)
                    refine lv_if_lt (tgt := 165) S.1 S.2.1 dL_areTasksRight_146 (by decide) (fun c363 => ?_) (fun c363 => ?_)
                    · have hf := it_t hf c363
                      exact wbL_areTasksRight_165 E0 kk12 hkk12 h0 h1 x2 (x3 + 0) x4 y19.2.1 y21.2.1 y361.2.2 hf _ _ _ hR hS (lv_sub hl [5, 6, 7, 1, 8, 4, 3] rfl)
                    · have hf := it_f hf c363
                      refine mm_aload_n S dL_areTasksRight_149 rfl (lv_at hl 5 rfl) ?_
                      refine lv_iload S.1 S.2.1 dL_areTasksRight_150 (lv_at hl 8 rfl) ?_
                      refine lv_iconst (v := 1) S.1 S.2.1 dL_areTasksRight_152 (by decide) ?_
                      obtain ⟨y364, hy364, hf⟩ := bd hf
                      obtain ⟨g365, hf⟩ := gd hf
                      refine mm_callVi S hR hS hA (As := [.int x4, .int 1]) (rest := []) cvL_68 (hK.k g3) (kX6_ofTask_c l G A (hK.k g3) hy364 g365) rfl rfl ⟨Nat.le_of_ble_eq_true rfl, Nat.le_of_ble_eq_true rfl⟩ rfl hl.1 rfl (lv_room (by simp [rf_cat, int_cat, long_cat])) dL_areTasksRight_153 ⟨Nat.le_of_ble_eq_true rfl, Nat.le_of_ble_eq_true rfl⟩ (fun H locs hR hS => ?_)
                      have hK : mmKN μ y364.2.2 := hK.tr (kX6_ofTask_kn hy364)
                      refine mm_aload_n S dL_areTasksRight_156 rfl (lv_at hl 5 rfl) ?_
                      refine lv_bipush (v := 9) S.1 S.2.1 dL_areTasksRight_157 (by decide) ?_
                      obtain ⟨y366, hy366, hf⟩ := bd hf
                      obtain ⟨g367, hf⟩ := gd hf
                      refine mm_callVi S hR hS hA (As := [.int 9]) (rest := [.int y364.2.1]) cvL_39 (hK.k g3) (kX6_many_c l G A (hK.k g3) hy366 g367) rfl rfl ⟨Nat.le_of_ble_eq_true rfl, Nat.le_of_ble_eq_true rfl⟩ rfl hl.1 rfl (lv_room (by simp [rf_cat, int_cat, long_cat])) dL_areTasksRight_159 ⟨Nat.le_of_ble_eq_true rfl, Nat.le_of_ble_eq_true rfl⟩ (fun H locs hR hS => ?_)
                      have hK : mmKN μ y366.2.2 := hK.tr (kX6_many_kn hy366)
                      refine lv_icmp_le (tgt := 188) S.1 S.2.1 dL_areTasksRight_162 (by decide) (fun c368 => ?_) (fun c368 => ?_)
                      · have hf := it_t hf c368
                        refine lv_iconst (v := 0) S.1 S.2.1 dL_areTasksRight_188 (by decide) ?_
                        obtain rfl := Option.some.inj hf
                        refine W.widen (k := 1) (n := 24) (Nat.le_of_ble_eq_true rfl) (Nat.le_of_ble_eq_true rfl) ?_
                        exact mm_zret S hR hS hr hlocks (Or.inl rfl) dL_areTasksRight_189
                      · have hf := it_f hf c368
                        exact wbL_areTasksRight_165 E0 kk12 hkk12 h0 h1 x2 (x3 + 0) x4 y19.2.1 y21.2.1 y366.2.2 hf _ _ _ hR hS (lv_sub hl [5, 6, 7, 1, 8, 4, 3] rfl)
                · have hf := it_f hf c359
                  refine lv_iconst (v := 0) S.1 S.2.1 dL_areTasksRight_131 (by decide) ?_
                  refine lv_goto (tgt := 136) S.1 S.2.1 dL_areTasksRight_132 (by decide) ?_
                  refine lv_icmp_ne (tgt := 188) S.1 S.2.1 dL_areTasksRight_136 (by decide) (fun c369 => ?_) (fun c369 => ?_)
                  · have hf := it_f hf c369
                    refine lv_iconst (v := 0) S.1 S.2.1 dL_areTasksRight_188 (by decide) ?_
                    obtain rfl := Option.some.inj hf
                    refine W.widen (k := 1) (n := 24) (Nat.le_of_ble_eq_true rfl) (Nat.le_of_ble_eq_true rfl) ?_
                    exact mm_zret S hR hS hr hlocks (Or.inl rfl) dL_areTasksRight_189
                  · have hf := it_t hf c369
                    refine mm_aload_n S dL_areTasksRight_139 rfl (lv_at hl 5 rfl) ?_
                    refine lv_iload S.1 S.2.1 dL_areTasksRight_140 (lv_at hl 8 rfl) ?_
                    refine lv_iconst (v := 1) S.1 S.2.1 dL_areTasksRight_142 (by decide) ?_
                    obtain ⟨y370, hy370, hf⟩ := bd hf
                    obtain ⟨g371, hf⟩ := gd hf
                    refine mm_callVi S hR hS hA (As := [.int x4, .int 1]) (rest := []) cvL_68 (hK.k g3) (kX6_ofTask_c l G A (hK.k g3) hy370 g371) rfl rfl ⟨Nat.le_of_ble_eq_true rfl, Nat.le_of_ble_eq_true rfl⟩ rfl hl.1 rfl (lv_room (by simp [rf_cat, int_cat, long_cat])) dL_areTasksRight_143 ⟨Nat.le_of_ble_eq_true rfl, Nat.le_of_ble_eq_true rfl⟩ (fun H locs hR hS => ?_)
                    have hK : mmKN μ y370.2.2 := hK.tr (kX6_ofTask_kn hy370)
                    refine lv_if_lt (tgt := 165) S.1 S.2.1 dL_areTasksRight_146 (by decide) (fun c372 => ?_) (fun c372 => ?_)
                    · have hf := it_t hf c372
                      exact wbL_areTasksRight_165 E0 kk12 hkk12 h0 h1 x2 (x3 + 0) x4 y19.2.1 y21.2.1 y370.2.2 hf _ _ _ hR hS (lv_sub hl [5, 6, 7, 1, 8, 4, 3] rfl)
                    · have hf := it_f hf c372
                      refine mm_aload_n S dL_areTasksRight_149 rfl (lv_at hl 5 rfl) ?_
                      refine lv_iload S.1 S.2.1 dL_areTasksRight_150 (lv_at hl 8 rfl) ?_
                      refine lv_iconst (v := 1) S.1 S.2.1 dL_areTasksRight_152 (by decide) ?_
                      obtain ⟨y373, hy373, hf⟩ := bd hf
                      obtain ⟨g374, hf⟩ := gd hf
                      refine mm_callVi S hR hS hA (As := [.int x4, .int 1]) (rest := []) cvL_68 (hK.k g3) (kX6_ofTask_c l G A (hK.k g3) hy373 g374) rfl rfl ⟨Nat.le_of_ble_eq_true rfl, Nat.le_of_ble_eq_true rfl⟩ rfl hl.1 rfl (lv_room (by simp [rf_cat, int_cat, long_cat])) dL_areTasksRight_153 ⟨Nat.le_of_ble_eq_true rfl, Nat.le_of_ble_eq_true rfl⟩ (fun H locs hR hS => ?_)
                      have hK : mmKN μ y373.2.2 := hK.tr (kX6_ofTask_kn hy373)
                      refine mm_aload_n S dL_areTasksRight_156 rfl (lv_at hl 5 rfl) ?_
                      refine lv_bipush (v := 9) S.1 S.2.1 dL_areTasksRight_157 (by decide) ?_
                      obtain ⟨y375, hy375, hf⟩ := bd hf
                      obtain ⟨g376, hf⟩ := gd hf
                      refine mm_callVi S hR hS hA (As := [.int 9]) (rest := [.int y373.2.1]) cvL_39 (hK.k g3) (kX6_many_c l G A (hK.k g3) hy375 g376) rfl rfl ⟨Nat.le_of_ble_eq_true rfl, Nat.le_of_ble_eq_true rfl⟩ rfl hl.1 rfl (lv_room (by simp [rf_cat, int_cat, long_cat])) dL_areTasksRight_159 ⟨Nat.le_of_ble_eq_true rfl, Nat.le_of_ble_eq_true rfl⟩ (fun H locs hR hS => ?_)
                      have hK : mmKN μ y375.2.2 := hK.tr (kX6_many_kn hy375)
                      refine lv_icmp_le (tgt := 188) S.1 S.2.1 dL_areTasksRight_162 (by decide) (fun c377 => ?_) (fun c377 => ?_)
                      · have hf := it_t hf c377
                        refine lv_iconst (v := 0) S.1 S.2.1 dL_areTasksRight_188 (by decide) ?_
                        obtain rfl := Option.some.inj hf
                        refine W.widen (k := 1) (n := 24) (Nat.le_of_ble_eq_true rfl) (Nat.le_of_ble_eq_true rfl) ?_
                        exact mm_zret S hR hS hr hlocks (Or.inl rfl) dL_areTasksRight_189
                      · have hf := it_f hf c377
                        exact wbL_areTasksRight_165 E0 kk12 hkk12 h0 h1 x2 (x3 + 0) x4 y19.2.1 y21.2.1 y375.2.2 hf _ _ _ hR hS (lv_sub hl [5, 6, 7, 1, 8, 4, 3] rfl)
              · have hf := it_f hf c358
                refine lv_iconst (v := 1) S.1 S.2.1 dL_areTasksRight_116 (by decide) ?_
                refine lv_goto (tgt := 121) S.1 S.2.1 dL_areTasksRight_117 (by decide) ?_
                refine lv_iadd S.1 S.2.1 dL_areTasksRight_121 ?_
                refine lv_istore (i := 8) (lv' := [(8, .int ((0 + 0) + 1)), (3, .int (x3 + 0)), (7, .int 1), (6, .int y21.2.1), (5, .int y19.2.1), (0, rf h0), (1, rf h1), (2, .int x2), (4, .int x4)]) S.1 S.2.1 dL_areTasksRight_122 hl (by decide) rfl (fun ls hl => ?_)
                refine lv_iload S.1 S.2.1 dL_areTasksRight_124 (lv_at hl 0 rfl) ?_
                refine lv_iload S.1 S.2.1 dL_areTasksRight_126 (lv_at hl 2 rfl) ?_
                refine lv_if_eq (tgt := 135) S.1 S.2.1 dL_areTasksRight_128 (by decide) (fun c378 => ?_) (fun c378 => ?_)
                · have hf := it_t hf c378
                  refine lv_iconst (v := 1) S.1 S.2.1 dL_areTasksRight_135 (by decide) ?_
                  refine lv_icmp_ne (tgt := 188) S.1 S.2.1 dL_areTasksRight_136 (by decide) (fun c379 => ?_) (fun c379 => ?_)
                  · have hf := it_f hf c379
                    refine lv_iconst (v := 0) S.1 S.2.1 dL_areTasksRight_188 (by decide) ?_
                    obtain rfl := Option.some.inj hf
                    refine W.widen (k := 1) (n := 24) (Nat.le_of_ble_eq_true rfl) (Nat.le_of_ble_eq_true rfl) ?_
                    exact mm_zret S hR hS hr hlocks (Or.inl rfl) dL_areTasksRight_189
                  · have hf := it_t hf c379
                    refine mm_aload_n S dL_areTasksRight_139 rfl (lv_at hl 5 rfl) ?_
                    refine lv_iload S.1 S.2.1 dL_areTasksRight_140 (lv_at hl 8 rfl) ?_
                    refine lv_iconst (v := 1) S.1 S.2.1 dL_areTasksRight_142 (by decide) ?_
                    obtain ⟨y380, hy380, hf⟩ := bd hf
                    obtain ⟨g381, hf⟩ := gd hf
                    refine mm_callVi S hR hS hA (As := [.int x4, .int 1]) (rest := []) cvL_68 (hK.k g3) (kX6_ofTask_c l G A (hK.k g3) hy380 g381) rfl rfl ⟨Nat.le_of_ble_eq_true rfl, Nat.le_of_ble_eq_true rfl⟩ rfl hl.1 rfl (lv_room (by simp [rf_cat, int_cat, long_cat])) dL_areTasksRight_143 ⟨Nat.le_of_ble_eq_true rfl, Nat.le_of_ble_eq_true rfl⟩ (fun H locs hR hS => ?_)
                    have hK : mmKN μ y380.2.2 := hK.tr (kX6_ofTask_kn hy380)
                    refine lv_if_lt (tgt := 165) S.1 S.2.1 dL_areTasksRight_146 (by decide) (fun c382 => ?_) (fun c382 => ?_)
                    · have hf := it_t hf c382
                      exact wbL_areTasksRight_165 E0 kk12 hkk12 h0 h1 x2 (x3 + 0) x4 y19.2.1 y21.2.1 y380.2.2 hf _ _ _ hR hS (lv_sub hl [5, 6, 7, 1, 8, 4, 3] rfl)
                    · have hf := it_f hf c382
                      refine mm_aload_n S dL_areTasksRight_149 rfl (lv_at hl 5 rfl) ?_
                      refine lv_iload S.1 S.2.1 dL_areTasksRight_150 (lv_at hl 8 rfl) ?_
                      refine lv_iconst (v := 1) S.1 S.2.1 dL_areTasksRight_152 (by decide) ?_
                      obtain ⟨y383, hy383, hf⟩ := bd hf
                      obtain ⟨g384, hf⟩ := gd hf
                      refine mm_callVi S hR hS hA (As := [.int x4, .int 1]) (rest := []) cvL_68 (hK.k g3) (kX6_ofTask_c l G A (hK.k g3) hy383 g384) rfl rfl ⟨Nat.le_of_ble_eq_true rfl, Nat.le_of_ble_eq_true rfl⟩ rfl hl.1 rfl (lv_room (by simp [rf_cat, int_cat, long_cat])) dL_areTasksRight_153 ⟨Nat.le_of_ble_eq_true rfl, Nat.le_of_ble_eq_true rfl⟩ (fun H locs hR hS => ?_)
                      have hK : mmKN μ y383.2.2 := hK.tr (kX6_ofTask_kn hy383)
                      refine mm_aload_n S dL_areTasksRight_156 rfl (lv_at hl 5 rfl) ?_
                      refine lv_bipush (v := 9) S.1 S.2.1 dL_areTasksRight_157 (by decide) ?_
                      obtain ⟨y385, hy385, hf⟩ := bd hf
                      obtain ⟨g386, hf⟩ := gd hf
                      refine mm_callVi S hR hS hA (As := [.int 9]) (rest := [.int y383.2.1]) cvL_39 (hK.k g3) (kX6_many_c l G A (hK.k g3) hy385 g386) rfl rfl ⟨Nat.le_of_ble_eq_true rfl, Nat.le_of_ble_eq_true rfl⟩ rfl hl.1 rfl (lv_room (by simp [rf_cat, int_cat, long_cat])) dL_areTasksRight_159 ⟨Nat.le_of_ble_eq_true rfl, Nat.le_of_ble_eq_true rfl⟩ (fun H locs hR hS => ?_)
                      have hK : mmKN μ y385.2.2 := hK.tr (kX6_many_kn hy385)
                      refine lv_icmp_le (tgt := 188) S.1 S.2.1 dL_areTasksRight_162 (by decide) (fun c387 => ?_) (fun c387 => ?_)
                      · have hf := it_t hf c387
                        refine lv_iconst (v := 0) S.1 S.2.1 dL_areTasksRight_188 (by decide) ?_
                        obtain rfl := Option.some.inj hf
                        refine W.widen (k := 1) (n := 24) (Nat.le_of_ble_eq_true rfl) (Nat.le_of_ble_eq_true rfl) ?_
                        exact mm_zret S hR hS hr hlocks (Or.inl rfl) dL_areTasksRight_189
                      · have hf := it_f hf c387
                        exact wbL_areTasksRight_165 E0 kk12 hkk12 h0 h1 x2 (x3 + 0) x4 y19.2.1 y21.2.1 y385.2.2 hf _ _ _ hR hS (lv_sub hl [5, 6, 7, 1, 8, 4, 3] rfl)
                · have hf := it_f hf c378
                  refine lv_iconst (v := 0) S.1 S.2.1 dL_areTasksRight_131 (by decide) ?_
                  refine lv_goto (tgt := 136) S.1 S.2.1 dL_areTasksRight_132 (by decide) ?_
                  refine lv_icmp_ne (tgt := 188) S.1 S.2.1 dL_areTasksRight_136 (by decide) (fun c388 => ?_) (fun c388 => ?_)
                  · have hf := it_f hf c388
                    refine lv_iconst (v := 0) S.1 S.2.1 dL_areTasksRight_188 (by decide) ?_
                    obtain rfl := Option.some.inj hf
                    refine W.widen (k := 1) (n := 24) (Nat.le_of_ble_eq_true rfl) (Nat.le_of_ble_eq_true rfl) ?_
                    exact mm_zret S hR hS hr hlocks (Or.inl rfl) dL_areTasksRight_189
                  · have hf := it_t hf c388
                    refine mm_aload_n S dL_areTasksRight_139 rfl (lv_at hl 5 rfl) ?_
                    refine lv_iload S.1 S.2.1 dL_areTasksRight_140 (lv_at hl 8 rfl) ?_
                    refine lv_iconst (v := 1) S.1 S.2.1 dL_areTasksRight_142 (by decide) ?_
                    obtain ⟨y389, hy389, hf⟩ := bd hf
                    obtain ⟨g390, hf⟩ := gd hf
                    refine mm_callVi S hR hS hA (As := [.int x4, .int 1]) (rest := []) cvL_68 (hK.k g3) (kX6_ofTask_c l G A (hK.k g3) hy389 g390) rfl rfl ⟨Nat.le_of_ble_eq_true rfl, Nat.le_of_ble_eq_true rfl⟩ rfl hl.1 rfl (lv_room (by simp [rf_cat, int_cat, long_cat])) dL_areTasksRight_143 ⟨Nat.le_of_ble_eq_true rfl, Nat.le_of_ble_eq_true rfl⟩ (fun H locs hR hS => ?_)
                    have hK : mmKN μ y389.2.2 := hK.tr (kX6_ofTask_kn hy389)
                    refine lv_if_lt (tgt := 165) S.1 S.2.1 dL_areTasksRight_146 (by decide) (fun c391 => ?_) (fun c391 => ?_)
                    · have hf := it_t hf c391
                      exact wbL_areTasksRight_165 E0 kk12 hkk12 h0 h1 x2 (x3 + 0) x4 y19.2.1 y21.2.1 y389.2.2 hf _ _ _ hR hS (lv_sub hl [5, 6, 7, 1, 8, 4, 3] rfl)
                    · have hf := it_f hf c391
                      refine mm_aload_n S dL_areTasksRight_149 rfl (lv_at hl 5 rfl) ?_
                      refine lv_iload S.1 S.2.1 dL_areTasksRight_150 (lv_at hl 8 rfl) ?_
                      refine lv_iconst (v := 1) S.1 S.2.1 dL_areTasksRight_152 (by decide) ?_
                      obtain ⟨y392, hy392, hf⟩ := bd hf
                      obtain ⟨g393, hf⟩ := gd hf
                      refine mm_callVi S hR hS hA (As := [.int x4, .int 1]) (rest := []) cvL_68 (hK.k g3) (kX6_ofTask_c l G A (hK.k g3) hy392 g393) rfl rfl ⟨Nat.le_of_ble_eq_true rfl, Nat.le_of_ble_eq_true rfl⟩ rfl hl.1 rfl (lv_room (by simp [rf_cat, int_cat, long_cat])) dL_areTasksRight_153 ⟨Nat.le_of_ble_eq_true rfl, Nat.le_of_ble_eq_true rfl⟩ (fun H locs hR hS => ?_)
                      have hK : mmKN μ y392.2.2 := hK.tr (kX6_ofTask_kn hy392)
                      refine mm_aload_n S dL_areTasksRight_156 rfl (lv_at hl 5 rfl) ?_
                      refine lv_bipush (v := 9) S.1 S.2.1 dL_areTasksRight_157 (by decide) ?_
                      obtain ⟨y394, hy394, hf⟩ := bd hf
                      obtain ⟨g395, hf⟩ := gd hf
                      refine mm_callVi S hR hS hA (As := [.int 9]) (rest := [.int y392.2.1]) cvL_39 (hK.k g3) (kX6_many_c l G A (hK.k g3) hy394 g395) rfl rfl ⟨Nat.le_of_ble_eq_true rfl, Nat.le_of_ble_eq_true rfl⟩ rfl hl.1 rfl (lv_room (by simp [rf_cat, int_cat, long_cat])) dL_areTasksRight_159 ⟨Nat.le_of_ble_eq_true rfl, Nat.le_of_ble_eq_true rfl⟩ (fun H locs hR hS => ?_)
                      have hK : mmKN μ y394.2.2 := hK.tr (kX6_many_kn hy394)
                      refine lv_icmp_le (tgt := 188) S.1 S.2.1 dL_areTasksRight_162 (by decide) (fun c396 => ?_) (fun c396 => ?_)
                      · have hf := it_t hf c396
                        refine lv_iconst (v := 0) S.1 S.2.1 dL_areTasksRight_188 (by decide) ?_
                        obtain rfl := Option.some.inj hf
                        refine W.widen (k := 1) (n := 24) (Nat.le_of_ble_eq_true rfl) (Nat.le_of_ble_eq_true rfl) ?_
                        exact mm_zret S hR hS hr hlocks (Or.inl rfl) dL_areTasksRight_189
                      · have hf := it_f hf c396
                        exact wbL_areTasksRight_165 E0 kk12 hkk12 h0 h1 x2 (x3 + 0) x4 y19.2.1 y21.2.1 y394.2.2 hf _ _ _ hR hS (lv_sub hl [5, 6, 7, 1, 8, 4, 3] rfl)
            · have hf := it_f hf c357
              refine lv_iconst (v := 1) S.1 S.2.1 dL_areTasksRight_105 (by decide) ?_
              refine lv_goto (tgt := 110) S.1 S.2.1 dL_areTasksRight_106 (by decide) ?_
              refine lv_iadd S.1 S.2.1 dL_areTasksRight_110 ?_
              refine lv_iload S.1 S.2.1 dL_areTasksRight_111 (lv_at hl 2 rfl) ?_
              refine lv_if_lt (tgt := 120) S.1 S.2.1 dL_areTasksRight_113 (by decide) (fun c397 => ?_) (fun c397 => ?_)
              · have hf := it_t hf c397
                refine lv_iconst (v := 0) S.1 S.2.1 dL_areTasksRight_120 (by decide) ?_
                refine lv_iadd S.1 S.2.1 dL_areTasksRight_121 ?_
                refine lv_istore (i := 8) (lv' := [(8, .int ((0 + 1) + 0)), (3, .int (x3 + 0)), (7, .int 1), (6, .int y21.2.1), (5, .int y19.2.1), (0, rf h0), (1, rf h1), (2, .int x2), (4, .int x4)]) S.1 S.2.1 dL_areTasksRight_122 hl (by decide) rfl (fun ls hl => ?_)
                refine lv_iload S.1 S.2.1 dL_areTasksRight_124 (lv_at hl 0 rfl) ?_
                refine lv_iload S.1 S.2.1 dL_areTasksRight_126 (lv_at hl 2 rfl) ?_
                refine lv_if_eq (tgt := 135) S.1 S.2.1 dL_areTasksRight_128 (by decide) (fun c398 => ?_) (fun c398 => ?_)
                · have hf := it_t hf c398
                  refine lv_iconst (v := 1) S.1 S.2.1 dL_areTasksRight_135 (by decide) ?_
                  refine lv_icmp_ne (tgt := 188) S.1 S.2.1 dL_areTasksRight_136 (by decide) (fun c399 => ?_) (fun c399 => ?_)
                  · have hf := it_f hf c399
                    refine lv_iconst (v := 0) S.1 S.2.1 dL_areTasksRight_188 (by decide) ?_
                    obtain rfl := Option.some.inj hf
                    refine W.widen (k := 1) (n := 24) (Nat.le_of_ble_eq_true rfl) (Nat.le_of_ble_eq_true rfl) ?_
                    exact mm_zret S hR hS hr hlocks (Or.inl rfl) dL_areTasksRight_189
                  · have hf := it_t hf c399
                    refine mm_aload_n S dL_areTasksRight_139 rfl (lv_at hl 5 rfl) ?_
                    refine lv_iload S.1 S.2.1 dL_areTasksRight_140 (lv_at hl 8 rfl) ?_
                    refine lv_iconst (v := 1) S.1 S.2.1 dL_areTasksRight_142 (by decide) ?_
                    obtain ⟨y400, hy400, hf⟩ := bd hf
                    obtain ⟨g401, hf⟩ := gd hf
                    refine mm_callVi S hR hS hA (As := [.int x4, .int 1]) (rest := []) cvL_68 (hK.k g3) (kX6_ofTask_c l G A (hK.k g3) hy400 g401) rfl rfl ⟨Nat.le_of_ble_eq_true rfl, Nat.le_of_ble_eq_true rfl⟩ rfl hl.1 rfl (lv_room (by simp [rf_cat, int_cat, long_cat])) dL_areTasksRight_143 ⟨Nat.le_of_ble_eq_true rfl, Nat.le_of_ble_eq_true rfl⟩ (fun H locs hR hS => ?_)
                    have hK : mmKN μ y400.2.2 := hK.tr (kX6_ofTask_kn hy400)
                    refine lv_if_lt (tgt := 165) S.1 S.2.1 dL_areTasksRight_146 (by decide) (fun c402 => ?_) (fun c402 => ?_)
                    · have hf := it_t hf c402
                      exact wbL_areTasksRight_165 E0 kk12 hkk12 h0 h1 x2 (x3 + 0) x4 y19.2.1 y21.2.1 y400.2.2 hf _ _ _ hR hS (lv_sub hl [5, 6, 7, 1, 8, 4, 3] rfl)
                    · have hf := it_f hf c402
                      refine mm_aload_n S dL_areTasksRight_149 rfl (lv_at hl 5 rfl) ?_
                      refine lv_iload S.1 S.2.1 dL_areTasksRight_150 (lv_at hl 8 rfl) ?_
                      refine lv_iconst (v := 1) S.1 S.2.1 dL_areTasksRight_152 (by decide) ?_
                      obtain ⟨y403, hy403, hf⟩ := bd hf
                      obtain ⟨g404, hf⟩ := gd hf
                      refine mm_callVi S hR hS hA (As := [.int x4, .int 1]) (rest := []) cvL_68 (hK.k g3) (kX6_ofTask_c l G A (hK.k g3) hy403 g404) rfl rfl ⟨Nat.le_of_ble_eq_true rfl, Nat.le_of_ble_eq_true rfl⟩ rfl hl.1 rfl (lv_room (by simp [rf_cat, int_cat, long_cat])) dL_areTasksRight_153 ⟨Nat.le_of_ble_eq_true rfl, Nat.le_of_ble_eq_true rfl⟩ (fun H locs hR hS => ?_)
                      have hK : mmKN μ y403.2.2 := hK.tr (kX6_ofTask_kn hy403)
                      refine mm_aload_n S dL_areTasksRight_156 rfl (lv_at hl 5 rfl) ?_
                      refine lv_bipush (v := 9) S.1 S.2.1 dL_areTasksRight_157 (by decide) ?_
                      obtain ⟨y405, hy405, hf⟩ := bd hf
                      obtain ⟨g406, hf⟩ := gd hf
                      refine mm_callVi S hR hS hA (As := [.int 9]) (rest := [.int y403.2.1]) cvL_39 (hK.k g3) (kX6_many_c l G A (hK.k g3) hy405 g406) rfl rfl ⟨Nat.le_of_ble_eq_true rfl, Nat.le_of_ble_eq_true rfl⟩ rfl hl.1 rfl (lv_room (by simp [rf_cat, int_cat, long_cat])) dL_areTasksRight_159 ⟨Nat.le_of_ble_eq_true rfl, Nat.le_of_ble_eq_true rfl⟩ (fun H locs hR hS => ?_)
                      have hK : mmKN μ y405.2.2 := hK.tr (kX6_many_kn hy405)
                      refine lv_icmp_le (tgt := 188) S.1 S.2.1 dL_areTasksRight_162 (by decide) (fun c407 => ?_) (fun c407 => ?_)
                      · have hf := it_t hf c407
                        refine lv_iconst (v := 0) S.1 S.2.1 dL_areTasksRight_188 (by decide) ?_
                        obtain rfl := Option.some.inj hf
                        refine W.widen (k := 1) (n := 24) (Nat.le_of_ble_eq_true rfl) (Nat.le_of_ble_eq_true rfl) ?_
                        exact mm_zret S hR hS hr hlocks (Or.inl rfl) dL_areTasksRight_189
                      · have hf := it_f hf c407
                        exact wbL_areTasksRight_165 E0 kk12 hkk12 h0 h1 x2 (x3 + 0) x4 y19.2.1 y21.2.1 y405.2.2 hf _ _ _ hR hS (lv_sub hl [5, 6, 7, 1, 8, 4, 3] rfl)
                · have hf := it_f hf c398
                  refine lv_iconst (v := 0) S.1 S.2.1 dL_areTasksRight_131 (by decide) ?_
                  refine lv_goto (tgt := 136) S.1 S.2.1 dL_areTasksRight_132 (by decide) ?_
                  refine lv_icmp_ne (tgt := 188) S.1 S.2.1 dL_areTasksRight_136 (by decide) (fun c408 => ?_) (fun c408 => ?_)
                  · have hf := it_f hf c408
                    refine lv_iconst (v := 0) S.1 S.2.1 dL_areTasksRight_188 (by decide) ?_
                    obtain rfl := Option.some.inj hf
                    refine W.widen (k := 1) (n := 24) (Nat.le_of_ble_eq_true rfl) (Nat.le_of_ble_eq_true rfl) ?_
                    exact mm_zret S hR hS hr hlocks (Or.inl rfl) dL_areTasksRight_189
                  · have hf := it_t hf c408
                    refine mm_aload_n S dL_areTasksRight_139 rfl (lv_at hl 5 rfl) ?_
                    refine lv_iload S.1 S.2.1 dL_areTasksRight_140 (lv_at hl 8 rfl) ?_
                    refine lv_iconst (v := 1) S.1 S.2.1 dL_areTasksRight_142 (by decide) ?_
                    obtain ⟨y409, hy409, hf⟩ := bd hf
                    obtain ⟨g410, hf⟩ := gd hf
                    refine mm_callVi S hR hS hA (As := [.int x4, .int 1]) (rest := []) cvL_68 (hK.k g3) (kX6_ofTask_c l G A (hK.k g3) hy409 g410) rfl rfl ⟨Nat.le_of_ble_eq_true rfl, Nat.le_of_ble_eq_true rfl⟩ rfl hl.1 rfl (lv_room (by simp [rf_cat, int_cat, long_cat])) dL_areTasksRight_143 ⟨Nat.le_of_ble_eq_true rfl, Nat.le_of_ble_eq_true rfl⟩ (fun H locs hR hS => ?_)
                    have hK : mmKN μ y409.2.2 := hK.tr (kX6_ofTask_kn hy409)
                    refine lv_if_lt (tgt := 165) S.1 S.2.1 dL_areTasksRight_146 (by decide) (fun c411 => ?_) (fun c411 => ?_)
                    · have hf := it_t hf c411
                      exact wbL_areTasksRight_165 E0 kk12 hkk12 h0 h1 x2 (x3 + 0) x4 y19.2.1 y21.2.1 y409.2.2 hf _ _ _ hR hS (lv_sub hl [5, 6, 7, 1, 8, 4, 3] rfl)
                    · have hf := it_f hf c411
                      refine mm_aload_n S dL_areTasksRight_149 rfl (lv_at hl 5 rfl) ?_
                      refine lv_iload S.1 S.2.1 dL_areTasksRight_150 (lv_at hl 8 rfl) ?_
                      refine lv_iconst (v := 1) S.1 S.2.1 dL_areTasksRight_152 (by decide) ?_
                      obtain ⟨y412, hy412, hf⟩ := bd hf
                      obtain ⟨g413, hf⟩ := gd hf
                      refine mm_callVi S hR hS hA (As := [.int x4, .int 1]) (rest := []) cvL_68 (hK.k g3) (kX6_ofTask_c l G A (hK.k g3) hy412 g413) rfl rfl ⟨Nat.le_of_ble_eq_true rfl, Nat.le_of_ble_eq_true rfl⟩ rfl hl.1 rfl (lv_room (by simp [rf_cat, int_cat, long_cat])) dL_areTasksRight_153 ⟨Nat.le_of_ble_eq_true rfl, Nat.le_of_ble_eq_true rfl⟩ (fun H locs hR hS => ?_)
                      have hK : mmKN μ y412.2.2 := hK.tr (kX6_ofTask_kn hy412)
                      refine mm_aload_n S dL_areTasksRight_156 rfl (lv_at hl 5 rfl) ?_
                      refine lv_bipush (v := 9) S.1 S.2.1 dL_areTasksRight_157 (by decide) ?_
                      obtain ⟨y414, hy414, hf⟩ := bd hf
                      obtain ⟨g415, hf⟩ := gd hf
                      refine mm_callVi S hR hS hA (As := [.int 9]) (rest := [.int y412.2.1]) cvL_39 (hK.k g3) (kX6_many_c l G A (hK.k g3) hy414 g415) rfl rfl ⟨Nat.le_of_ble_eq_true rfl, Nat.le_of_ble_eq_true rfl⟩ rfl hl.1 rfl (lv_room (by simp [rf_cat, int_cat, long_cat])) dL_areTasksRight_159 ⟨Nat.le_of_ble_eq_true rfl, Nat.le_of_ble_eq_true rfl⟩ (fun H locs hR hS => ?_)
                      have hK : mmKN μ y414.2.2 := hK.tr (kX6_many_kn hy414)
                      refine lv_icmp_le (tgt := 188) S.1 S.2.1 dL_areTasksRight_162 (by decide) (fun c416 => ?_) (fun c416 => ?_)
                      · have hf := it_t hf c416
                        refine lv_iconst (v := 0) S.1 S.2.1 dL_areTasksRight_188 (by decide) ?_
                        obtain rfl := Option.some.inj hf
                        refine W.widen (k := 1) (n := 24) (Nat.le_of_ble_eq_true rfl) (Nat.le_of_ble_eq_true rfl) ?_
                        exact mm_zret S hR hS hr hlocks (Or.inl rfl) dL_areTasksRight_189
                      · have hf := it_f hf c416
                        exact wbL_areTasksRight_165 E0 kk12 hkk12 h0 h1 x2 (x3 + 0) x4 y19.2.1 y21.2.1 y414.2.2 hf _ _ _ hR hS (lv_sub hl [5, 6, 7, 1, 8, 4, 3] rfl)
              · have hf := it_f hf c397
                refine lv_iconst (v := 1) S.1 S.2.1 dL_areTasksRight_116 (by decide) ?_
                refine lv_goto (tgt := 121) S.1 S.2.1 dL_areTasksRight_117 (by decide) ?_
                refine lv_iadd S.1 S.2.1 dL_areTasksRight_121 ?_
                refine lv_istore (i := 8) (lv' := [(8, .int ((0 + 1) + 1)), (3, .int (x3 + 0)), (7, .int 1), (6, .int y21.2.1), (5, .int y19.2.1), (0, rf h0), (1, rf h1), (2, .int x2), (4, .int x4)]) S.1 S.2.1 dL_areTasksRight_122 hl (by decide) rfl (fun ls hl => ?_)
                refine lv_iload S.1 S.2.1 dL_areTasksRight_124 (lv_at hl 0 rfl) ?_
                refine lv_iload S.1 S.2.1 dL_areTasksRight_126 (lv_at hl 2 rfl) ?_
                refine lv_if_eq (tgt := 135) S.1 S.2.1 dL_areTasksRight_128 (by decide) (fun c417 => ?_) (fun c417 => ?_)
                · have hf := it_t hf c417
                  refine lv_iconst (v := 1) S.1 S.2.1 dL_areTasksRight_135 (by decide) ?_
                  refine lv_icmp_ne (tgt := 188) S.1 S.2.1 dL_areTasksRight_136 (by decide) (fun c418 => ?_) (fun c418 => ?_)
                  · have hf := it_f hf c418
                    refine lv_iconst (v := 0) S.1 S.2.1 dL_areTasksRight_188 (by decide) ?_
                    obtain rfl := Option.some.inj hf
                    refine W.widen (k := 1) (n := 24) (Nat.le_of_ble_eq_true rfl) (Nat.le_of_ble_eq_true rfl) ?_
                    exact mm_zret S hR hS hr hlocks (Or.inl rfl) dL_areTasksRight_189
                  · have hf := it_t hf c418
                    refine mm_aload_n S dL_areTasksRight_139 rfl (lv_at hl 5 rfl) ?_
                    refine lv_iload S.1 S.2.1 dL_areTasksRight_140 (lv_at hl 8 rfl) ?_
                    refine lv_iconst (v := 1) S.1 S.2.1 dL_areTasksRight_142 (by decide) ?_
                    obtain ⟨y419, hy419, hf⟩ := bd hf
                    obtain ⟨g420, hf⟩ := gd hf
                    refine mm_callVi S hR hS hA (As := [.int x4, .int 1]) (rest := []) cvL_68 (hK.k g3) (kX6_ofTask_c l G A (hK.k g3) hy419 g420) rfl rfl ⟨Nat.le_of_ble_eq_true rfl, Nat.le_of_ble_eq_true rfl⟩ rfl hl.1 rfl (lv_room (by simp [rf_cat, int_cat, long_cat])) dL_areTasksRight_143 ⟨Nat.le_of_ble_eq_true rfl, Nat.le_of_ble_eq_true rfl⟩ (fun H locs hR hS => ?_)
                    have hK : mmKN μ y419.2.2 := hK.tr (kX6_ofTask_kn hy419)
                    refine lv_if_lt (tgt := 165) S.1 S.2.1 dL_areTasksRight_146 (by decide) (fun c421 => ?_) (fun c421 => ?_)
                    · have hf := it_t hf c421
                      exact wbL_areTasksRight_165 E0 kk12 hkk12 h0 h1 x2 (x3 + 0) x4 y19.2.1 y21.2.1 y419.2.2 hf _ _ _ hR hS (lv_sub hl [5, 6, 7, 1, 8, 4, 3] rfl)
                    · have hf := it_f hf c421
                      refine mm_aload_n S dL_areTasksRight_149 rfl (lv_at hl 5 rfl) ?_
                      refine lv_iload S.1 S.2.1 dL_areTasksRight_150 (lv_at hl 8 rfl) ?_
                      refine lv_iconst (v := 1) S.1 S.2.1 dL_areTasksRight_152 (by decide) ?_
                      obtain ⟨y422, hy422, hf⟩ := bd hf
                      obtain ⟨g423, hf⟩ := gd hf
                      refine mm_callVi S hR hS hA (As := [.int x4, .int 1]) (rest := []) cvL_68 (hK.k g3) (kX6_ofTask_c l G A (hK.k g3) hy422 g423) rfl rfl ⟨Nat.le_of_ble_eq_true rfl, Nat.le_of_ble_eq_true rfl⟩ rfl hl.1 rfl (lv_room (by simp [rf_cat, int_cat, long_cat])) dL_areTasksRight_153 ⟨Nat.le_of_ble_eq_true rfl, Nat.le_of_ble_eq_true rfl⟩ (fun H locs hR hS => ?_)
                      have hK : mmKN μ y422.2.2 := hK.tr (kX6_ofTask_kn hy422)
                      refine mm_aload_n S dL_areTasksRight_156 rfl (lv_at hl 5 rfl) ?_
                      refine lv_bipush (v := 9) S.1 S.2.1 dL_areTasksRight_157 (by decide) ?_
                      obtain ⟨y424, hy424, hf⟩ := bd hf
                      obtain ⟨g425, hf⟩ := gd hf
                      refine mm_callVi S hR hS hA (As := [.int 9]) (rest := [.int y422.2.1]) cvL_39 (hK.k g3) (kX6_many_c l G A (hK.k g3) hy424 g425) rfl rfl ⟨Nat.le_of_ble_eq_true rfl, Nat.le_of_ble_eq_true rfl⟩ rfl hl.1 rfl (lv_room (by simp [rf_cat, int_cat, long_cat])) dL_areTasksRight_159 ⟨Nat.le_of_ble_eq_true rfl, Nat.le_of_ble_eq_true rfl⟩ (fun H locs hR hS => ?_)
                      have hK : mmKN μ y424.2.2 := hK.tr (kX6_many_kn hy424)
                      refine lv_icmp_le (tgt := 188) S.1 S.2.1 dL_areTasksRight_162 (by decide) (fun c426 => ?_) (fun c426 => ?_)
                      · have hf := it_t hf c426
                        refine lv_iconst (v := 0) S.1 S.2.1 dL_areTasksRight_188 (by decide) ?_
                        obtain rfl := Option.some.inj hf
                        refine W.widen (k := 1) (n := 24) (Nat.le_of_ble_eq_true rfl) (Nat.le_of_ble_eq_true rfl) ?_
                        exact mm_zret S hR hS hr hlocks (Or.inl rfl) dL_areTasksRight_189
                      · have hf := it_f hf c426
                        exact wbL_areTasksRight_165 E0 kk12 hkk12 h0 h1 x2 (x3 + 0) x4 y19.2.1 y21.2.1 y424.2.2 hf _ _ _ hR hS (lv_sub hl [5, 6, 7, 1, 8, 4, 3] rfl)
                · have hf := it_f hf c417
                  refine lv_iconst (v := 0) S.1 S.2.1 dL_areTasksRight_131 (by decide) ?_
                  refine lv_goto (tgt := 136) S.1 S.2.1 dL_areTasksRight_132 (by decide) ?_
                  refine lv_icmp_ne (tgt := 188) S.1 S.2.1 dL_areTasksRight_136 (by decide) (fun c427 => ?_) (fun c427 => ?_)
                  · have hf := it_f hf c427
                    refine lv_iconst (v := 0) S.1 S.2.1 dL_areTasksRight_188 (by decide) ?_
                    obtain rfl := Option.some.inj hf
                    refine W.widen (k := 1) (n := 24) (Nat.le_of_ble_eq_true rfl) (Nat.le_of_ble_eq_true rfl) ?_
                    exact mm_zret S hR hS hr hlocks (Or.inl rfl) dL_areTasksRight_189
                  · have hf := it_t hf c427
                    refine mm_aload_n S dL_areTasksRight_139 rfl (lv_at hl 5 rfl) ?_
                    refine lv_iload S.1 S.2.1 dL_areTasksRight_140 (lv_at hl 8 rfl) ?_
                    refine lv_iconst (v := 1) S.1 S.2.1 dL_areTasksRight_142 (by decide) ?_
                    obtain ⟨y428, hy428, hf⟩ := bd hf
                    obtain ⟨g429, hf⟩ := gd hf
                    refine mm_callVi S hR hS hA (As := [.int x4, .int 1]) (rest := []) cvL_68 (hK.k g3) (kX6_ofTask_c l G A (hK.k g3) hy428 g429) rfl rfl ⟨Nat.le_of_ble_eq_true rfl, Nat.le_of_ble_eq_true rfl⟩ rfl hl.1 rfl (lv_room (by simp [rf_cat, int_cat, long_cat])) dL_areTasksRight_143 ⟨Nat.le_of_ble_eq_true rfl, Nat.le_of_ble_eq_true rfl⟩ (fun H locs hR hS => ?_)
                    have hK : mmKN μ y428.2.2 := hK.tr (kX6_ofTask_kn hy428)
                    refine lv_if_lt (tgt := 165) S.1 S.2.1 dL_areTasksRight_146 (by decide) (fun c430 => ?_) (fun c430 => ?_)
                    · have hf := it_t hf c430
                      exact wbL_areTasksRight_165 E0 kk12 hkk12 h0 h1 x2 (x3 + 0) x4 y19.2.1 y21.2.1 y428.2.2 hf _ _ _ hR hS (lv_sub hl [5, 6, 7, 1, 8, 4, 3] rfl)
                    · have hf := it_f hf c430
                      refine mm_aload_n S dL_areTasksRight_149 rfl (lv_at hl 5 rfl) ?_
                      refine lv_iload S.1 S.2.1 dL_areTasksRight_150 (lv_at hl 8 rfl) ?_
                      refine lv_iconst (v := 1) S.1 S.2.1 dL_areTasksRight_152 (by decide) ?_
                      obtain ⟨y431, hy431, hf⟩ := bd hf
                      obtain ⟨g432, hf⟩ := gd hf
                      refine mm_callVi S hR hS hA (As := [.int x4, .int 1]) (rest := []) cvL_68 (hK.k g3) (kX6_ofTask_c l G A (hK.k g3) hy431 g432) rfl rfl ⟨Nat.le_of_ble_eq_true rfl, Nat.le_of_ble_eq_true rfl⟩ rfl hl.1 rfl (lv_room (by simp [rf_cat, int_cat, long_cat])) dL_areTasksRight_153 ⟨Nat.le_of_ble_eq_true rfl, Nat.le_of_ble_eq_true rfl⟩ (fun H locs hR hS => ?_)
                      have hK : mmKN μ y431.2.2 := hK.tr (kX6_ofTask_kn hy431)
                      refine mm_aload_n S dL_areTasksRight_156 rfl (lv_at hl 5 rfl) ?_
                      refine lv_bipush (v := 9) S.1 S.2.1 dL_areTasksRight_157 (by decide) ?_
                      obtain ⟨y433, hy433, hf⟩ := bd hf
                      obtain ⟨g434, hf⟩ := gd hf
                      refine mm_callVi S hR hS hA (As := [.int 9]) (rest := [.int y431.2.1]) cvL_39 (hK.k g3) (kX6_many_c l G A (hK.k g3) hy433 g434) rfl rfl ⟨Nat.le_of_ble_eq_true rfl, Nat.le_of_ble_eq_true rfl⟩ rfl hl.1 rfl (lv_room (by simp [rf_cat, int_cat, long_cat])) dL_areTasksRight_159 ⟨Nat.le_of_ble_eq_true rfl, Nat.le_of_ble_eq_true rfl⟩ (fun H locs hR hS => ?_)
                      have hK : mmKN μ y433.2.2 := hK.tr (kX6_many_kn hy433)
                      refine lv_icmp_le (tgt := 188) S.1 S.2.1 dL_areTasksRight_162 (by decide) (fun c435 => ?_) (fun c435 => ?_)
                      · have hf := it_t hf c435
                        refine lv_iconst (v := 0) S.1 S.2.1 dL_areTasksRight_188 (by decide) ?_
                        obtain rfl := Option.some.inj hf
                        refine W.widen (k := 1) (n := 24) (Nat.le_of_ble_eq_true rfl) (Nat.le_of_ble_eq_true rfl) ?_
                        exact mm_zret S hR hS hr hlocks (Or.inl rfl) dL_areTasksRight_189
                      · have hf := it_f hf c435
                        exact wbL_areTasksRight_165 E0 kk12 hkk12 h0 h1 x2 (x3 + 0) x4 y19.2.1 y21.2.1 y433.2.2 hf _ _ _ hR hS (lv_sub hl [5, 6, 7, 1, 8, 4, 3] rfl)
          · have hf := it_f hf c354
            refine lv_iconst (v := 1) S.1 S.2.1 dL_areTasksRight_90 (by decide) ?_
            refine lv_goto (tgt := 95) S.1 S.2.1 dL_areTasksRight_91 (by decide) ?_
            refine mm_aload_n S dL_areTasksRight_95 rfl (lv_at hl 4 rfl) ?_
            refine lv_iload S.1 S.2.1 dL_areTasksRight_96 (lv_at hl 7 rfl) ?_
            refine lv_iconst (v := 1) S.1 S.2.1 dL_areTasksRight_98 (by decide) ?_
            obtain ⟨y436, hy436, hf⟩ := bd hf
            obtain ⟨g437, hf⟩ := gd hf
            refine mm_callVi S hR hS hA (As := [.int x4, .int 1]) (rest := [.int 1]) cvL_68 (hK.k g3) (kX6_ofTask_c l G A (hK.k g3) hy436 g437) rfl rfl ⟨Nat.le_of_ble_eq_true rfl, Nat.le_of_ble_eq_true rfl⟩ rfl hl.1 rfl (lv_room (by simp [rf_cat, int_cat, long_cat])) dL_areTasksRight_99 ⟨Nat.le_of_ble_eq_true rfl, Nat.le_of_ble_eq_true rfl⟩ (fun H locs hR hS => ?_)
            have hK : mmKN μ y436.2.2 := hK.tr (kX6_ofTask_kn hy436)
            refine lv_if_lt (tgt := 109) S.1 S.2.1 dL_areTasksRight_102 (by decide) (fun c438 => ?_) (fun c438 => ?_)
            · have hf := it_t hf c438
              refine lv_iconst (v := 0) S.1 S.2.1 dL_areTasksRight_109 (by decide) ?_
              refine lv_iadd S.1 S.2.1 dL_areTasksRight_110 ?_
              refine lv_iload S.1 S.2.1 dL_areTasksRight_111 (lv_at hl 2 rfl) ?_
              refine lv_if_lt (tgt := 120) S.1 S.2.1 dL_areTasksRight_113 (by decide) (fun c439 => ?_) (fun c439 => ?_)
              · have hf := it_t hf c439
                refine lv_iconst (v := 0) S.1 S.2.1 dL_areTasksRight_120 (by decide) ?_
                refine lv_iadd S.1 S.2.1 dL_areTasksRight_121 ?_
                refine lv_istore (i := 8) (lv' := [(8, .int ((1 + 0) + 0)), (3, .int (x3 + 0)), (7, .int 1), (6, .int y21.2.1), (5, .int y19.2.1), (0, rf h0), (1, rf h1), (2, .int x2), (4, .int x4)]) S.1 S.2.1 dL_areTasksRight_122 hl (by decide) rfl (fun ls hl => ?_)
                refine lv_iload S.1 S.2.1 dL_areTasksRight_124 (lv_at hl 0 rfl) ?_
                refine lv_iload S.1 S.2.1 dL_areTasksRight_126 (lv_at hl 2 rfl) ?_
                refine lv_if_eq (tgt := 135) S.1 S.2.1 dL_areTasksRight_128 (by decide) (fun c440 => ?_) (fun c440 => ?_)
                · have hf := it_t hf c440
                  refine lv_iconst (v := 1) S.1 S.2.1 dL_areTasksRight_135 (by decide) ?_
                  refine lv_icmp_ne (tgt := 188) S.1 S.2.1 dL_areTasksRight_136 (by decide) (fun c441 => ?_) (fun c441 => ?_)
                  · have hf := it_f hf c441
                    refine lv_iconst (v := 0) S.1 S.2.1 dL_areTasksRight_188 (by decide) ?_
                    obtain rfl := Option.some.inj hf
                    refine W.widen (k := 1) (n := 24) (Nat.le_of_ble_eq_true rfl) (Nat.le_of_ble_eq_true rfl) ?_
                    exact mm_zret S hR hS hr hlocks (Or.inl rfl) dL_areTasksRight_189
                  · have hf := it_t hf c441
                    refine mm_aload_n S dL_areTasksRight_139 rfl (lv_at hl 5 rfl) ?_
                    refine lv_iload S.1 S.2.1 dL_areTasksRight_140 (lv_at hl 8 rfl) ?_
                    refine lv_iconst (v := 1) S.1 S.2.1 dL_areTasksRight_142 (by decide) ?_
                    obtain ⟨y442, hy442, hf⟩ := bd hf
                    obtain ⟨g443, hf⟩ := gd hf
                    refine mm_callVi S hR hS hA (As := [.int x4, .int 1]) (rest := []) cvL_68 (hK.k g3) (kX6_ofTask_c l G A (hK.k g3) hy442 g443) rfl rfl ⟨Nat.le_of_ble_eq_true rfl, Nat.le_of_ble_eq_true rfl⟩ rfl hl.1 rfl (lv_room (by simp [rf_cat, int_cat, long_cat])) dL_areTasksRight_143 ⟨Nat.le_of_ble_eq_true rfl, Nat.le_of_ble_eq_true rfl⟩ (fun H locs hR hS => ?_)
                    have hK : mmKN μ y442.2.2 := hK.tr (kX6_ofTask_kn hy442)
                    refine lv_if_lt (tgt := 165) S.1 S.2.1 dL_areTasksRight_146 (by decide) (fun c444 => ?_) (fun c444 => ?_)
                    · have hf := it_t hf c444
                      exact wbL_areTasksRight_165 E0 kk12 hkk12 h0 h1 x2 (x3 + 0) x4 y19.2.1 y21.2.1 y442.2.2 hf _ _ _ hR hS (lv_sub hl [5, 6, 7, 1, 8, 4, 3] rfl)
                    · have hf := it_f hf c444
                      refine mm_aload_n S dL_areTasksRight_149 rfl (lv_at hl 5 rfl) ?_
                      refine lv_iload S.1 S.2.1 dL_areTasksRight_150 (lv_at hl 8 rfl) ?_
                      refine lv_iconst (v := 1) S.1 S.2.1 dL_areTasksRight_152 (by decide) ?_
                      obtain ⟨y445, hy445, hf⟩ := bd hf
                      obtain ⟨g446, hf⟩ := gd hf
                      refine mm_callVi S hR hS hA (As := [.int x4, .int 1]) (rest := []) cvL_68 (hK.k g3) (kX6_ofTask_c l G A (hK.k g3) hy445 g446) rfl rfl ⟨Nat.le_of_ble_eq_true rfl, Nat.le_of_ble_eq_true rfl⟩ rfl hl.1 rfl (lv_room (by simp [rf_cat, int_cat, long_cat])) dL_areTasksRight_153 ⟨Nat.le_of_ble_eq_true rfl, Nat.le_of_ble_eq_true rfl⟩ (fun H locs hR hS => ?_)
                      have hK : mmKN μ y445.2.2 := hK.tr (kX6_ofTask_kn hy445)
                      refine mm_aload_n S dL_areTasksRight_156 rfl (lv_at hl 5 rfl) ?_
                      refine lv_bipush (v := 9) S.1 S.2.1 dL_areTasksRight_157 (by decide) ?_
                      obtain ⟨y447, hy447, hf⟩ := bd hf
                      obtain ⟨g448, hf⟩ := gd hf
                      refine mm_callVi S hR hS hA (As := [.int 9]) (rest := [.int y445.2.1]) cvL_39 (hK.k g3) (kX6_many_c l G A (hK.k g3) hy447 g448) rfl rfl ⟨Nat.le_of_ble_eq_true rfl, Nat.le_of_ble_eq_true rfl⟩ rfl hl.1 rfl (lv_room (by simp [rf_cat, int_cat, long_cat])) dL_areTasksRight_159 ⟨Nat.le_of_ble_eq_true rfl, Nat.le_of_ble_eq_true rfl⟩ (fun H locs hR hS => ?_)
                      have hK : mmKN μ y447.2.2 := hK.tr (kX6_many_kn hy447)
                      refine lv_icmp_le (tgt := 188) S.1 S.2.1 dL_areTasksRight_162 (by decide) (fun c449 => ?_) (fun c449 => ?_)
                      · have hf := it_t hf c449
                        refine lv_iconst (v := 0) S.1 S.2.1 dL_areTasksRight_188 (by decide) ?_
                        obtain rfl := Option.some.inj hf
                        refine W.widen (k := 1) (n := 24) (Nat.le_of_ble_eq_true rfl) (Nat.le_of_ble_eq_true rfl) ?_
                        exact mm_zret S hR hS hr hlocks (Or.inl rfl) dL_areTasksRight_189
                      · have hf := it_f hf c449
                        exact wbL_areTasksRight_165 E0 kk12 hkk12 h0 h1 x2 (x3 + 0) x4 y19.2.1 y21.2.1 y447.2.2 hf _ _ _ hR hS (lv_sub hl [5, 6, 7, 1, 8, 4, 3] rfl)
                · have hf := it_f hf c440
                  refine lv_iconst (v := 0) S.1 S.2.1 dL_areTasksRight_131 (by decide) ?_
                  refine lv_goto (tgt := 136) S.1 S.2.1 dL_areTasksRight_132 (by decide) ?_
                  refine lv_icmp_ne (tgt := 188) S.1 S.2.1 dL_areTasksRight_136 (by decide) (fun c450 => ?_) (fun c450 => ?_)
                  · have hf := it_f hf c450
                    refine lv_iconst (v := 0) S.1 S.2.1 dL_areTasksRight_188 (by decide) ?_
                    obtain rfl := Option.some.inj hf
                    refine W.widen (k := 1) (n := 24) (Nat.le_of_ble_eq_true rfl) (Nat.le_of_ble_eq_true rfl) ?_
                    exact mm_zret S hR hS hr hlocks (Or.inl rfl) dL_areTasksRight_189
                  · have hf := it_t hf c450
                    refine mm_aload_n S dL_areTasksRight_139 rfl (lv_at hl 5 rfl) ?_
                    refine lv_iload S.1 S.2.1 dL_areTasksRight_140 (lv_at hl 8 rfl) ?_
                    refine lv_iconst (v := 1) S.1 S.2.1 dL_areTasksRight_142 (by decide) ?_
                    obtain ⟨y451, hy451, hf⟩ := bd hf
                    obtain ⟨g452, hf⟩ := gd hf
                    refine mm_callVi S hR hS hA (As := [.int x4, .int 1]) (rest := []) cvL_68 (hK.k g3) (kX6_ofTask_c l G A (hK.k g3) hy451 g452) rfl rfl ⟨Nat.le_of_ble_eq_true rfl, Nat.le_of_ble_eq_true rfl⟩ rfl hl.1 rfl (lv_room (by simp [rf_cat, int_cat, long_cat])) dL_areTasksRight_143 ⟨Nat.le_of_ble_eq_true rfl, Nat.le_of_ble_eq_true rfl⟩ (fun H locs hR hS => ?_)
                    have hK : mmKN μ y451.2.2 := hK.tr (kX6_ofTask_kn hy451)
                    refine lv_if_lt (tgt := 165) S.1 S.2.1 dL_areTasksRight_146 (by decide) (fun c453 => ?_) (fun c453 => ?_)
                    · have hf := it_t hf c453
                      exact wbL_areTasksRight_165 E0 kk12 hkk12 h0 h1 x2 (x3 + 0) x4 y19.2.1 y21.2.1 y451.2.2 hf _ _ _ hR hS (lv_sub hl [5, 6, 7, 1, 8, 4, 3] rfl)
                    · have hf := it_f hf c453
                      refine mm_aload_n S dL_areTasksRight_149 rfl (lv_at hl 5 rfl) ?_
                      refine lv_iload S.1 S.2.1 dL_areTasksRight_150 (lv_at hl 8 rfl) ?_
                      refine lv_iconst (v := 1) S.1 S.2.1 dL_areTasksRight_152 (by decide) ?_
                      obtain ⟨y454, hy454, hf⟩ := bd hf
                      obtain ⟨g455, hf⟩ := gd hf
                      refine mm_callVi S hR hS hA (As := [.int x4, .int 1]) (rest := []) cvL_68 (hK.k g3) (kX6_ofTask_c l G A (hK.k g3) hy454 g455) rfl rfl ⟨Nat.le_of_ble_eq_true rfl, Nat.le_of_ble_eq_true rfl⟩ rfl hl.1 rfl (lv_room (by simp [rf_cat, int_cat, long_cat])) dL_areTasksRight_153 ⟨Nat.le_of_ble_eq_true rfl, Nat.le_of_ble_eq_true rfl⟩ (fun H locs hR hS => ?_)
                      have hK : mmKN μ y454.2.2 := hK.tr (kX6_ofTask_kn hy454)
                      refine mm_aload_n S dL_areTasksRight_156 rfl (lv_at hl 5 rfl) ?_
                      refine lv_bipush (v := 9) S.1 S.2.1 dL_areTasksRight_157 (by decide) ?_
                      obtain ⟨y456, hy456, hf⟩ := bd hf
                      obtain ⟨g457, hf⟩ := gd hf
                      refine mm_callVi S hR hS hA (As := [.int 9]) (rest := [.int y454.2.1]) cvL_39 (hK.k g3) (kX6_many_c l G A (hK.k g3) hy456 g457) rfl rfl ⟨Nat.le_of_ble_eq_true rfl, Nat.le_of_ble_eq_true rfl⟩ rfl hl.1 rfl (lv_room (by simp [rf_cat, int_cat, long_cat])) dL_areTasksRight_159 ⟨Nat.le_of_ble_eq_true rfl, Nat.le_of_ble_eq_true rfl⟩ (fun H locs hR hS => ?_)
                      have hK : mmKN μ y456.2.2 := hK.tr (kX6_many_kn hy456)
                      refine lv_icmp_le (tgt := 188) S.1 S.2.1 dL_areTasksRight_162 (by decide) (fun c458 => ?_) (fun c458 => ?_)
                      · have hf := it_t hf c458
                        refine lv_iconst (v := 0) S.1 S.2.1 dL_areTasksRight_188 (by decide) ?_
                        obtain rfl := Option.some.inj hf
                        refine W.widen (k := 1) (n := 24) (Nat.le_of_ble_eq_true rfl) (Nat.le_of_ble_eq_true rfl) ?_
                        exact mm_zret S hR hS hr hlocks (Or.inl rfl) dL_areTasksRight_189
                      · have hf := it_f hf c458
                        exact wbL_areTasksRight_165 E0 kk12 hkk12 h0 h1 x2 (x3 + 0) x4 y19.2.1 y21.2.1 y456.2.2 hf _ _ _ hR hS (lv_sub hl [5, 6, 7, 1, 8, 4, 3] rfl)
              · have hf := it_f hf c439
                refine lv_iconst (v := 1) S.1 S.2.1 dL_areTasksRight_116 (by decide) ?_
                refine lv_goto (tgt := 121) S.1 S.2.1 dL_areTasksRight_117 (by decide) ?_
                refine lv_iadd S.1 S.2.1 dL_areTasksRight_121 ?_
                refine lv_istore (i := 8) (lv' := [(8, .int ((1 + 0) + 1)), (3, .int (x3 + 0)), (7, .int 1), (6, .int y21.2.1), (5, .int y19.2.1), (0, rf h0), (1, rf h1), (2, .int x2), (4, .int x4)]) S.1 S.2.1 dL_areTasksRight_122 hl (by decide) rfl (fun ls hl => ?_)
                refine lv_iload S.1 S.2.1 dL_areTasksRight_124 (lv_at hl 0 rfl) ?_
                refine lv_iload S.1 S.2.1 dL_areTasksRight_126 (lv_at hl 2 rfl) ?_
                refine lv_if_eq (tgt := 135) S.1 S.2.1 dL_areTasksRight_128 (by decide) (fun c459 => ?_) (fun c459 => ?_)
                · have hf := it_t hf c459
                  refine lv_iconst (v := 1) S.1 S.2.1 dL_areTasksRight_135 (by decide) ?_
                  refine lv_icmp_ne (tgt := 188) S.1 S.2.1 dL_areTasksRight_136 (by decide) (fun c460 => ?_) (fun c460 => ?_)
                  · have hf := it_f hf c460
                    refine lv_iconst (v := 0) S.1 S.2.1 dL_areTasksRight_188 (by decide) ?_
                    obtain rfl := Option.some.inj hf
                    refine W.widen (k := 1) (n := 24) (Nat.le_of_ble_eq_true rfl) (Nat.le_of_ble_eq_true rfl) ?_
                    exact mm_zret S hR hS hr hlocks (Or.inl rfl) dL_areTasksRight_189
                  · have hf := it_t hf c460
                    refine mm_aload_n S dL_areTasksRight_139 rfl (lv_at hl 5 rfl) ?_
                    refine lv_iload S.1 S.2.1 dL_areTasksRight_140 (lv_at hl 8 rfl) ?_
                    refine lv_iconst (v := 1) S.1 S.2.1 dL_areTasksRight_142 (by decide) ?_
                    obtain ⟨y461, hy461, hf⟩ := bd hf
                    obtain ⟨g462, hf⟩ := gd hf
                    refine mm_callVi S hR hS hA (As := [.int x4, .int 1]) (rest := []) cvL_68 (hK.k g3) (kX6_ofTask_c l G A (hK.k g3) hy461 g462) rfl rfl ⟨Nat.le_of_ble_eq_true rfl, Nat.le_of_ble_eq_true rfl⟩ rfl hl.1 rfl (lv_room (by simp [rf_cat, int_cat, long_cat])) dL_areTasksRight_143 ⟨Nat.le_of_ble_eq_true rfl, Nat.le_of_ble_eq_true rfl⟩ (fun H locs hR hS => ?_)
                    have hK : mmKN μ y461.2.2 := hK.tr (kX6_ofTask_kn hy461)
                    refine lv_if_lt (tgt := 165) S.1 S.2.1 dL_areTasksRight_146 (by decide) (fun c463 => ?_) (fun c463 => ?_)
                    · have hf := it_t hf c463
                      exact wbL_areTasksRight_165 E0 kk12 hkk12 h0 h1 x2 (x3 + 0) x4 y19.2.1 y21.2.1 y461.2.2 hf _ _ _ hR hS (lv_sub hl [5, 6, 7, 1, 8, 4, 3] rfl)
                    · have hf := it_f hf c463
                      refine mm_aload_n S dL_areTasksRight_149 rfl (lv_at hl 5 rfl) ?_
                      refine lv_iload S.1 S.2.1 dL_areTasksRight_150 (lv_at hl 8 rfl) ?_
                      refine lv_iconst (v := 1) S.1 S.2.1 dL_areTasksRight_152 (by decide) ?_
                      obtain ⟨y464, hy464, hf⟩ := bd hf
                      obtain ⟨g465, hf⟩ := gd hf
                      refine mm_callVi S hR hS hA (As := [.int x4, .int 1]) (rest := []) cvL_68 (hK.k g3) (kX6_ofTask_c l G A (hK.k g3) hy464 g465) rfl rfl ⟨Nat.le_of_ble_eq_true rfl, Nat.le_of_ble_eq_true rfl⟩ rfl hl.1 rfl (lv_room (by simp [rf_cat, int_cat, long_cat])) dL_areTasksRight_153 ⟨Nat.le_of_ble_eq_true rfl, Nat.le_of_ble_eq_true rfl⟩ (fun H locs hR hS => ?_)
                      have hK : mmKN μ y464.2.2 := hK.tr (kX6_ofTask_kn hy464)
                      refine mm_aload_n S dL_areTasksRight_156 rfl (lv_at hl 5 rfl) ?_
                      refine lv_bipush (v := 9) S.1 S.2.1 dL_areTasksRight_157 (by decide) ?_
                      obtain ⟨y466, hy466, hf⟩ := bd hf
                      obtain ⟨g467, hf⟩ := gd hf
                      refine mm_callVi S hR hS hA (As := [.int 9]) (rest := [.int y464.2.1]) cvL_39 (hK.k g3) (kX6_many_c l G A (hK.k g3) hy466 g467) rfl rfl ⟨Nat.le_of_ble_eq_true rfl, Nat.le_of_ble_eq_true rfl⟩ rfl hl.1 rfl (lv_room (by simp [rf_cat, int_cat, long_cat])) dL_areTasksRight_159 ⟨Nat.le_of_ble_eq_true rfl, Nat.le_of_ble_eq_true rfl⟩ (fun H locs hR hS => ?_)
                      have hK : mmKN μ y466.2.2 := hK.tr (kX6_many_kn hy466)
                      refine lv_icmp_le (tgt := 188) S.1 S.2.1 dL_areTasksRight_162 (by decide) (fun c468 => ?_) (fun c468 => ?_)
                      · have hf := it_t hf c468
                        refine lv_iconst (v := 0) S.1 S.2.1 dL_areTasksRight_188 (by decide) ?_
                        obtain rfl := Option.some.inj hf
                        refine W.widen (k := 1) (n := 24) (Nat.le_of_ble_eq_true rfl) (Nat.le_of_ble_eq_true rfl) ?_
                        exact mm_zret S hR hS hr hlocks (Or.inl rfl) dL_areTasksRight_189
                      · have hf := it_f hf c468
                        exact wbL_areTasksRight_165 E0 kk12 hkk12 h0 h1 x2 (x3 + 0) x4 y19.2.1 y21.2.1 y466.2.2 hf _ _ _ hR hS (lv_sub hl [5, 6, 7, 1, 8, 4, 3] rfl)
                · have hf := it_f hf c459
                  refine lv_iconst (v := 0) S.1 S.2.1 dL_areTasksRight_131 (by decide) ?_
                  refine lv_goto (tgt := 136) S.1 S.2.1 dL_areTasksRight_132 (by decide) ?_
                  refine lv_icmp_ne (tgt := 188) S.1 S.2.1 dL_areTasksRight_136 (by decide) (fun c469 => ?_) (fun c469 => ?_)
                  · have hf := it_f hf c469
                    refine lv_iconst (v := 0) S.1 S.2.1 dL_areTasksRight_188 (by decide) ?_
                    obtain rfl := Option.some.inj hf
                    refine W.widen (k := 1) (n := 24) (Nat.le_of_ble_eq_true rfl) (Nat.le_of_ble_eq_true rfl) ?_
                    exact mm_zret S hR hS hr hlocks (Or.inl rfl) dL_areTasksRight_189
                  · have hf := it_t hf c469
                    refine mm_aload_n S dL_areTasksRight_139 rfl (lv_at hl 5 rfl) ?_
                    refine lv_iload S.1 S.2.1 dL_areTasksRight_140 (lv_at hl 8 rfl) ?_
                    refine lv_iconst (v := 1) S.1 S.2.1 dL_areTasksRight_142 (by decide) ?_
                    obtain ⟨y470, hy470, hf⟩ := bd hf
                    obtain ⟨g471, hf⟩ := gd hf
                    refine mm_callVi S hR hS hA (As := [.int x4, .int 1]) (rest := []) cvL_68 (hK.k g3) (kX6_ofTask_c l G A (hK.k g3) hy470 g471) rfl rfl ⟨Nat.le_of_ble_eq_true rfl, Nat.le_of_ble_eq_true rfl⟩ rfl hl.1 rfl (lv_room (by simp [rf_cat, int_cat, long_cat])) dL_areTasksRight_143 ⟨Nat.le_of_ble_eq_true rfl, Nat.le_of_ble_eq_true rfl⟩ (fun H locs hR hS => ?_)
                    have hK : mmKN μ y470.2.2 := hK.tr (kX6_ofTask_kn hy470)
                    refine lv_if_lt (tgt := 165) S.1 S.2.1 dL_areTasksRight_146 (by decide) (fun c472 => ?_) (fun c472 => ?_)
                    · have hf := it_t hf c472
                      exact wbL_areTasksRight_165 E0 kk12 hkk12 h0 h1 x2 (x3 + 0) x4 y19.2.1 y21.2.1 y470.2.2 hf _ _ _ hR hS (lv_sub hl [5, 6, 7, 1, 8, 4, 3] rfl)
                    · have hf := it_f hf c472
                      refine mm_aload_n S dL_areTasksRight_149 rfl (lv_at hl 5 rfl) ?_
                      refine lv_iload S.1 S.2.1 dL_areTasksRight_150 (lv_at hl 8 rfl) ?_
                      refine lv_iconst (v := 1) S.1 S.2.1 dL_areTasksRight_152 (by decide) ?_
                      obtain ⟨y473, hy473, hf⟩ := bd hf
                      obtain ⟨g474, hf⟩ := gd hf
                      refine mm_callVi S hR hS hA (As := [.int x4, .int 1]) (rest := []) cvL_68 (hK.k g3) (kX6_ofTask_c l G A (hK.k g3) hy473 g474) rfl rfl ⟨Nat.le_of_ble_eq_true rfl, Nat.le_of_ble_eq_true rfl⟩ rfl hl.1 rfl (lv_room (by simp [rf_cat, int_cat, long_cat])) dL_areTasksRight_153 ⟨Nat.le_of_ble_eq_true rfl, Nat.le_of_ble_eq_true rfl⟩ (fun H locs hR hS => ?_)
                      have hK : mmKN μ y473.2.2 := hK.tr (kX6_ofTask_kn hy473)
                      refine mm_aload_n S dL_areTasksRight_156 rfl (lv_at hl 5 rfl) ?_
                      refine lv_bipush (v := 9) S.1 S.2.1 dL_areTasksRight_157 (by decide) ?_
                      obtain ⟨y475, hy475, hf⟩ := bd hf
                      obtain ⟨g476, hf⟩ := gd hf
                      refine mm_callVi S hR hS hA (As := [.int 9]) (rest := [.int y473.2.1]) cvL_39 (hK.k g3) (kX6_many_c l G A (hK.k g3) hy475 g476) rfl rfl ⟨Nat.le_of_ble_eq_true rfl, Nat.le_of_ble_eq_true rfl⟩ rfl hl.1 rfl (lv_room (by simp [rf_cat, int_cat, long_cat])) dL_areTasksRight_159 ⟨Nat.le_of_ble_eq_true rfl, Nat.le_of_ble_eq_true rfl⟩ (fun H locs hR hS => ?_)
                      have hK : mmKN μ y475.2.2 := hK.tr (kX6_many_kn hy475)
                      refine lv_icmp_le (tgt := 188) S.1 S.2.1 dL_areTasksRight_162 (by decide) (fun c477 => ?_) (fun c477 => ?_)
                      · have hf := it_t hf c477
                        refine lv_iconst (v := 0) S.1 S.2.1 dL_areTasksRight_188 (by decide) ?_
                        obtain rfl := Option.some.inj hf
                        refine W.widen (k := 1) (n := 24) (Nat.le_of_ble_eq_true rfl) (Nat.le_of_ble_eq_true rfl) ?_
                        exact mm_zret S hR hS hr hlocks (Or.inl rfl) dL_areTasksRight_189
                      · have hf := it_f hf c477
                        exact wbL_areTasksRight_165 E0 kk12 hkk12 h0 h1 x2 (x3 + 0) x4 y19.2.1 y21.2.1 y475.2.2 hf _ _ _ hR hS (lv_sub hl [5, 6, 7, 1, 8, 4, 3] rfl)
            · have hf := it_f hf c438
              refine lv_iconst (v := 1) S.1 S.2.1 dL_areTasksRight_105 (by decide) ?_
              refine lv_goto (tgt := 110) S.1 S.2.1 dL_areTasksRight_106 (by decide) ?_
              refine lv_iadd S.1 S.2.1 dL_areTasksRight_110 ?_
              refine lv_iload S.1 S.2.1 dL_areTasksRight_111 (lv_at hl 2 rfl) ?_
              refine lv_if_lt (tgt := 120) S.1 S.2.1 dL_areTasksRight_113 (by decide) (fun c478 => ?_) (fun c478 => ?_)
              · have hf := it_t hf c478
                refine lv_iconst (v := 0) S.1 S.2.1 dL_areTasksRight_120 (by decide) ?_
                refine lv_iadd S.1 S.2.1 dL_areTasksRight_121 ?_
                refine lv_istore (i := 8) (lv' := [(8, .int ((1 + 1) + 0)), (3, .int (x3 + 0)), (7, .int 1), (6, .int y21.2.1), (5, .int y19.2.1), (0, rf h0), (1, rf h1), (2, .int x2), (4, .int x4)]) S.1 S.2.1 dL_areTasksRight_122 hl (by decide) rfl (fun ls hl => ?_)
                refine lv_iload S.1 S.2.1 dL_areTasksRight_124 (lv_at hl 0 rfl) ?_
                refine lv_iload S.1 S.2.1 dL_areTasksRight_126 (lv_at hl 2 rfl) ?_
                refine lv_if_eq (tgt := 135) S.1 S.2.1 dL_areTasksRight_128 (by decide) (fun c479 => ?_) (fun c479 => ?_)
                · have hf := it_t hf c479
                  refine lv_iconst (v := 1) S.1 S.2.1 dL_areTasksRight_135 (by decide) ?_
                  refine lv_icmp_ne (tgt := 188) S.1 S.2.1 dL_areTasksRight_136 (by decide) (fun c480 => ?_) (fun c480 => ?_)
                  · have hf := it_f hf c480
                    refine lv_iconst (v := 0) S.1 S.2.1 dL_areTasksRight_188 (by decide) ?_
                    obtain rfl := Option.some.inj hf
                    refine W.widen (k := 1) (n := 24) (Nat.le_of_ble_eq_true rfl) (Nat.le_of_ble_eq_true rfl) ?_
                    exact mm_zret S hR hS hr hlocks (Or.inl rfl) dL_areTasksRight_189
                  · have hf := it_t hf c480
                    refine mm_aload_n S dL_areTasksRight_139 rfl (lv_at hl 5 rfl) ?_
                    refine lv_iload S.1 S.2.1 dL_areTasksRight_140 (lv_at hl 8 rfl) ?_
                    refine lv_iconst (v := 1) S.1 S.2.1 dL_areTasksRight_142 (by decide) ?_
                    obtain ⟨y481, hy481, hf⟩ := bd hf
                    obtain ⟨g482, hf⟩ := gd hf
                    refine mm_callVi S hR hS hA (As := [.int x4, .int 1]) (rest := []) cvL_68 (hK.k g3) (kX6_ofTask_c l G A (hK.k g3) hy481 g482) rfl rfl ⟨Nat.le_of_ble_eq_true rfl, Nat.le_of_ble_eq_true rfl⟩ rfl hl.1 rfl (lv_room (by simp [rf_cat, int_cat, long_cat])) dL_areTasksRight_143 ⟨Nat.le_of_ble_eq_true rfl, Nat.le_of_ble_eq_true rfl⟩ (fun H locs hR hS => ?_)
                    have hK : mmKN μ y481.2.2 := hK.tr (kX6_ofTask_kn hy481)
                    refine lv_if_lt (tgt := 165) S.1 S.2.1 dL_areTasksRight_146 (by decide) (fun c483 => ?_) (fun c483 => ?_)
                    · have hf := it_t hf c483
                      exact wbL_areTasksRight_165 E0 kk12 hkk12 h0 h1 x2 (x3 + 0) x4 y19.2.1 y21.2.1 y481.2.2 hf _ _ _ hR hS (lv_sub hl [5, 6, 7, 1, 8, 4, 3] rfl)
                    · have hf := it_f hf c483
                      refine mm_aload_n S dL_areTasksRight_149 rfl (lv_at hl 5 rfl) ?_
                      refine lv_iload S.1 S.2.1 dL_areTasksRight_150 (lv_at hl 8 rfl) ?_
                      refine lv_iconst (v := 1) S.1 S.2.1 dL_areTasksRight_152 (by decide) ?_
                      obtain ⟨y484, hy484, hf⟩ := bd hf
                      obtain ⟨g485, hf⟩ := gd hf
                      refine mm_callVi S hR hS hA (As := [.int x4, .int 1]) (rest := []) cvL_68 (hK.k g3) (kX6_ofTask_c l G A (hK.k g3) hy484 g485) rfl rfl ⟨Nat.le_of_ble_eq_true rfl, Nat.le_of_ble_eq_true rfl⟩ rfl hl.1 rfl (lv_room (by simp [rf_cat, int_cat, long_cat])) dL_areTasksRight_153 ⟨Nat.le_of_ble_eq_true rfl, Nat.le_of_ble_eq_true rfl⟩ (fun H locs hR hS => ?_)
                      have hK : mmKN μ y484.2.2 := hK.tr (kX6_ofTask_kn hy484)
                      refine mm_aload_n S dL_areTasksRight_156 rfl (lv_at hl 5 rfl) ?_
                      refine lv_bipush (v := 9) S.1 S.2.1 dL_areTasksRight_157 (by decide) ?_
                      obtain ⟨y486, hy486, hf⟩ := bd hf
                      obtain ⟨g487, hf⟩ := gd hf
                      refine mm_callVi S hR hS hA (As := [.int 9]) (rest := [.int y484.2.1]) cvL_39 (hK.k g3) (kX6_many_c l G A (hK.k g3) hy486 g487) rfl rfl ⟨Nat.le_of_ble_eq_true rfl, Nat.le_of_ble_eq_true rfl⟩ rfl hl.1 rfl (lv_room (by simp [rf_cat, int_cat, long_cat])) dL_areTasksRight_159 ⟨Nat.le_of_ble_eq_true rfl, Nat.le_of_ble_eq_true rfl⟩ (fun H locs hR hS => ?_)
                      have hK : mmKN μ y486.2.2 := hK.tr (kX6_many_kn hy486)
                      refine lv_icmp_le (tgt := 188) S.1 S.2.1 dL_areTasksRight_162 (by decide) (fun c488 => ?_) (fun c488 => ?_)
                      · have hf := it_t hf c488
                        refine lv_iconst (v := 0) S.1 S.2.1 dL_areTasksRight_188 (by decide) ?_
                        obtain rfl := Option.some.inj hf
                        refine W.widen (k := 1) (n := 24) (Nat.le_of_ble_eq_true rfl) (Nat.le_of_ble_eq_true rfl) ?_
                        exact mm_zret S hR hS hr hlocks (Or.inl rfl) dL_areTasksRight_189
                      · have hf := it_f hf c488
                        exact wbL_areTasksRight_165 E0 kk12 hkk12 h0 h1 x2 (x3 + 0) x4 y19.2.1 y21.2.1 y486.2.2 hf _ _ _ hR hS (lv_sub hl [5, 6, 7, 1, 8, 4, 3] rfl)
                · have hf := it_f hf c479
                  refine lv_iconst (v := 0) S.1 S.2.1 dL_areTasksRight_131 (by decide) ?_
                  refine lv_goto (tgt := 136) S.1 S.2.1 dL_areTasksRight_132 (by decide) ?_
                  refine lv_icmp_ne (tgt := 188) S.1 S.2.1 dL_areTasksRight_136 (by decide) (fun c489 => ?_) (fun c489 => ?_)
                  · have hf := it_f hf c489
                    refine lv_iconst (v := 0) S.1 S.2.1 dL_areTasksRight_188 (by decide) ?_
                    obtain rfl := Option.some.inj hf
                    refine W.widen (k := 1) (n := 24) (Nat.le_of_ble_eq_true rfl) (Nat.le_of_ble_eq_true rfl) ?_
                    exact mm_zret S hR hS hr hlocks (Or.inl rfl) dL_areTasksRight_189
                  · have hf := it_t hf c489
                    refine mm_aload_n S dL_areTasksRight_139 rfl (lv_at hl 5 rfl) ?_
                    refine lv_iload S.1 S.2.1 dL_areTasksRight_140 (lv_at hl 8 rfl) ?_
                    refine lv_iconst (v := 1) S.1 S.2.1 dL_areTasksRight_142 (by decide) ?_
                    obtain ⟨y490, hy490, hf⟩ := bd hf
                    obtain ⟨g491, hf⟩ := gd hf
                    refine mm_callVi S hR hS hA (As := [.int x4, .int 1]) (rest := []) cvL_68 (hK.k g3) (kX6_ofTask_c l G A (hK.k g3) hy490 g491) rfl rfl ⟨Nat.le_of_ble_eq_true rfl, Nat.le_of_ble_eq_true rfl⟩ rfl hl.1 rfl (lv_room (by simp [rf_cat, int_cat, long_cat])) dL_areTasksRight_143 ⟨Nat.le_of_ble_eq_true rfl, Nat.le_of_ble_eq_true rfl⟩ (fun H locs hR hS => ?_)
                    have hK : mmKN μ y490.2.2 := hK.tr (kX6_ofTask_kn hy490)
                    refine lv_if_lt (tgt := 165) S.1 S.2.1 dL_areTasksRight_146 (by decide) (fun c492 => ?_) (fun c492 => ?_)
                    · have hf := it_t hf c492
                      exact wbL_areTasksRight_165 E0 kk12 hkk12 h0 h1 x2 (x3 + 0) x4 y19.2.1 y21.2.1 y490.2.2 hf _ _ _ hR hS (lv_sub hl [5, 6, 7, 1, 8, 4, 3] rfl)
                    · have hf := it_f hf c492
                      refine mm_aload_n S dL_areTasksRight_149 rfl (lv_at hl 5 rfl) ?_
                      refine lv_iload S.1 S.2.1 dL_areTasksRight_150 (lv_at hl 8 rfl) ?_
                      refine lv_iconst (v := 1) S.1 S.2.1 dL_areTasksRight_152 (by decide) ?_
                      obtain ⟨y493, hy493, hf⟩ := bd hf
                      obtain ⟨g494, hf⟩ := gd hf
                      refine mm_callVi S hR hS hA (As := [.int x4, .int 1]) (rest := []) cvL_68 (hK.k g3) (kX6_ofTask_c l G A (hK.k g3) hy493 g494) rfl rfl ⟨Nat.le_of_ble_eq_true rfl, Nat.le_of_ble_eq_true rfl⟩ rfl hl.1 rfl (lv_room (by simp [rf_cat, int_cat, long_cat])) dL_areTasksRight_153 ⟨Nat.le_of_ble_eq_true rfl, Nat.le_of_ble_eq_true rfl⟩ (fun H locs hR hS => ?_)
                      have hK : mmKN μ y493.2.2 := hK.tr (kX6_ofTask_kn hy493)
                      refine mm_aload_n S dL_areTasksRight_156 rfl (lv_at hl 5 rfl) ?_
                      refine lv_bipush (v := 9) S.1 S.2.1 dL_areTasksRight_157 (by decide) ?_
                      obtain ⟨y495, hy495, hf⟩ := bd hf
                      obtain ⟨g496, hf⟩ := gd hf
                      refine mm_callVi S hR hS hA (As := [.int 9]) (rest := [.int y493.2.1]) cvL_39 (hK.k g3) (kX6_many_c l G A (hK.k g3) hy495 g496) rfl rfl ⟨Nat.le_of_ble_eq_true rfl, Nat.le_of_ble_eq_true rfl⟩ rfl hl.1 rfl (lv_room (by simp [rf_cat, int_cat, long_cat])) dL_areTasksRight_159 ⟨Nat.le_of_ble_eq_true rfl, Nat.le_of_ble_eq_true rfl⟩ (fun H locs hR hS => ?_)
                      have hK : mmKN μ y495.2.2 := hK.tr (kX6_many_kn hy495)
                      refine lv_icmp_le (tgt := 188) S.1 S.2.1 dL_areTasksRight_162 (by decide) (fun c497 => ?_) (fun c497 => ?_)
                      · have hf := it_t hf c497
                        refine lv_iconst (v := 0) S.1 S.2.1 dL_areTasksRight_188 (by decide) ?_
                        obtain rfl := Option.some.inj hf
                        refine W.widen (k := 1) (n := 24) (Nat.le_of_ble_eq_true rfl) (Nat.le_of_ble_eq_true rfl) ?_
                        exact mm_zret S hR hS hr hlocks (Or.inl rfl) dL_areTasksRight_189
                      · have hf := it_f hf c497
                        exact wbL_areTasksRight_165 E0 kk12 hkk12 h0 h1 x2 (x3 + 0) x4 y19.2.1 y21.2.1 y495.2.2 hf _ _ _ hR hS (lv_sub hl [5, 6, 7, 1, 8, 4, 3] rfl)
              · have hf := it_f hf c478
                refine lv_iconst (v := 1) S.1 S.2.1 dL_areTasksRight_116 (by decide) ?_
                refine lv_goto (tgt := 121) S.1 S.2.1 dL_areTasksRight_117 (by decide) ?_
                refine lv_iadd S.1 S.2.1 dL_areTasksRight_121 ?_
                refine lv_istore (i := 8) (lv' := [(8, .int ((1 + 1) + 1)), (3, .int (x3 + 0)), (7, .int 1), (6, .int y21.2.1), (5, .int y19.2.1), (0, rf h0), (1, rf h1), (2, .int x2), (4, .int x4)]) S.1 S.2.1 dL_areTasksRight_122 hl (by decide) rfl (fun ls hl => ?_)
                refine lv_iload S.1 S.2.1 dL_areTasksRight_124 (lv_at hl 0 rfl) ?_
                refine lv_iload S.1 S.2.1 dL_areTasksRight_126 (lv_at hl 2 rfl) ?_
                refine lv_if_eq (tgt := 135) S.1 S.2.1 dL_areTasksRight_128 (by decide) (fun c498 => ?_) (fun c498 => ?_)
                · have hf := it_t hf c498
                  refine lv_iconst (v := 1) S.1 S.2.1 dL_areTasksRight_135 (by decide) ?_
                  refine lv_icmp_ne (tgt := 188) S.1 S.2.1 dL_areTasksRight_136 (by decide) (fun c499 => ?_) (fun c499 => ?_)
                  · have hf := it_f hf c499
                    refine lv_iconst (v := 0) S.1 S.2.1 dL_areTasksRight_188 (by decide) ?_
                    obtain rfl := Option.some.inj hf
                    refine W.widen (k := 1) (n := 24) (Nat.le_of_ble_eq_true rfl) (Nat.le_of_ble_eq_true rfl) ?_
                    exact mm_zret S hR hS hr hlocks (Or.inl rfl) dL_areTasksRight_189
                  · have hf := it_t hf c499
                    refine mm_aload_n S dL_areTasksRight_139 rfl (lv_at hl 5 rfl) ?_
                    refine lv_iload S.1 S.2.1 dL_areTasksRight_140 (lv_at hl 8 rfl) ?_
                    refine lv_iconst (v := 1) S.1 S.2.1 dL_areTasksRight_142 (by decide) ?_
                    obtain ⟨y500, hy500, hf⟩ := bd hf
                    obtain ⟨g501, hf⟩ := gd hf
                    refine mm_callVi S hR hS hA (As := [.int x4, .int 1]) (rest := []) cvL_68 (hK.k g3) (kX6_ofTask_c l G A (hK.k g3) hy500 g501) rfl rfl ⟨Nat.le_of_ble_eq_true rfl, Nat.le_of_ble_eq_true rfl⟩ rfl hl.1 rfl (lv_room (by simp [rf_cat, int_cat, long_cat])) dL_areTasksRight_143 ⟨Nat.le_of_ble_eq_true rfl, Nat.le_of_ble_eq_true rfl⟩ (fun H locs hR hS => ?_)
                    have hK : mmKN μ y500.2.2 := hK.tr (kX6_ofTask_kn hy500)
                    refine lv_if_lt (tgt := 165) S.1 S.2.1 dL_areTasksRight_146 (by decide) (fun c502 => ?_) (fun c502 => ?_)
                    · have hf := it_t hf c502
                      exact wbL_areTasksRight_165 E0 kk12 hkk12 h0 h1 x2 (x3 + 0) x4 y19.2.1 y21.2.1 y500.2.2 hf _ _ _ hR hS (lv_sub hl [5, 6, 7, 1, 8, 4, 3] rfl)
                    · have hf := it_f hf c502
                      refine mm_aload_n S dL_areTasksRight_149 rfl (lv_at hl 5 rfl) ?_
                      refine lv_iload S.1 S.2.1 dL_areTasksRight_150 (lv_at hl 8 rfl) ?_
                      refine lv_iconst (v := 1) S.1 S.2.1 dL_areTasksRight_152 (by decide) ?_
                      obtain ⟨y503, hy503, hf⟩ := bd hf
                      obtain ⟨g504, hf⟩ := gd hf
                      refine mm_callVi S hR hS hA (As := [.int x4, .int 1]) (rest := []) cvL_68 (hK.k g3) (kX6_ofTask_c l G A (hK.k g3) hy503 g504) rfl rfl ⟨Nat.le_of_ble_eq_true rfl, Nat.le_of_ble_eq_true rfl⟩ rfl hl.1 rfl (lv_room (by simp [rf_cat, int_cat, long_cat])) dL_areTasksRight_153 ⟨Nat.le_of_ble_eq_true rfl, Nat.le_of_ble_eq_true rfl⟩ (fun H locs hR hS => ?_)
                      have hK : mmKN μ y503.2.2 := hK.tr (kX6_ofTask_kn hy503)
                      refine mm_aload_n S dL_areTasksRight_156 rfl (lv_at hl 5 rfl) ?_
                      refine lv_bipush (v := 9) S.1 S.2.1 dL_areTasksRight_157 (by decide) ?_
                      obtain ⟨y505, hy505, hf⟩ := bd hf
                      obtain ⟨g506, hf⟩ := gd hf
                      refine mm_callVi S hR hS hA (As := [.int 9]) (rest := [.int y503.2.1]) cvL_39 (hK.k g3) (kX6_many_c l G A (hK.k g3) hy505 g506) rfl rfl ⟨Nat.le_of_ble_eq_true rfl, Nat.le_of_ble_eq_true rfl⟩ rfl hl.1 rfl (lv_room (by simp [rf_cat, int_cat, long_cat])) dL_areTasksRight_159 ⟨Nat.le_of_ble_eq_true rfl, Nat.le_of_ble_eq_true rfl⟩ (fun H locs hR hS => ?_)
                      have hK : mmKN μ y505.2.2 := hK.tr (kX6_many_kn hy505)
                      refine lv_icmp_le (tgt := 188) S.1 S.2.1 dL_areTasksRight_162 (by decide) (fun c507 => ?_) (fun c507 => ?_)
                      · have hf := it_t hf c507
                        refine lv_iconst (v := 0) S.1 S.2.1 dL_areTasksRight_188 (by decide) ?_
                        obtain rfl := Option.some.inj hf
                        refine W.widen (k := 1) (n := 24) (Nat.le_of_ble_eq_true rfl) (Nat.le_of_ble_eq_true rfl) ?_
                        exact mm_zret S hR hS hr hlocks (Or.inl rfl) dL_areTasksRight_189
                      · have hf := it_f hf c507
                        exact wbL_areTasksRight_165 E0 kk12 hkk12 h0 h1 x2 (x3 + 0) x4 y19.2.1 y21.2.1 y505.2.2 hf _ _ _ hR hS (lv_sub hl [5, 6, 7, 1, 8, 4, 3] rfl)
                · have hf := it_f hf c498
                  refine lv_iconst (v := 0) S.1 S.2.1 dL_areTasksRight_131 (by decide) ?_
                  refine lv_goto (tgt := 136) S.1 S.2.1 dL_areTasksRight_132 (by decide) ?_
                  refine lv_icmp_ne (tgt := 188) S.1 S.2.1 dL_areTasksRight_136 (by decide) (fun c508 => ?_) (fun c508 => ?_)
                  · have hf := it_f hf c508
                    refine lv_iconst (v := 0) S.1 S.2.1 dL_areTasksRight_188 (by decide) ?_
                    obtain rfl := Option.some.inj hf
                    refine W.widen (k := 1) (n := 24) (Nat.le_of_ble_eq_true rfl) (Nat.le_of_ble_eq_true rfl) ?_
                    exact mm_zret S hR hS hr hlocks (Or.inl rfl) dL_areTasksRight_189
                  · have hf := it_t hf c508
                    refine mm_aload_n S dL_areTasksRight_139 rfl (lv_at hl 5 rfl) ?_
                    refine lv_iload S.1 S.2.1 dL_areTasksRight_140 (lv_at hl 8 rfl) ?_
                    refine lv_iconst (v := 1) S.1 S.2.1 dL_areTasksRight_142 (by decide) ?_
                    obtain ⟨y509, hy509, hf⟩ := bd hf
                    obtain ⟨g510, hf⟩ := gd hf
                    refine mm_callVi S hR hS hA (As := [.int x4, .int 1]) (rest := []) cvL_68 (hK.k g3) (kX6_ofTask_c l G A (hK.k g3) hy509 g510) rfl rfl ⟨Nat.le_of_ble_eq_true rfl, Nat.le_of_ble_eq_true rfl⟩ rfl hl.1 rfl (lv_room (by simp [rf_cat, int_cat, long_cat])) dL_areTasksRight_143 ⟨Nat.le_of_ble_eq_true rfl, Nat.le_of_ble_eq_true rfl⟩ (fun H locs hR hS => ?_)
                    have hK : mmKN μ y509.2.2 := hK.tr (kX6_ofTask_kn hy509)
                    refine lv_if_lt (tgt := 165) S.1 S.2.1 dL_areTasksRight_146 (by decide) (fun c511 => ?_) (fun c511 => ?_)
                    · have hf := it_t hf c511
                      exact wbL_areTasksRight_165 E0 kk12 hkk12 h0 h1 x2 (x3 + 0) x4 y19.2.1 y21.2.1 y509.2.2 hf _ _ _ hR hS (lv_sub hl [5, 6, 7, 1, 8, 4, 3] rfl)
                    · have hf := it_f hf c511
                      refine mm_aload_n S dL_areTasksRight_149 rfl (lv_at hl 5 rfl) ?_
                      refine lv_iload S.1 S.2.1 dL_areTasksRight_150 (lv_at hl 8 rfl) ?_
                      refine lv_iconst (v := 1) S.1 S.2.1 dL_areTasksRight_152 (by decide) ?_
                      obtain ⟨y512, hy512, hf⟩ := bd hf
                      obtain ⟨g513, hf⟩ := gd hf
                      refine mm_callVi S hR hS hA (As := [.int x4, .int 1]) (rest := []) cvL_68 (hK.k g3) (kX6_ofTask_c l G A (hK.k g3) hy512 g513) rfl rfl ⟨Nat.le_of_ble_eq_true rfl, Nat.le_of_ble_eq_true rfl⟩ rfl hl.1 rfl (lv_room (by simp [rf_cat, int_cat, long_cat])) dL_areTasksRight_153 ⟨Nat.le_of_ble_eq_true rfl, Nat.le_of_ble_eq_true rfl⟩ (fun H locs hR hS => ?_)
                      have hK : mmKN μ y512.2.2 := hK.tr (kX6_ofTask_kn hy512)
                      refine mm_aload_n S dL_areTasksRight_156 rfl (lv_at hl 5 rfl) ?_
                      refine lv_bipush (v := 9) S.1 S.2.1 dL_areTasksRight_157 (by decide) ?_
                      obtain ⟨y514, hy514, hf⟩ := bd hf
                      obtain ⟨g515, hf⟩ := gd hf
                      refine mm_callVi S hR hS hA (As := [.int 9]) (rest := [.int y512.2.1]) cvL_39 (hK.k g3) (kX6_many_c l G A (hK.k g3) hy514 g515) rfl rfl ⟨Nat.le_of_ble_eq_true rfl, Nat.le_of_ble_eq_true rfl⟩ rfl hl.1 rfl (lv_room (by simp [rf_cat, int_cat, long_cat])) dL_areTasksRight_159 ⟨Nat.le_of_ble_eq_true rfl, Nat.le_of_ble_eq_true rfl⟩ (fun H locs hR hS => ?_)
                      have hK : mmKN μ y514.2.2 := hK.tr (kX6_many_kn hy514)
                      refine lv_icmp_le (tgt := 188) S.1 S.2.1 dL_areTasksRight_162 (by decide) (fun c516 => ?_) (fun c516 => ?_)
                      · have hf := it_t hf c516
                        refine lv_iconst (v := 0) S.1 S.2.1 dL_areTasksRight_188 (by decide) ?_
                        obtain rfl := Option.some.inj hf
                        refine W.widen (k := 1) (n := 24) (Nat.le_of_ble_eq_true rfl) (Nat.le_of_ble_eq_true rfl) ?_
                        exact mm_zret S hR hS hr hlocks (Or.inl rfl) dL_areTasksRight_189
                      · have hf := it_f hf c516
                        exact wbL_areTasksRight_165 E0 kk12 hkk12 h0 h1 x2 (x3 + 0) x4 y19.2.1 y21.2.1 y514.2.2 hf _ _ _ hR hS (lv_sub hl [5, 6, 7, 1, 8, 4, 3] rfl)
        · have hf := it_f hf c353
          refine lv_iconst (v := 1) S.1 S.2.1 dL_areTasksRight_78 (by decide) ?_
          refine lv_goto (tgt := 83) S.1 S.2.1 dL_areTasksRight_79 (by decide) ?_
          refine lv_iadd S.1 S.2.1 dL_areTasksRight_83 ?_
          refine lv_istore_n (i := 3) (lv' := [(3, .int (x3 + 1)), (7, .int 1), (6, .int y21.2.1), (5, .int y19.2.1), (0, rf h0), (1, rf h1), (2, .int x2), (4, .int x4)]) S.1 S.2.1 dL_areTasksRight_84 rfl hl (by decide) rfl (fun ls hl => ?_)
          refine lv_iload S.1 S.2.1 dL_areTasksRight_85 (lv_at hl 3 rfl) ?_
          refine lv_if_lt (tgt := 94) S.1 S.2.1 dL_areTasksRight_87 (by decide) (fun c517 => ?_) (fun c517 => ?_)
          · have hf := it_t hf c517
            refine lv_iconst (v := 0) S.1 S.2.1 dL_areTasksRight_94 (by decide) ?_
            refine mm_aload_n S dL_areTasksRight_95 rfl (lv_at hl 4 rfl) ?_
            refine lv_iload S.1 S.2.1 dL_areTasksRight_96 (lv_at hl 7 rfl) ?_
            refine lv_iconst (v := 1) S.1 S.2.1 dL_areTasksRight_98 (by decide) ?_
            obtain ⟨y518, hy518, hf⟩ := bd hf
            obtain ⟨g519, hf⟩ := gd hf
            refine mm_callVi S hR hS hA (As := [.int x4, .int 1]) (rest := [.int 0]) cvL_68 (hK.k g3) (kX6_ofTask_c l G A (hK.k g3) hy518 g519) rfl rfl ⟨Nat.le_of_ble_eq_true rfl, Nat.le_of_ble_eq_true rfl⟩ rfl hl.1 rfl (lv_room (by simp [rf_cat, int_cat, long_cat])) dL_areTasksRight_99 ⟨Nat.le_of_ble_eq_true rfl, Nat.le_of_ble_eq_true rfl⟩ (fun H locs hR hS => ?_)
            have hK : mmKN μ y518.2.2 := hK.tr (kX6_ofTask_kn hy518)
            refine lv_if_lt (tgt := 109) S.1 S.2.1 dL_areTasksRight_102 (by decide) (fun c520 => ?_) (fun c520 => ?_)
            · have hf := it_t hf c520
              refine lv_iconst (v := 0) S.1 S.2.1 dL_areTasksRight_109 (by decide) ?_
              refine lv_iadd S.1 S.2.1 dL_areTasksRight_110 ?_
              refine lv_iload S.1 S.2.1 dL_areTasksRight_111 (lv_at hl 2 rfl) ?_
              refine lv_if_lt (tgt := 120) S.1 S.2.1 dL_areTasksRight_113 (by decide) (fun c521 => ?_) (fun c521 => ?_)
              · have hf := it_t hf c521
                refine lv_iconst (v := 0) S.1 S.2.1 dL_areTasksRight_120 (by decide) ?_
                refine lv_iadd S.1 S.2.1 dL_areTasksRight_121 ?_
                refine lv_istore (i := 8) (lv' := [(8, .int ((0 + 0) + 0)), (3, .int (x3 + 1)), (7, .int 1), (6, .int y21.2.1), (5, .int y19.2.1), (0, rf h0), (1, rf h1), (2, .int x2), (4, .int x4)]) S.1 S.2.1 dL_areTasksRight_122 hl (by decide) rfl (fun ls hl => ?_)
                refine lv_iload S.1 S.2.1 dL_areTasksRight_124 (lv_at hl 0 rfl) ?_
                refine lv_iload S.1 S.2.1 dL_areTasksRight_126 (lv_at hl 2 rfl) ?_
                refine lv_if_eq (tgt := 135) S.1 S.2.1 dL_areTasksRight_128 (by decide) (fun c522 => ?_) (fun c522 => ?_)
                · have hf := it_t hf c522
                  refine lv_iconst (v := 1) S.1 S.2.1 dL_areTasksRight_135 (by decide) ?_
                  refine lv_icmp_ne (tgt := 188) S.1 S.2.1 dL_areTasksRight_136 (by decide) (fun c523 => ?_) (fun c523 => ?_)
                  · have hf := it_f hf c523
                    refine lv_iconst (v := 0) S.1 S.2.1 dL_areTasksRight_188 (by decide) ?_
                    obtain rfl := Option.some.inj hf
                    refine W.widen (k := 1) (n := 24) (Nat.le_of_ble_eq_true rfl) (Nat.le_of_ble_eq_true rfl) ?_
                    exact mm_zret S hR hS hr hlocks (Or.inl rfl) dL_areTasksRight_189
                  · have hf := it_t hf c523
                    refine mm_aload_n S dL_areTasksRight_139 rfl (lv_at hl 5 rfl) ?_
                    refine lv_iload S.1 S.2.1 dL_areTasksRight_140 (lv_at hl 8 rfl) ?_
                    refine lv_iconst (v := 1) S.1 S.2.1 dL_areTasksRight_142 (by decide) ?_
                    obtain ⟨y524, hy524, hf⟩ := bd hf
                    obtain ⟨g525, hf⟩ := gd hf
                    refine mm_callVi S hR hS hA (As := [.int x4, .int 1]) (rest := []) cvL_68 (hK.k g3) (kX6_ofTask_c l G A (hK.k g3) hy524 g525) rfl rfl ⟨Nat.le_of_ble_eq_true rfl, Nat.le_of_ble_eq_true rfl⟩ rfl hl.1 rfl (lv_room (by simp [rf_cat, int_cat, long_cat])) dL_areTasksRight_143 ⟨Nat.le_of_ble_eq_true rfl, Nat.le_of_ble_eq_true rfl⟩ (fun H locs hR hS => ?_)
                    have hK : mmKN μ y524.2.2 := hK.tr (kX6_ofTask_kn hy524)
                    refine lv_if_lt (tgt := 165) S.1 S.2.1 dL_areTasksRight_146 (by decide) (fun c526 => ?_) (fun c526 => ?_)
                    · have hf := it_t hf c526
                      exact wbL_areTasksRight_165 E0 kk12 hkk12 h0 h1 x2 (x3 + 1) x4 y19.2.1 y21.2.1 y524.2.2 hf _ _ _ hR hS (lv_sub hl [5, 6, 7, 1, 8, 4, 3] rfl)
                    · have hf := it_f hf c526
                      refine mm_aload_n S dL_areTasksRight_149 rfl (lv_at hl 5 rfl) ?_
                      refine lv_iload S.1 S.2.1 dL_areTasksRight_150 (lv_at hl 8 rfl) ?_
                      refine lv_iconst (v := 1) S.1 S.2.1 dL_areTasksRight_152 (by decide) ?_
                      obtain ⟨y527, hy527, hf⟩ := bd hf
                      obtain ⟨g528, hf⟩ := gd hf
                      refine mm_callVi S hR hS hA (As := [.int x4, .int 1]) (rest := []) cvL_68 (hK.k g3) (kX6_ofTask_c l G A (hK.k g3) hy527 g528) rfl rfl ⟨Nat.le_of_ble_eq_true rfl, Nat.le_of_ble_eq_true rfl⟩ rfl hl.1 rfl (lv_room (by simp [rf_cat, int_cat, long_cat])) dL_areTasksRight_153 ⟨Nat.le_of_ble_eq_true rfl, Nat.le_of_ble_eq_true rfl⟩ (fun H locs hR hS => ?_)
                      have hK : mmKN μ y527.2.2 := hK.tr (kX6_ofTask_kn hy527)
                      refine mm_aload_n S dL_areTasksRight_156 rfl (lv_at hl 5 rfl) ?_
                      refine lv_bipush (v := 9) S.1 S.2.1 dL_areTasksRight_157 (by decide) ?_
                      obtain ⟨y529, hy529, hf⟩ := bd hf
                      obtain ⟨g530, hf⟩ := gd hf
                      refine mm_callVi S hR hS hA (As := [.int 9]) (rest := [.int y527.2.1]) cvL_39 (hK.k g3) (kX6_many_c l G A (hK.k g3) hy529 g530) rfl rfl ⟨Nat.le_of_ble_eq_true rfl, Nat.le_of_ble_eq_true rfl⟩ rfl hl.1 rfl (lv_room (by simp [rf_cat, int_cat, long_cat])) dL_areTasksRight_159 ⟨Nat.le_of_ble_eq_true rfl, Nat.le_of_ble_eq_true rfl⟩ (fun H locs hR hS => ?_)
                      have hK : mmKN μ y529.2.2 := hK.tr (kX6_many_kn hy529)
                      refine lv_icmp_le (tgt := 188) S.1 S.2.1 dL_areTasksRight_162 (by decide) (fun c531 => ?_) (fun c531 => ?_)
                      · have hf := it_t hf c531
                        refine lv_iconst (v := 0) S.1 S.2.1 dL_areTasksRight_188 (by decide) ?_
                        obtain rfl := Option.some.inj hf
                        refine W.widen (k := 1) (n := 24) (Nat.le_of_ble_eq_true rfl) (Nat.le_of_ble_eq_true rfl) ?_
                        exact mm_zret S hR hS hr hlocks (Or.inl rfl) dL_areTasksRight_189
                      · have hf := it_f hf c531
                        exact wbL_areTasksRight_165 E0 kk12 hkk12 h0 h1 x2 (x3 + 1) x4 y19.2.1 y21.2.1 y529.2.2 hf _ _ _ hR hS (lv_sub hl [5, 6, 7, 1, 8, 4, 3] rfl)
                · have hf := it_f hf c522
                  refine lv_iconst (v := 0) S.1 S.2.1 dL_areTasksRight_131 (by decide) ?_
                  refine lv_goto (tgt := 136) S.1 S.2.1 dL_areTasksRight_132 (by decide) ?_
                  refine lv_icmp_ne (tgt := 188) S.1 S.2.1 dL_areTasksRight_136 (by decide) (fun c532 => ?_) (fun c532 => ?_)
                  · have hf := it_f hf c532
                    refine lv_iconst (v := 0) S.1 S.2.1 dL_areTasksRight_188 (by decide) ?_
                    obtain rfl := Option.some.inj hf
                    refine W.widen (k := 1) (n := 24) (Nat.le_of_ble_eq_true rfl) (Nat.le_of_ble_eq_true rfl) ?_
                    exact mm_zret S hR hS hr hlocks (Or.inl rfl) dL_areTasksRight_189
                  · have hf := it_t hf c532
                    refine mm_aload_n S dL_areTasksRight_139 rfl (lv_at hl 5 rfl) ?_
                    refine lv_iload S.1 S.2.1 dL_areTasksRight_140 (lv_at hl 8 rfl) ?_
                    refine lv_iconst (v := 1) S.1 S.2.1 dL_areTasksRight_142 (by decide) ?_
                    obtain ⟨y533, hy533, hf⟩ := bd hf
                    obtain ⟨g534, hf⟩ := gd hf
                    refine mm_callVi S hR hS hA (As := [.int x4, .int 1]) (rest := []) cvL_68 (hK.k g3) (kX6_ofTask_c l G A (hK.k g3) hy533 g534) rfl rfl ⟨Nat.le_of_ble_eq_true rfl, Nat.le_of_ble_eq_true rfl⟩ rfl hl.1 rfl (lv_room (by simp [rf_cat, int_cat, long_cat])) dL_areTasksRight_143 ⟨Nat.le_of_ble_eq_true rfl, Nat.le_of_ble_eq_true rfl⟩ (fun H locs hR hS => ?_)
                    have hK : mmKN μ y533.2.2 := hK.tr (kX6_ofTask_kn hy533)
                    refine lv_if_lt (tgt := 165) S.1 S.2.1 dL_areTasksRight_146 (by decide) (fun c535 => ?_) (fun c535 => ?_)
                    · have hf := it_t hf c535
                      exact wbL_areTasksRight_165 E0 kk12 hkk12 h0 h1 x2 (x3 + 1) x4 y19.2.1 y21.2.1 y533.2.2 hf _ _ _ hR hS (lv_sub hl [5, 6, 7, 1, 8, 4, 3] rfl)
                    · have hf := it_f hf c535
                      refine mm_aload_n S dL_areTasksRight_149 rfl (lv_at hl 5 rfl) ?_
                      refine lv_iload S.1 S.2.1 dL_areTasksRight_150 (lv_at hl 8 rfl) ?_
                      refine lv_iconst (v := 1) S.1 S.2.1 dL_areTasksRight_152 (by decide) ?_
                      obtain ⟨y536, hy536, hf⟩ := bd hf
                      obtain ⟨g537, hf⟩ := gd hf
                      refine mm_callVi S hR hS hA (As := [.int x4, .int 1]) (rest := []) cvL_68 (hK.k g3) (kX6_ofTask_c l G A (hK.k g3) hy536 g537) rfl rfl ⟨Nat.le_of_ble_eq_true rfl, Nat.le_of_ble_eq_true rfl⟩ rfl hl.1 rfl (lv_room (by simp [rf_cat, int_cat, long_cat])) dL_areTasksRight_153 ⟨Nat.le_of_ble_eq_true rfl, Nat.le_of_ble_eq_true rfl⟩ (fun H locs hR hS => ?_)
                      have hK : mmKN μ y536.2.2 := hK.tr (kX6_ofTask_kn hy536)
                      refine mm_aload_n S dL_areTasksRight_156 rfl (lv_at hl 5 rfl) ?_
                      refine lv_bipush (v := 9) S.1 S.2.1 dL_areTasksRight_157 (by decide) ?_
                      obtain ⟨y538, hy538, hf⟩ := bd hf
                      obtain ⟨g539, hf⟩ := gd hf
                      refine mm_callVi S hR hS hA (As := [.int 9]) (rest := [.int y536.2.1]) cvL_39 (hK.k g3) (kX6_many_c l G A (hK.k g3) hy538 g539) rfl rfl ⟨Nat.le_of_ble_eq_true rfl, Nat.le_of_ble_eq_true rfl⟩ rfl hl.1 rfl (lv_room (by simp [rf_cat, int_cat, long_cat])) dL_areTasksRight_159 ⟨Nat.le_of_ble_eq_true rfl, Nat.le_of_ble_eq_true rfl⟩ (fun H locs hR hS => ?_)
                      have hK : mmKN μ y538.2.2 := hK.tr (kX6_many_kn hy538)
                      refine lv_icmp_le (tgt := 188) S.1 S.2.1 dL_areTasksRight_162 (by decide) (fun c540 => ?_) (fun c540 => ?_)
                      · have hf := it_t hf c540
                        refine lv_iconst (v := 0) S.1 S.2.1 dL_areTasksRight_188 (by decide) ?_
                        obtain rfl := Option.some.inj hf
                        refine W.widen (k := 1) (n := 24) (Nat.le_of_ble_eq_true rfl) (Nat.le_of_ble_eq_true rfl) ?_
                        exact mm_zret S hR hS hr hlocks (Or.inl rfl) dL_areTasksRight_189
                      · have hf := it_f hf c540
                        exact wbL_areTasksRight_165 E0 kk12 hkk12 h0 h1 x2 (x3 + 1) x4 y19.2.1 y21.2.1 y538.2.2 hf _ _ _ hR hS (lv_sub hl [5, 6, 7, 1, 8, 4, 3] rfl)
              · have hf := it_f hf c521
                refine lv_iconst (v := 1) S.1 S.2.1 dL_areTasksRight_116 (by decide) ?_
                refine lv_goto (tgt := 121) S.1 S.2.1 dL_areTasksRight_117 (by decide) ?_
                refine lv_iadd S.1 S.2.1 dL_areTasksRight_121 ?_
                refine lv_istore (i := 8) (lv' := [(8, .int ((0 + 0) + 1)), (3, .int (x3 + 1)), (7, .int 1), (6, .int y21.2.1), (5, .int y19.2.1), (0, rf h0), (1, rf h1), (2, .int x2), (4, .int x4)]) S.1 S.2.1 dL_areTasksRight_122 hl (by decide) rfl (fun ls hl => ?_)
                refine lv_iload S.1 S.2.1 dL_areTasksRight_124 (lv_at hl 0 rfl) ?_
                refine lv_iload S.1 S.2.1 dL_areTasksRight_126 (lv_at hl 2 rfl) ?_
                refine lv_if_eq (tgt := 135) S.1 S.2.1 dL_areTasksRight_128 (by decide) (fun c541 => ?_) (fun c541 => ?_)
                · have hf := it_t hf c541
                  refine lv_iconst (v := 1) S.1 S.2.1 dL_areTasksRight_135 (by decide) ?_
                  refine lv_icmp_ne (tgt := 188) S.1 S.2.1 dL_areTasksRight_136 (by decide) (fun c542 => ?_) (fun c542 => ?_)
                  · have hf := it_f hf c542
                    refine lv_iconst (v := 0) S.1 S.2.1 dL_areTasksRight_188 (by decide) ?_
                    obtain rfl := Option.some.inj hf
                    refine W.widen (k := 1) (n := 24) (Nat.le_of_ble_eq_true rfl) (Nat.le_of_ble_eq_true rfl) ?_
                    exact mm_zret S hR hS hr hlocks (Or.inl rfl) dL_areTasksRight_189
                  · have hf := it_t hf c542
                    refine mm_aload_n S dL_areTasksRight_139 rfl (lv_at hl 5 rfl) ?_
                    refine lv_iload S.1 S.2.1 dL_areTasksRight_140 (lv_at hl 8 rfl) ?_
                    refine lv_iconst (v := 1) S.1 S.2.1 dL_areTasksRight_142 (by decide) ?_
                    obtain ⟨y543, hy543, hf⟩ := bd hf
                    obtain ⟨g544, hf⟩ := gd hf
                    refine mm_callVi S hR hS hA (As := [.int x4, .int 1]) (rest := []) cvL_68 (hK.k g3) (kX6_ofTask_c l G A (hK.k g3) hy543 g544) rfl rfl ⟨Nat.le_of_ble_eq_true rfl, Nat.le_of_ble_eq_true rfl⟩ rfl hl.1 rfl (lv_room (by simp [rf_cat, int_cat, long_cat])) dL_areTasksRight_143 ⟨Nat.le_of_ble_eq_true rfl, Nat.le_of_ble_eq_true rfl⟩ (fun H locs hR hS => ?_)
                    have hK : mmKN μ y543.2.2 := hK.tr (kX6_ofTask_kn hy543)
                    refine lv_if_lt (tgt := 165) S.1 S.2.1 dL_areTasksRight_146 (by decide) (fun c545 => ?_) (fun c545 => ?_)
                    · have hf := it_t hf c545
                      exact wbL_areTasksRight_165 E0 kk12 hkk12 h0 h1 x2 (x3 + 1) x4 y19.2.1 y21.2.1 y543.2.2 hf _ _ _ hR hS (lv_sub hl [5, 6, 7, 1, 8, 4, 3] rfl)
                    · have hf := it_f hf c545
                      refine mm_aload_n S dL_areTasksRight_149 rfl (lv_at hl 5 rfl) ?_
                      refine lv_iload S.1 S.2.1 dL_areTasksRight_150 (lv_at hl 8 rfl) ?_
                      refine lv_iconst (v := 1) S.1 S.2.1 dL_areTasksRight_152 (by decide) ?_
                      obtain ⟨y546, hy546, hf⟩ := bd hf
                      obtain ⟨g547, hf⟩ := gd hf
                      refine mm_callVi S hR hS hA (As := [.int x4, .int 1]) (rest := []) cvL_68 (hK.k g3) (kX6_ofTask_c l G A (hK.k g3) hy546 g547) rfl rfl ⟨Nat.le_of_ble_eq_true rfl, Nat.le_of_ble_eq_true rfl⟩ rfl hl.1 rfl (lv_room (by simp [rf_cat, int_cat, long_cat])) dL_areTasksRight_153 ⟨Nat.le_of_ble_eq_true rfl, Nat.le_of_ble_eq_true rfl⟩ (fun H locs hR hS => ?_)
                      have hK : mmKN μ y546.2.2 := hK.tr (kX6_ofTask_kn hy546)
                      refine mm_aload_n S dL_areTasksRight_156 rfl (lv_at hl 5 rfl) ?_
                      refine lv_bipush (v := 9) S.1 S.2.1 dL_areTasksRight_157 (by decide) ?_
                      obtain ⟨y548, hy548, hf⟩ := bd hf
                      obtain ⟨g549, hf⟩ := gd hf
                      refine mm_callVi S hR hS hA (As := [.int 9]) (rest := [.int y546.2.1]) cvL_39 (hK.k g3) (kX6_many_c l G A (hK.k g3) hy548 g549) rfl rfl ⟨Nat.le_of_ble_eq_true rfl, Nat.le_of_ble_eq_true rfl⟩ rfl hl.1 rfl (lv_room (by simp [rf_cat, int_cat, long_cat])) dL_areTasksRight_159 ⟨Nat.le_of_ble_eq_true rfl, Nat.le_of_ble_eq_true rfl⟩ (fun H locs hR hS => ?_)
                      have hK : mmKN μ y548.2.2 := hK.tr (kX6_many_kn hy548)
                      refine lv_icmp_le (tgt := 188) S.1 S.2.1 dL_areTasksRight_162 (by decide) (fun c550 => ?_) (fun c550 => ?_)
                      · have hf := it_t hf c550
                        refine lv_iconst (v := 0) S.1 S.2.1 dL_areTasksRight_188 (by decide) ?_
                        obtain rfl := Option.some.inj hf
                        refine W.widen (k := 1) (n := 24) (Nat.le_of_ble_eq_true rfl) (Nat.le_of_ble_eq_true rfl) ?_
                        exact mm_zret S hR hS hr hlocks (Or.inl rfl) dL_areTasksRight_189
                      · have hf := it_f hf c550
                        exact wbL_areTasksRight_165 E0 kk12 hkk12 h0 h1 x2 (x3 + 1) x4 y19.2.1 y21.2.1 y548.2.2 hf _ _ _ hR hS (lv_sub hl [5, 6, 7, 1, 8, 4, 3] rfl)
                · have hf := it_f hf c541
                  refine lv_iconst (v := 0) S.1 S.2.1 dL_areTasksRight_131 (by decide) ?_
                  refine lv_goto (tgt := 136) S.1 S.2.1 dL_areTasksRight_132 (by decide) ?_
                  refine lv_icmp_ne (tgt := 188) S.1 S.2.1 dL_areTasksRight_136 (by decide) (fun c551 => ?_) (fun c551 => ?_)
                  · have hf := it_f hf c551
                    refine lv_iconst (v := 0) S.1 S.2.1 dL_areTasksRight_188 (by decide) ?_
                    obtain rfl := Option.some.inj hf
                    refine W.widen (k := 1) (n := 24) (Nat.le_of_ble_eq_true rfl) (Nat.le_of_ble_eq_true rfl) ?_
                    exact mm_zret S hR hS hr hlocks (Or.inl rfl) dL_areTasksRight_189
                  · have hf := it_t hf c551
                    refine mm_aload_n S dL_areTasksRight_139 rfl (lv_at hl 5 rfl) ?_
                    refine lv_iload S.1 S.2.1 dL_areTasksRight_140 (lv_at hl 8 rfl) ?_
                    refine lv_iconst (v := 1) S.1 S.2.1 dL_areTasksRight_142 (by decide) ?_
                    obtain ⟨y552, hy552, hf⟩ := bd hf
                    obtain ⟨g553, hf⟩ := gd hf
                    refine mm_callVi S hR hS hA (As := [.int x4, .int 1]) (rest := []) cvL_68 (hK.k g3) (kX6_ofTask_c l G A (hK.k g3) hy552 g553) rfl rfl ⟨Nat.le_of_ble_eq_true rfl, Nat.le_of_ble_eq_true rfl⟩ rfl hl.1 rfl (lv_room (by simp [rf_cat, int_cat, long_cat])) dL_areTasksRight_143 ⟨Nat.le_of_ble_eq_true rfl, Nat.le_of_ble_eq_true rfl⟩ (fun H locs hR hS => ?_)
                    have hK : mmKN μ y552.2.2 := hK.tr (kX6_ofTask_kn hy552)
                    refine lv_if_lt (tgt := 165) S.1 S.2.1 dL_areTasksRight_146 (by decide) (fun c554 => ?_) (fun c554 => ?_)
                    · have hf := it_t hf c554
                      exact wbL_areTasksRight_165 E0 kk12 hkk12 h0 h1 x2 (x3 + 1) x4 y19.2.1 y21.2.1 y552.2.2 hf _ _ _ hR hS (lv_sub hl [5, 6, 7, 1, 8, 4, 3] rfl)
                    · have hf := it_f hf c554
                      refine mm_aload_n S dL_areTasksRight_149 rfl (lv_at hl 5 rfl) ?_
                      refine lv_iload S.1 S.2.1 dL_areTasksRight_150 (lv_at hl 8 rfl) ?_
                      refine lv_iconst (v := 1) S.1 S.2.1 dL_areTasksRight_152 (by decide) ?_
                      obtain ⟨y555, hy555, hf⟩ := bd hf
                      obtain ⟨g556, hf⟩ := gd hf
                      refine mm_callVi S hR hS hA (As := [.int x4, .int 1]) (rest := []) cvL_68 (hK.k g3) (kX6_ofTask_c l G A (hK.k g3) hy555 g556) rfl rfl ⟨Nat.le_of_ble_eq_true rfl, Nat.le_of_ble_eq_true rfl⟩ rfl hl.1 rfl (lv_room (by simp [rf_cat, int_cat, long_cat])) dL_areTasksRight_153 ⟨Nat.le_of_ble_eq_true rfl, Nat.le_of_ble_eq_true rfl⟩ (fun H locs hR hS => ?_)
                      have hK : mmKN μ y555.2.2 := hK.tr (kX6_ofTask_kn hy555)
                      refine mm_aload_n S dL_areTasksRight_156 rfl (lv_at hl 5 rfl) ?_
                      refine lv_bipush (v := 9) S.1 S.2.1 dL_areTasksRight_157 (by decide) ?_
                      obtain ⟨y557, hy557, hf⟩ := bd hf
                      obtain ⟨g558, hf⟩ := gd hf
                      refine mm_callVi S hR hS hA (As := [.int 9]) (rest := [.int y555.2.1]) cvL_39 (hK.k g3) (kX6_many_c l G A (hK.k g3) hy557 g558) rfl rfl ⟨Nat.le_of_ble_eq_true rfl, Nat.le_of_ble_eq_true rfl⟩ rfl hl.1 rfl (lv_room (by simp [rf_cat, int_cat, long_cat])) dL_areTasksRight_159 ⟨Nat.le_of_ble_eq_true rfl, Nat.le_of_ble_eq_true rfl⟩ (fun H locs hR hS => ?_)
                      have hK : mmKN μ y557.2.2 := hK.tr (kX6_many_kn hy557)
                      refine lv_icmp_le (tgt := 188) S.1 S.2.1 dL_areTasksRight_162 (by decide) (fun c559 => ?_) (fun c559 => ?_)
                      · have hf := it_t hf c559
                        refine lv_iconst (v := 0) S.1 S.2.1 dL_areTasksRight_188 (by decide) ?_
                        obtain rfl := Option.some.inj hf
                        refine W.widen (k := 1) (n := 24) (Nat.le_of_ble_eq_true rfl) (Nat.le_of_ble_eq_true rfl) ?_
                        exact mm_zret S hR hS hr hlocks (Or.inl rfl) dL_areTasksRight_189
                      · have hf := it_f hf c559
                        exact wbL_areTasksRight_165 E0 kk12 hkk12 h0 h1 x2 (x3 + 1) x4 y19.2.1 y21.2.1 y557.2.2 hf _ _ _ hR hS (lv_sub hl [5, 6, 7, 1, 8, 4, 3] rfl)
            · have hf := it_f hf c520
              refine lv_iconst (v := 1) S.1 S.2.1 dL_areTasksRight_105 (by decide) ?_
              refine lv_goto (tgt := 110) S.1 S.2.1 dL_areTasksRight_106 (by decide) ?_
              refine lv_iadd S.1 S.2.1 dL_areTasksRight_110 ?_
              refine lv_iload S.1 S.2.1 dL_areTasksRight_111 (lv_at hl 2 rfl) ?_
              refine lv_if_lt (tgt := 120) S.1 S.2.1 dL_areTasksRight_113 (by decide) (fun c560 => ?_) (fun c560 => ?_)
              · have hf := it_t hf c560
                refine lv_iconst (v := 0) S.1 S.2.1 dL_areTasksRight_120 (by decide) ?_
                refine lv_iadd S.1 S.2.1 dL_areTasksRight_121 ?_
                refine lv_istore (i := 8) (lv' := [(8, .int ((0 + 1) + 0)), (3, .int (x3 + 1)), (7, .int 1), (6, .int y21.2.1), (5, .int y19.2.1), (0, rf h0), (1, rf h1), (2, .int x2), (4, .int x4)]) S.1 S.2.1 dL_areTasksRight_122 hl (by decide) rfl (fun ls hl => ?_)
                refine lv_iload S.1 S.2.1 dL_areTasksRight_124 (lv_at hl 0 rfl) ?_
                refine lv_iload S.1 S.2.1 dL_areTasksRight_126 (lv_at hl 2 rfl) ?_
                refine lv_if_eq (tgt := 135) S.1 S.2.1 dL_areTasksRight_128 (by decide) (fun c561 => ?_) (fun c561 => ?_)
                · have hf := it_t hf c561
                  refine lv_iconst (v := 1) S.1 S.2.1 dL_areTasksRight_135 (by decide) ?_
                  refine lv_icmp_ne (tgt := 188) S.1 S.2.1 dL_areTasksRight_136 (by decide) (fun c562 => ?_) (fun c562 => ?_)
                  · have hf := it_f hf c562
                    refine lv_iconst (v := 0) S.1 S.2.1 dL_areTasksRight_188 (by decide) ?_
                    obtain rfl := Option.some.inj hf
                    refine W.widen (k := 1) (n := 24) (Nat.le_of_ble_eq_true rfl) (Nat.le_of_ble_eq_true rfl) ?_
                    exact mm_zret S hR hS hr hlocks (Or.inl rfl) dL_areTasksRight_189
                  · have hf := it_t hf c562
                    refine mm_aload_n S dL_areTasksRight_139 rfl (lv_at hl 5 rfl) ?_
                    refine lv_iload S.1 S.2.1 dL_areTasksRight_140 (lv_at hl 8 rfl) ?_
                    refine lv_iconst (v := 1) S.1 S.2.1 dL_areTasksRight_142 (by decide) ?_
                    obtain ⟨y563, hy563, hf⟩ := bd hf
                    obtain ⟨g564, hf⟩ := gd hf
                    refine mm_callVi S hR hS hA (As := [.int x4, .int 1]) (rest := []) cvL_68 (hK.k g3) (kX6_ofTask_c l G A (hK.k g3) hy563 g564) rfl rfl ⟨Nat.le_of_ble_eq_true rfl, Nat.le_of_ble_eq_true rfl⟩ rfl hl.1 rfl (lv_room (by simp [rf_cat, int_cat, long_cat])) dL_areTasksRight_143 ⟨Nat.le_of_ble_eq_true rfl, Nat.le_of_ble_eq_true rfl⟩ (fun H locs hR hS => ?_)
                    have hK : mmKN μ y563.2.2 := hK.tr (kX6_ofTask_kn hy563)
                    refine lv_if_lt (tgt := 165) S.1 S.2.1 dL_areTasksRight_146 (by decide) (fun c565 => ?_) (fun c565 => ?_)
                    · have hf := it_t hf c565
                      exact wbL_areTasksRight_165 E0 kk12 hkk12 h0 h1 x2 (x3 + 1) x4 y19.2.1 y21.2.1 y563.2.2 hf _ _ _ hR hS (lv_sub hl [5, 6, 7, 1, 8, 4, 3] rfl)
                    · have hf := it_f hf c565
                      refine mm_aload_n S dL_areTasksRight_149 rfl (lv_at hl 5 rfl) ?_
                      refine lv_iload S.1 S.2.1 dL_areTasksRight_150 (lv_at hl 8 rfl) ?_
                      refine lv_iconst (v := 1) S.1 S.2.1 dL_areTasksRight_152 (by decide) ?_
                      obtain ⟨y566, hy566, hf⟩ := bd hf
                      obtain ⟨g567, hf⟩ := gd hf
                      refine mm_callVi S hR hS hA (As := [.int x4, .int 1]) (rest := []) cvL_68 (hK.k g3) (kX6_ofTask_c l G A (hK.k g3) hy566 g567) rfl rfl ⟨Nat.le_of_ble_eq_true rfl, Nat.le_of_ble_eq_true rfl⟩ rfl hl.1 rfl (lv_room (by simp [rf_cat, int_cat, long_cat])) dL_areTasksRight_153 ⟨Nat.le_of_ble_eq_true rfl, Nat.le_of_ble_eq_true rfl⟩ (fun H locs hR hS => ?_)
                      have hK : mmKN μ y566.2.2 := hK.tr (kX6_ofTask_kn hy566)
                      refine mm_aload_n S dL_areTasksRight_156 rfl (lv_at hl 5 rfl) ?_
                      refine lv_bipush (v := 9) S.1 S.2.1 dL_areTasksRight_157 (by decide) ?_
                      obtain ⟨y568, hy568, hf⟩ := bd hf
                      obtain ⟨g569, hf⟩ := gd hf
                      refine mm_callVi S hR hS hA (As := [.int 9]) (rest := [.int y566.2.1]) cvL_39 (hK.k g3) (kX6_many_c l G A (hK.k g3) hy568 g569) rfl rfl ⟨Nat.le_of_ble_eq_true rfl, Nat.le_of_ble_eq_true rfl⟩ rfl hl.1 rfl (lv_room (by simp [rf_cat, int_cat, long_cat])) dL_areTasksRight_159 ⟨Nat.le_of_ble_eq_true rfl, Nat.le_of_ble_eq_true rfl⟩ (fun H locs hR hS => ?_)
                      have hK : mmKN μ y568.2.2 := hK.tr (kX6_many_kn hy568)
                      refine lv_icmp_le (tgt := 188) S.1 S.2.1 dL_areTasksRight_162 (by decide) (fun c570 => ?_) (fun c570 => ?_)
                      · have hf := it_t hf c570
                        refine lv_iconst (v := 0) S.1 S.2.1 dL_areTasksRight_188 (by decide) ?_
                        obtain rfl := Option.some.inj hf
                        refine W.widen (k := 1) (n := 24) (Nat.le_of_ble_eq_true rfl) (Nat.le_of_ble_eq_true rfl) ?_
                        exact mm_zret S hR hS hr hlocks (Or.inl rfl) dL_areTasksRight_189
                      · have hf := it_f hf c570
                        exact wbL_areTasksRight_165 E0 kk12 hkk12 h0 h1 x2 (x3 + 1) x4 y19.2.1 y21.2.1 y568.2.2 hf _ _ _ hR hS (lv_sub hl [5, 6, 7, 1, 8, 4, 3] rfl)
                · have hf := it_f hf c561
                  refine lv_iconst (v := 0) S.1 S.2.1 dL_areTasksRight_131 (by decide) ?_
                  refine lv_goto (tgt := 136) S.1 S.2.1 dL_areTasksRight_132 (by decide) ?_
                  refine lv_icmp_ne (tgt := 188) S.1 S.2.1 dL_areTasksRight_136 (by decide) (fun c571 => ?_) (fun c571 => ?_)
                  · have hf := it_f hf c571
                    refine lv_iconst (v := 0) S.1 S.2.1 dL_areTasksRight_188 (by decide) ?_
                    obtain rfl := Option.some.inj hf
                    refine W.widen (k := 1) (n := 24) (Nat.le_of_ble_eq_true rfl) (Nat.le_of_ble_eq_true rfl) ?_
                    exact mm_zret S hR hS hr hlocks (Or.inl rfl) dL_areTasksRight_189
                  · have hf := it_t hf c571
                    refine mm_aload_n S dL_areTasksRight_139 rfl (lv_at hl 5 rfl) ?_
                    refine lv_iload S.1 S.2.1 dL_areTasksRight_140 (lv_at hl 8 rfl) ?_
                    refine lv_iconst (v := 1) S.1 S.2.1 dL_areTasksRight_142 (by decide) ?_
                    obtain ⟨y572, hy572, hf⟩ := bd hf
                    obtain ⟨g573, hf⟩ := gd hf
                    refine mm_callVi S hR hS hA (As := [.int x4, .int 1]) (rest := []) cvL_68 (hK.k g3) (kX6_ofTask_c l G A (hK.k g3) hy572 g573) rfl rfl ⟨Nat.le_of_ble_eq_true rfl, Nat.le_of_ble_eq_true rfl⟩ rfl hl.1 rfl (lv_room (by simp [rf_cat, int_cat, long_cat])) dL_areTasksRight_143 ⟨Nat.le_of_ble_eq_true rfl, Nat.le_of_ble_eq_true rfl⟩ (fun H locs hR hS => ?_)
                    have hK : mmKN μ y572.2.2 := hK.tr (kX6_ofTask_kn hy572)
                    refine lv_if_lt (tgt := 165) S.1 S.2.1 dL_areTasksRight_146 (by decide) (fun c574 => ?_) (fun c574 => ?_)
                    · have hf := it_t hf c574
                      exact wbL_areTasksRight_165 E0 kk12 hkk12 h0 h1 x2 (x3 + 1) x4 y19.2.1 y21.2.1 y572.2.2 hf _ _ _ hR hS (lv_sub hl [5, 6, 7, 1, 8, 4, 3] rfl)
                    · have hf := it_f hf c574
                      refine mm_aload_n S dL_areTasksRight_149 rfl (lv_at hl 5 rfl) ?_
                      refine lv_iload S.1 S.2.1 dL_areTasksRight_150 (lv_at hl 8 rfl) ?_
                      refine lv_iconst (v := 1) S.1 S.2.1 dL_areTasksRight_152 (by decide) ?_
                      obtain ⟨y575, hy575, hf⟩ := bd hf
                      obtain ⟨g576, hf⟩ := gd hf
                      refine mm_callVi S hR hS hA (As := [.int x4, .int 1]) (rest := []) cvL_68 (hK.k g3) (kX6_ofTask_c l G A (hK.k g3) hy575 g576) rfl rfl ⟨Nat.le_of_ble_eq_true rfl, Nat.le_of_ble_eq_true rfl⟩ rfl hl.1 rfl (lv_room (by simp [rf_cat, int_cat, long_cat])) dL_areTasksRight_153 ⟨Nat.le_of_ble_eq_true rfl, Nat.le_of_ble_eq_true rfl⟩ (fun H locs hR hS => ?_)
                      have hK : mmKN μ y575.2.2 := hK.tr (kX6_ofTask_kn hy575)
                      refine mm_aload_n S dL_areTasksRight_156 rfl (lv_at hl 5 rfl) ?_
                      refine lv_bipush (v := 9) S.1 S.2.1 dL_areTasksRight_157 (by decide) ?_
                      obtain ⟨y577, hy577, hf⟩ := bd hf
                      obtain ⟨g578, hf⟩ := gd hf
                      refine mm_callVi S hR hS hA (As := [.int 9]) (rest := [.int y575.2.1]) cvL_39 (hK.k g3) (kX6_many_c l G A (hK.k g3) hy577 g578) rfl rfl ⟨Nat.le_of_ble_eq_true rfl, Nat.le_of_ble_eq_true rfl⟩ rfl hl.1 rfl (lv_room (by simp [rf_cat, int_cat, long_cat])) dL_areTasksRight_159 ⟨Nat.le_of_ble_eq_true rfl, Nat.le_of_ble_eq_true rfl⟩ (fun H locs hR hS => ?_)
                      have hK : mmKN μ y577.2.2 := hK.tr (kX6_many_kn hy577)
                      refine lv_icmp_le (tgt := 188) S.1 S.2.1 dL_areTasksRight_162 (by decide) (fun c579 => ?_) (fun c579 => ?_)
                      · have hf := it_t hf c579
                        refine lv_iconst (v := 0) S.1 S.2.1 dL_areTasksRight_188 (by decide) ?_
                        obtain rfl := Option.some.inj hf
                        refine W.widen (k := 1) (n := 24) (Nat.le_of_ble_eq_true rfl) (Nat.le_of_ble_eq_true rfl) ?_
                        exact mm_zret S hR hS hr hlocks (Or.inl rfl) dL_areTasksRight_189
                      · have hf := it_f hf c579
                        exact wbL_areTasksRight_165 E0 kk12 hkk12 h0 h1 x2 (x3 + 1) x4 y19.2.1 y21.2.1 y577.2.2 hf _ _ _ hR hS (lv_sub hl [5, 6, 7, 1, 8, 4, 3] rfl)
              · have hf := it_f hf c560
                refine lv_iconst (v := 1) S.1 S.2.1 dL_areTasksRight_116 (by decide) ?_
                refine lv_goto (tgt := 121) S.1 S.2.1 dL_areTasksRight_117 (by decide) ?_
                refine lv_iadd S.1 S.2.1 dL_areTasksRight_121 ?_
                refine lv_istore (i := 8) (lv' := [(8, .int ((0 + 1) + 1)), (3, .int (x3 + 1)), (7, .int 1), (6, .int y21.2.1), (5, .int y19.2.1), (0, rf h0), (1, rf h1), (2, .int x2), (4, .int x4)]) S.1 S.2.1 dL_areTasksRight_122 hl (by decide) rfl (fun ls hl => ?_)
                refine lv_iload S.1 S.2.1 dL_areTasksRight_124 (lv_at hl 0 rfl) ?_
                refine lv_iload S.1 S.2.1 dL_areTasksRight_126 (lv_at hl 2 rfl) ?_
                refine lv_if_eq (tgt := 135) S.1 S.2.1 dL_areTasksRight_128 (by decide) (fun c580 => ?_) (fun c580 => ?_)
                · have hf := it_t hf c580
                  refine lv_iconst (v := 1) S.1 S.2.1 dL_areTasksRight_135 (by decide) ?_
                  refine lv_icmp_ne (tgt := 188) S.1 S.2.1 dL_areTasksRight_136 (by decide) (fun c581 => ?_) (fun c581 => ?_)
                  · have hf := it_f hf c581
                    refine lv_iconst (v := 0) S.1 S.2.1 dL_areTasksRight_188 (by decide) ?_
                    obtain rfl := Option.some.inj hf
                    refine W.widen (k := 1) (n := 24) (Nat.le_of_ble_eq_true rfl) (Nat.le_of_ble_eq_true rfl) ?_
                    exact mm_zret S hR hS hr hlocks (Or.inl rfl) dL_areTasksRight_189
                  · have hf := it_t hf c581
                    refine mm_aload_n S dL_areTasksRight_139 rfl (lv_at hl 5 rfl) ?_
                    refine lv_iload S.1 S.2.1 dL_areTasksRight_140 (lv_at hl 8 rfl) ?_
                    refine lv_iconst (v := 1) S.1 S.2.1 dL_areTasksRight_142 (by decide) ?_
                    obtain ⟨y582, hy582, hf⟩ := bd hf
                    obtain ⟨g583, hf⟩ := gd hf
                    refine mm_callVi S hR hS hA (As := [.int x4, .int 1]) (rest := []) cvL_68 (hK.k g3) (kX6_ofTask_c l G A (hK.k g3) hy582 g583) rfl rfl ⟨Nat.le_of_ble_eq_true rfl, Nat.le_of_ble_eq_true rfl⟩ rfl hl.1 rfl (lv_room (by simp [rf_cat, int_cat, long_cat])) dL_areTasksRight_143 ⟨Nat.le_of_ble_eq_true rfl, Nat.le_of_ble_eq_true rfl⟩ (fun H locs hR hS => ?_)
                    have hK : mmKN μ y582.2.2 := hK.tr (kX6_ofTask_kn hy582)
                    refine lv_if_lt (tgt := 165) S.1 S.2.1 dL_areTasksRight_146 (by decide) (fun c584 => ?_) (fun c584 => ?_)
                    · have hf := it_t hf c584
                      exact wbL_areTasksRight_165 E0 kk12 hkk12 h0 h1 x2 (x3 + 1) x4 y19.2.1 y21.2.1 y582.2.2 hf _ _ _ hR hS (lv_sub hl [5, 6, 7, 1, 8, 4, 3] rfl)
                    · have hf := it_f hf c584
                      refine mm_aload_n S dL_areTasksRight_149 rfl (lv_at hl 5 rfl) ?_
                      refine lv_iload S.1 S.2.1 dL_areTasksRight_150 (lv_at hl 8 rfl) ?_
                      refine lv_iconst (v := 1) S.1 S.2.1 dL_areTasksRight_152 (by decide) ?_
                      obtain ⟨y585, hy585, hf⟩ := bd hf
                      obtain ⟨g586, hf⟩ := gd hf
                      refine mm_callVi S hR hS hA (As := [.int x4, .int 1]) (rest := []) cvL_68 (hK.k g3) (kX6_ofTask_c l G A (hK.k g3) hy585 g586) rfl rfl ⟨Nat.le_of_ble_eq_true rfl, Nat.le_of_ble_eq_true rfl⟩ rfl hl.1 rfl (lv_room (by simp [rf_cat, int_cat, long_cat])) dL_areTasksRight_153 ⟨Nat.le_of_ble_eq_true rfl, Nat.le_of_ble_eq_true rfl⟩ (fun H locs hR hS => ?_)
                      have hK : mmKN μ y585.2.2 := hK.tr (kX6_ofTask_kn hy585)
                      refine mm_aload_n S dL_areTasksRight_156 rfl (lv_at hl 5 rfl) ?_
                      refine lv_bipush (v := 9) S.1 S.2.1 dL_areTasksRight_157 (by decide) ?_
                      obtain ⟨y587, hy587, hf⟩ := bd hf
                      obtain ⟨g588, hf⟩ := gd hf
                      refine mm_callVi S hR hS hA (As := [.int 9]) (rest := [.int y585.2.1]) cvL_39 (hK.k g3) (kX6_many_c l G A (hK.k g3) hy587 g588) rfl rfl ⟨Nat.le_of_ble_eq_true rfl, Nat.le_of_ble_eq_true rfl⟩ rfl hl.1 rfl (lv_room (by simp [rf_cat, int_cat, long_cat])) dL_areTasksRight_159 ⟨Nat.le_of_ble_eq_true rfl, Nat.le_of_ble_eq_true rfl⟩ (fun H locs hR hS => ?_)
                      have hK : mmKN μ y587.2.2 := hK.tr (kX6_many_kn hy587)
                      refine lv_icmp_le (tgt := 188) S.1 S.2.1 dL_areTasksRight_162 (by decide) (fun c589 => ?_) (fun c589 => ?_)
                      · have hf := it_t hf c589
                        refine lv_iconst (v := 0) S.1 S.2.1 dL_areTasksRight_188 (by decide) ?_
                        obtain rfl := Option.some.inj hf
                        refine W.widen (k := 1) (n := 24) (Nat.le_of_ble_eq_true rfl) (Nat.le_of_ble_eq_true rfl) ?_
                        exact mm_zret S hR hS hr hlocks (Or.inl rfl) dL_areTasksRight_189
                      · have hf := it_f hf c589
                        exact wbL_areTasksRight_165 E0 kk12 hkk12 h0 h1 x2 (x3 + 1) x4 y19.2.1 y21.2.1 y587.2.2 hf _ _ _ hR hS (lv_sub hl [5, 6, 7, 1, 8, 4, 3] rfl)
                · have hf := it_f hf c580
                  refine lv_iconst (v := 0) S.1 S.2.1 dL_areTasksRight_131 (by decide) ?_
                  refine lv_goto (tgt := 136) S.1 S.2.1 dL_areTasksRight_132 (by decide) ?_
                  refine lv_icmp_ne (tgt := 188) S.1 S.2.1 dL_areTasksRight_136 (by decide) (fun c590 => ?_) (fun c590 => ?_)
                  · have hf := it_f hf c590
                    refine lv_iconst (v := 0) S.1 S.2.1 dL_areTasksRight_188 (by decide) ?_
                    obtain rfl := Option.some.inj hf
                    refine W.widen (k := 1) (n := 24) (Nat.le_of_ble_eq_true rfl) (Nat.le_of_ble_eq_true rfl) ?_
                    exact mm_zret S hR hS hr hlocks (Or.inl rfl) dL_areTasksRight_189
                  · have hf := it_t hf c590
                    refine mm_aload_n S dL_areTasksRight_139 rfl (lv_at hl 5 rfl) ?_
                    refine lv_iload S.1 S.2.1 dL_areTasksRight_140 (lv_at hl 8 rfl) ?_
                    refine lv_iconst (v := 1) S.1 S.2.1 dL_areTasksRight_142 (by decide) ?_
                    obtain ⟨y591, hy591, hf⟩ := bd hf
                    obtain ⟨g592, hf⟩ := gd hf
                    refine mm_callVi S hR hS hA (As := [.int x4, .int 1]) (rest := []) cvL_68 (hK.k g3) (kX6_ofTask_c l G A (hK.k g3) hy591 g592) rfl rfl ⟨Nat.le_of_ble_eq_true rfl, Nat.le_of_ble_eq_true rfl⟩ rfl hl.1 rfl (lv_room (by simp [rf_cat, int_cat, long_cat])) dL_areTasksRight_143 ⟨Nat.le_of_ble_eq_true rfl, Nat.le_of_ble_eq_true rfl⟩ (fun H locs hR hS => ?_)
                    have hK : mmKN μ y591.2.2 := hK.tr (kX6_ofTask_kn hy591)
                    refine lv_if_lt (tgt := 165) S.1 S.2.1 dL_areTasksRight_146 (by decide) (fun c593 => ?_) (fun c593 => ?_)
                    · have hf := it_t hf c593
                      exact wbL_areTasksRight_165 E0 kk12 hkk12 h0 h1 x2 (x3 + 1) x4 y19.2.1 y21.2.1 y591.2.2 hf _ _ _ hR hS (lv_sub hl [5, 6, 7, 1, 8, 4, 3] rfl)
                    · have hf := it_f hf c593
                      refine mm_aload_n S dL_areTasksRight_149 rfl (lv_at hl 5 rfl) ?_
                      refine lv_iload S.1 S.2.1 dL_areTasksRight_150 (lv_at hl 8 rfl) ?_
                      refine lv_iconst (v := 1) S.1 S.2.1 dL_areTasksRight_152 (by decide) ?_
                      obtain ⟨y594, hy594, hf⟩ := bd hf
                      obtain ⟨g595, hf⟩ := gd hf
                      refine mm_callVi S hR hS hA (As := [.int x4, .int 1]) (rest := []) cvL_68 (hK.k g3) (kX6_ofTask_c l G A (hK.k g3) hy594 g595) rfl rfl ⟨Nat.le_of_ble_eq_true rfl, Nat.le_of_ble_eq_true rfl⟩ rfl hl.1 rfl (lv_room (by simp [rf_cat, int_cat, long_cat])) dL_areTasksRight_153 ⟨Nat.le_of_ble_eq_true rfl, Nat.le_of_ble_eq_true rfl⟩ (fun H locs hR hS => ?_)
                      have hK : mmKN μ y594.2.2 := hK.tr (kX6_ofTask_kn hy594)
                      refine mm_aload_n S dL_areTasksRight_156 rfl (lv_at hl 5 rfl) ?_
                      refine lv_bipush (v := 9) S.1 S.2.1 dL_areTasksRight_157 (by decide) ?_
                      obtain ⟨y596, hy596, hf⟩ := bd hf
                      obtain ⟨g597, hf⟩ := gd hf
                      refine mm_callVi S hR hS hA (As := [.int 9]) (rest := [.int y594.2.1]) cvL_39 (hK.k g3) (kX6_many_c l G A (hK.k g3) hy596 g597) rfl rfl ⟨Nat.le_of_ble_eq_true rfl, Nat.le_of_ble_eq_true rfl⟩ rfl hl.1 rfl (lv_room (by simp [rf_cat, int_cat, long_cat])) dL_areTasksRight_159 ⟨Nat.le_of_ble_eq_true rfl, Nat.le_of_ble_eq_true rfl⟩ (fun H locs hR hS => ?_)
                      have hK : mmKN μ y596.2.2 := hK.tr (kX6_many_kn hy596)
                      refine lv_icmp_le (tgt := 188) S.1 S.2.1 dL_areTasksRight_162 (by decide) (fun c598 => ?_) (fun c598 => ?_)
                      · have hf := it_t hf c598
                        refine lv_iconst (v := 0) S.1 S.2.1 dL_areTasksRight_188 (by decide) ?_
                        obtain rfl := Option.some.inj hf
                        refine W.widen (k := 1) (n := 24) (Nat.le_of_ble_eq_true rfl) (Nat.le_of_ble_eq_true rfl) ?_
                        exact mm_zret S hR hS hr hlocks (Or.inl rfl) dL_areTasksRight_189
                      · have hf := it_f hf c598
                        exact wbL_areTasksRight_165 E0 kk12 hkk12 h0 h1 x2 (x3 + 1) x4 y19.2.1 y21.2.1 y596.2.2 hf _ _ _ hR hS (lv_sub hl [5, 6, 7, 1, 8, 4, 3] rfl)
          · have hf := it_f hf c517
            refine lv_iconst (v := 1) S.1 S.2.1 dL_areTasksRight_90 (by decide) ?_
            refine lv_goto (tgt := 95) S.1 S.2.1 dL_areTasksRight_91 (by decide) ?_
            refine mm_aload_n S dL_areTasksRight_95 rfl (lv_at hl 4 rfl) ?_
            refine lv_iload S.1 S.2.1 dL_areTasksRight_96 (lv_at hl 7 rfl) ?_
            refine lv_iconst (v := 1) S.1 S.2.1 dL_areTasksRight_98 (by decide) ?_
            obtain ⟨y599, hy599, hf⟩ := bd hf
            obtain ⟨g600, hf⟩ := gd hf
            refine mm_callVi S hR hS hA (As := [.int x4, .int 1]) (rest := [.int 1]) cvL_68 (hK.k g3) (kX6_ofTask_c l G A (hK.k g3) hy599 g600) rfl rfl ⟨Nat.le_of_ble_eq_true rfl, Nat.le_of_ble_eq_true rfl⟩ rfl hl.1 rfl (lv_room (by simp [rf_cat, int_cat, long_cat])) dL_areTasksRight_99 ⟨Nat.le_of_ble_eq_true rfl, Nat.le_of_ble_eq_true rfl⟩ (fun H locs hR hS => ?_)
            have hK : mmKN μ y599.2.2 := hK.tr (kX6_ofTask_kn hy599)
            refine lv_if_lt (tgt := 109) S.1 S.2.1 dL_areTasksRight_102 (by decide) (fun c601 => ?_) (fun c601 => ?_)
            · have hf := it_t hf c601
              refine lv_iconst (v := 0) S.1 S.2.1 dL_areTasksRight_109 (by decide) ?_
              refine lv_iadd S.1 S.2.1 dL_areTasksRight_110 ?_
              refine lv_iload S.1 S.2.1 dL_areTasksRight_111 (lv_at hl 2 rfl) ?_
              refine lv_if_lt (tgt := 120) S.1 S.2.1 dL_areTasksRight_113 (by decide) (fun c602 => ?_) (fun c602 => ?_)
              · have hf := it_t hf c602
                refine lv_iconst (v := 0) S.1 S.2.1 dL_areTasksRight_120 (by decide) ?_
                refine lv_iadd S.1 S.2.1 dL_areTasksRight_121 ?_
                refine lv_istore (i := 8) (lv' := [(8, .int ((1 + 0) + 0)), (3, .int (x3 + 1)), (7, .int 1), (6, .int y21.2.1), (5, .int y19.2.1), (0, rf h0), (1, rf h1), (2, .int x2), (4, .int x4)]) S.1 S.2.1 dL_areTasksRight_122 hl (by decide) rfl (fun ls hl => ?_)
                refine lv_iload S.1 S.2.1 dL_areTasksRight_124 (lv_at hl 0 rfl) ?_
                refine lv_iload S.1 S.2.1 dL_areTasksRight_126 (lv_at hl 2 rfl) ?_
                refine lv_if_eq (tgt := 135) S.1 S.2.1 dL_areTasksRight_128 (by decide) (fun c603 => ?_) (fun c603 => ?_)
                · have hf := it_t hf c603
                  refine lv_iconst (v := 1) S.1 S.2.1 dL_areTasksRight_135 (by decide) ?_
                  refine lv_icmp_ne (tgt := 188) S.1 S.2.1 dL_areTasksRight_136 (by decide) (fun c604 => ?_) (fun c604 => ?_)
                  · have hf := it_f hf c604
                    refine lv_iconst (v := 0) S.1 S.2.1 dL_areTasksRight_188 (by decide) ?_
                    obtain rfl := Option.some.inj hf
                    refine W.widen (k := 1) (n := 24) (Nat.le_of_ble_eq_true rfl) (Nat.le_of_ble_eq_true rfl) ?_
                    exact mm_zret S hR hS hr hlocks (Or.inl rfl) dL_areTasksRight_189
                  · have hf := it_t hf c604
                    refine mm_aload_n S dL_areTasksRight_139 rfl (lv_at hl 5 rfl) ?_
                    refine lv_iload S.1 S.2.1 dL_areTasksRight_140 (lv_at hl 8 rfl) ?_
                    refine lv_iconst (v := 1) S.1 S.2.1 dL_areTasksRight_142 (by decide) ?_
                    obtain ⟨y605, hy605, hf⟩ := bd hf
                    obtain ⟨g606, hf⟩ := gd hf
                    refine mm_callVi S hR hS hA (As := [.int x4, .int 1]) (rest := []) cvL_68 (hK.k g3) (kX6_ofTask_c l G A (hK.k g3) hy605 g606) rfl rfl ⟨Nat.le_of_ble_eq_true rfl, Nat.le_of_ble_eq_true rfl⟩ rfl hl.1 rfl (lv_room (by simp [rf_cat, int_cat, long_cat])) dL_areTasksRight_143 ⟨Nat.le_of_ble_eq_true rfl, Nat.le_of_ble_eq_true rfl⟩ (fun H locs hR hS => ?_)
                    have hK : mmKN μ y605.2.2 := hK.tr (kX6_ofTask_kn hy605)
                    refine lv_if_lt (tgt := 165) S.1 S.2.1 dL_areTasksRight_146 (by decide) (fun c607 => ?_) (fun c607 => ?_)
                    · have hf := it_t hf c607
                      exact wbL_areTasksRight_165 E0 kk12 hkk12 h0 h1 x2 (x3 + 1) x4 y19.2.1 y21.2.1 y605.2.2 hf _ _ _ hR hS (lv_sub hl [5, 6, 7, 1, 8, 4, 3] rfl)
                    · have hf := it_f hf c607
                      refine mm_aload_n S dL_areTasksRight_149 rfl (lv_at hl 5 rfl) ?_
                      refine lv_iload S.1 S.2.1 dL_areTasksRight_150 (lv_at hl 8 rfl) ?_
                      refine lv_iconst (v := 1) S.1 S.2.1 dL_areTasksRight_152 (by decide) ?_
                      obtain ⟨y608, hy608, hf⟩ := bd hf
                      obtain ⟨g609, hf⟩ := gd hf
                      refine mm_callVi S hR hS hA (As := [.int x4, .int 1]) (rest := []) cvL_68 (hK.k g3) (kX6_ofTask_c l G A (hK.k g3) hy608 g609) rfl rfl ⟨Nat.le_of_ble_eq_true rfl, Nat.le_of_ble_eq_true rfl⟩ rfl hl.1 rfl (lv_room (by simp [rf_cat, int_cat, long_cat])) dL_areTasksRight_153 ⟨Nat.le_of_ble_eq_true rfl, Nat.le_of_ble_eq_true rfl⟩ (fun H locs hR hS => ?_)
                      have hK : mmKN μ y608.2.2 := hK.tr (kX6_ofTask_kn hy608)
                      refine mm_aload_n S dL_areTasksRight_156 rfl (lv_at hl 5 rfl) ?_
                      refine lv_bipush (v := 9) S.1 S.2.1 dL_areTasksRight_157 (by decide) ?_
                      obtain ⟨y610, hy610, hf⟩ := bd hf
                      obtain ⟨g611, hf⟩ := gd hf
                      refine mm_callVi S hR hS hA (As := [.int 9]) (rest := [.int y608.2.1]) cvL_39 (hK.k g3) (kX6_many_c l G A (hK.k g3) hy610 g611) rfl rfl ⟨Nat.le_of_ble_eq_true rfl, Nat.le_of_ble_eq_true rfl⟩ rfl hl.1 rfl (lv_room (by simp [rf_cat, int_cat, long_cat])) dL_areTasksRight_159 ⟨Nat.le_of_ble_eq_true rfl, Nat.le_of_ble_eq_true rfl⟩ (fun H locs hR hS => ?_)
                      have hK : mmKN μ y610.2.2 := hK.tr (kX6_many_kn hy610)
                      refine lv_icmp_le (tgt := 188) S.1 S.2.1 dL_areTasksRight_162 (by decide) (fun c612 => ?_) (fun c612 => ?_)
                      · have hf := it_t hf c612
                        refine lv_iconst (v := 0) S.1 S.2.1 dL_areTasksRight_188 (by decide) ?_
                        obtain rfl := Option.some.inj hf
                        refine W.widen (k := 1) (n := 24) (Nat.le_of_ble_eq_true rfl) (Nat.le_of_ble_eq_true rfl) ?_
                        exact mm_zret S hR hS hr hlocks (Or.inl rfl) dL_areTasksRight_189
                      · have hf := it_f hf c612
                        exact wbL_areTasksRight_165 E0 kk12 hkk12 h0 h1 x2 (x3 + 1) x4 y19.2.1 y21.2.1 y610.2.2 hf _ _ _ hR hS (lv_sub hl [5, 6, 7, 1, 8, 4, 3] rfl)
                · have hf := it_f hf c603
                  refine lv_iconst (v := 0) S.1 S.2.1 dL_areTasksRight_131 (by decide) ?_
                  refine lv_goto (tgt := 136) S.1 S.2.1 dL_areTasksRight_132 (by decide) ?_
                  refine lv_icmp_ne (tgt := 188) S.1 S.2.1 dL_areTasksRight_136 (by decide) (fun c613 => ?_) (fun c613 => ?_)
                  · have hf := it_f hf c613
                    refine lv_iconst (v := 0) S.1 S.2.1 dL_areTasksRight_188 (by decide) ?_
                    obtain rfl := Option.some.inj hf
                    refine W.widen (k := 1) (n := 24) (Nat.le_of_ble_eq_true rfl) (Nat.le_of_ble_eq_true rfl) ?_
                    exact mm_zret S hR hS hr hlocks (Or.inl rfl) dL_areTasksRight_189
                  · have hf := it_t hf c613
                    refine mm_aload_n S dL_areTasksRight_139 rfl (lv_at hl 5 rfl) ?_
                    refine lv_iload S.1 S.2.1 dL_areTasksRight_140 (lv_at hl 8 rfl) ?_
                    refine lv_iconst (v := 1) S.1 S.2.1 dL_areTasksRight_142 (by decide) ?_
                    obtain ⟨y614, hy614, hf⟩ := bd hf
                    obtain ⟨g615, hf⟩ := gd hf
                    refine mm_callVi S hR hS hA (As := [.int x4, .int 1]) (rest := []) cvL_68 (hK.k g3) (kX6_ofTask_c l G A (hK.k g3) hy614 g615) rfl rfl ⟨Nat.le_of_ble_eq_true rfl, Nat.le_of_ble_eq_true rfl⟩ rfl hl.1 rfl (lv_room (by simp [rf_cat, int_cat, long_cat])) dL_areTasksRight_143 ⟨Nat.le_of_ble_eq_true rfl, Nat.le_of_ble_eq_true rfl⟩ (fun H locs hR hS => ?_)
                    have hK : mmKN μ y614.2.2 := hK.tr (kX6_ofTask_kn hy614)
                    refine lv_if_lt (tgt := 165) S.1 S.2.1 dL_areTasksRight_146 (by decide) (fun c616 => ?_) (fun c616 => ?_)
                    · have hf := it_t hf c616
                      exact wbL_areTasksRight_165 E0 kk12 hkk12 h0 h1 x2 (x3 + 1) x4 y19.2.1 y21.2.1 y614.2.2 hf _ _ _ hR hS (lv_sub hl [5, 6, 7, 1, 8, 4, 3] rfl)
                    · have hf := it_f hf c616
                      refine mm_aload_n S dL_areTasksRight_149 rfl (lv_at hl 5 rfl) ?_
                      refine lv_iload S.1 S.2.1 dL_areTasksRight_150 (lv_at hl 8 rfl) ?_
                      refine lv_iconst (v := 1) S.1 S.2.1 dL_areTasksRight_152 (by decide) ?_
                      obtain ⟨y617, hy617, hf⟩ := bd hf
                      obtain ⟨g618, hf⟩ := gd hf
                      refine mm_callVi S hR hS hA (As := [.int x4, .int 1]) (rest := []) cvL_68 (hK.k g3) (kX6_ofTask_c l G A (hK.k g3) hy617 g618) rfl rfl ⟨Nat.le_of_ble_eq_true rfl, Nat.le_of_ble_eq_true rfl⟩ rfl hl.1 rfl (lv_room (by simp [rf_cat, int_cat, long_cat])) dL_areTasksRight_153 ⟨Nat.le_of_ble_eq_true rfl, Nat.le_of_ble_eq_true rfl⟩ (fun H locs hR hS => ?_)
                      have hK : mmKN μ y617.2.2 := hK.tr (kX6_ofTask_kn hy617)
                      refine mm_aload_n S dL_areTasksRight_156 rfl (lv_at hl 5 rfl) ?_
                      refine lv_bipush (v := 9) S.1 S.2.1 dL_areTasksRight_157 (by decide) ?_
                      obtain ⟨y619, hy619, hf⟩ := bd hf
                      obtain ⟨g620, hf⟩ := gd hf
                      refine mm_callVi S hR hS hA (As := [.int 9]) (rest := [.int y617.2.1]) cvL_39 (hK.k g3) (kX6_many_c l G A (hK.k g3) hy619 g620) rfl rfl ⟨Nat.le_of_ble_eq_true rfl, Nat.le_of_ble_eq_true rfl⟩ rfl hl.1 rfl (lv_room (by simp [rf_cat, int_cat, long_cat])) dL_areTasksRight_159 ⟨Nat.le_of_ble_eq_true rfl, Nat.le_of_ble_eq_true rfl⟩ (fun H locs hR hS => ?_)
                      have hK : mmKN μ y619.2.2 := hK.tr (kX6_many_kn hy619)
                      refine lv_icmp_le (tgt := 188) S.1 S.2.1 dL_areTasksRight_162 (by decide) (fun c621 => ?_) (fun c621 => ?_)
                      · have hf := it_t hf c621
                        refine lv_iconst (v := 0) S.1 S.2.1 dL_areTasksRight_188 (by decide) ?_
                        obtain rfl := Option.some.inj hf
                        refine W.widen (k := 1) (n := 24) (Nat.le_of_ble_eq_true rfl) (Nat.le_of_ble_eq_true rfl) ?_
                        exact mm_zret S hR hS hr hlocks (Or.inl rfl) dL_areTasksRight_189
                      · have hf := it_f hf c621
                        exact wbL_areTasksRight_165 E0 kk12 hkk12 h0 h1 x2 (x3 + 1) x4 y19.2.1 y21.2.1 y619.2.2 hf _ _ _ hR hS (lv_sub hl [5, 6, 7, 1, 8, 4, 3] rfl)
              · have hf := it_f hf c602
                refine lv_iconst (v := 1) S.1 S.2.1 dL_areTasksRight_116 (by decide) ?_
                refine lv_goto (tgt := 121) S.1 S.2.1 dL_areTasksRight_117 (by decide) ?_
                refine lv_iadd S.1 S.2.1 dL_areTasksRight_121 ?_
                refine lv_istore (i := 8) (lv' := [(8, .int ((1 + 0) + 1)), (3, .int (x3 + 1)), (7, .int 1), (6, .int y21.2.1), (5, .int y19.2.1), (0, rf h0), (1, rf h1), (2, .int x2), (4, .int x4)]) S.1 S.2.1 dL_areTasksRight_122 hl (by decide) rfl (fun ls hl => ?_)
                refine lv_iload S.1 S.2.1 dL_areTasksRight_124 (lv_at hl 0 rfl) ?_
                refine lv_iload S.1 S.2.1 dL_areTasksRight_126 (lv_at hl 2 rfl) ?_
                refine lv_if_eq (tgt := 135) S.1 S.2.1 dL_areTasksRight_128 (by decide) (fun c622 => ?_) (fun c622 => ?_)
                · have hf := it_t hf c622
                  refine lv_iconst (v := 1) S.1 S.2.1 dL_areTasksRight_135 (by decide) ?_
                  refine lv_icmp_ne (tgt := 188) S.1 S.2.1 dL_areTasksRight_136 (by decide) (fun c623 => ?_) (fun c623 => ?_)
                  · have hf := it_f hf c623
                    refine lv_iconst (v := 0) S.1 S.2.1 dL_areTasksRight_188 (by decide) ?_
                    obtain rfl := Option.some.inj hf
                    refine W.widen (k := 1) (n := 24) (Nat.le_of_ble_eq_true rfl) (Nat.le_of_ble_eq_true rfl) ?_
                    exact mm_zret S hR hS hr hlocks (Or.inl rfl) dL_areTasksRight_189
                  · have hf := it_t hf c623
                    refine mm_aload_n S dL_areTasksRight_139 rfl (lv_at hl 5 rfl) ?_
                    refine lv_iload S.1 S.2.1 dL_areTasksRight_140 (lv_at hl 8 rfl) ?_
                    refine lv_iconst (v := 1) S.1 S.2.1 dL_areTasksRight_142 (by decide) ?_
                    obtain ⟨y624, hy624, hf⟩ := bd hf
                    obtain ⟨g625, hf⟩ := gd hf
                    refine mm_callVi S hR hS hA (As := [.int x4, .int 1]) (rest := []) cvL_68 (hK.k g3) (kX6_ofTask_c l G A (hK.k g3) hy624 g625) rfl rfl ⟨Nat.le_of_ble_eq_true rfl, Nat.le_of_ble_eq_true rfl⟩ rfl hl.1 rfl (lv_room (by simp [rf_cat, int_cat, long_cat])) dL_areTasksRight_143 ⟨Nat.le_of_ble_eq_true rfl, Nat.le_of_ble_eq_true rfl⟩ (fun H locs hR hS => ?_)
                    have hK : mmKN μ y624.2.2 := hK.tr (kX6_ofTask_kn hy624)
                    refine lv_if_lt (tgt := 165) S.1 S.2.1 dL_areTasksRight_146 (by decide) (fun c626 => ?_) (fun c626 => ?_)
                    · have hf := it_t hf c626
                      exact wbL_areTasksRight_165 E0 kk12 hkk12 h0 h1 x2 (x3 + 1) x4 y19.2.1 y21.2.1 y624.2.2 hf _ _ _ hR hS (lv_sub hl [5, 6, 7, 1, 8, 4, 3] rfl)
                    · have hf := it_f hf c626
                      refine mm_aload_n S dL_areTasksRight_149 rfl (lv_at hl 5 rfl) ?_
                      refine lv_iload S.1 S.2.1 dL_areTasksRight_150 (lv_at hl 8 rfl) ?_
                      refine lv_iconst (v := 1) S.1 S.2.1 dL_areTasksRight_152 (by decide) ?_
                      obtain ⟨y627, hy627, hf⟩ := bd hf
                      obtain ⟨g628, hf⟩ := gd hf
                      refine mm_callVi S hR hS hA (As := [.int x4, .int 1]) (rest := []) cvL_68 (hK.k g3) (kX6_ofTask_c l G A (hK.k g3) hy627 g628) rfl rfl ⟨Nat.le_of_ble_eq_true rfl, Nat.le_of_ble_eq_true rfl⟩ rfl hl.1 rfl (lv_room (by simp [rf_cat, int_cat, long_cat])) dL_areTasksRight_153 ⟨Nat.le_of_ble_eq_true rfl, Nat.le_of_ble_eq_true rfl⟩ (fun H locs hR hS => ?_)
                      have hK : mmKN μ y627.2.2 := hK.tr (kX6_ofTask_kn hy627)
                      refine mm_aload_n S dL_areTasksRight_156 rfl (lv_at hl 5 rfl) ?_
                      refine lv_bipush (v := 9) S.1 S.2.1 dL_areTasksRight_157 (by decide) ?_
                      obtain ⟨y629, hy629, hf⟩ := bd hf
                      obtain ⟨g630, hf⟩ := gd hf
                      refine mm_callVi S hR hS hA (As := [.int 9]) (rest := [.int y627.2.1]) cvL_39 (hK.k g3) (kX6_many_c l G A (hK.k g3) hy629 g630) rfl rfl ⟨Nat.le_of_ble_eq_true rfl, Nat.le_of_ble_eq_true rfl⟩ rfl hl.1 rfl (lv_room (by simp [rf_cat, int_cat, long_cat])) dL_areTasksRight_159 ⟨Nat.le_of_ble_eq_true rfl, Nat.le_of_ble_eq_true rfl⟩ (fun H locs hR hS => ?_)
                      have hK : mmKN μ y629.2.2 := hK.tr (kX6_many_kn hy629)
                      refine lv_icmp_le (tgt := 188) S.1 S.2.1 dL_areTasksRight_162 (by decide) (fun c631 => ?_) (fun c631 => ?_)
                      · have hf := it_t hf c631
                        refine lv_iconst (v := 0) S.1 S.2.1 dL_areTasksRight_188 (by decide) ?_
                        obtain rfl := Option.some.inj hf
                        refine W.widen (k := 1) (n := 24) (Nat.le_of_ble_eq_true rfl) (Nat.le_of_ble_eq_true rfl) ?_
                        exact mm_zret S hR hS hr hlocks (Or.inl rfl) dL_areTasksRight_189
                      · have hf := it_f hf c631
                        exact wbL_areTasksRight_165 E0 kk12 hkk12 h0 h1 x2 (x3 + 1) x4 y19.2.1 y21.2.1 y629.2.2 hf _ _ _ hR hS (lv_sub hl [5, 6, 7, 1, 8, 4, 3] rfl)
                · have hf := it_f hf c622
                  refine lv_iconst (v := 0) S.1 S.2.1 dL_areTasksRight_131 (by decide) ?_
                  refine lv_goto (tgt := 136) S.1 S.2.1 dL_areTasksRight_132 (by decide) ?_
                  refine lv_icmp_ne (tgt := 188) S.1 S.2.1 dL_areTasksRight_136 (by decide) (fun c632 => ?_) (fun c632 => ?_)
                  · have hf := it_f hf c632
                    refine lv_iconst (v := 0) S.1 S.2.1 dL_areTasksRight_188 (by decide) ?_
                    obtain rfl := Option.some.inj hf
                    refine W.widen (k := 1) (n := 24) (Nat.le_of_ble_eq_true rfl) (Nat.le_of_ble_eq_true rfl) ?_
                    exact mm_zret S hR hS hr hlocks (Or.inl rfl) dL_areTasksRight_189
                  · have hf := it_t hf c632
                    refine mm_aload_n S dL_areTasksRight_139 rfl (lv_at hl 5 rfl) ?_
                    refine lv_iload S.1 S.2.1 dL_areTasksRight_140 (lv_at hl 8 rfl) ?_
                    refine lv_iconst (v := 1) S.1 S.2.1 dL_areTasksRight_142 (by decide) ?_
                    obtain ⟨y633, hy633, hf⟩ := bd hf
                    obtain ⟨g634, hf⟩ := gd hf
                    refine mm_callVi S hR hS hA (As := [.int x4, .int 1]) (rest := []) cvL_68 (hK.k g3) (kX6_ofTask_c l G A (hK.k g3) hy633 g634) rfl rfl ⟨Nat.le_of_ble_eq_true rfl, Nat.le_of_ble_eq_true rfl⟩ rfl hl.1 rfl (lv_room (by simp [rf_cat, int_cat, long_cat])) dL_areTasksRight_143 ⟨Nat.le_of_ble_eq_true rfl, Nat.le_of_ble_eq_true rfl⟩ (fun H locs hR hS => ?_)
                    have hK : mmKN μ y633.2.2 := hK.tr (kX6_ofTask_kn hy633)
                    refine lv_if_lt (tgt := 165) S.1 S.2.1 dL_areTasksRight_146 (by decide) (fun c635 => ?_) (fun c635 => ?_)
                    · have hf := it_t hf c635
                      exact wbL_areTasksRight_165 E0 kk12 hkk12 h0 h1 x2 (x3 + 1) x4 y19.2.1 y21.2.1 y633.2.2 hf _ _ _ hR hS (lv_sub hl [5, 6, 7, 1, 8, 4, 3] rfl)
                    · have hf := it_f hf c635
                      refine mm_aload_n S dL_areTasksRight_149 rfl (lv_at hl 5 rfl) ?_
                      refine lv_iload S.1 S.2.1 dL_areTasksRight_150 (lv_at hl 8 rfl) ?_
                      refine lv_iconst (v := 1) S.1 S.2.1 dL_areTasksRight_152 (by decide) ?_
                      obtain ⟨y636, hy636, hf⟩ := bd hf
                      obtain ⟨g637, hf⟩ := gd hf
                      refine mm_callVi S hR hS hA (As := [.int x4, .int 1]) (rest := []) cvL_68 (hK.k g3) (kX6_ofTask_c l G A (hK.k g3) hy636 g637) rfl rfl ⟨Nat.le_of_ble_eq_true rfl, Nat.le_of_ble_eq_true rfl⟩ rfl hl.1 rfl (lv_room (by simp [rf_cat, int_cat, long_cat])) dL_areTasksRight_153 ⟨Nat.le_of_ble_eq_true rfl, Nat.le_of_ble_eq_true rfl⟩ (fun H locs hR hS => ?_)
                      have hK : mmKN μ y636.2.2 := hK.tr (kX6_ofTask_kn hy636)
                      refine mm_aload_n S dL_areTasksRight_156 rfl (lv_at hl 5 rfl) ?_
                      refine lv_bipush (v := 9) S.1 S.2.1 dL_areTasksRight_157 (by decide) ?_
                      obtain ⟨y638, hy638, hf⟩ := bd hf
                      obtain ⟨g639, hf⟩ := gd hf
                      refine mm_callVi S hR hS hA (As := [.int 9]) (rest := [.int y636.2.1]) cvL_39 (hK.k g3) (kX6_many_c l G A (hK.k g3) hy638 g639) rfl rfl ⟨Nat.le_of_ble_eq_true rfl, Nat.le_of_ble_eq_true rfl⟩ rfl hl.1 rfl (lv_room (by simp [rf_cat, int_cat, long_cat])) dL_areTasksRight_159 ⟨Nat.le_of_ble_eq_true rfl, Nat.le_of_ble_eq_true rfl⟩ (fun H locs hR hS => ?_)
                      have hK : mmKN μ y638.2.2 := hK.tr (kX6_many_kn hy638)
                      refine lv_icmp_le (tgt := 188) S.1 S.2.1 dL_areTasksRight_162 (by decide) (fun c640 => ?_) (fun c640 => ?_)
                      · have hf := it_t hf c640
                        refine lv_iconst (v := 0) S.1 S.2.1 dL_areTasksRight_188 (by decide) ?_
                        obtain rfl := Option.some.inj hf
                        refine W.widen (k := 1) (n := 24) (Nat.le_of_ble_eq_true rfl) (Nat.le_of_ble_eq_true rfl) ?_
                        exact mm_zret S hR hS hr hlocks (Or.inl rfl) dL_areTasksRight_189
                      · have hf := it_f hf c640
                        exact wbL_areTasksRight_165 E0 kk12 hkk12 h0 h1 x2 (x3 + 1) x4 y19.2.1 y21.2.1 y638.2.2 hf _ _ _ hR hS (lv_sub hl [5, 6, 7, 1, 8, 4, 3] rfl)
            · have hf := it_f hf c601
              refine lv_iconst (v := 1) S.1 S.2.1 dL_areTasksRight_105 (by decide) ?_
              refine lv_goto (tgt := 110) S.1 S.2.1 dL_areTasksRight_106 (by decide) ?_
              refine lv_iadd S.1 S.2.1 dL_areTasksRight_110 ?_
              refine lv_iload S.1 S.2.1 dL_areTasksRight_111 (lv_at hl 2 rfl) ?_
              refine lv_if_lt (tgt := 120) S.1 S.2.1 dL_areTasksRight_113 (by decide) (fun c641 => ?_) (fun c641 => ?_)
              · have hf := it_t hf c641
                refine lv_iconst (v := 0) S.1 S.2.1 dL_areTasksRight_120 (by decide) ?_
                refine lv_iadd S.1 S.2.1 dL_areTasksRight_121 ?_
                refine lv_istore (i := 8) (lv' := [(8, .int ((1 + 1) + 0)), (3, .int (x3 + 1)), (7, .int 1), (6, .int y21.2.1), (5, .int y19.2.1), (0, rf h0), (1, rf h1), (2, .int x2), (4, .int x4)]) S.1 S.2.1 dL_areTasksRight_122 hl (by decide) rfl (fun ls hl => ?_)
                refine lv_iload S.1 S.2.1 dL_areTasksRight_124 (lv_at hl 0 rfl) ?_
                refine lv_iload S.1 S.2.1 dL_areTasksRight_126 (lv_at hl 2 rfl) ?_
                refine lv_if_eq (tgt := 135) S.1 S.2.1 dL_areTasksRight_128 (by decide) (fun c642 => ?_) (fun c642 => ?_)
                · have hf := it_t hf c642
                  refine lv_iconst (v := 1) S.1 S.2.1 dL_areTasksRight_135 (by decide) ?_
                  refine lv_icmp_ne (tgt := 188) S.1 S.2.1 dL_areTasksRight_136 (by decide) (fun c643 => ?_) (fun c643 => ?_)
                  · have hf := it_f hf c643
                    refine lv_iconst (v := 0) S.1 S.2.1 dL_areTasksRight_188 (by decide) ?_
                    obtain rfl := Option.some.inj hf
                    refine W.widen (k := 1) (n := 24) (Nat.le_of_ble_eq_true rfl) (Nat.le_of_ble_eq_true rfl) ?_
                    exact mm_zret S hR hS hr hlocks (Or.inl rfl) dL_areTasksRight_189
                  · have hf := it_t hf c643
                    refine mm_aload_n S dL_areTasksRight_139 rfl (lv_at hl 5 rfl) ?_
                    refine lv_iload S.1 S.2.1 dL_areTasksRight_140 (lv_at hl 8 rfl) ?_
                    refine lv_iconst (v := 1) S.1 S.2.1 dL_areTasksRight_142 (by decide) ?_
                    obtain ⟨y644, hy644, hf⟩ := bd hf
                    obtain ⟨g645, hf⟩ := gd hf
                    refine mm_callVi S hR hS hA (As := [.int x4, .int 1]) (rest := []) cvL_68 (hK.k g3) (kX6_ofTask_c l G A (hK.k g3) hy644 g645) rfl rfl ⟨Nat.le_of_ble_eq_true rfl, Nat.le_of_ble_eq_true rfl⟩ rfl hl.1 rfl (lv_room (by simp [rf_cat, int_cat, long_cat])) dL_areTasksRight_143 ⟨Nat.le_of_ble_eq_true rfl, Nat.le_of_ble_eq_true rfl⟩ (fun H locs hR hS => ?_)
                    have hK : mmKN μ y644.2.2 := hK.tr (kX6_ofTask_kn hy644)
                    refine lv_if_lt (tgt := 165) S.1 S.2.1 dL_areTasksRight_146 (by decide) (fun c646 => ?_) (fun c646 => ?_)
                    · have hf := it_t hf c646
                      exact wbL_areTasksRight_165 E0 kk12 hkk12 h0 h1 x2 (x3 + 1) x4 y19.2.1 y21.2.1 y644.2.2 hf _ _ _ hR hS (lv_sub hl [5, 6, 7, 1, 8, 4, 3] rfl)
                    · have hf := it_f hf c646
                      refine mm_aload_n S dL_areTasksRight_149 rfl (lv_at hl 5 rfl) ?_
                      refine lv_iload S.1 S.2.1 dL_areTasksRight_150 (lv_at hl 8 rfl) ?_
                      refine lv_iconst (v := 1) S.1 S.2.1 dL_areTasksRight_152 (by decide) ?_
                      obtain ⟨y647, hy647, hf⟩ := bd hf
                      obtain ⟨g648, hf⟩ := gd hf
                      refine mm_callVi S hR hS hA (As := [.int x4, .int 1]) (rest := []) cvL_68 (hK.k g3) (kX6_ofTask_c l G A (hK.k g3) hy647 g648) rfl rfl ⟨Nat.le_of_ble_eq_true rfl, Nat.le_of_ble_eq_true rfl⟩ rfl hl.1 rfl (lv_room (by simp [rf_cat, int_cat, long_cat])) dL_areTasksRight_153 ⟨Nat.le_of_ble_eq_true rfl, Nat.le_of_ble_eq_true rfl⟩ (fun H locs hR hS => ?_)
                      have hK : mmKN μ y647.2.2 := hK.tr (kX6_ofTask_kn hy647)
                      refine mm_aload_n S dL_areTasksRight_156 rfl (lv_at hl 5 rfl) ?_
                      refine lv_bipush (v := 9) S.1 S.2.1 dL_areTasksRight_157 (by decide) ?_
                      obtain ⟨y649, hy649, hf⟩ := bd hf
                      obtain ⟨g650, hf⟩ := gd hf
                      refine mm_callVi S hR hS hA (As := [.int 9]) (rest := [.int y647.2.1]) cvL_39 (hK.k g3) (kX6_many_c l G A (hK.k g3) hy649 g650) rfl rfl ⟨Nat.le_of_ble_eq_true rfl, Nat.le_of_ble_eq_true rfl⟩ rfl hl.1 rfl (lv_room (by simp [rf_cat, int_cat, long_cat])) dL_areTasksRight_159 ⟨Nat.le_of_ble_eq_true rfl, Nat.le_of_ble_eq_true rfl⟩ (fun H locs hR hS => ?_)
                      have hK : mmKN μ y649.2.2 := hK.tr (kX6_many_kn hy649)
                      refine lv_icmp_le (tgt := 188) S.1 S.2.1 dL_areTasksRight_162 (by decide) (fun c651 => ?_) (fun c651 => ?_)
                      · have hf := it_t hf c651
                        refine lv_iconst (v := 0) S.1 S.2.1 dL_areTasksRight_188 (by decide) ?_
                        obtain rfl := Option.some.inj hf
                        refine W.widen (k := 1) (n := 24) (Nat.le_of_ble_eq_true rfl) (Nat.le_of_ble_eq_true rfl) ?_
                        exact mm_zret S hR hS hr hlocks (Or.inl rfl) dL_areTasksRight_189
                      · have hf := it_f hf c651
                        exact wbL_areTasksRight_165 E0 kk12 hkk12 h0 h1 x2 (x3 + 1) x4 y19.2.1 y21.2.1 y649.2.2 hf _ _ _ hR hS (lv_sub hl [5, 6, 7, 1, 8, 4, 3] rfl)
                · have hf := it_f hf c642
                  refine lv_iconst (v := 0) S.1 S.2.1 dL_areTasksRight_131 (by decide) ?_
                  refine lv_goto (tgt := 136) S.1 S.2.1 dL_areTasksRight_132 (by decide) ?_
                  refine lv_icmp_ne (tgt := 188) S.1 S.2.1 dL_areTasksRight_136 (by decide) (fun c652 => ?_) (fun c652 => ?_)
                  · have hf := it_f hf c652
                    refine lv_iconst (v := 0) S.1 S.2.1 dL_areTasksRight_188 (by decide) ?_
                    obtain rfl := Option.some.inj hf
                    refine W.widen (k := 1) (n := 24) (Nat.le_of_ble_eq_true rfl) (Nat.le_of_ble_eq_true rfl) ?_
                    exact mm_zret S hR hS hr hlocks (Or.inl rfl) dL_areTasksRight_189
                  · have hf := it_t hf c652
                    refine mm_aload_n S dL_areTasksRight_139 rfl (lv_at hl 5 rfl) ?_
                    refine lv_iload S.1 S.2.1 dL_areTasksRight_140 (lv_at hl 8 rfl) ?_
                    refine lv_iconst (v := 1) S.1 S.2.1 dL_areTasksRight_142 (by decide) ?_
                    obtain ⟨y653, hy653, hf⟩ := bd hf
                    obtain ⟨g654, hf⟩ := gd hf
                    refine mm_callVi S hR hS hA (As := [.int x4, .int 1]) (rest := []) cvL_68 (hK.k g3) (kX6_ofTask_c l G A (hK.k g3) hy653 g654) rfl rfl ⟨Nat.le_of_ble_eq_true rfl, Nat.le_of_ble_eq_true rfl⟩ rfl hl.1 rfl (lv_room (by simp [rf_cat, int_cat, long_cat])) dL_areTasksRight_143 ⟨Nat.le_of_ble_eq_true rfl, Nat.le_of_ble_eq_true rfl⟩ (fun H locs hR hS => ?_)
                    have hK : mmKN μ y653.2.2 := hK.tr (kX6_ofTask_kn hy653)
                    refine lv_if_lt (tgt := 165) S.1 S.2.1 dL_areTasksRight_146 (by decide) (fun c655 => ?_) (fun c655 => ?_)
                    · have hf := it_t hf c655
                      exact wbL_areTasksRight_165 E0 kk12 hkk12 h0 h1 x2 (x3 + 1) x4 y19.2.1 y21.2.1 y653.2.2 hf _ _ _ hR hS (lv_sub hl [5, 6, 7, 1, 8, 4, 3] rfl)
                    · have hf := it_f hf c655
                      refine mm_aload_n S dL_areTasksRight_149 rfl (lv_at hl 5 rfl) ?_
                      refine lv_iload S.1 S.2.1 dL_areTasksRight_150 (lv_at hl 8 rfl) ?_
                      refine lv_iconst (v := 1) S.1 S.2.1 dL_areTasksRight_152 (by decide) ?_
                      obtain ⟨y656, hy656, hf⟩ := bd hf
                      obtain ⟨g657, hf⟩ := gd hf
                      refine mm_callVi S hR hS hA (As := [.int x4, .int 1]) (rest := []) cvL_68 (hK.k g3) (kX6_ofTask_c l G A (hK.k g3) hy656 g657) rfl rfl ⟨Nat.le_of_ble_eq_true rfl, Nat.le_of_ble_eq_true rfl⟩ rfl hl.1 rfl (lv_room (by simp [rf_cat, int_cat, long_cat])) dL_areTasksRight_153 ⟨Nat.le_of_ble_eq_true rfl, Nat.le_of_ble_eq_true rfl⟩ (fun H locs hR hS => ?_)
                      have hK : mmKN μ y656.2.2 := hK.tr (kX6_ofTask_kn hy656)
                      refine mm_aload_n S dL_areTasksRight_156 rfl (lv_at hl 5 rfl) ?_
                      refine lv_bipush (v := 9) S.1 S.2.1 dL_areTasksRight_157 (by decide) ?_
                      obtain ⟨y658, hy658, hf⟩ := bd hf
                      obtain ⟨g659, hf⟩ := gd hf
                      refine mm_callVi S hR hS hA (As := [.int 9]) (rest := [.int y656.2.1]) cvL_39 (hK.k g3) (kX6_many_c l G A (hK.k g3) hy658 g659) rfl rfl ⟨Nat.le_of_ble_eq_true rfl, Nat.le_of_ble_eq_true rfl⟩ rfl hl.1 rfl (lv_room (by simp [rf_cat, int_cat, long_cat])) dL_areTasksRight_159 ⟨Nat.le_of_ble_eq_true rfl, Nat.le_of_ble_eq_true rfl⟩ (fun H locs hR hS => ?_)
                      have hK : mmKN μ y658.2.2 := hK.tr (kX6_many_kn hy658)
                      refine lv_icmp_le (tgt := 188) S.1 S.2.1 dL_areTasksRight_162 (by decide) (fun c660 => ?_) (fun c660 => ?_)
                      · have hf := it_t hf c660
                        refine lv_iconst (v := 0) S.1 S.2.1 dL_areTasksRight_188 (by decide) ?_
                        obtain rfl := Option.some.inj hf
                        refine W.widen (k := 1) (n := 24) (Nat.le_of_ble_eq_true rfl) (Nat.le_of_ble_eq_true rfl) ?_
                        exact mm_zret S hR hS hr hlocks (Or.inl rfl) dL_areTasksRight_189
                      · have hf := it_f hf c660
                        exact wbL_areTasksRight_165 E0 kk12 hkk12 h0 h1 x2 (x3 + 1) x4 y19.2.1 y21.2.1 y658.2.2 hf _ _ _ hR hS (lv_sub hl [5, 6, 7, 1, 8, 4, 3] rfl)
              · have hf := it_f hf c641
                refine lv_iconst (v := 1) S.1 S.2.1 dL_areTasksRight_116 (by decide) ?_
                refine lv_goto (tgt := 121) S.1 S.2.1 dL_areTasksRight_117 (by decide) ?_
                refine lv_iadd S.1 S.2.1 dL_areTasksRight_121 ?_
                refine lv_istore (i := 8) (lv' := [(8, .int ((1 + 1) + 1)), (3, .int (x3 + 1)), (7, .int 1), (6, .int y21.2.1), (5, .int y19.2.1), (0, rf h0), (1, rf h1), (2, .int x2), (4, .int x4)]) S.1 S.2.1 dL_areTasksRight_122 hl (by decide) rfl (fun ls hl => ?_)
                refine lv_iload S.1 S.2.1 dL_areTasksRight_124 (lv_at hl 0 rfl) ?_
                refine lv_iload S.1 S.2.1 dL_areTasksRight_126 (lv_at hl 2 rfl) ?_
                refine lv_if_eq (tgt := 135) S.1 S.2.1 dL_areTasksRight_128 (by decide) (fun c661 => ?_) (fun c661 => ?_)
                · have hf := it_t hf c661
                  refine lv_iconst (v := 1) S.1 S.2.1 dL_areTasksRight_135 (by decide) ?_
                  refine lv_icmp_ne (tgt := 188) S.1 S.2.1 dL_areTasksRight_136 (by decide) (fun c662 => ?_) (fun c662 => ?_)
                  · have hf := it_f hf c662
                    refine lv_iconst (v := 0) S.1 S.2.1 dL_areTasksRight_188 (by decide) ?_
                    obtain rfl := Option.some.inj hf
                    refine W.widen (k := 1) (n := 24) (Nat.le_of_ble_eq_true rfl) (Nat.le_of_ble_eq_true rfl) ?_
                    exact mm_zret S hR hS hr hlocks (Or.inl rfl) dL_areTasksRight_189
                  · have hf := it_t hf c662
                    refine mm_aload_n S dL_areTasksRight_139 rfl (lv_at hl 5 rfl) ?_
                    refine lv_iload S.1 S.2.1 dL_areTasksRight_140 (lv_at hl 8 rfl) ?_
                    refine lv_iconst (v := 1) S.1 S.2.1 dL_areTasksRight_142 (by decide) ?_
                    obtain ⟨y663, hy663, hf⟩ := bd hf
                    obtain ⟨g664, hf⟩ := gd hf
                    refine mm_callVi S hR hS hA (As := [.int x4, .int 1]) (rest := []) cvL_68 (hK.k g3) (kX6_ofTask_c l G A (hK.k g3) hy663 g664) rfl rfl ⟨Nat.le_of_ble_eq_true rfl, Nat.le_of_ble_eq_true rfl⟩ rfl hl.1 rfl (lv_room (by simp [rf_cat, int_cat, long_cat])) dL_areTasksRight_143 ⟨Nat.le_of_ble_eq_true rfl, Nat.le_of_ble_eq_true rfl⟩ (fun H locs hR hS => ?_)
                    have hK : mmKN μ y663.2.2 := hK.tr (kX6_ofTask_kn hy663)
                    refine lv_if_lt (tgt := 165) S.1 S.2.1 dL_areTasksRight_146 (by decide) (fun c665 => ?_) (fun c665 => ?_)
                    · have hf := it_t hf c665
                      exact wbL_areTasksRight_165 E0 kk12 hkk12 h0 h1 x2 (x3 + 1) x4 y19.2.1 y21.2.1 y663.2.2 hf _ _ _ hR hS (lv_sub hl [5, 6, 7, 1, 8, 4, 3] rfl)
                    · have hf := it_f hf c665
                      refine mm_aload_n S dL_areTasksRight_149 rfl (lv_at hl 5 rfl) ?_
                      refine lv_iload S.1 S.2.1 dL_areTasksRight_150 (lv_at hl 8 rfl) ?_
                      refine lv_iconst (v := 1) S.1 S.2.1 dL_areTasksRight_152 (by decide) ?_
                      obtain ⟨y666, hy666, hf⟩ := bd hf
                      obtain ⟨g667, hf⟩ := gd hf
                      refine mm_callVi S hR hS hA (As := [.int x4, .int 1]) (rest := []) cvL_68 (hK.k g3) (kX6_ofTask_c l G A (hK.k g3) hy666 g667) rfl rfl ⟨Nat.le_of_ble_eq_true rfl, Nat.le_of_ble_eq_true rfl⟩ rfl hl.1 rfl (lv_room (by simp [rf_cat, int_cat, long_cat])) dL_areTasksRight_153 ⟨Nat.le_of_ble_eq_true rfl, Nat.le_of_ble_eq_true rfl⟩ (fun H locs hR hS => ?_)
                      have hK : mmKN μ y666.2.2 := hK.tr (kX6_ofTask_kn hy666)
                      refine mm_aload_n S dL_areTasksRight_156 rfl (lv_at hl 5 rfl) ?_
                      refine lv_bipush (v := 9) S.1 S.2.1 dL_areTasksRight_157 (by decide) ?_
                      obtain ⟨y668, hy668, hf⟩ := bd hf
                      obtain ⟨g669, hf⟩ := gd hf
                      refine mm_callVi S hR hS hA (As := [.int 9]) (rest := [.int y666.2.1]) cvL_39 (hK.k g3) (kX6_many_c l G A (hK.k g3) hy668 g669) rfl rfl ⟨Nat.le_of_ble_eq_true rfl, Nat.le_of_ble_eq_true rfl⟩ rfl hl.1 rfl (lv_room (by simp [rf_cat, int_cat, long_cat])) dL_areTasksRight_159 ⟨Nat.le_of_ble_eq_true rfl, Nat.le_of_ble_eq_true rfl⟩ (fun H locs hR hS => ?_)
                      have hK : mmKN μ y668.2.2 := hK.tr (kX6_many_kn hy668)
                      refine lv_icmp_le (tgt := 188) S.1 S.2.1 dL_areTasksRight_162 (by decide) (fun c670 => ?_) (fun c670 => ?_)
                      · have hf := it_t hf c670
                        refine lv_iconst (v := 0) S.1 S.2.1 dL_areTasksRight_188 (by decide) ?_
                        obtain rfl := Option.some.inj hf
                        refine W.widen (k := 1) (n := 24) (Nat.le_of_ble_eq_true rfl) (Nat.le_of_ble_eq_true rfl) ?_
                        exact mm_zret S hR hS hr hlocks (Or.inl rfl) dL_areTasksRight_189
                      · have hf := it_f hf c670
                        exact wbL_areTasksRight_165 E0 kk12 hkk12 h0 h1 x2 (x3 + 1) x4 y19.2.1 y21.2.1 y668.2.2 hf _ _ _ hR hS (lv_sub hl [5, 6, 7, 1, 8, 4, 3] rfl)
                · have hf := it_f hf c661
                  refine lv_iconst (v := 0) S.1 S.2.1 dL_areTasksRight_131 (by decide) ?_
                  refine lv_goto (tgt := 136) S.1 S.2.1 dL_areTasksRight_132 (by decide) ?_
                  refine lv_icmp_ne (tgt := 188) S.1 S.2.1 dL_areTasksRight_136 (by decide) (fun c671 => ?_) (fun c671 => ?_)
                  · have hf := it_f hf c671
                    refine lv_iconst (v := 0) S.1 S.2.1 dL_areTasksRight_188 (by decide) ?_
                    obtain rfl := Option.some.inj hf
                    refine W.widen (k := 1) (n := 24) (Nat.le_of_ble_eq_true rfl) (Nat.le_of_ble_eq_true rfl) ?_
                    exact mm_zret S hR hS hr hlocks (Or.inl rfl) dL_areTasksRight_189
                  · have hf := it_t hf c671
                    refine mm_aload_n S dL_areTasksRight_139 rfl (lv_at hl 5 rfl) ?_
                    refine lv_iload S.1 S.2.1 dL_areTasksRight_140 (lv_at hl 8 rfl) ?_
                    refine lv_iconst (v := 1) S.1 S.2.1 dL_areTasksRight_142 (by decide) ?_
                    obtain ⟨y672, hy672, hf⟩ := bd hf
                    obtain ⟨g673, hf⟩ := gd hf
                    refine mm_callVi S hR hS hA (As := [.int x4, .int 1]) (rest := []) cvL_68 (hK.k g3) (kX6_ofTask_c l G A (hK.k g3) hy672 g673) rfl rfl ⟨Nat.le_of_ble_eq_true rfl, Nat.le_of_ble_eq_true rfl⟩ rfl hl.1 rfl (lv_room (by simp [rf_cat, int_cat, long_cat])) dL_areTasksRight_143 ⟨Nat.le_of_ble_eq_true rfl, Nat.le_of_ble_eq_true rfl⟩ (fun H locs hR hS => ?_)
                    have hK : mmKN μ y672.2.2 := hK.tr (kX6_ofTask_kn hy672)
                    refine lv_if_lt (tgt := 165) S.1 S.2.1 dL_areTasksRight_146 (by decide) (fun c674 => ?_) (fun c674 => ?_)
                    · have hf := it_t hf c674
                      exact wbL_areTasksRight_165 E0 kk12 hkk12 h0 h1 x2 (x3 + 1) x4 y19.2.1 y21.2.1 y672.2.2 hf _ _ _ hR hS (lv_sub hl [5, 6, 7, 1, 8, 4, 3] rfl)
                    · have hf := it_f hf c674
                      refine mm_aload_n S dL_areTasksRight_149 rfl (lv_at hl 5 rfl) ?_
                      refine lv_iload S.1 S.2.1 dL_areTasksRight_150 (lv_at hl 8 rfl) ?_
                      refine lv_iconst (v := 1) S.1 S.2.1 dL_areTasksRight_152 (by decide) ?_
                      obtain ⟨y675, hy675, hf⟩ := bd hf
                      obtain ⟨g676, hf⟩ := gd hf
                      refine mm_callVi S hR hS hA (As := [.int x4, .int 1]) (rest := []) cvL_68 (hK.k g3) (kX6_ofTask_c l G A (hK.k g3) hy675 g676) rfl rfl ⟨Nat.le_of_ble_eq_true rfl, Nat.le_of_ble_eq_true rfl⟩ rfl hl.1 rfl (lv_room (by simp [rf_cat, int_cat, long_cat])) dL_areTasksRight_153 ⟨Nat.le_of_ble_eq_true rfl, Nat.le_of_ble_eq_true rfl⟩ (fun H locs hR hS => ?_)
                      have hK : mmKN μ y675.2.2 := hK.tr (kX6_ofTask_kn hy675)
                      refine mm_aload_n S dL_areTasksRight_156 rfl (lv_at hl 5 rfl) ?_
                      refine lv_bipush (v := 9) S.1 S.2.1 dL_areTasksRight_157 (by decide) ?_
                      obtain ⟨y677, hy677, hf⟩ := bd hf
                      obtain ⟨g678, hf⟩ := gd hf
                      refine mm_callVi S hR hS hA (As := [.int 9]) (rest := [.int y675.2.1]) cvL_39 (hK.k g3) (kX6_many_c l G A (hK.k g3) hy677 g678) rfl rfl ⟨Nat.le_of_ble_eq_true rfl, Nat.le_of_ble_eq_true rfl⟩ rfl hl.1 rfl (lv_room (by simp [rf_cat, int_cat, long_cat])) dL_areTasksRight_159 ⟨Nat.le_of_ble_eq_true rfl, Nat.le_of_ble_eq_true rfl⟩ (fun H locs hR hS => ?_)
                      have hK : mmKN μ y677.2.2 := hK.tr (kX6_many_kn hy677)
                      refine lv_icmp_le (tgt := 188) S.1 S.2.1 dL_areTasksRight_162 (by decide) (fun c679 => ?_) (fun c679 => ?_)
                      · have hf := it_t hf c679
                        refine lv_iconst (v := 0) S.1 S.2.1 dL_areTasksRight_188 (by decide) ?_
                        obtain rfl := Option.some.inj hf
                        refine W.widen (k := 1) (n := 24) (Nat.le_of_ble_eq_true rfl) (Nat.le_of_ble_eq_true rfl) ?_
                        exact mm_zret S hR hS hr hlocks (Or.inl rfl) dL_areTasksRight_189
                      · have hf := it_f hf c679
                        exact wbL_areTasksRight_165 E0 kk12 hkk12 h0 h1 x2 (x3 + 1) x4 y19.2.1 y21.2.1 y677.2.2 hf _ _ _ hR hS (lv_sub hl [5, 6, 7, 1, 8, 4, 3] rfl)
    · have hf := it_f hf c18
      refine lv_goto (tgt := 297) S.1 S.2.1 dL_areTasksRight_33 (by decide) ?_
      refine lv_iinc (v := (x4 + 1)) (lv' := [(4, .int (x4 + 1)), (0, rf h0), (1, rf h1), (2, .int x2), (3, .int x3)]) S.1 S.2.1 dL_areTasksRight_297 hl (k := 4) rfl (by rfl) (by decide) rfl (fun ls hl => ?_)
      refine lv_goto (tgt := 12) S.1 S.2.1 dL_areTasksRight_300 (by decide) ?_
      exact hkk12 h0 h1 x2 x3 (x4 + 1) y16.2.2 hf _ _ _ hR hS (lv_sub hl [1, 2, 3, 4, 0] rfl)
theorem wlL_areTasksRight_12 {p : Program} {l : Launch} {e : Env} {s : State} {m : MethodId} {args : Array Value} {below : List Frame} {meth : Method} {c : Code} {G : mmG} {A : Nat → Prop} {res : Int32 × MM} (E0 : mmEnv p m c cL_areTasksRight 11 s args RL G A meth (some (.boolean)))  : ∀ (n : Nat) (h0 : Nat) (h1 : Nat) (x2 : Int32) (x3 : Int32) (x4 : Int32) (μ : MM), lL_areTasksRight_12  n h0 h1 x2 x3 x4 μ = some res → mmGoalA p l e rmL_areTasksRight s m args below meth c G A 1 24 1 24 12 11 [(0, rf h0), (1, rf h1), (2, .int x2), (3, .int x3), (4, .int x4)] μ (mmQ G A res.2 (some (.int res.1))) := by
  intro n
  induction n with
  | zero => intro h0 h1 x2 x3 x4 μ hf; cases hf
  | succ n ih => intro h0 h1 x2 x3 x4 μ hf; exact wbL_areTasksRight_12 E0  _ ih h0 h1 x2 x3 x4 μ hf
set_option maxRecDepth 100000 in
set_option maxHeartbeats 4000000 in
theorem kL_areTasksRight_c (l : Launch) (G : mmG) (A : Nat → Prop) {μ : MM} {res : Int32 × MM} {h0 : Nat} (hf : fL_areTasksRight h0 μ = some res) : Met l yL_areTasksRight [.code yL_areTasksRight cL_areTasksRight 11 (some (.boolean))] rmL_areTasksRight (mmPc G A μ [rf h0]) (mmQ G A res.2 (some (.int res.1))) 1 24 A := by
  refine mm_ofW (by decide +kernel) (by simp [lg_sl, rf_cat, int_cat]) ?_
  intro p e s m below meth c ls S hR hA hS hr hlocks hl hnm
  have hl : lv_has ls 11 [(0, rf h0)] := by simpa [lv_args, rf_cat, int_cat] using hl
  have E0 : mmEnv p m c cL_areTasksRight 11 s _ RL G A meth (some (.boolean)) := ⟨S, hA, hr, hlocks⟩
  have hK : mmKN μ μ := mmKN.rf
  unfold fL_areTasksRight at hf
  refine lv_bipush (v := 24) S.1 S.2.1 dL_areTasksRight_0 (by decide) ?_
  refine mm_newzK (N := 24) S hR hS hA (by decide) (by decide) (by decide) (Nat.le_of_ble_eq_true rfl) (Nat.le_of_ble_eq_true rfl) dL_areTasksRight_2 (fun H locs hR hS => ?_)
  obtain ⟨μ1, e1, hf⟩ := stx hf
  rw [← e1] at hR
  have hK : mmKN μ1 μ1 := mmKN.rf
  refine mm_astore_n (i := 1) (lv' := [(1, rf (mX μ)), (0, rf h0)]) S dL_areTasksRight_4 rfl hl (by decide) (by simp [rf_cat]) (fun ls hl => ?_)
  refine lv_iconst (v := 0) S.1 S.2.1 dL_areTasksRight_5 (by decide) ?_
  refine lv_istore_n (i := 2) (lv' := [(2, .int 0), (1, rf (mX μ)), (0, rf h0)]) S.1 S.2.1 dL_areTasksRight_6 rfl hl (by decide) (by simp [rf_cat]) (fun ls hl => ?_)
  refine lv_iconst (v := 0) S.1 S.2.1 dL_areTasksRight_7 (by decide) ?_
  refine lv_istore_n (i := 3) (lv' := [(3, .int 0), (2, .int 0), (1, rf (mX μ)), (0, rf h0)]) S.1 S.2.1 dL_areTasksRight_8 rfl hl (by decide) rfl (fun ls hl => ?_)
  refine lv_iconst (v := 0) S.1 S.2.1 dL_areTasksRight_9 (by decide) ?_
  refine lv_istore (i := 4) (lv' := [(4, .int 0), (3, .int 0), (2, .int 0), (1, rf (mX μ)), (0, rf h0)]) S.1 S.2.1 dL_areTasksRight_10 hl (by decide) rfl (fun ls hl => ?_)
  exact wlL_areTasksRight_12 E0  FU h0 (mX μ) 0 0 0 μ1 hf _ _ _ hR hS (lv_sub hl [4, 3, 2, 1, 0] rfl)
