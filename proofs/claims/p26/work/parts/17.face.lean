-- X6_body
def fX6_body (h0 : Nat) (μ : MM) : Option (Nat × Int32 × MM) :=
  if mK μ (mP μ h0 0) = 1 then if (mI μ (mP μ h0 0) 2) < (8 : Int32) then ((fX0_addBody (mP μ h0 0) μ).bind fun y3 => some (0, y3.1, y3.2)) else (some (3, 0, μ)) else none
set_option maxRecDepth 100000 in
set_option maxHeartbeats 4000000 in
theorem kX6_body_kn {μ : MM} {res : Nat × Int32 × MM} {h0 : Nat} (hf : fX6_body h0 μ = some res) : mmKN μ res.2.2 := by
  have hK : mmKN μ μ := mmKN.rf
  unfold fX6_body at hf
  obtain ⟨g1, hf⟩ := gd hf
  rcases it_or hf with ⟨c2, hf⟩ | ⟨c2, hf⟩
  · skip
    obtain ⟨y3, hy3, hf⟩ := bd hf
    have hK : mmKN μ y3.2 := hK.tr (kX0_addBody_kn hy3)
    obtain rfl := Option.some.inj hf
    exact hK
  · skip
    obtain rfl := Option.some.inj hf
    exact hK
abbrev rmX6_body : Room := { frames := 1, cells := 0, slots := 0, locals := 21 }
abbrev rxX6_body : Room := { frames := 6, cells := 1, slots := 6, locals := 90 }
set_option maxRecDepth 100000 in
set_option maxHeartbeats 4000000 in
theorem kX6_body_c (l : Launch) (G : mmG) (A : Nat → Prop) {μ : MM} {res : Nat × Int32 × MM} {h0 : Nat} (hk0 : mK μ h0 = 7) (hf : fX6_body h0 μ = some res) (h0r : res.1 = 0) : Met l yX6_body [.code yX6_body cX6_body 1 (some (.int))] rmX6_body (mmPc G A μ [rf h0]) (mmQ G A res.2.2 (some (.int res.2.1))) 0 0 A := by
  refine mm_ofW (by decide +kernel) (by simp [lg_sl, rf_cat, int_cat]) ?_
  intro p e s m below meth c ls S hR hA hS hr hlocks hl hnm
  have hl : lv_has ls 1 [(0, rf h0)] := by simpa [lv_args, rf_cat, int_cat] using hl
  have E0 : mmEnv p m c cX6_body 1 s _ RX6 G A meth (some (.int)) := ⟨S, hA, hr, hlocks⟩
  have hK : mmKN μ μ := mmKN.rf
  unfold fX6_body at hf
  refine mm_aload_n S dX6_body_0 rfl (lv_at hl 0 rfl) ?_
  refine mm_getp S hR fdX6_10 (hK.k hk0) rfl dX6_body_1 ?_
  obtain ⟨g1, hf⟩ := gd hf
  refine mm_geti S hR fdX6_28 (hK.k g1) rfl dX6_body_4 ?_
  refine lv_bipush (v := 8) S.1 S.2.1 dX6_body_7 (by decide) ?_
  refine lv_icmp_lt (tgt := 22) S.1 S.2.1 dX6_body_9 (by decide) (fun c2 => ?_) (fun c2 => ?_)
  · have hf := it_t hf c2
    refine mm_aload_n S dX6_body_22 rfl (lv_at hl 0 rfl) ?_
    refine mm_getp S hR fdX6_10 (hK.k hk0) rfl dX6_body_23 ?_
    obtain ⟨y3, hy3, hf⟩ := bd hf
    refine mm_callVi S hR hS hA (As := []) (rest := []) cvX6_39 (hK.k g1) (kX0_addBody_c l G A (hK.k g1) hy3) rfl rfl ⟨Nat.le_of_ble_eq_true rfl, Nat.le_of_ble_eq_true rfl⟩ rfl hl.1 rfl (lv_room (by simp [rf_cat, int_cat, long_cat])) dX6_body_26 ⟨Nat.zero_le _, Nat.zero_le _⟩ (fun H locs hR hS => ?_)
    have hK : mmKN μ y3.2 := hK.tr (kX0_addBody_kn hy3)
    obtain rfl := Option.some.inj hf
    exact mm_iret S hR hS hr hlocks dX6_body_29
  · have hf := it_f hf c2
    obtain rfl := Option.some.inj hf
    exact absurd h0r (by simp)
set_option maxRecDepth 100000 in
set_option maxHeartbeats 4000000 in
theorem kX6_body_x (l : Launch) (hl0 : l.stackTraces = false) (G : mmG) (A : Nat → Prop) {μ : MM} {res : Nat × Int32 × MM} {h0 : Nat} (hk0 : mK μ h0 = 7) (hf : fX6_body h0 μ = some res) (h0n : ¬ res.1 = 0) : vx_Met l yX6_body [.code yX6_body cX6_body 1 (some (.int))] rxX6_body (mmPx G A μ [rf h0]) (fun _ _ _ _ => False) (mmXC G A res.2.2 (exn res.1)) 1 6 A := by
  refine mm_ofX (by decide +kernel) (by simp [lg_sl, rf_cat, int_cat]) ?_
  intro p e s m below meth c ls S hR hA hS hr hlocks hl hX hno
  have hl : lv_has ls 1 [(0, rf h0)] := by simpa [lv_args, rf_cat, int_cat] using hl
  have hK : mmKN μ μ := mmKN.rf
  unfold fX6_body at hf
  refine mm_aload_n S dX6_body_0 rfl (lv_at hl 0 rfl) ?_
  refine mm_getp S hR fdX6_10 (hK.k hk0) rfl dX6_body_1 ?_
  obtain ⟨g1, hf⟩ := gd hf
  refine mm_geti S hR fdX6_28 (hK.k g1) rfl dX6_body_4 ?_
  refine lv_bipush (v := 8) S.1 S.2.1 dX6_body_7 (by decide) ?_
  refine lv_icmp_lt (tgt := 22) S.1 S.2.1 dX6_body_9 (by decide) (fun c2 => ?_) (fun c2 => ?_)
  · have hf := it_t hf c2
    refine mm_aload_n S dX6_body_22 rfl (lv_at hl 0 rfl) ?_
    refine mm_getp S hR fdX6_10 (hK.k hk0) rfl dX6_body_23 ?_
    obtain ⟨y3, hy3, hf⟩ := bd hf
    refine mm_callVi S hR hS hA (As := []) (rest := []) cvX6_39 (hK.k g1) (kX0_addBody_c l G A (hK.k g1) hy3) rfl rfl ⟨Nat.le_of_ble_eq_true rfl, Nat.le_of_ble_eq_true rfl⟩ rfl hl.1 rfl (lv_room (by simp [rf_cat, int_cat, long_cat])) dX6_body_26 ⟨Nat.zero_le _, Nat.zero_le _⟩ (fun H locs hR hS => ?_)
    have hK : mmKN μ y3.2 := hK.tr (kX0_addBody_kn hy3)
    obtain rfl := Option.some.inj hf
    exact absurd rfl h0n
  · have hf := it_f hf c2
    obtain rfl := Option.some.inj hf
    refine mm_throwS S hR hS hl0 hX thX6_32_34_36 hl.1 hno dX6_body_12 dX6_body_15 dX6_body_16 dX6_body_18 dX6_body_21 (Nat.le_of_ble_eq_true rfl) (by simp [rf_cat, int_cat, long_cat]) (Nat.le_of_ble_eq_true rfl) (Nat.le_of_ble_eq_true rfl) hlocks (Nat.le_of_ble_eq_true rfl) (Nat.le_of_ble_eq_true rfl)
-- X6_line
def fX6_line (h0 : Nat) (x1 : Int32) (x2 : Int32) (x3 : Int32) (x4 : Int32) (μ : MM) : Option (Nat × Int32 × MM) :=
  if mK μ (mP μ h0 0) = 1 then (fX0_has (mP μ h0 0) x1 μ).bind fun y1 => if y1.1 = 0 then (some (1, 0, y1.2)) else (if mK μ (mP y1.2 h0 0) = 1 then (fX0_at (mP y1.2 h0 0) x1 y1.2).bind fun y4 => if mK μ y4.1 = 2 then (fX1_fits y4.1 x2 x3 x4 y4.2).bind fun y6 => if y6.1 = 0 then (some (2, 0, y6.2)) else (if (12 : Int32) ≤ (mI y6.2 y4.1 3) then (some (3, 0, y6.2)) else (if mK μ (mP y6.2 h0 1) = 4 then (fX3_howManyMadeOf (mP y6.2 h0 1) x1 y6.2).bind fun y10 => if y10.1 ≤ 0 then ((fX1_addLine y4.1 x2 x3 x4 y10.2).bind fun y13 => some (0, y13.1, y13.2)) else (some (3, 0, y10.2)) else none)) else none else none) else none
set_option maxRecDepth 100000 in
set_option maxHeartbeats 4000000 in
theorem kX6_line_kn {μ : MM} {res : Nat × Int32 × MM} {h0 : Nat} {x1 : Int32} {x2 : Int32} {x3 : Int32} {x4 : Int32} (hf : fX6_line h0 x1 x2 x3 x4 μ = some res) : mmKN μ res.2.2 := by
  have hK : mmKN μ μ := mmKN.rf
  unfold fX6_line at hf
  obtain ⟨g2, hf⟩ := gd hf
  obtain ⟨y1, hy1, hf⟩ := bd hf
  have hK : mmKN μ y1.2 := hK.tr (kX0_has_kn hy1)
  rcases it_or hf with ⟨c3, hf⟩ | ⟨c3, hf⟩
  · skip
    obtain rfl := Option.some.inj hf
    exact hK
  · skip
    obtain ⟨g5, hf⟩ := gd hf
    obtain ⟨y4, hy4, hf⟩ := bd hf
    have hK : mmKN μ y4.2 := hK.tr (kX0_at_kn hy4)
    obtain ⟨g7, hf⟩ := gd hf
    obtain ⟨y6, hy6, hf⟩ := bd hf
    have hK : mmKN μ y6.2 := hK.tr (kX1_fits_kn hy6)
    rcases it_or hf with ⟨c8, hf⟩ | ⟨c8, hf⟩
    · skip
      obtain rfl := Option.some.inj hf
      exact hK
    · skip
      rcases it_or hf with ⟨c9, hf⟩ | ⟨c9, hf⟩
      · skip
        obtain rfl := Option.some.inj hf
        exact hK
      · skip
        obtain ⟨g11, hf⟩ := gd hf
        obtain ⟨y10, hy10, hf⟩ := bd hf
        have hK : mmKN μ y10.2 := hK.tr (kX3_howManyMadeOf_kn hy10)
        rcases it_or hf with ⟨c12, hf⟩ | ⟨c12, hf⟩
        · skip
          obtain ⟨y13, hy13, hf⟩ := bd hf
          have hK : mmKN μ y13.2 := hK.tr (kX1_addLine_kn hy13)
          obtain rfl := Option.some.inj hf
          exact hK
        · skip
          obtain rfl := Option.some.inj hf
          exact hK
abbrev rmX6_line : Room := { frames := 2, cells := 0, slots := 0, locals := 45 }
abbrev rxX6_line : Room := { frames := 6, cells := 1, slots := 6, locals := 90 }
set_option maxRecDepth 100000 in
set_option maxHeartbeats 4000000 in
theorem kX6_line_c (l : Launch) (G : mmG) (A : Nat → Prop) {μ : MM} {res : Nat × Int32 × MM} {h0 : Nat} {x1 : Int32} {x2 : Int32} {x3 : Int32} {x4 : Int32} (hk0 : mK μ h0 = 7) (hf : fX6_line h0 x1 x2 x3 x4 μ = some res) (h0r : res.1 = 0) : Met l yX6_line [.code yX6_line cX6_line 6 (some (.int))] rmX6_line (mmPc G A μ [rf h0, .int x1, .int x2, .int x3, .int x4]) (mmQ G A res.2.2 (some (.int res.2.1))) 0 0 A := by
  refine mm_ofW (by decide +kernel) (by simp [lg_sl, rf_cat, int_cat]) ?_
  intro p e s m below meth c ls S hR hA hS hr hlocks hl hnm
  have hl : lv_has ls 6 [(0, rf h0), (1, .int x1), (2, .int x2), (3, .int x3), (4, .int x4)] := by simpa [lv_args, rf_cat, int_cat] using hl
  have E0 : mmEnv p m c cX6_line 6 s _ RX6 G A meth (some (.int)) := ⟨S, hA, hr, hlocks⟩
  have hK : mmKN μ μ := mmKN.rf
  unfold fX6_line at hf
  refine mm_aload_n S dX6_line_0 rfl (lv_at hl 0 rfl) ?_
  refine mm_getp S hR fdX6_10 (hK.k hk0) rfl dX6_line_1 ?_
  refine lv_iload_n S.1 S.2.1 dX6_line_4 rfl (lv_at hl 1 rfl) ?_
  obtain ⟨g2, hf⟩ := gd hf
  obtain ⟨y1, hy1, hf⟩ := bd hf
  refine mm_callVi S hR hS hA (As := [.int x1]) (rest := []) cvX6_43 (hK.k g2) (kX0_has_c l G A (hK.k g2) hy1) rfl rfl ⟨Nat.le_of_ble_eq_true rfl, Nat.le_of_ble_eq_true rfl⟩ rfl hl.1 rfl (lv_room (by simp [rf_cat, int_cat, long_cat])) dX6_line_5 ⟨Nat.zero_le _, Nat.zero_le _⟩ (fun H locs hR hS => ?_)
  have hK : mmKN μ y1.2 := hK.tr (kX0_has_kn hy1)
  refine lv_if_ne (tgt := 21) S.1 S.2.1 dX6_line_8 (by decide) (fun c3 => ?_) (fun c3 => ?_)
  · have hf := it_f hf c3
    refine mm_aload_n S dX6_line_21 rfl (lv_at hl 0 rfl) ?_
    refine mm_getp S hR fdX6_10 (hK.k hk0) rfl dX6_line_22 ?_
    refine lv_iload_n S.1 S.2.1 dX6_line_25 rfl (lv_at hl 1 rfl) ?_
    obtain ⟨g5, hf⟩ := gd hf
    obtain ⟨y4, hy4, hf⟩ := bd hf
    refine mm_callVh S hR hS hA (As := [.int x1]) (rest := []) cvX6_52 (hK.k g5) (kX0_at_c l G A (hK.k g5) hy4) rfl rfl ⟨Nat.le_of_ble_eq_true rfl, Nat.le_of_ble_eq_true rfl⟩ rfl hl.1 rfl (lv_room (by simp [rf_cat, int_cat, long_cat])) dX6_line_26 ⟨Nat.zero_le _, Nat.zero_le _⟩ (fun H locs hR hS => ?_)
    have hK : mmKN μ y4.2 := hK.tr (kX0_at_kn hy4)
    refine mm_astore (i := 5) (lv' := [(5, rf y4.1), (0, rf h0), (1, .int x1), (2, .int x2), (3, .int x3), (4, .int x4)]) S dX6_line_29 hl (by decide) rfl (fun ls hl => ?_)
    refine mm_aload S dX6_line_31 (lv_at hl 0 rfl) ?_
    refine lv_iload_n S.1 S.2.1 dX6_line_33 rfl (lv_at hl 3 rfl) ?_
    refine lv_iload_n S.1 S.2.1 dX6_line_34 rfl (lv_at hl 4 rfl) ?_
    refine lv_iload S.1 S.2.1 dX6_line_35 (lv_at hl 5 rfl) ?_
    obtain ⟨g7, hf⟩ := gd hf
    obtain ⟨y6, hy6, hf⟩ := bd hf
    refine mm_callVi S hR hS hA (As := [.int x2, .int x3, .int x4]) (rest := []) cvX6_56 (hK.k g7) (kX1_fits_c l G A (hK.k g7) hy6) rfl rfl ⟨Nat.le_of_ble_eq_true rfl, Nat.le_of_ble_eq_true rfl⟩ rfl hl.1 rfl (lv_room (by simp [rf_cat, int_cat, long_cat])) dX6_line_37 ⟨Nat.zero_le _, Nat.zero_le _⟩ (fun H locs hR hS => ?_)
    have hK : mmKN μ y6.2 := hK.tr (kX1_fits_kn hy6)
    refine lv_if_ne (tgt := 53) S.1 S.2.1 dX6_line_40 (by decide) (fun c8 => ?_) (fun c8 => ?_)
    · have hf := it_f hf c8
      refine mm_aload S dX6_line_53 (lv_at hl 0 rfl) ?_
      refine mm_geti S hR fdX6_67 (hK.k g7) rfl dX6_line_55 ?_
      refine lv_bipush (v := 12) S.1 S.2.1 dX6_line_58 (by decide) ?_
      refine lv_icmp_ge (tgt := 74) S.1 S.2.1 dX6_line_60 (by decide) (fun c9 => ?_) (fun c9 => ?_)
      · have hf := it_t hf c9
        obtain rfl := Option.some.inj hf
        exact absurd h0r (by simp)
      · have hf := it_f hf c9
        refine mm_aload_n S dX6_line_63 rfl (lv_at hl 1 rfl) ?_
        refine mm_getp S hR fdX6_21 (hK.k hk0) rfl dX6_line_64 ?_
        refine lv_iload_n S.1 S.2.1 dX6_line_67 rfl (lv_at hl 2 rfl) ?_
        obtain ⟨g11, hf⟩ := gd hf
        obtain ⟨y10, hy10, hf⟩ := bd hf
        refine mm_callVi S hR hS hA (As := [.int x1]) (rest := []) cvX6_70 (hK.k g11) (kX3_howManyMadeOf_c l G A (hK.k g11) hy10) rfl rfl ⟨Nat.le_of_ble_eq_true rfl, Nat.le_of_ble_eq_true rfl⟩ rfl hl.1 rfl (lv_room (by simp [rf_cat, int_cat, long_cat])) dX6_line_68 ⟨Nat.zero_le _, Nat.zero_le _⟩ (fun H locs hR hS => ?_)
        have hK : mmKN μ y10.2 := hK.tr (kX3_howManyMadeOf_kn hy10)
        refine lv_if_le (tgt := 84) S.1 S.2.1 dX6_line_71 (by decide) (fun c12 => ?_) (fun c12 => ?_)
        · have hf := it_t hf c12
          refine mm_aload S dX6_line_84 (lv_at hl 0 rfl) ?_
          refine lv_iload_n S.1 S.2.1 dX6_line_86 rfl (lv_at hl 3 rfl) ?_
          refine lv_iload_n S.1 S.2.1 dX6_line_87 rfl (lv_at hl 4 rfl) ?_
          refine lv_iload S.1 S.2.1 dX6_line_88 (lv_at hl 5 rfl) ?_
          obtain ⟨y13, hy13, hf⟩ := bd hf
          refine mm_callVi S hR hS hA (As := [.int x2, .int x3, .int x4]) (rest := []) cvX6_76 (hK.k g7) (kX1_addLine_c l G A (hK.k g7) hy13) rfl rfl ⟨Nat.le_of_ble_eq_true rfl, Nat.le_of_ble_eq_true rfl⟩ rfl hl.1 rfl (lv_room (by simp [rf_cat, int_cat, long_cat])) dX6_line_90 ⟨Nat.zero_le _, Nat.zero_le _⟩ (fun H locs hR hS => ?_)
          have hK : mmKN μ y13.2 := hK.tr (kX1_addLine_kn hy13)
          obtain rfl := Option.some.inj hf
          exact mm_iret S hR hS hr hlocks dX6_line_93
        · have hf := it_f hf c12
          obtain rfl := Option.some.inj hf
          exact absurd h0r (by simp)
    · have hf := it_t hf c8
      obtain rfl := Option.some.inj hf
      exact absurd h0r (by simp)
  · have hf := it_t hf c3
    obtain rfl := Option.some.inj hf
    exact absurd h0r (by simp)
set_option maxRecDepth 100000 in
set_option maxHeartbeats 4000000 in
theorem kX6_line_x (l : Launch) (hl0 : l.stackTraces = false) (G : mmG) (A : Nat → Prop) {μ : MM} {res : Nat × Int32 × MM} {h0 : Nat} {x1 : Int32} {x2 : Int32} {x3 : Int32} {x4 : Int32} (hk0 : mK μ h0 = 7) (hf : fX6_line h0 x1 x2 x3 x4 μ = some res) (h0n : ¬ res.1 = 0) : vx_Met l yX6_line [.code yX6_line cX6_line 6 (some (.int))] rxX6_line (mmPx G A μ [rf h0, .int x1, .int x2, .int x3, .int x4]) (fun _ _ _ _ => False) (mmXC G A res.2.2 (exn res.1)) 1 6 A := by
  refine mm_ofX (by decide +kernel) (by simp [lg_sl, rf_cat, int_cat]) ?_
  intro p e s m below meth c ls S hR hA hS hr hlocks hl hX hno
  have hl : lv_has ls 6 [(0, rf h0), (1, .int x1), (2, .int x2), (3, .int x3), (4, .int x4)] := by simpa [lv_args, rf_cat, int_cat] using hl
  have hK : mmKN μ μ := mmKN.rf
  unfold fX6_line at hf
  refine mm_aload_n S dX6_line_0 rfl (lv_at hl 0 rfl) ?_
  refine mm_getp S hR fdX6_10 (hK.k hk0) rfl dX6_line_1 ?_
  refine lv_iload_n S.1 S.2.1 dX6_line_4 rfl (lv_at hl 1 rfl) ?_
  obtain ⟨g2, hf⟩ := gd hf
  obtain ⟨y1, hy1, hf⟩ := bd hf
  refine mm_callVi S hR hS hA (As := [.int x1]) (rest := []) cvX6_43 (hK.k g2) (kX0_has_c l G A (hK.k g2) hy1) rfl rfl ⟨Nat.le_of_ble_eq_true rfl, Nat.le_of_ble_eq_true rfl⟩ rfl hl.1 rfl (lv_room (by simp [rf_cat, int_cat, long_cat])) dX6_line_5 ⟨Nat.zero_le _, Nat.zero_le _⟩ (fun H locs hR hS => ?_)
  have hK : mmKN μ y1.2 := hK.tr (kX0_has_kn hy1)
  refine lv_if_ne (tgt := 21) S.1 S.2.1 dX6_line_8 (by decide) (fun c3 => ?_) (fun c3 => ?_)
  · have hf := it_f hf c3
    refine mm_aload_n S dX6_line_21 rfl (lv_at hl 0 rfl) ?_
    refine mm_getp S hR fdX6_10 (hK.k hk0) rfl dX6_line_22 ?_
    refine lv_iload_n S.1 S.2.1 dX6_line_25 rfl (lv_at hl 1 rfl) ?_
    obtain ⟨g5, hf⟩ := gd hf
    obtain ⟨y4, hy4, hf⟩ := bd hf
    refine mm_callVh S hR hS hA (As := [.int x1]) (rest := []) cvX6_52 (hK.k g5) (kX0_at_c l G A (hK.k g5) hy4) rfl rfl ⟨Nat.le_of_ble_eq_true rfl, Nat.le_of_ble_eq_true rfl⟩ rfl hl.1 rfl (lv_room (by simp [rf_cat, int_cat, long_cat])) dX6_line_26 ⟨Nat.zero_le _, Nat.zero_le _⟩ (fun H locs hR hS => ?_)
    have hK : mmKN μ y4.2 := hK.tr (kX0_at_kn hy4)
    refine mm_astore (i := 5) (lv' := [(5, rf y4.1), (0, rf h0), (1, .int x1), (2, .int x2), (3, .int x3), (4, .int x4)]) S dX6_line_29 hl (by decide) rfl (fun ls hl => ?_)
    refine mm_aload S dX6_line_31 (lv_at hl 0 rfl) ?_
    refine lv_iload_n S.1 S.2.1 dX6_line_33 rfl (lv_at hl 3 rfl) ?_
    refine lv_iload_n S.1 S.2.1 dX6_line_34 rfl (lv_at hl 4 rfl) ?_
    refine lv_iload S.1 S.2.1 dX6_line_35 (lv_at hl 5 rfl) ?_
    obtain ⟨g7, hf⟩ := gd hf
    obtain ⟨y6, hy6, hf⟩ := bd hf
    refine mm_callVi S hR hS hA (As := [.int x2, .int x3, .int x4]) (rest := []) cvX6_56 (hK.k g7) (kX1_fits_c l G A (hK.k g7) hy6) rfl rfl ⟨Nat.le_of_ble_eq_true rfl, Nat.le_of_ble_eq_true rfl⟩ rfl hl.1 rfl (lv_room (by simp [rf_cat, int_cat, long_cat])) dX6_line_37 ⟨Nat.zero_le _, Nat.zero_le _⟩ (fun H locs hR hS => ?_)
    have hK : mmKN μ y6.2 := hK.tr (kX1_fits_kn hy6)
    refine lv_if_ne (tgt := 53) S.1 S.2.1 dX6_line_40 (by decide) (fun c8 => ?_) (fun c8 => ?_)
    · have hf := it_f hf c8
      refine mm_aload S dX6_line_53 (lv_at hl 0 rfl) ?_
      refine mm_geti S hR fdX6_67 (hK.k g7) rfl dX6_line_55 ?_
      refine lv_bipush (v := 12) S.1 S.2.1 dX6_line_58 (by decide) ?_
      refine lv_icmp_ge (tgt := 74) S.1 S.2.1 dX6_line_60 (by decide) (fun c9 => ?_) (fun c9 => ?_)
      · have hf := it_t hf c9
        obtain rfl := Option.some.inj hf
        refine mm_throwS S hR hS hl0 hX thX6_32_74_36 hl.1 hno dX6_line_74 dX6_line_77 dX6_line_78 dX6_line_80 dX6_line_83 (Nat.le_of_ble_eq_true rfl) (by simp [rf_cat, int_cat, long_cat]) (Nat.le_of_ble_eq_true rfl) (Nat.le_of_ble_eq_true rfl) hlocks (Nat.le_of_ble_eq_true rfl) (Nat.le_of_ble_eq_true rfl)
      · have hf := it_f hf c9
        refine mm_aload_n S dX6_line_63 rfl (lv_at hl 1 rfl) ?_
        refine mm_getp S hR fdX6_21 (hK.k hk0) rfl dX6_line_64 ?_
        refine lv_iload_n S.1 S.2.1 dX6_line_67 rfl (lv_at hl 2 rfl) ?_
        obtain ⟨g11, hf⟩ := gd hf
        obtain ⟨y10, hy10, hf⟩ := bd hf
        refine mm_callVi S hR hS hA (As := [.int x1]) (rest := []) cvX6_70 (hK.k g11) (kX3_howManyMadeOf_c l G A (hK.k g11) hy10) rfl rfl ⟨Nat.le_of_ble_eq_true rfl, Nat.le_of_ble_eq_true rfl⟩ rfl hl.1 rfl (lv_room (by simp [rf_cat, int_cat, long_cat])) dX6_line_68 ⟨Nat.zero_le _, Nat.zero_le _⟩ (fun H locs hR hS => ?_)
        have hK : mmKN μ y10.2 := hK.tr (kX3_howManyMadeOf_kn hy10)
        refine lv_if_le (tgt := 84) S.1 S.2.1 dX6_line_71 (by decide) (fun c12 => ?_) (fun c12 => ?_)
        · have hf := it_t hf c12
          refine mm_aload S dX6_line_84 (lv_at hl 0 rfl) ?_
          refine lv_iload_n S.1 S.2.1 dX6_line_86 rfl (lv_at hl 3 rfl) ?_
          refine lv_iload_n S.1 S.2.1 dX6_line_87 rfl (lv_at hl 4 rfl) ?_
          refine lv_iload S.1 S.2.1 dX6_line_88 (lv_at hl 5 rfl) ?_
          obtain ⟨y13, hy13, hf⟩ := bd hf
          refine mm_callVi S hR hS hA (As := [.int x2, .int x3, .int x4]) (rest := []) cvX6_76 (hK.k g7) (kX1_addLine_c l G A (hK.k g7) hy13) rfl rfl ⟨Nat.le_of_ble_eq_true rfl, Nat.le_of_ble_eq_true rfl⟩ rfl hl.1 rfl (lv_room (by simp [rf_cat, int_cat, long_cat])) dX6_line_90 ⟨Nat.zero_le _, Nat.zero_le _⟩ (fun H locs hR hS => ?_)
          have hK : mmKN μ y13.2 := hK.tr (kX1_addLine_kn hy13)
          obtain rfl := Option.some.inj hf
          exact absurd rfl h0n
        · have hf := it_f hf c12
          obtain rfl := Option.some.inj hf
          refine mm_throwS S hR hS hl0 hX thX6_32_74_36 hl.1 hno dX6_line_74 dX6_line_77 dX6_line_78 dX6_line_80 dX6_line_83 (Nat.le_of_ble_eq_true rfl) (by simp [rf_cat, int_cat, long_cat]) (Nat.le_of_ble_eq_true rfl) (Nat.le_of_ble_eq_true rfl) hlocks (Nat.le_of_ble_eq_true rfl) (Nat.le_of_ble_eq_true rfl)
    · have hf := it_t hf c8
      obtain rfl := Option.some.inj hf
      refine mm_throwS S hR hS hl0 hX thX6_62_64_66 hl.1 hno dX6_line_43 dX6_line_46 dX6_line_47 dX6_line_49 dX6_line_52 (Nat.le_of_ble_eq_true rfl) (by simp [rf_cat, int_cat, long_cat]) (Nat.le_of_ble_eq_true rfl) (Nat.le_of_ble_eq_true rfl) hlocks (Nat.le_of_ble_eq_true rfl) (Nat.le_of_ble_eq_true rfl)
  · have hf := it_t hf c3
    obtain rfl := Option.some.inj hf
    refine mm_throwS S hR hS hl0 hX thX6_47_49_51 hl.1 hno dX6_line_11 dX6_line_14 dX6_line_15 dX6_line_17 dX6_line_20 (Nat.le_of_ble_eq_true rfl) (by simp [rf_cat, int_cat, long_cat]) (Nat.le_of_ble_eq_true rfl) (Nat.le_of_ble_eq_true rfl) hlocks (Nat.le_of_ble_eq_true rfl) (Nat.le_of_ble_eq_true rfl)
-- X6_ofBody
def fX6_ofBody (h0 : Nat) (x1 : Int32) (x2 : Int32) (μ : MM) : Option (Nat × Int32 × MM) :=
  if mK μ (mP μ h0 0) = 1 then (fX0_has (mP μ h0 0) x1 μ).bind fun y1 => if y1.1 = 0 then (some (1, 0, y1.2)) else (if x2 = 0 then (if mK μ (mP y1.2 h0 0) = 1 then (fX0_at (mP y1.2 h0 0) x1 y1.2).bind fun y5 => if mK μ y5.1 = 2 then some (0, (mI y5.2 y5.1 3), y5.2) else none else none) else (if x2 = 1 then (if mK μ (mP y1.2 h0 1) = 4 then (fX3_howManyMadeOf (mP y1.2 h0 1) x1 y1.2).bind fun y9 => some (0, y9.1, y9.2) else none) else (if x2 = 2 then (if mK μ (mP y1.2 h0 0) = 1 then (fX0_at (mP y1.2 h0 0) x1 y1.2).bind fun y12 => if mK μ y12.1 = 2 then (fX1_howManyWaits y12.1 y12.2).bind fun y14 => some (0, y14.1, y14.2) else none else none) else (some (2, 0, y1.2))))) else none
set_option maxRecDepth 100000 in
set_option maxHeartbeats 4000000 in
theorem kX6_ofBody_kn {μ : MM} {res : Nat × Int32 × MM} {h0 : Nat} {x1 : Int32} {x2 : Int32} (hf : fX6_ofBody h0 x1 x2 μ = some res) : mmKN μ res.2.2 := by
  have hK : mmKN μ μ := mmKN.rf
  unfold fX6_ofBody at hf
  obtain ⟨g2, hf⟩ := gd hf
  obtain ⟨y1, hy1, hf⟩ := bd hf
  have hK : mmKN μ y1.2 := hK.tr (kX0_has_kn hy1)
  rcases it_or hf with ⟨c3, hf⟩ | ⟨c3, hf⟩
  · skip
    obtain rfl := Option.some.inj hf
    exact hK
  · skip
    rcases it_or hf with ⟨c4, hf⟩ | ⟨c4, hf⟩
    · skip
      obtain ⟨g6, hf⟩ := gd hf
      obtain ⟨y5, hy5, hf⟩ := bd hf
      have hK : mmKN μ y5.2 := hK.tr (kX0_at_kn hy5)
      obtain ⟨g7, hf⟩ := gd hf
      obtain rfl := Option.some.inj hf
      exact hK
    rcases it_or hf with ⟨c8, hf⟩ | ⟨c8, hf⟩
    · skip
      obtain ⟨g10, hf⟩ := gd hf
      obtain ⟨y9, hy9, hf⟩ := bd hf
      have hK : mmKN μ y9.2 := hK.tr (kX3_howManyMadeOf_kn hy9)
      obtain rfl := Option.some.inj hf
      exact hK
    rcases it_or hf with ⟨c11, hf⟩ | ⟨c11, hf⟩
    · skip
      obtain ⟨g13, hf⟩ := gd hf
      obtain ⟨y12, hy12, hf⟩ := bd hf
      have hK : mmKN μ y12.2 := hK.tr (kX0_at_kn hy12)
      obtain ⟨g15, hf⟩ := gd hf
      obtain ⟨y14, hy14, hf⟩ := bd hf
      have hK : mmKN μ y14.2 := hK.tr (kX1_howManyWaits_kn hy14)
      obtain rfl := Option.some.inj hf
      exact hK
    obtain rfl := Option.some.inj hf
    exact hK
abbrev rmX6_ofBody : Room := { frames := 4, cells := 0, slots := 0, locals := 87 }
abbrev rxX6_ofBody : Room := { frames := 6, cells := 1, slots := 6, locals := 90 }
set_option maxRecDepth 100000 in
set_option maxHeartbeats 4000000 in
theorem kX6_ofBody_c (l : Launch) (G : mmG) (A : Nat → Prop) {μ : MM} {res : Nat × Int32 × MM} {h0 : Nat} {x1 : Int32} {x2 : Int32} (hk0 : mK μ h0 = 7) (hf : fX6_ofBody h0 x1 x2 μ = some res) (h0r : res.1 = 0) : Met l yX6_ofBody [.code yX6_ofBody cX6_ofBody 3 (some (.int))] rmX6_ofBody (mmPc G A μ [rf h0, .int x1, .int x2]) (mmQ G A res.2.2 (some (.int res.2.1))) 0 0 A := by
  refine mm_ofW (by decide +kernel) (by simp [lg_sl, rf_cat, int_cat]) ?_
  intro p e s m below meth c ls S hR hA hS hr hlocks hl hnm
  have hl : lv_has ls 3 [(0, rf h0), (1, .int x1), (2, .int x2)] := by simpa [lv_args, rf_cat, int_cat] using hl
  have E0 : mmEnv p m c cX6_ofBody 3 s _ RX6 G A meth (some (.int)) := ⟨S, hA, hr, hlocks⟩
  have hK : mmKN μ μ := mmKN.rf
  unfold fX6_ofBody at hf
  refine mm_aload_n S dX6_ofBody_0 rfl (lv_at hl 0 rfl) ?_
  refine mm_getp S hR fdX6_10 (hK.k hk0) rfl dX6_ofBody_1 ?_
  refine lv_iload_n S.1 S.2.1 dX6_ofBody_4 rfl (lv_at hl 1 rfl) ?_
  obtain ⟨g2, hf⟩ := gd hf
  obtain ⟨y1, hy1, hf⟩ := bd hf
  refine mm_callVi S hR hS hA (As := [.int x1]) (rest := []) cvX6_43 (hK.k g2) (kX0_has_c l G A (hK.k g2) hy1) rfl rfl ⟨Nat.le_of_ble_eq_true rfl, Nat.le_of_ble_eq_true rfl⟩ rfl hl.1 rfl (lv_room (by simp [rf_cat, int_cat, long_cat])) dX6_ofBody_5 ⟨Nat.zero_le _, Nat.zero_le _⟩ (fun H locs hR hS => ?_)
  have hK : mmKN μ y1.2 := hK.tr (kX0_has_kn hy1)
  refine lv_if_ne (tgt := 21) S.1 S.2.1 dX6_ofBody_8 (by decide) (fun c3 => ?_) (fun c3 => ?_)
  · have hf := it_f hf c3
    refine lv_iload_n S.1 S.2.1 dX6_ofBody_21 rfl (lv_at hl 2 rfl) ?_
    rcases it_or hf with ⟨c4, hf⟩ | ⟨c4, hf⟩
    · refine mm_swL (tgt := 48) (off := 26) S [0] dX6_ofBody_22 (by simpa using c4) (by decide) (by decide) ?_
      refine mm_aload_n S dX6_ofBody_48 rfl (lv_at hl 0 rfl) ?_
      refine mm_getp S hR fdX6_10 (hK.k hk0) rfl dX6_ofBody_49 ?_
      refine lv_iload_n S.1 S.2.1 dX6_ofBody_52 rfl (lv_at hl 1 rfl) ?_
      obtain ⟨g6, hf⟩ := gd hf
      obtain ⟨y5, hy5, hf⟩ := bd hf
      refine mm_callVh S hR hS hA (As := [.int x1]) (rest := []) cvX6_52 (hK.k g6) (kX0_at_c l G A (hK.k g6) hy5) rfl rfl ⟨Nat.le_of_ble_eq_true rfl, Nat.le_of_ble_eq_true rfl⟩ rfl hl.1 rfl (lv_room (by simp [rf_cat, int_cat, long_cat])) dX6_ofBody_53 ⟨Nat.zero_le _, Nat.zero_le _⟩ (fun H locs hR hS => ?_)
      have hK : mmKN μ y5.2 := hK.tr (kX0_at_kn hy5)
      obtain ⟨g7, hf⟩ := gd hf
      refine mm_geti S hR fdX6_67 (hK.k g7) rfl dX6_ofBody_56 ?_
      obtain rfl := Option.some.inj hf
      exact mm_iret S hR hS hr hlocks dX6_ofBody_59
    rcases it_or hf with ⟨c8, hf⟩ | ⟨c8, hf⟩
    · refine mm_swL (tgt := 60) (off := 38) S [1] dX6_ofBody_22 (by simpa using c8) (by decide) (by decide) ?_
      refine mm_aload_n S dX6_ofBody_60 rfl (lv_at hl 0 rfl) ?_
      refine mm_getp S hR fdX6_21 (hK.k hk0) rfl dX6_ofBody_61 ?_
      refine lv_iload_n S.1 S.2.1 dX6_ofBody_64 rfl (lv_at hl 1 rfl) ?_
      obtain ⟨g10, hf⟩ := gd hf
      obtain ⟨y9, hy9, hf⟩ := bd hf
      refine mm_callVi S hR hS hA (As := [.int x1]) (rest := []) cvX6_70 (hK.k g10) (kX3_howManyMadeOf_c l G A (hK.k g10) hy9) rfl rfl ⟨Nat.le_of_ble_eq_true rfl, Nat.le_of_ble_eq_true rfl⟩ rfl hl.1 rfl (lv_room (by simp [rf_cat, int_cat, long_cat])) dX6_ofBody_65 ⟨Nat.zero_le _, Nat.zero_le _⟩ (fun H locs hR hS => ?_)
      have hK : mmKN μ y9.2 := hK.tr (kX3_howManyMadeOf_kn hy9)
      obtain rfl := Option.some.inj hf
      exact mm_iret S hR hS hr hlocks dX6_ofBody_68
    rcases it_or hf with ⟨c11, hf⟩ | ⟨c11, hf⟩
    · refine mm_swL (tgt := 69) (off := 47) S [2] dX6_ofBody_22 (by simpa using c11) (by decide) (by decide) ?_
      refine mm_aload_n S dX6_ofBody_69 rfl (lv_at hl 0 rfl) ?_
      refine mm_getp S hR fdX6_10 (hK.k hk0) rfl dX6_ofBody_70 ?_
      refine lv_iload_n S.1 S.2.1 dX6_ofBody_73 rfl (lv_at hl 1 rfl) ?_
      obtain ⟨g13, hf⟩ := gd hf
      obtain ⟨y12, hy12, hf⟩ := bd hf
      refine mm_callVh S hR hS hA (As := [.int x1]) (rest := []) cvX6_52 (hK.k g13) (kX0_at_c l G A (hK.k g13) hy12) rfl rfl ⟨Nat.le_of_ble_eq_true rfl, Nat.le_of_ble_eq_true rfl⟩ rfl hl.1 rfl (lv_room (by simp [rf_cat, int_cat, long_cat])) dX6_ofBody_74 ⟨Nat.zero_le _, Nat.zero_le _⟩ (fun H locs hR hS => ?_)
      have hK : mmKN μ y12.2 := hK.tr (kX0_at_kn hy12)
      obtain ⟨g15, hf⟩ := gd hf
      obtain ⟨y14, hy14, hf⟩ := bd hf
      refine mm_callVi S hR hS hA (As := []) (rest := []) cvX6_80 (hK.k g15) (kX1_howManyWaits_c l G A (hK.k g15) hy14) rfl rfl ⟨Nat.le_of_ble_eq_true rfl, Nat.le_of_ble_eq_true rfl⟩ rfl hl.1 rfl (lv_room (by simp [rf_cat, int_cat, long_cat])) dX6_ofBody_77 ⟨Nat.zero_le _, Nat.zero_le _⟩ (fun H locs hR hS => ?_)
      have hK : mmKN μ y14.2 := hK.tr (kX1_howManyWaits_kn hy14)
      obtain rfl := Option.some.inj hf
      exact mm_iret S hR hS hr hlocks dX6_ofBody_80
    refine mm_swD (tgt := 81) S [0, 1, 2] dX6_ofBody_22 (by simp only [List.forall_mem_cons, List.not_mem_nil, false_imp_iff, implies_true, and_true]; (try simp only [not_or] at c4 c8 c11); simp only [c4, c8, c11, not_false_eq_true, and_self, and_true, true_and]) (by decide) (by decide) ?_
    obtain rfl := Option.some.inj hf
    exact absurd h0r (by simp)
  · have hf := it_t hf c3
    obtain rfl := Option.some.inj hf
    exact absurd h0r (by simp)
set_option maxRecDepth 100000 in
set_option maxHeartbeats 4000000 in
theorem kX6_ofBody_x (l : Launch) (hl0 : l.stackTraces = false) (G : mmG) (A : Nat → Prop) {μ : MM} {res : Nat × Int32 × MM} {h0 : Nat} {x1 : Int32} {x2 : Int32} (hk0 : mK μ h0 = 7) (hf : fX6_ofBody h0 x1 x2 μ = some res) (h0n : ¬ res.1 = 0) : vx_Met l yX6_ofBody [.code yX6_ofBody cX6_ofBody 3 (some (.int))] rxX6_ofBody (mmPx G A μ [rf h0, .int x1, .int x2]) (fun _ _ _ _ => False) (mmXC G A res.2.2 (exn res.1)) 1 6 A := by
  refine mm_ofX (by decide +kernel) (by simp [lg_sl, rf_cat, int_cat]) ?_
  intro p e s m below meth c ls S hR hA hS hr hlocks hl hX hno
  have hl : lv_has ls 3 [(0, rf h0), (1, .int x1), (2, .int x2)] := by simpa [lv_args, rf_cat, int_cat] using hl
  have hK : mmKN μ μ := mmKN.rf
  unfold fX6_ofBody at hf
  refine mm_aload_n S dX6_ofBody_0 rfl (lv_at hl 0 rfl) ?_
  refine mm_getp S hR fdX6_10 (hK.k hk0) rfl dX6_ofBody_1 ?_
  refine lv_iload_n S.1 S.2.1 dX6_ofBody_4 rfl (lv_at hl 1 rfl) ?_
  obtain ⟨g2, hf⟩ := gd hf
  obtain ⟨y1, hy1, hf⟩ := bd hf
  refine mm_callVi S hR hS hA (As := [.int x1]) (rest := []) cvX6_43 (hK.k g2) (kX0_has_c l G A (hK.k g2) hy1) rfl rfl ⟨Nat.le_of_ble_eq_true rfl, Nat.le_of_ble_eq_true rfl⟩ rfl hl.1 rfl (lv_room (by simp [rf_cat, int_cat, long_cat])) dX6_ofBody_5 ⟨Nat.zero_le _, Nat.zero_le _⟩ (fun H locs hR hS => ?_)
  have hK : mmKN μ y1.2 := hK.tr (kX0_has_kn hy1)
  refine lv_if_ne (tgt := 21) S.1 S.2.1 dX6_ofBody_8 (by decide) (fun c3 => ?_) (fun c3 => ?_)
  · have hf := it_f hf c3
    refine lv_iload_n S.1 S.2.1 dX6_ofBody_21 rfl (lv_at hl 2 rfl) ?_
    rcases it_or hf with ⟨c4, hf⟩ | ⟨c4, hf⟩
    · refine mm_swL (tgt := 48) (off := 26) S [0] dX6_ofBody_22 (by simpa using c4) (by decide) (by decide) ?_
      refine mm_aload_n S dX6_ofBody_48 rfl (lv_at hl 0 rfl) ?_
      refine mm_getp S hR fdX6_10 (hK.k hk0) rfl dX6_ofBody_49 ?_
      refine lv_iload_n S.1 S.2.1 dX6_ofBody_52 rfl (lv_at hl 1 rfl) ?_
      obtain ⟨g6, hf⟩ := gd hf
      obtain ⟨y5, hy5, hf⟩ := bd hf
      refine mm_callVh S hR hS hA (As := [.int x1]) (rest := []) cvX6_52 (hK.k g6) (kX0_at_c l G A (hK.k g6) hy5) rfl rfl ⟨Nat.le_of_ble_eq_true rfl, Nat.le_of_ble_eq_true rfl⟩ rfl hl.1 rfl (lv_room (by simp [rf_cat, int_cat, long_cat])) dX6_ofBody_53 ⟨Nat.zero_le _, Nat.zero_le _⟩ (fun H locs hR hS => ?_)
      have hK : mmKN μ y5.2 := hK.tr (kX0_at_kn hy5)
      obtain ⟨g7, hf⟩ := gd hf
      refine mm_geti S hR fdX6_67 (hK.k g7) rfl dX6_ofBody_56 ?_
      obtain rfl := Option.some.inj hf
      exact absurd rfl h0n
    rcases it_or hf with ⟨c8, hf⟩ | ⟨c8, hf⟩
    · refine mm_swL (tgt := 60) (off := 38) S [1] dX6_ofBody_22 (by simpa using c8) (by decide) (by decide) ?_
      refine mm_aload_n S dX6_ofBody_60 rfl (lv_at hl 0 rfl) ?_
      refine mm_getp S hR fdX6_21 (hK.k hk0) rfl dX6_ofBody_61 ?_
      refine lv_iload_n S.1 S.2.1 dX6_ofBody_64 rfl (lv_at hl 1 rfl) ?_
      obtain ⟨g10, hf⟩ := gd hf
      obtain ⟨y9, hy9, hf⟩ := bd hf
      refine mm_callVi S hR hS hA (As := [.int x1]) (rest := []) cvX6_70 (hK.k g10) (kX3_howManyMadeOf_c l G A (hK.k g10) hy9) rfl rfl ⟨Nat.le_of_ble_eq_true rfl, Nat.le_of_ble_eq_true rfl⟩ rfl hl.1 rfl (lv_room (by simp [rf_cat, int_cat, long_cat])) dX6_ofBody_65 ⟨Nat.zero_le _, Nat.zero_le _⟩ (fun H locs hR hS => ?_)
      have hK : mmKN μ y9.2 := hK.tr (kX3_howManyMadeOf_kn hy9)
      obtain rfl := Option.some.inj hf
      exact absurd rfl h0n
    rcases it_or hf with ⟨c11, hf⟩ | ⟨c11, hf⟩
    · refine mm_swL (tgt := 69) (off := 47) S [2] dX6_ofBody_22 (by simpa using c11) (by decide) (by decide) ?_
      refine mm_aload_n S dX6_ofBody_69 rfl (lv_at hl 0 rfl) ?_
      refine mm_getp S hR fdX6_10 (hK.k hk0) rfl dX6_ofBody_70 ?_
      refine lv_iload_n S.1 S.2.1 dX6_ofBody_73 rfl (lv_at hl 1 rfl) ?_
      obtain ⟨g13, hf⟩ := gd hf
      obtain ⟨y12, hy12, hf⟩ := bd hf
      refine mm_callVh S hR hS hA (As := [.int x1]) (rest := []) cvX6_52 (hK.k g13) (kX0_at_c l G A (hK.k g13) hy12) rfl rfl ⟨Nat.le_of_ble_eq_true rfl, Nat.le_of_ble_eq_true rfl⟩ rfl hl.1 rfl (lv_room (by simp [rf_cat, int_cat, long_cat])) dX6_ofBody_74 ⟨Nat.zero_le _, Nat.zero_le _⟩ (fun H locs hR hS => ?_)
      have hK : mmKN μ y12.2 := hK.tr (kX0_at_kn hy12)
      obtain ⟨g15, hf⟩ := gd hf
      obtain ⟨y14, hy14, hf⟩ := bd hf
      refine mm_callVi S hR hS hA (As := []) (rest := []) cvX6_80 (hK.k g15) (kX1_howManyWaits_c l G A (hK.k g15) hy14) rfl rfl ⟨Nat.le_of_ble_eq_true rfl, Nat.le_of_ble_eq_true rfl⟩ rfl hl.1 rfl (lv_room (by simp [rf_cat, int_cat, long_cat])) dX6_ofBody_77 ⟨Nat.zero_le _, Nat.zero_le _⟩ (fun H locs hR hS => ?_)
      have hK : mmKN μ y14.2 := hK.tr (kX1_howManyWaits_kn hy14)
      obtain rfl := Option.some.inj hf
      exact absurd rfl h0n
    refine mm_swD (tgt := 81) S [0, 1, 2] dX6_ofBody_22 (by simp only [List.forall_mem_cons, List.not_mem_nil, false_imp_iff, implies_true, and_true]; (try simp only [not_or] at c4 c8 c11); simp only [c4, c8, c11, not_false_eq_true, and_self, and_true, true_and]) (by decide) (by decide) ?_
    obtain rfl := Option.some.inj hf
    refine mm_throwS S hR hS hl0 hX thX6_62_83_66 hl.1 hno dX6_ofBody_81 dX6_ofBody_84 dX6_ofBody_85 dX6_ofBody_87 dX6_ofBody_90 (Nat.le_of_ble_eq_true rfl) (by simp [rf_cat, int_cat, long_cat]) (Nat.le_of_ble_eq_true rfl) (Nat.le_of_ble_eq_true rfl) hlocks (Nat.le_of_ble_eq_true rfl) (Nat.le_of_ble_eq_true rfl)
  · have hf := it_t hf c3
    obtain rfl := Option.some.inj hf
    refine mm_throwS S hR hS hl0 hX thX6_47_49_51 hl.1 hno dX6_ofBody_11 dX6_ofBody_14 dX6_ofBody_15 dX6_ofBody_17 dX6_ofBody_20 (Nat.le_of_ble_eq_true rfl) (by simp [rf_cat, int_cat, long_cat]) (Nat.le_of_ble_eq_true rfl) (Nat.le_of_ble_eq_true rfl) hlocks (Nat.le_of_ble_eq_true rfl) (Nat.le_of_ble_eq_true rfl)
-- X6_generator
def fX6_generator (h0 : Nat) (x1 : Int32) (μ : MM) : Option (Nat × Int32 × MM) :=
  if mK μ (mP μ h0 0) = 1 then (fX0_has (mP μ h0 0) x1 μ).bind fun y1 => if y1.1 = 0 then (some (1, 0, y1.2)) else (if mK μ (mP y1.2 h0 1) = 4 then (fX3_isFull (mP y1.2 h0 1) y1.2).bind fun y4 => if y4.1 = 0 then (if mK μ (mP y4.2 h0 1) = 4 then (fX3_make (mP y4.2 h0 1) x1 0 (-1) y4.2).bind fun y7 => if mK μ y7.1 = 3 then some (0, (mI y7.2 y7.1 0), y7.2) else none else none) else (some (3, 0, y4.2)) else none) else none
set_option maxRecDepth 100000 in
set_option maxHeartbeats 4000000 in
theorem kX6_generator_kn {μ : MM} {res : Nat × Int32 × MM} {h0 : Nat} {x1 : Int32} (hf : fX6_generator h0 x1 μ = some res) : mmKN μ res.2.2 := by
  have hK : mmKN μ μ := mmKN.rf
  unfold fX6_generator at hf
  obtain ⟨g2, hf⟩ := gd hf
  obtain ⟨y1, hy1, hf⟩ := bd hf
  have hK : mmKN μ y1.2 := hK.tr (kX0_has_kn hy1)
  rcases it_or hf with ⟨c3, hf⟩ | ⟨c3, hf⟩
  · skip
    obtain rfl := Option.some.inj hf
    exact hK
  · skip
    obtain ⟨g5, hf⟩ := gd hf
    obtain ⟨y4, hy4, hf⟩ := bd hf
    have hK : mmKN μ y4.2 := hK.tr (kX3_isFull_kn hy4)
    rcases it_or hf with ⟨c6, hf⟩ | ⟨c6, hf⟩
    · skip
      obtain ⟨g8, hf⟩ := gd hf
      obtain ⟨y7, hy7, hf⟩ := bd hf
      have hK : mmKN μ y7.2 := hK.tr (kX3_make_kn hy7)
      obtain ⟨g9, hf⟩ := gd hf
      obtain rfl := Option.some.inj hf
      exact hK
    · skip
      obtain rfl := Option.some.inj hf
      exact hK
abbrev rmX6_generator : Room := { frames := 2, cells := 0, slots := 0, locals := 48 }
abbrev rxX6_generator : Room := { frames := 6, cells := 1, slots := 6, locals := 90 }
set_option maxRecDepth 100000 in
set_option maxHeartbeats 4000000 in
theorem kX6_generator_c (l : Launch) (G : mmG) (A : Nat → Prop) {μ : MM} {res : Nat × Int32 × MM} {h0 : Nat} {x1 : Int32} (hk0 : mK μ h0 = 7) (hf : fX6_generator h0 x1 μ = some res) (h0r : res.1 = 0) : Met l yX6_generator [.code yX6_generator cX6_generator 2 (some (.int))] rmX6_generator (mmPc G A μ [rf h0, .int x1]) (mmQ G A res.2.2 (some (.int res.2.1))) 0 0 A := by
  refine mm_ofW (by decide +kernel) (by simp [lg_sl, rf_cat, int_cat]) ?_
  intro p e s m below meth c ls S hR hA hS hr hlocks hl hnm
  have hl : lv_has ls 2 [(0, rf h0), (1, .int x1)] := by simpa [lv_args, rf_cat, int_cat] using hl
  have E0 : mmEnv p m c cX6_generator 2 s _ RX6 G A meth (some (.int)) := ⟨S, hA, hr, hlocks⟩
  have hK : mmKN μ μ := mmKN.rf
  unfold fX6_generator at hf
  refine mm_aload_n S dX6_generator_0 rfl (lv_at hl 0 rfl) ?_
  refine mm_getp S hR fdX6_10 (hK.k hk0) rfl dX6_generator_1 ?_
  refine lv_iload_n S.1 S.2.1 dX6_generator_4 rfl (lv_at hl 1 rfl) ?_
  obtain ⟨g2, hf⟩ := gd hf
  obtain ⟨y1, hy1, hf⟩ := bd hf
  refine mm_callVi S hR hS hA (As := [.int x1]) (rest := []) cvX6_43 (hK.k g2) (kX0_has_c l G A (hK.k g2) hy1) rfl rfl ⟨Nat.le_of_ble_eq_true rfl, Nat.le_of_ble_eq_true rfl⟩ rfl hl.1 rfl (lv_room (by simp [rf_cat, int_cat, long_cat])) dX6_generator_5 ⟨Nat.zero_le _, Nat.zero_le _⟩ (fun H locs hR hS => ?_)
  have hK : mmKN μ y1.2 := hK.tr (kX0_has_kn hy1)
  refine lv_if_ne (tgt := 21) S.1 S.2.1 dX6_generator_8 (by decide) (fun c3 => ?_) (fun c3 => ?_)
  · have hf := it_f hf c3
    refine mm_aload_n S dX6_generator_21 rfl (lv_at hl 0 rfl) ?_
    refine mm_getp S hR fdX6_21 (hK.k hk0) rfl dX6_generator_22 ?_
    obtain ⟨g5, hf⟩ := gd hf
    obtain ⟨y4, hy4, hf⟩ := bd hf
    refine mm_callVi S hR hS hA (As := []) (rest := []) cvX6_85 (hK.k g5) (kX3_isFull_c l G A (hK.k g5) hy4) rfl rfl ⟨Nat.le_of_ble_eq_true rfl, Nat.le_of_ble_eq_true rfl⟩ rfl hl.1 rfl (lv_room (by simp [rf_cat, int_cat, long_cat])) dX6_generator_25 ⟨Nat.zero_le _, Nat.zero_le _⟩ (fun H locs hR hS => ?_)
    have hK : mmKN μ y4.2 := hK.tr (kX3_isFull_kn hy4)
    refine lv_if_eq (tgt := 41) S.1 S.2.1 dX6_generator_28 (by decide) (fun c6 => ?_) (fun c6 => ?_)
    · have hf := it_t hf c6
      refine mm_aload_n S dX6_generator_41 rfl (lv_at hl 0 rfl) ?_
      refine mm_getp S hR fdX6_21 (hK.k hk0) rfl dX6_generator_42 ?_
      refine lv_iload_n S.1 S.2.1 dX6_generator_45 rfl (lv_at hl 1 rfl) ?_
      refine lv_iconst (v := 0) S.1 S.2.1 dX6_generator_46 (by decide) ?_
      refine lv_iconst (v := (-1)) S.1 S.2.1 dX6_generator_47 (by decide) ?_
      obtain ⟨g8, hf⟩ := gd hf
      obtain ⟨y7, hy7, hf⟩ := bd hf
      refine mm_callVh S hR hS hA (As := [.int x1, .int 0, .int (-1)]) (rest := []) cvX6_91 (hK.k g8) (kX3_make_c l G A (hK.k g8) hy7) rfl rfl ⟨Nat.le_of_ble_eq_true rfl, Nat.le_of_ble_eq_true rfl⟩ rfl hl.1 rfl (lv_room (by simp [rf_cat, int_cat, long_cat])) dX6_generator_48 ⟨Nat.zero_le _, Nat.zero_le _⟩ (fun H locs hR hS => ?_)
      have hK : mmKN μ y7.2 := hK.tr (kX3_make_kn hy7)
      obtain ⟨g9, hf⟩ := gd hf
      refine mm_geti S hR fdX6_95 (hK.k g9) rfl dX6_generator_51 ?_
      obtain rfl := Option.some.inj hf
      exact mm_iret S hR hS hr hlocks dX6_generator_54
    · have hf := it_f hf c6
      obtain rfl := Option.some.inj hf
      exact absurd h0r (by simp)
  · have hf := it_t hf c3
    obtain rfl := Option.some.inj hf
    exact absurd h0r (by simp)
set_option maxRecDepth 100000 in
set_option maxHeartbeats 4000000 in
theorem kX6_generator_x (l : Launch) (hl0 : l.stackTraces = false) (G : mmG) (A : Nat → Prop) {μ : MM} {res : Nat × Int32 × MM} {h0 : Nat} {x1 : Int32} (hk0 : mK μ h0 = 7) (hf : fX6_generator h0 x1 μ = some res) (h0n : ¬ res.1 = 0) : vx_Met l yX6_generator [.code yX6_generator cX6_generator 2 (some (.int))] rxX6_generator (mmPx G A μ [rf h0, .int x1]) (fun _ _ _ _ => False) (mmXC G A res.2.2 (exn res.1)) 1 6 A := by
  refine mm_ofX (by decide +kernel) (by simp [lg_sl, rf_cat, int_cat]) ?_
  intro p e s m below meth c ls S hR hA hS hr hlocks hl hX hno
  have hl : lv_has ls 2 [(0, rf h0), (1, .int x1)] := by simpa [lv_args, rf_cat, int_cat] using hl
  have hK : mmKN μ μ := mmKN.rf
  unfold fX6_generator at hf
  refine mm_aload_n S dX6_generator_0 rfl (lv_at hl 0 rfl) ?_
  refine mm_getp S hR fdX6_10 (hK.k hk0) rfl dX6_generator_1 ?_
  refine lv_iload_n S.1 S.2.1 dX6_generator_4 rfl (lv_at hl 1 rfl) ?_
  obtain ⟨g2, hf⟩ := gd hf
  obtain ⟨y1, hy1, hf⟩ := bd hf
  refine mm_callVi S hR hS hA (As := [.int x1]) (rest := []) cvX6_43 (hK.k g2) (kX0_has_c l G A (hK.k g2) hy1) rfl rfl ⟨Nat.le_of_ble_eq_true rfl, Nat.le_of_ble_eq_true rfl⟩ rfl hl.1 rfl (lv_room (by simp [rf_cat, int_cat, long_cat])) dX6_generator_5 ⟨Nat.zero_le _, Nat.zero_le _⟩ (fun H locs hR hS => ?_)
  have hK : mmKN μ y1.2 := hK.tr (kX0_has_kn hy1)
  refine lv_if_ne (tgt := 21) S.1 S.2.1 dX6_generator_8 (by decide) (fun c3 => ?_) (fun c3 => ?_)
  · have hf := it_f hf c3
    refine mm_aload_n S dX6_generator_21 rfl (lv_at hl 0 rfl) ?_
    refine mm_getp S hR fdX6_21 (hK.k hk0) rfl dX6_generator_22 ?_
    obtain ⟨g5, hf⟩ := gd hf
    obtain ⟨y4, hy4, hf⟩ := bd hf
    refine mm_callVi S hR hS hA (As := []) (rest := []) cvX6_85 (hK.k g5) (kX3_isFull_c l G A (hK.k g5) hy4) rfl rfl ⟨Nat.le_of_ble_eq_true rfl, Nat.le_of_ble_eq_true rfl⟩ rfl hl.1 rfl (lv_room (by simp [rf_cat, int_cat, long_cat])) dX6_generator_25 ⟨Nat.zero_le _, Nat.zero_le _⟩ (fun H locs hR hS => ?_)
    have hK : mmKN μ y4.2 := hK.tr (kX3_isFull_kn hy4)
    refine lv_if_eq (tgt := 41) S.1 S.2.1 dX6_generator_28 (by decide) (fun c6 => ?_) (fun c6 => ?_)
    · have hf := it_t hf c6
      refine mm_aload_n S dX6_generator_41 rfl (lv_at hl 0 rfl) ?_
      refine mm_getp S hR fdX6_21 (hK.k hk0) rfl dX6_generator_42 ?_
      refine lv_iload_n S.1 S.2.1 dX6_generator_45 rfl (lv_at hl 1 rfl) ?_
      refine lv_iconst (v := 0) S.1 S.2.1 dX6_generator_46 (by decide) ?_
      refine lv_iconst (v := (-1)) S.1 S.2.1 dX6_generator_47 (by decide) ?_
      obtain ⟨g8, hf⟩ := gd hf
      obtain ⟨y7, hy7, hf⟩ := bd hf
      refine mm_callVh S hR hS hA (As := [.int x1, .int 0, .int (-1)]) (rest := []) cvX6_91 (hK.k g8) (kX3_make_c l G A (hK.k g8) hy7) rfl rfl ⟨Nat.le_of_ble_eq_true rfl, Nat.le_of_ble_eq_true rfl⟩ rfl hl.1 rfl (lv_room (by simp [rf_cat, int_cat, long_cat])) dX6_generator_48 ⟨Nat.zero_le _, Nat.zero_le _⟩ (fun H locs hR hS => ?_)
      have hK : mmKN μ y7.2 := hK.tr (kX3_make_kn hy7)
      obtain ⟨g9, hf⟩ := gd hf
      refine mm_geti S hR fdX6_95 (hK.k g9) rfl dX6_generator_51 ?_
      obtain rfl := Option.some.inj hf
      exact absurd rfl h0n
    · have hf := it_f hf c6
      obtain rfl := Option.some.inj hf
      refine mm_throwS S hR hS hl0 hX thX6_32_89_36 hl.1 hno dX6_generator_31 dX6_generator_34 dX6_generator_35 dX6_generator_37 dX6_generator_40 (Nat.le_of_ble_eq_true rfl) (by simp [rf_cat, int_cat, long_cat]) (Nat.le_of_ble_eq_true rfl) (Nat.le_of_ble_eq_true rfl) hlocks (Nat.le_of_ble_eq_true rfl) (Nat.le_of_ble_eq_true rfl)
  · have hf := it_t hf c3
    obtain rfl := Option.some.inj hf
    refine mm_throwS S hR hS hl0 hX thX6_47_49_51 hl.1 hno dX6_generator_11 dX6_generator_14 dX6_generator_15 dX6_generator_17 dX6_generator_20 (Nat.le_of_ble_eq_true rfl) (by simp [rf_cat, int_cat, long_cat]) (Nat.le_of_ble_eq_true rfl) (Nat.le_of_ble_eq_true rfl) hlocks (Nat.le_of_ble_eq_true rfl) (Nat.le_of_ble_eq_true rfl)
-- X6_resume
def fX6_resume (h0 : Nat) (x1 : Int32) (x2 : Int32) (μ : MM) : Option (Nat × Int32 × MM) :=
  if mK μ (mP μ h0 1) = 4 then (fX3_has (mP μ h0 1) x1 0 μ).bind fun y1 => if y1.1 = 0 then (some (1, 0, y1.2)) else ((fX6_within x2 (-999) 999 y1.2).bind fun y4 => if y4.1 = 0 then (some (2, 0, y4.2)) else (if mK μ (mP y4.2 h0 1) = 4 then (fX3_at (mP y4.2 h0 1) x1 y4.2).bind fun y6 => if mK μ y6.1 = 3 then (fX2_isOver y6.1 y6.2).bind fun y8 => if y8.1 = 0 then (if mK μ (mP y8.2 h0 1) = 4 then (fX3_resumeWith (mP y8.2 h0 1) x1 x2 y8.2).bind fun y11 => some (0, y11.1, y11.2) else none) else (some (3, 0, y8.2)) else none else none)) else none
set_option maxRecDepth 100000 in
set_option maxHeartbeats 4000000 in
theorem kX6_resume_kn {μ : MM} {res : Nat × Int32 × MM} {h0 : Nat} {x1 : Int32} {x2 : Int32} (hf : fX6_resume h0 x1 x2 μ = some res) : mmKN μ res.2.2 := by
  have hK : mmKN μ μ := mmKN.rf
  unfold fX6_resume at hf
  obtain ⟨g2, hf⟩ := gd hf
  obtain ⟨y1, hy1, hf⟩ := bd hf
  have hK : mmKN μ y1.2 := hK.tr (kX3_has_kn hy1)
  rcases it_or hf with ⟨c3, hf⟩ | ⟨c3, hf⟩
  · skip
    obtain rfl := Option.some.inj hf
    exact hK
  · skip
    obtain ⟨y4, hy4, hf⟩ := bd hf
    have hK : mmKN μ y4.2 := hK.tr (kX6_within_kn hy4)
    rcases it_or hf with ⟨c5, hf⟩ | ⟨c5, hf⟩
    · skip
      obtain rfl := Option.some.inj hf
      exact hK
    · skip
      obtain ⟨g7, hf⟩ := gd hf
      obtain ⟨y6, hy6, hf⟩ := bd hf
      have hK : mmKN μ y6.2 := hK.tr (kX3_at_kn hy6)
      obtain ⟨g9, hf⟩ := gd hf
      obtain ⟨y8, hy8, hf⟩ := bd hf
      have hK : mmKN μ y8.2 := hK.tr (kX2_isOver_kn hy8)
      rcases it_or hf with ⟨c10, hf⟩ | ⟨c10, hf⟩
      · skip
        obtain ⟨g12, hf⟩ := gd hf
        obtain ⟨y11, hy11, hf⟩ := bd hf
        have hK : mmKN μ y11.2 := hK.tr (kX3_resumeWith_kn hy11)
        obtain rfl := Option.some.inj hf
        exact hK
      · skip
        obtain rfl := Option.some.inj hf
        exact hK
abbrev rmX6_resume : Room := { frames := 6, cells := 0, slots := 0, locals := 144 }
abbrev rxX6_resume : Room := { frames := 6, cells := 1, slots := 6, locals := 144 }
set_option maxRecDepth 100000 in
set_option maxHeartbeats 4000000 in
theorem kX6_resume_c (l : Launch) (G : mmG) (A : Nat → Prop) {μ : MM} {res : Nat × Int32 × MM} {h0 : Nat} {x1 : Int32} {x2 : Int32} (hk0 : mK μ h0 = 7) (hf : fX6_resume h0 x1 x2 μ = some res) (h0r : res.1 = 0) : Met l yX6_resume [.code yX6_resume cX6_resume 3 (some (.int))] rmX6_resume (mmPc G A μ [rf h0, .int x1, .int x2]) (mmQ G A res.2.2 (some (.int res.2.1))) 0 0 A := by
  refine mm_ofW (by decide +kernel) (by simp [lg_sl, rf_cat, int_cat]) ?_
  intro p e s m below meth c ls S hR hA hS hr hlocks hl hnm
  have hl : lv_has ls 3 [(0, rf h0), (1, .int x1), (2, .int x2)] := by simpa [lv_args, rf_cat, int_cat] using hl
  have E0 : mmEnv p m c cX6_resume 3 s _ RX6 G A meth (some (.int)) := ⟨S, hA, hr, hlocks⟩
  have hK : mmKN μ μ := mmKN.rf
  unfold fX6_resume at hf
  refine mm_aload_n S dX6_resume_0 rfl (lv_at hl 0 rfl) ?_
  refine mm_getp S hR fdX6_21 (hK.k hk0) rfl dX6_resume_1 ?_
  refine lv_iload_n S.1 S.2.1 dX6_resume_4 rfl (lv_at hl 1 rfl) ?_
  refine lv_iconst (v := 0) S.1 S.2.1 dX6_resume_5 (by decide) ?_
  obtain ⟨g2, hf⟩ := gd hf
  obtain ⟨y1, hy1, hf⟩ := bd hf
  refine mm_callVi S hR hS hA (As := [.int x1, .int 0]) (rest := []) cvX6_100 (hK.k g2) (kX3_has_c l G A (hK.k g2) hy1) rfl rfl ⟨Nat.le_of_ble_eq_true rfl, Nat.le_of_ble_eq_true rfl⟩ rfl hl.1 rfl (lv_room (by simp [rf_cat, int_cat, long_cat])) dX6_resume_6 ⟨Nat.zero_le _, Nat.zero_le _⟩ (fun H locs hR hS => ?_)
  have hK : mmKN μ y1.2 := hK.tr (kX3_has_kn hy1)
  refine lv_if_ne (tgt := 22) S.1 S.2.1 dX6_resume_9 (by decide) (fun c3 => ?_) (fun c3 => ?_)
  · have hf := it_f hf c3
    refine lv_iload_n S.1 S.2.1 dX6_resume_22 rfl (lv_at hl 2 rfl) ?_
    refine lv_sipush (v := (-999)) S.1 S.2.1 dX6_resume_23 (by decide) ?_
    refine lv_sipush (v := 999) S.1 S.2.1 dX6_resume_26 (by decide) ?_
    obtain ⟨y4, hy4, hf⟩ := bd hf
    refine mm_callSi S hR hS hA (As := [.int x2, .int (-999), .int 999]) (rest := []) csX6_105 (kX6_within_c l G A hy4) rfl rfl ⟨Nat.le_of_ble_eq_true rfl, Nat.le_of_ble_eq_true rfl⟩ rfl hl.1 rfl (lv_room (by simp [rf_cat, int_cat, long_cat])) dX6_resume_29 ⟨Nat.zero_le _, Nat.zero_le _⟩ (fun H locs hR hS => ?_)
    have hK : mmKN μ y4.2 := hK.tr (kX6_within_kn hy4)
    refine lv_if_ne (tgt := 45) S.1 S.2.1 dX6_resume_32 (by decide) (fun c5 => ?_) (fun c5 => ?_)
    · have hf := it_f hf c5
      refine mm_aload_n S dX6_resume_45 rfl (lv_at hl 0 rfl) ?_
      refine mm_getp S hR fdX6_21 (hK.k hk0) rfl dX6_resume_46 ?_
      refine lv_iload_n S.1 S.2.1 dX6_resume_49 rfl (lv_at hl 1 rfl) ?_
      obtain ⟨g7, hf⟩ := gd hf
      obtain ⟨y6, hy6, hf⟩ := bd hf
      refine mm_callVh S hR hS hA (As := [.int x1]) (rest := []) cvX6_110 (hK.k g7) (kX3_at_c l G A (hK.k g7) hy6) rfl rfl ⟨Nat.le_of_ble_eq_true rfl, Nat.le_of_ble_eq_true rfl⟩ rfl hl.1 rfl (lv_room (by simp [rf_cat, int_cat, long_cat])) dX6_resume_50 ⟨Nat.zero_le _, Nat.zero_le _⟩ (fun H locs hR hS => ?_)
      have hK : mmKN μ y6.2 := hK.tr (kX3_at_kn hy6)
      obtain ⟨g9, hf⟩ := gd hf
      obtain ⟨y8, hy8, hf⟩ := bd hf
      refine mm_callVi S hR hS hA (As := []) (rest := []) cvX6_113 (hK.k g9) (kX2_isOver_c l G A (hK.k g9) hy8) rfl rfl ⟨Nat.le_of_ble_eq_true rfl, Nat.le_of_ble_eq_true rfl⟩ rfl hl.1 rfl (lv_room (by simp [rf_cat, int_cat, long_cat])) dX6_resume_53 ⟨Nat.zero_le _, Nat.zero_le _⟩ (fun H locs hR hS => ?_)
      have hK : mmKN μ y8.2 := hK.tr (kX2_isOver_kn hy8)
      refine lv_if_eq (tgt := 69) S.1 S.2.1 dX6_resume_56 (by decide) (fun c10 => ?_) (fun c10 => ?_)
      · have hf := it_t hf c10
        refine mm_aload_n S dX6_resume_69 rfl (lv_at hl 0 rfl) ?_
        refine mm_getp S hR fdX6_21 (hK.k hk0) rfl dX6_resume_70 ?_
        refine lv_iload_n S.1 S.2.1 dX6_resume_73 rfl (lv_at hl 1 rfl) ?_
        refine lv_iload_n S.1 S.2.1 dX6_resume_74 rfl (lv_at hl 2 rfl) ?_
        obtain ⟨g12, hf⟩ := gd hf
        obtain ⟨y11, hy11, hf⟩ := bd hf
        refine mm_callVi S hR hS hA (As := [.int x1, .int x2]) (rest := []) cvX6_118 (hK.k g12) (kX3_resumeWith_c l G A (hK.k g12) hy11) rfl rfl ⟨Nat.le_of_ble_eq_true rfl, Nat.le_of_ble_eq_true rfl⟩ rfl hl.1 rfl (lv_room (by simp [rf_cat, int_cat, long_cat])) dX6_resume_75 ⟨Nat.zero_le _, Nat.zero_le _⟩ (fun H locs hR hS => ?_)
        have hK : mmKN μ y11.2 := hK.tr (kX3_resumeWith_kn hy11)
        obtain rfl := Option.some.inj hf
        exact mm_iret S hR hS hr hlocks dX6_resume_78
      · have hf := it_f hf c10
        obtain rfl := Option.some.inj hf
        exact absurd h0r (by simp)
    · have hf := it_t hf c5
      obtain rfl := Option.some.inj hf
      exact absurd h0r (by simp)
  · have hf := it_t hf c3
    obtain rfl := Option.some.inj hf
    exact absurd h0r (by simp)
set_option maxRecDepth 100000 in
set_option maxHeartbeats 4000000 in
theorem kX6_resume_x (l : Launch) (hl0 : l.stackTraces = false) (G : mmG) (A : Nat → Prop) {μ : MM} {res : Nat × Int32 × MM} {h0 : Nat} {x1 : Int32} {x2 : Int32} (hk0 : mK μ h0 = 7) (hf : fX6_resume h0 x1 x2 μ = some res) (h0n : ¬ res.1 = 0) : vx_Met l yX6_resume [.code yX6_resume cX6_resume 3 (some (.int))] rxX6_resume (mmPx G A μ [rf h0, .int x1, .int x2]) (fun _ _ _ _ => False) (mmXC G A res.2.2 (exn res.1)) 1 6 A := by
  refine mm_ofX (by decide +kernel) (by simp [lg_sl, rf_cat, int_cat]) ?_
  intro p e s m below meth c ls S hR hA hS hr hlocks hl hX hno
  have hl : lv_has ls 3 [(0, rf h0), (1, .int x1), (2, .int x2)] := by simpa [lv_args, rf_cat, int_cat] using hl
  have hK : mmKN μ μ := mmKN.rf
  unfold fX6_resume at hf
  refine mm_aload_n S dX6_resume_0 rfl (lv_at hl 0 rfl) ?_
  refine mm_getp S hR fdX6_21 (hK.k hk0) rfl dX6_resume_1 ?_
  refine lv_iload_n S.1 S.2.1 dX6_resume_4 rfl (lv_at hl 1 rfl) ?_
  refine lv_iconst (v := 0) S.1 S.2.1 dX6_resume_5 (by decide) ?_
  obtain ⟨g2, hf⟩ := gd hf
  obtain ⟨y1, hy1, hf⟩ := bd hf
  refine mm_callVi S hR hS hA (As := [.int x1, .int 0]) (rest := []) cvX6_100 (hK.k g2) (kX3_has_c l G A (hK.k g2) hy1) rfl rfl ⟨Nat.le_of_ble_eq_true rfl, Nat.le_of_ble_eq_true rfl⟩ rfl hl.1 rfl (lv_room (by simp [rf_cat, int_cat, long_cat])) dX6_resume_6 ⟨Nat.zero_le _, Nat.zero_le _⟩ (fun H locs hR hS => ?_)
  have hK : mmKN μ y1.2 := hK.tr (kX3_has_kn hy1)
  refine lv_if_ne (tgt := 22) S.1 S.2.1 dX6_resume_9 (by decide) (fun c3 => ?_) (fun c3 => ?_)
  · have hf := it_f hf c3
    refine lv_iload_n S.1 S.2.1 dX6_resume_22 rfl (lv_at hl 2 rfl) ?_
    refine lv_sipush (v := (-999)) S.1 S.2.1 dX6_resume_23 (by decide) ?_
    refine lv_sipush (v := 999) S.1 S.2.1 dX6_resume_26 (by decide) ?_
    obtain ⟨y4, hy4, hf⟩ := bd hf
    refine mm_callSi S hR hS hA (As := [.int x2, .int (-999), .int 999]) (rest := []) csX6_105 (kX6_within_c l G A hy4) rfl rfl ⟨Nat.le_of_ble_eq_true rfl, Nat.le_of_ble_eq_true rfl⟩ rfl hl.1 rfl (lv_room (by simp [rf_cat, int_cat, long_cat])) dX6_resume_29 ⟨Nat.zero_le _, Nat.zero_le _⟩ (fun H locs hR hS => ?_)
    have hK : mmKN μ y4.2 := hK.tr (kX6_within_kn hy4)
    refine lv_if_ne (tgt := 45) S.1 S.2.1 dX6_resume_32 (by decide) (fun c5 => ?_) (fun c5 => ?_)
    · have hf := it_f hf c5
      refine mm_aload_n S dX6_resume_45 rfl (lv_at hl 0 rfl) ?_
      refine mm_getp S hR fdX6_21 (hK.k hk0) rfl dX6_resume_46 ?_
      refine lv_iload_n S.1 S.2.1 dX6_resume_49 rfl (lv_at hl 1 rfl) ?_
      obtain ⟨g7, hf⟩ := gd hf
      obtain ⟨y6, hy6, hf⟩ := bd hf
      refine mm_callVh S hR hS hA (As := [.int x1]) (rest := []) cvX6_110 (hK.k g7) (kX3_at_c l G A (hK.k g7) hy6) rfl rfl ⟨Nat.le_of_ble_eq_true rfl, Nat.le_of_ble_eq_true rfl⟩ rfl hl.1 rfl (lv_room (by simp [rf_cat, int_cat, long_cat])) dX6_resume_50 ⟨Nat.zero_le _, Nat.zero_le _⟩ (fun H locs hR hS => ?_)
      have hK : mmKN μ y6.2 := hK.tr (kX3_at_kn hy6)
      obtain ⟨g9, hf⟩ := gd hf
      obtain ⟨y8, hy8, hf⟩ := bd hf
      refine mm_callVi S hR hS hA (As := []) (rest := []) cvX6_113 (hK.k g9) (kX2_isOver_c l G A (hK.k g9) hy8) rfl rfl ⟨Nat.le_of_ble_eq_true rfl, Nat.le_of_ble_eq_true rfl⟩ rfl hl.1 rfl (lv_room (by simp [rf_cat, int_cat, long_cat])) dX6_resume_53 ⟨Nat.zero_le _, Nat.zero_le _⟩ (fun H locs hR hS => ?_)
      have hK : mmKN μ y8.2 := hK.tr (kX2_isOver_kn hy8)
      refine lv_if_eq (tgt := 69) S.1 S.2.1 dX6_resume_56 (by decide) (fun c10 => ?_) (fun c10 => ?_)
      · have hf := it_t hf c10
        refine mm_aload_n S dX6_resume_69 rfl (lv_at hl 0 rfl) ?_
        refine mm_getp S hR fdX6_21 (hK.k hk0) rfl dX6_resume_70 ?_
        refine lv_iload_n S.1 S.2.1 dX6_resume_73 rfl (lv_at hl 1 rfl) ?_
        refine lv_iload_n S.1 S.2.1 dX6_resume_74 rfl (lv_at hl 2 rfl) ?_
        obtain ⟨g12, hf⟩ := gd hf
        obtain ⟨y11, hy11, hf⟩ := bd hf
        refine mm_callVi S hR hS hA (As := [.int x1, .int x2]) (rest := []) cvX6_118 (hK.k g12) (kX3_resumeWith_c l G A (hK.k g12) hy11) rfl rfl ⟨Nat.le_of_ble_eq_true rfl, Nat.le_of_ble_eq_true rfl⟩ rfl hl.1 rfl (lv_room (by simp [rf_cat, int_cat, long_cat])) dX6_resume_75 ⟨Nat.zero_le _, Nat.zero_le _⟩ (fun H locs hR hS => ?_)
        have hK : mmKN μ y11.2 := hK.tr (kX3_resumeWith_kn hy11)
        obtain rfl := Option.some.inj hf
        exact absurd rfl h0n
      · have hf := it_f hf c10
        obtain rfl := Option.some.inj hf
        refine mm_throwS S hR hS hl0 hX thX6_32_116_36 hl.1 hno dX6_resume_59 dX6_resume_62 dX6_resume_63 dX6_resume_65 dX6_resume_68 (Nat.le_of_ble_eq_true rfl) (by simp [rf_cat, int_cat, long_cat]) (Nat.le_of_ble_eq_true rfl) (Nat.le_of_ble_eq_true rfl) hlocks (Nat.le_of_ble_eq_true rfl) (Nat.le_of_ble_eq_true rfl)
    · have hf := it_t hf c5
      obtain rfl := Option.some.inj hf
      refine mm_throwS S hR hS hl0 hX thX6_62_108_66 hl.1 hno dX6_resume_35 dX6_resume_38 dX6_resume_39 dX6_resume_41 dX6_resume_44 (Nat.le_of_ble_eq_true rfl) (by simp [rf_cat, int_cat, long_cat]) (Nat.le_of_ble_eq_true rfl) (Nat.le_of_ble_eq_true rfl) hlocks (Nat.le_of_ble_eq_true rfl) (Nat.le_of_ble_eq_true rfl)
  · have hf := it_t hf c3
    obtain rfl := Option.some.inj hf
    refine mm_throwS S hR hS hl0 hX thX6_47_103_51 hl.1 hno dX6_resume_12 dX6_resume_15 dX6_resume_16 dX6_resume_18 dX6_resume_21 (Nat.le_of_ble_eq_true rfl) (by simp [rf_cat, int_cat, long_cat]) (Nat.le_of_ble_eq_true rfl) (Nat.le_of_ble_eq_true rfl) hlocks (Nat.le_of_ble_eq_true rfl) (Nat.le_of_ble_eq_true rfl)
-- X6_raise
def fX6_raise (h0 : Nat) (x1 : Int32) (x2 : Int32) (μ : MM) : Option (Nat × Int32 × MM) :=
  if mK μ (mP μ h0 1) = 4 then (fX3_has (mP μ h0 1) x1 0 μ).bind fun y1 => if y1.1 = 0 then (some (1, 0, y1.2)) else ((fX6_within x2 1 7 y1.2).bind fun y4 => if y4.1 = 0 then (some (2, 0, y4.2)) else (if mK μ (mP y4.2 h0 1) = 4 then (fX3_at (mP y4.2 h0 1) x1 y4.2).bind fun y6 => if mK μ y6.1 = 3 then (fX2_isOver y6.1 y6.2).bind fun y8 => if y8.1 = 0 then (if mK μ (mP y8.2 h0 1) = 4 then (fX3_throwInto (mP y8.2 h0 1) x1 x2 y8.2).bind fun y11 => some (0, y11.1, y11.2) else none) else (some (3, 0, y8.2)) else none else none)) else none
set_option maxRecDepth 100000 in
set_option maxHeartbeats 4000000 in
theorem kX6_raise_kn {μ : MM} {res : Nat × Int32 × MM} {h0 : Nat} {x1 : Int32} {x2 : Int32} (hf : fX6_raise h0 x1 x2 μ = some res) : mmKN μ res.2.2 := by
  have hK : mmKN μ μ := mmKN.rf
  unfold fX6_raise at hf
  obtain ⟨g2, hf⟩ := gd hf
  obtain ⟨y1, hy1, hf⟩ := bd hf
  have hK : mmKN μ y1.2 := hK.tr (kX3_has_kn hy1)
  rcases it_or hf with ⟨c3, hf⟩ | ⟨c3, hf⟩
  · skip
    obtain rfl := Option.some.inj hf
    exact hK
  · skip
    obtain ⟨y4, hy4, hf⟩ := bd hf
    have hK : mmKN μ y4.2 := hK.tr (kX6_within_kn hy4)
    rcases it_or hf with ⟨c5, hf⟩ | ⟨c5, hf⟩
    · skip
      obtain rfl := Option.some.inj hf
      exact hK
    · skip
      obtain ⟨g7, hf⟩ := gd hf
      obtain ⟨y6, hy6, hf⟩ := bd hf
      have hK : mmKN μ y6.2 := hK.tr (kX3_at_kn hy6)
      obtain ⟨g9, hf⟩ := gd hf
      obtain ⟨y8, hy8, hf⟩ := bd hf
      have hK : mmKN μ y8.2 := hK.tr (kX2_isOver_kn hy8)
      rcases it_or hf with ⟨c10, hf⟩ | ⟨c10, hf⟩
      · skip
        obtain ⟨g12, hf⟩ := gd hf
        obtain ⟨y11, hy11, hf⟩ := bd hf
        have hK : mmKN μ y11.2 := hK.tr (kX3_throwInto_kn hy11)
        obtain rfl := Option.some.inj hf
        exact hK
      · skip
        obtain rfl := Option.some.inj hf
        exact hK
abbrev rmX6_raise : Room := { frames := 6, cells := 0, slots := 0, locals := 144 }
abbrev rxX6_raise : Room := { frames := 6, cells := 1, slots := 6, locals := 144 }
set_option maxRecDepth 100000 in
set_option maxHeartbeats 4000000 in
theorem kX6_raise_c (l : Launch) (G : mmG) (A : Nat → Prop) {μ : MM} {res : Nat × Int32 × MM} {h0 : Nat} {x1 : Int32} {x2 : Int32} (hk0 : mK μ h0 = 7) (hf : fX6_raise h0 x1 x2 μ = some res) (h0r : res.1 = 0) : Met l yX6_raise [.code yX6_raise cX6_raise 3 (some (.int))] rmX6_raise (mmPc G A μ [rf h0, .int x1, .int x2]) (mmQ G A res.2.2 (some (.int res.2.1))) 0 0 A := by
  refine mm_ofW (by decide +kernel) (by simp [lg_sl, rf_cat, int_cat]) ?_
  intro p e s m below meth c ls S hR hA hS hr hlocks hl hnm
  have hl : lv_has ls 3 [(0, rf h0), (1, .int x1), (2, .int x2)] := by simpa [lv_args, rf_cat, int_cat] using hl
  have E0 : mmEnv p m c cX6_raise 3 s _ RX6 G A meth (some (.int)) := ⟨S, hA, hr, hlocks⟩
  have hK : mmKN μ μ := mmKN.rf
  unfold fX6_raise at hf
  refine mm_aload_n S dX6_raise_0 rfl (lv_at hl 0 rfl) ?_
  refine mm_getp S hR fdX6_21 (hK.k hk0) rfl dX6_raise_1 ?_
  refine lv_iload_n S.1 S.2.1 dX6_raise_4 rfl (lv_at hl 1 rfl) ?_
  refine lv_iconst (v := 0) S.1 S.2.1 dX6_raise_5 (by decide) ?_
  obtain ⟨g2, hf⟩ := gd hf
  obtain ⟨y1, hy1, hf⟩ := bd hf
  refine mm_callVi S hR hS hA (As := [.int x1, .int 0]) (rest := []) cvX6_100 (hK.k g2) (kX3_has_c l G A (hK.k g2) hy1) rfl rfl ⟨Nat.le_of_ble_eq_true rfl, Nat.le_of_ble_eq_true rfl⟩ rfl hl.1 rfl (lv_room (by simp [rf_cat, int_cat, long_cat])) dX6_raise_6 ⟨Nat.zero_le _, Nat.zero_le _⟩ (fun H locs hR hS => ?_)
  have hK : mmKN μ y1.2 := hK.tr (kX3_has_kn hy1)
  refine lv_if_ne (tgt := 22) S.1 S.2.1 dX6_raise_9 (by decide) (fun c3 => ?_) (fun c3 => ?_)
  · have hf := it_f hf c3
    refine lv_iload_n S.1 S.2.1 dX6_raise_22 rfl (lv_at hl 2 rfl) ?_
    refine lv_iconst (v := 1) S.1 S.2.1 dX6_raise_23 (by decide) ?_
    refine lv_bipush (v := 7) S.1 S.2.1 dX6_raise_24 (by decide) ?_
    obtain ⟨y4, hy4, hf⟩ := bd hf
    refine mm_callSi S hR hS hA (As := [.int x2, .int 1, .int 7]) (rest := []) csX6_105 (kX6_within_c l G A hy4) rfl rfl ⟨Nat.le_of_ble_eq_true rfl, Nat.le_of_ble_eq_true rfl⟩ rfl hl.1 rfl (lv_room (by simp [rf_cat, int_cat, long_cat])) dX6_raise_26 ⟨Nat.zero_le _, Nat.zero_le _⟩ (fun H locs hR hS => ?_)
    have hK : mmKN μ y4.2 := hK.tr (kX6_within_kn hy4)
    refine lv_if_ne (tgt := 42) S.1 S.2.1 dX6_raise_29 (by decide) (fun c5 => ?_) (fun c5 => ?_)
    · have hf := it_f hf c5
      refine mm_aload_n S dX6_raise_42 rfl (lv_at hl 0 rfl) ?_
      refine mm_getp S hR fdX6_21 (hK.k hk0) rfl dX6_raise_43 ?_
      refine lv_iload_n S.1 S.2.1 dX6_raise_46 rfl (lv_at hl 1 rfl) ?_
      obtain ⟨g7, hf⟩ := gd hf
      obtain ⟨y6, hy6, hf⟩ := bd hf
      refine mm_callVh S hR hS hA (As := [.int x1]) (rest := []) cvX6_110 (hK.k g7) (kX3_at_c l G A (hK.k g7) hy6) rfl rfl ⟨Nat.le_of_ble_eq_true rfl, Nat.le_of_ble_eq_true rfl⟩ rfl hl.1 rfl (lv_room (by simp [rf_cat, int_cat, long_cat])) dX6_raise_47 ⟨Nat.zero_le _, Nat.zero_le _⟩ (fun H locs hR hS => ?_)
      have hK : mmKN μ y6.2 := hK.tr (kX3_at_kn hy6)
      obtain ⟨g9, hf⟩ := gd hf
      obtain ⟨y8, hy8, hf⟩ := bd hf
      refine mm_callVi S hR hS hA (As := []) (rest := []) cvX6_113 (hK.k g9) (kX2_isOver_c l G A (hK.k g9) hy8) rfl rfl ⟨Nat.le_of_ble_eq_true rfl, Nat.le_of_ble_eq_true rfl⟩ rfl hl.1 rfl (lv_room (by simp [rf_cat, int_cat, long_cat])) dX6_raise_50 ⟨Nat.zero_le _, Nat.zero_le _⟩ (fun H locs hR hS => ?_)
      have hK : mmKN μ y8.2 := hK.tr (kX2_isOver_kn hy8)
      refine lv_if_eq (tgt := 66) S.1 S.2.1 dX6_raise_53 (by decide) (fun c10 => ?_) (fun c10 => ?_)
      · have hf := it_t hf c10
        refine mm_aload_n S dX6_raise_66 rfl (lv_at hl 0 rfl) ?_
        refine mm_getp S hR fdX6_21 (hK.k hk0) rfl dX6_raise_67 ?_
        refine lv_iload_n S.1 S.2.1 dX6_raise_70 rfl (lv_at hl 1 rfl) ?_
        refine lv_iload_n S.1 S.2.1 dX6_raise_71 rfl (lv_at hl 2 rfl) ?_
        obtain ⟨g12, hf⟩ := gd hf
        obtain ⟨y11, hy11, hf⟩ := bd hf
        refine mm_callVi S hR hS hA (As := [.int x1, .int x2]) (rest := []) cvX6_124 (hK.k g12) (kX3_throwInto_c l G A (hK.k g12) hy11) rfl rfl ⟨Nat.le_of_ble_eq_true rfl, Nat.le_of_ble_eq_true rfl⟩ rfl hl.1 rfl (lv_room (by simp [rf_cat, int_cat, long_cat])) dX6_raise_72 ⟨Nat.zero_le _, Nat.zero_le _⟩ (fun H locs hR hS => ?_)
        have hK : mmKN μ y11.2 := hK.tr (kX3_throwInto_kn hy11)
        obtain rfl := Option.some.inj hf
        exact mm_iret S hR hS hr hlocks dX6_raise_75
      · have hf := it_f hf c10
        obtain rfl := Option.some.inj hf
        exact absurd h0r (by simp)
    · have hf := it_t hf c5
      obtain rfl := Option.some.inj hf
      exact absurd h0r (by simp)
  · have hf := it_t hf c3
    obtain rfl := Option.some.inj hf
    exact absurd h0r (by simp)
set_option maxRecDepth 100000 in
set_option maxHeartbeats 4000000 in
theorem kX6_raise_x (l : Launch) (hl0 : l.stackTraces = false) (G : mmG) (A : Nat → Prop) {μ : MM} {res : Nat × Int32 × MM} {h0 : Nat} {x1 : Int32} {x2 : Int32} (hk0 : mK μ h0 = 7) (hf : fX6_raise h0 x1 x2 μ = some res) (h0n : ¬ res.1 = 0) : vx_Met l yX6_raise [.code yX6_raise cX6_raise 3 (some (.int))] rxX6_raise (mmPx G A μ [rf h0, .int x1, .int x2]) (fun _ _ _ _ => False) (mmXC G A res.2.2 (exn res.1)) 1 6 A := by
  refine mm_ofX (by decide +kernel) (by simp [lg_sl, rf_cat, int_cat]) ?_
  intro p e s m below meth c ls S hR hA hS hr hlocks hl hX hno
  have hl : lv_has ls 3 [(0, rf h0), (1, .int x1), (2, .int x2)] := by simpa [lv_args, rf_cat, int_cat] using hl
  have hK : mmKN μ μ := mmKN.rf
  unfold fX6_raise at hf
  refine mm_aload_n S dX6_raise_0 rfl (lv_at hl 0 rfl) ?_
  refine mm_getp S hR fdX6_21 (hK.k hk0) rfl dX6_raise_1 ?_
  refine lv_iload_n S.1 S.2.1 dX6_raise_4 rfl (lv_at hl 1 rfl) ?_
  refine lv_iconst (v := 0) S.1 S.2.1 dX6_raise_5 (by decide) ?_
  obtain ⟨g2, hf⟩ := gd hf
  obtain ⟨y1, hy1, hf⟩ := bd hf
  refine mm_callVi S hR hS hA (As := [.int x1, .int 0]) (rest := []) cvX6_100 (hK.k g2) (kX3_has_c l G A (hK.k g2) hy1) rfl rfl ⟨Nat.le_of_ble_eq_true rfl, Nat.le_of_ble_eq_true rfl⟩ rfl hl.1 rfl (lv_room (by simp [rf_cat, int_cat, long_cat])) dX6_raise_6 ⟨Nat.zero_le _, Nat.zero_le _⟩ (fun H locs hR hS => ?_)
  have hK : mmKN μ y1.2 := hK.tr (kX3_has_kn hy1)
  refine lv_if_ne (tgt := 22) S.1 S.2.1 dX6_raise_9 (by decide) (fun c3 => ?_) (fun c3 => ?_)
  · have hf := it_f hf c3
    refine lv_iload_n S.1 S.2.1 dX6_raise_22 rfl (lv_at hl 2 rfl) ?_
    refine lv_iconst (v := 1) S.1 S.2.1 dX6_raise_23 (by decide) ?_
    refine lv_bipush (v := 7) S.1 S.2.1 dX6_raise_24 (by decide) ?_
    obtain ⟨y4, hy4, hf⟩ := bd hf
    refine mm_callSi S hR hS hA (As := [.int x2, .int 1, .int 7]) (rest := []) csX6_105 (kX6_within_c l G A hy4) rfl rfl ⟨Nat.le_of_ble_eq_true rfl, Nat.le_of_ble_eq_true rfl⟩ rfl hl.1 rfl (lv_room (by simp [rf_cat, int_cat, long_cat])) dX6_raise_26 ⟨Nat.zero_le _, Nat.zero_le _⟩ (fun H locs hR hS => ?_)
    have hK : mmKN μ y4.2 := hK.tr (kX6_within_kn hy4)
    refine lv_if_ne (tgt := 42) S.1 S.2.1 dX6_raise_29 (by decide) (fun c5 => ?_) (fun c5 => ?_)
    · have hf := it_f hf c5
      refine mm_aload_n S dX6_raise_42 rfl (lv_at hl 0 rfl) ?_
      refine mm_getp S hR fdX6_21 (hK.k hk0) rfl dX6_raise_43 ?_
      refine lv_iload_n S.1 S.2.1 dX6_raise_46 rfl (lv_at hl 1 rfl) ?_
      obtain ⟨g7, hf⟩ := gd hf
      obtain ⟨y6, hy6, hf⟩ := bd hf
      refine mm_callVh S hR hS hA (As := [.int x1]) (rest := []) cvX6_110 (hK.k g7) (kX3_at_c l G A (hK.k g7) hy6) rfl rfl ⟨Nat.le_of_ble_eq_true rfl, Nat.le_of_ble_eq_true rfl⟩ rfl hl.1 rfl (lv_room (by simp [rf_cat, int_cat, long_cat])) dX6_raise_47 ⟨Nat.zero_le _, Nat.zero_le _⟩ (fun H locs hR hS => ?_)
      have hK : mmKN μ y6.2 := hK.tr (kX3_at_kn hy6)
      obtain ⟨g9, hf⟩ := gd hf
      obtain ⟨y8, hy8, hf⟩ := bd hf
      refine mm_callVi S hR hS hA (As := []) (rest := []) cvX6_113 (hK.k g9) (kX2_isOver_c l G A (hK.k g9) hy8) rfl rfl ⟨Nat.le_of_ble_eq_true rfl, Nat.le_of_ble_eq_true rfl⟩ rfl hl.1 rfl (lv_room (by simp [rf_cat, int_cat, long_cat])) dX6_raise_50 ⟨Nat.zero_le _, Nat.zero_le _⟩ (fun H locs hR hS => ?_)
      have hK : mmKN μ y8.2 := hK.tr (kX2_isOver_kn hy8)
      refine lv_if_eq (tgt := 66) S.1 S.2.1 dX6_raise_53 (by decide) (fun c10 => ?_) (fun c10 => ?_)
      · have hf := it_t hf c10
        refine mm_aload_n S dX6_raise_66 rfl (lv_at hl 0 rfl) ?_
        refine mm_getp S hR fdX6_21 (hK.k hk0) rfl dX6_raise_67 ?_
        refine lv_iload_n S.1 S.2.1 dX6_raise_70 rfl (lv_at hl 1 rfl) ?_
        refine lv_iload_n S.1 S.2.1 dX6_raise_71 rfl (lv_at hl 2 rfl) ?_
        obtain ⟨g12, hf⟩ := gd hf
        obtain ⟨y11, hy11, hf⟩ := bd hf
        refine mm_callVi S hR hS hA (As := [.int x1, .int x2]) (rest := []) cvX6_124 (hK.k g12) (kX3_throwInto_c l G A (hK.k g12) hy11) rfl rfl ⟨Nat.le_of_ble_eq_true rfl, Nat.le_of_ble_eq_true rfl⟩ rfl hl.1 rfl (lv_room (by simp [rf_cat, int_cat, long_cat])) dX6_raise_72 ⟨Nat.zero_le _, Nat.zero_le _⟩ (fun H locs hR hS => ?_)
        have hK : mmKN μ y11.2 := hK.tr (kX3_throwInto_kn hy11)
        obtain rfl := Option.some.inj hf
        exact absurd rfl h0n
      · have hf := it_f hf c10
        obtain rfl := Option.some.inj hf
        refine mm_throwS S hR hS hl0 hX thX6_32_116_36 hl.1 hno dX6_raise_56 dX6_raise_59 dX6_raise_60 dX6_raise_62 dX6_raise_65 (Nat.le_of_ble_eq_true rfl) (by simp [rf_cat, int_cat, long_cat]) (Nat.le_of_ble_eq_true rfl) (Nat.le_of_ble_eq_true rfl) hlocks (Nat.le_of_ble_eq_true rfl) (Nat.le_of_ble_eq_true rfl)
    · have hf := it_t hf c5
      obtain rfl := Option.some.inj hf
      refine mm_throwS S hR hS hl0 hX thX6_62_122_66 hl.1 hno dX6_raise_32 dX6_raise_35 dX6_raise_36 dX6_raise_38 dX6_raise_41 (Nat.le_of_ble_eq_true rfl) (by simp [rf_cat, int_cat, long_cat]) (Nat.le_of_ble_eq_true rfl) (Nat.le_of_ble_eq_true rfl) hlocks (Nat.le_of_ble_eq_true rfl) (Nat.le_of_ble_eq_true rfl)
  · have hf := it_t hf c3
    obtain rfl := Option.some.inj hf
    refine mm_throwS S hR hS hl0 hX thX6_47_103_51 hl.1 hno dX6_raise_12 dX6_raise_15 dX6_raise_16 dX6_raise_18 dX6_raise_21 (Nat.le_of_ble_eq_true rfl) (by simp [rf_cat, int_cat, long_cat]) (Nat.le_of_ble_eq_true rfl) (Nat.le_of_ble_eq_true rfl) hlocks (Nat.le_of_ble_eq_true rfl) (Nat.le_of_ble_eq_true rfl)
-- X6_close
def fX6_close (h0 : Nat) (x1 : Int32) (μ : MM) : Option (Nat × Int32 × MM) :=
  if mK μ (mP μ h0 1) = 4 then (fX3_has (mP μ h0 1) x1 0 μ).bind fun y1 => if y1.1 = 0 then (some (1, 0, y1.2)) else (if mK μ (mP y1.2 h0 1) = 4 then (fX3_closeAll (mP y1.2 h0 1) x1 y1.2).bind fun y4 => some (0, y4.1, y4.2) else none) else none
set_option maxRecDepth 100000 in
set_option maxHeartbeats 4000000 in
theorem kX6_close_kn {μ : MM} {res : Nat × Int32 × MM} {h0 : Nat} {x1 : Int32} (hf : fX6_close h0 x1 μ = some res) : mmKN μ res.2.2 := by
  have hK : mmKN μ μ := mmKN.rf
  unfold fX6_close at hf
  obtain ⟨g2, hf⟩ := gd hf
  obtain ⟨y1, hy1, hf⟩ := bd hf
  have hK : mmKN μ y1.2 := hK.tr (kX3_has_kn hy1)
  rcases it_or hf with ⟨c3, hf⟩ | ⟨c3, hf⟩
  · skip
    obtain rfl := Option.some.inj hf
    exact hK
  · skip
    obtain ⟨g5, hf⟩ := gd hf
    obtain ⟨y4, hy4, hf⟩ := bd hf
    have hK : mmKN μ y4.2 := hK.tr (kX3_closeAll_kn hy4)
    obtain rfl := Option.some.inj hf
    exact hK
abbrev rmX6_close : Room := { frames := 6, cells := 0, slots := 0, locals := 146 }
abbrev rxX6_close : Room := { frames := 6, cells := 1, slots := 6, locals := 146 }
set_option maxRecDepth 100000 in
set_option maxHeartbeats 4000000 in
theorem kX6_close_c (l : Launch) (G : mmG) (A : Nat → Prop) {μ : MM} {res : Nat × Int32 × MM} {h0 : Nat} {x1 : Int32} (hk0 : mK μ h0 = 7) (hf : fX6_close h0 x1 μ = some res) (h0r : res.1 = 0) : Met l yX6_close [.code yX6_close cX6_close 2 (some (.int))] rmX6_close (mmPc G A μ [rf h0, .int x1]) (mmQ G A res.2.2 (some (.int res.2.1))) 0 0 A := by
  refine mm_ofW (by decide +kernel) (by simp [lg_sl, rf_cat, int_cat]) ?_
  intro p e s m below meth c ls S hR hA hS hr hlocks hl hnm
  have hl : lv_has ls 2 [(0, rf h0), (1, .int x1)] := by simpa [lv_args, rf_cat, int_cat] using hl
  have E0 : mmEnv p m c cX6_close 2 s _ RX6 G A meth (some (.int)) := ⟨S, hA, hr, hlocks⟩
  have hK : mmKN μ μ := mmKN.rf
  unfold fX6_close at hf
  refine mm_aload_n S dX6_close_0 rfl (lv_at hl 0 rfl) ?_
  refine mm_getp S hR fdX6_21 (hK.k hk0) rfl dX6_close_1 ?_
  refine lv_iload_n S.1 S.2.1 dX6_close_4 rfl (lv_at hl 1 rfl) ?_
  refine lv_iconst (v := 0) S.1 S.2.1 dX6_close_5 (by decide) ?_
  obtain ⟨g2, hf⟩ := gd hf
  obtain ⟨y1, hy1, hf⟩ := bd hf
  refine mm_callVi S hR hS hA (As := [.int x1, .int 0]) (rest := []) cvX6_100 (hK.k g2) (kX3_has_c l G A (hK.k g2) hy1) rfl rfl ⟨Nat.le_of_ble_eq_true rfl, Nat.le_of_ble_eq_true rfl⟩ rfl hl.1 rfl (lv_room (by simp [rf_cat, int_cat, long_cat])) dX6_close_6 ⟨Nat.zero_le _, Nat.zero_le _⟩ (fun H locs hR hS => ?_)
  have hK : mmKN μ y1.2 := hK.tr (kX3_has_kn hy1)
  refine lv_if_ne (tgt := 22) S.1 S.2.1 dX6_close_9 (by decide) (fun c3 => ?_) (fun c3 => ?_)
  · have hf := it_f hf c3
    refine mm_aload_n S dX6_close_22 rfl (lv_at hl 0 rfl) ?_
    refine mm_getp S hR fdX6_21 (hK.k hk0) rfl dX6_close_23 ?_
    refine lv_iload_n S.1 S.2.1 dX6_close_26 rfl (lv_at hl 1 rfl) ?_
    obtain ⟨g5, hf⟩ := gd hf
    obtain ⟨y4, hy4, hf⟩ := bd hf
    refine mm_callVi S hR hS hA (As := [.int x1]) (rest := []) cvX6_127 (hK.k g5) (kX3_closeAll_c l G A (hK.k g5) hy4) rfl rfl ⟨Nat.le_of_ble_eq_true rfl, Nat.le_of_ble_eq_true rfl⟩ rfl hl.1 rfl (lv_room (by simp [rf_cat, int_cat, long_cat])) dX6_close_27 ⟨Nat.zero_le _, Nat.zero_le _⟩ (fun H locs hR hS => ?_)
    have hK : mmKN μ y4.2 := hK.tr (kX3_closeAll_kn hy4)
    obtain rfl := Option.some.inj hf
    exact mm_iret S hR hS hr hlocks dX6_close_30
  · have hf := it_t hf c3
    obtain rfl := Option.some.inj hf
    exact absurd h0r (by simp)
set_option maxRecDepth 100000 in
set_option maxHeartbeats 4000000 in
theorem kX6_close_x (l : Launch) (hl0 : l.stackTraces = false) (G : mmG) (A : Nat → Prop) {μ : MM} {res : Nat × Int32 × MM} {h0 : Nat} {x1 : Int32} (hk0 : mK μ h0 = 7) (hf : fX6_close h0 x1 μ = some res) (h0n : ¬ res.1 = 0) : vx_Met l yX6_close [.code yX6_close cX6_close 2 (some (.int))] rxX6_close (mmPx G A μ [rf h0, .int x1]) (fun _ _ _ _ => False) (mmXC G A res.2.2 (exn res.1)) 1 6 A := by
  refine mm_ofX (by decide +kernel) (by simp [lg_sl, rf_cat, int_cat]) ?_
  intro p e s m below meth c ls S hR hA hS hr hlocks hl hX hno
  have hl : lv_has ls 2 [(0, rf h0), (1, .int x1)] := by simpa [lv_args, rf_cat, int_cat] using hl
  have hK : mmKN μ μ := mmKN.rf
  unfold fX6_close at hf
  refine mm_aload_n S dX6_close_0 rfl (lv_at hl 0 rfl) ?_
  refine mm_getp S hR fdX6_21 (hK.k hk0) rfl dX6_close_1 ?_
  refine lv_iload_n S.1 S.2.1 dX6_close_4 rfl (lv_at hl 1 rfl) ?_
  refine lv_iconst (v := 0) S.1 S.2.1 dX6_close_5 (by decide) ?_
  obtain ⟨g2, hf⟩ := gd hf
  obtain ⟨y1, hy1, hf⟩ := bd hf
  refine mm_callVi S hR hS hA (As := [.int x1, .int 0]) (rest := []) cvX6_100 (hK.k g2) (kX3_has_c l G A (hK.k g2) hy1) rfl rfl ⟨Nat.le_of_ble_eq_true rfl, Nat.le_of_ble_eq_true rfl⟩ rfl hl.1 rfl (lv_room (by simp [rf_cat, int_cat, long_cat])) dX6_close_6 ⟨Nat.zero_le _, Nat.zero_le _⟩ (fun H locs hR hS => ?_)
  have hK : mmKN μ y1.2 := hK.tr (kX3_has_kn hy1)
  refine lv_if_ne (tgt := 22) S.1 S.2.1 dX6_close_9 (by decide) (fun c3 => ?_) (fun c3 => ?_)
  · have hf := it_f hf c3
    refine mm_aload_n S dX6_close_22 rfl (lv_at hl 0 rfl) ?_
    refine mm_getp S hR fdX6_21 (hK.k hk0) rfl dX6_close_23 ?_
    refine lv_iload_n S.1 S.2.1 dX6_close_26 rfl (lv_at hl 1 rfl) ?_
    obtain ⟨g5, hf⟩ := gd hf
    obtain ⟨y4, hy4, hf⟩ := bd hf
    refine mm_callVi S hR hS hA (As := [.int x1]) (rest := []) cvX6_127 (hK.k g5) (kX3_closeAll_c l G A (hK.k g5) hy4) rfl rfl ⟨Nat.le_of_ble_eq_true rfl, Nat.le_of_ble_eq_true rfl⟩ rfl hl.1 rfl (lv_room (by simp [rf_cat, int_cat, long_cat])) dX6_close_27 ⟨Nat.zero_le _, Nat.zero_le _⟩ (fun H locs hR hS => ?_)
    have hK : mmKN μ y4.2 := hK.tr (kX3_closeAll_kn hy4)
    obtain rfl := Option.some.inj hf
    exact absurd rfl h0n
  · have hf := it_t hf c3
    obtain rfl := Option.some.inj hf
    refine mm_throwS S hR hS hl0 hX thX6_47_103_51 hl.1 hno dX6_close_12 dX6_close_15 dX6_close_16 dX6_close_18 dX6_close_21 (Nat.le_of_ble_eq_true rfl) (by simp [rf_cat, int_cat, long_cat]) (Nat.le_of_ble_eq_true rfl) (Nat.le_of_ble_eq_true rfl) hlocks (Nat.le_of_ble_eq_true rfl) (Nat.le_of_ble_eq_true rfl)
-- X6_start
def fX6_start (h0 : Nat) (x1 : Int32) (μ : MM) : Option (Nat × Int32 × MM) :=
  if mK μ (mP μ h0 0) = 1 then (fX0_has (mP μ h0 0) x1 μ).bind fun y1 => if y1.1 = 0 then (some (1, 0, y1.2)) else (if mK μ (mP y1.2 h0 1) = 4 then (fX3_isFull (mP y1.2 h0 1) y1.2).bind fun y4 => if y4.1 = 0 then (if mK μ (mP y4.2 h0 1) = 4 then (fX3_make (mP y4.2 h0 1) x1 1 (-1) y4.2).bind fun y7 => if mK μ y7.1 = 3 then some (0, (mI y7.2 y7.1 0), y7.2) else none else none) else (some (3, 0, y4.2)) else none) else none
set_option maxRecDepth 100000 in
set_option maxHeartbeats 4000000 in
theorem kX6_start_kn {μ : MM} {res : Nat × Int32 × MM} {h0 : Nat} {x1 : Int32} (hf : fX6_start h0 x1 μ = some res) : mmKN μ res.2.2 := by
  have hK : mmKN μ μ := mmKN.rf
  unfold fX6_start at hf
  obtain ⟨g2, hf⟩ := gd hf
  obtain ⟨y1, hy1, hf⟩ := bd hf
  have hK : mmKN μ y1.2 := hK.tr (kX0_has_kn hy1)
  rcases it_or hf with ⟨c3, hf⟩ | ⟨c3, hf⟩
  · skip
    obtain rfl := Option.some.inj hf
    exact hK
  · skip
    obtain ⟨g5, hf⟩ := gd hf
    obtain ⟨y4, hy4, hf⟩ := bd hf
    have hK : mmKN μ y4.2 := hK.tr (kX3_isFull_kn hy4)
    rcases it_or hf with ⟨c6, hf⟩ | ⟨c6, hf⟩
    · skip
      obtain ⟨g8, hf⟩ := gd hf
      obtain ⟨y7, hy7, hf⟩ := bd hf
      have hK : mmKN μ y7.2 := hK.tr (kX3_make_kn hy7)
      obtain ⟨g9, hf⟩ := gd hf
      obtain rfl := Option.some.inj hf
      exact hK
    · skip
      obtain rfl := Option.some.inj hf
      exact hK
abbrev rmX6_start : Room := { frames := 2, cells := 0, slots := 0, locals := 48 }
abbrev rxX6_start : Room := { frames := 6, cells := 1, slots := 6, locals := 90 }
set_option maxRecDepth 100000 in
set_option maxHeartbeats 4000000 in
theorem kX6_start_c (l : Launch) (G : mmG) (A : Nat → Prop) {μ : MM} {res : Nat × Int32 × MM} {h0 : Nat} {x1 : Int32} (hk0 : mK μ h0 = 7) (hf : fX6_start h0 x1 μ = some res) (h0r : res.1 = 0) : Met l yX6_start [.code yX6_start cX6_start 2 (some (.int))] rmX6_start (mmPc G A μ [rf h0, .int x1]) (mmQ G A res.2.2 (some (.int res.2.1))) 0 0 A := by
  refine mm_ofW (by decide +kernel) (by simp [lg_sl, rf_cat, int_cat]) ?_
  intro p e s m below meth c ls S hR hA hS hr hlocks hl hnm
  have hl : lv_has ls 2 [(0, rf h0), (1, .int x1)] := by simpa [lv_args, rf_cat, int_cat] using hl
  have E0 : mmEnv p m c cX6_start 2 s _ RX6 G A meth (some (.int)) := ⟨S, hA, hr, hlocks⟩
  have hK : mmKN μ μ := mmKN.rf
  unfold fX6_start at hf
  refine mm_aload_n S dX6_start_0 rfl (lv_at hl 0 rfl) ?_
  refine mm_getp S hR fdX6_10 (hK.k hk0) rfl dX6_start_1 ?_
  refine lv_iload_n S.1 S.2.1 dX6_start_4 rfl (lv_at hl 1 rfl) ?_
  obtain ⟨g2, hf⟩ := gd hf
  obtain ⟨y1, hy1, hf⟩ := bd hf
  refine mm_callVi S hR hS hA (As := [.int x1]) (rest := []) cvX6_43 (hK.k g2) (kX0_has_c l G A (hK.k g2) hy1) rfl rfl ⟨Nat.le_of_ble_eq_true rfl, Nat.le_of_ble_eq_true rfl⟩ rfl hl.1 rfl (lv_room (by simp [rf_cat, int_cat, long_cat])) dX6_start_5 ⟨Nat.zero_le _, Nat.zero_le _⟩ (fun H locs hR hS => ?_)
  have hK : mmKN μ y1.2 := hK.tr (kX0_has_kn hy1)
  refine lv_if_ne (tgt := 21) S.1 S.2.1 dX6_start_8 (by decide) (fun c3 => ?_) (fun c3 => ?_)
  · have hf := it_f hf c3
    refine mm_aload_n S dX6_start_21 rfl (lv_at hl 0 rfl) ?_
    refine mm_getp S hR fdX6_21 (hK.k hk0) rfl dX6_start_22 ?_
    obtain ⟨g5, hf⟩ := gd hf
    obtain ⟨y4, hy4, hf⟩ := bd hf
    refine mm_callVi S hR hS hA (As := []) (rest := []) cvX6_85 (hK.k g5) (kX3_isFull_c l G A (hK.k g5) hy4) rfl rfl ⟨Nat.le_of_ble_eq_true rfl, Nat.le_of_ble_eq_true rfl⟩ rfl hl.1 rfl (lv_room (by simp [rf_cat, int_cat, long_cat])) dX6_start_25 ⟨Nat.zero_le _, Nat.zero_le _⟩ (fun H locs hR hS => ?_)
    have hK : mmKN μ y4.2 := hK.tr (kX3_isFull_kn hy4)
    refine lv_if_eq (tgt := 41) S.1 S.2.1 dX6_start_28 (by decide) (fun c6 => ?_) (fun c6 => ?_)
    · have hf := it_t hf c6
      refine mm_aload_n S dX6_start_41 rfl (lv_at hl 0 rfl) ?_
      refine mm_getp S hR fdX6_21 (hK.k hk0) rfl dX6_start_42 ?_
      refine lv_iload_n S.1 S.2.1 dX6_start_45 rfl (lv_at hl 1 rfl) ?_
      refine lv_iconst (v := 1) S.1 S.2.1 dX6_start_46 (by decide) ?_
      refine lv_iconst (v := (-1)) S.1 S.2.1 dX6_start_47 (by decide) ?_
      obtain ⟨g8, hf⟩ := gd hf
      obtain ⟨y7, hy7, hf⟩ := bd hf
      refine mm_callVh S hR hS hA (As := [.int x1, .int 1, .int (-1)]) (rest := []) cvX6_91 (hK.k g8) (kX3_make_c l G A (hK.k g8) hy7) rfl rfl ⟨Nat.le_of_ble_eq_true rfl, Nat.le_of_ble_eq_true rfl⟩ rfl hl.1 rfl (lv_room (by simp [rf_cat, int_cat, long_cat])) dX6_start_48 ⟨Nat.zero_le _, Nat.zero_le _⟩ (fun H locs hR hS => ?_)
      have hK : mmKN μ y7.2 := hK.tr (kX3_make_kn hy7)
      obtain ⟨g9, hf⟩ := gd hf
      refine mm_geti S hR fdX6_95 (hK.k g9) rfl dX6_start_51 ?_
      obtain rfl := Option.some.inj hf
      exact mm_iret S hR hS hr hlocks dX6_start_54
    · have hf := it_f hf c6
      obtain rfl := Option.some.inj hf
      exact absurd h0r (by simp)
  · have hf := it_t hf c3
    obtain rfl := Option.some.inj hf
    exact absurd h0r (by simp)
set_option maxRecDepth 100000 in
set_option maxHeartbeats 4000000 in
theorem kX6_start_x (l : Launch) (hl0 : l.stackTraces = false) (G : mmG) (A : Nat → Prop) {μ : MM} {res : Nat × Int32 × MM} {h0 : Nat} {x1 : Int32} (hk0 : mK μ h0 = 7) (hf : fX6_start h0 x1 μ = some res) (h0n : ¬ res.1 = 0) : vx_Met l yX6_start [.code yX6_start cX6_start 2 (some (.int))] rxX6_start (mmPx G A μ [rf h0, .int x1]) (fun _ _ _ _ => False) (mmXC G A res.2.2 (exn res.1)) 1 6 A := by
  refine mm_ofX (by decide +kernel) (by simp [lg_sl, rf_cat, int_cat]) ?_
  intro p e s m below meth c ls S hR hA hS hr hlocks hl hX hno
  have hl : lv_has ls 2 [(0, rf h0), (1, .int x1)] := by simpa [lv_args, rf_cat, int_cat] using hl
  have hK : mmKN μ μ := mmKN.rf
  unfold fX6_start at hf
  refine mm_aload_n S dX6_start_0 rfl (lv_at hl 0 rfl) ?_
  refine mm_getp S hR fdX6_10 (hK.k hk0) rfl dX6_start_1 ?_
  refine lv_iload_n S.1 S.2.1 dX6_start_4 rfl (lv_at hl 1 rfl) ?_
  obtain ⟨g2, hf⟩ := gd hf
  obtain ⟨y1, hy1, hf⟩ := bd hf
  refine mm_callVi S hR hS hA (As := [.int x1]) (rest := []) cvX6_43 (hK.k g2) (kX0_has_c l G A (hK.k g2) hy1) rfl rfl ⟨Nat.le_of_ble_eq_true rfl, Nat.le_of_ble_eq_true rfl⟩ rfl hl.1 rfl (lv_room (by simp [rf_cat, int_cat, long_cat])) dX6_start_5 ⟨Nat.zero_le _, Nat.zero_le _⟩ (fun H locs hR hS => ?_)
  have hK : mmKN μ y1.2 := hK.tr (kX0_has_kn hy1)
  refine lv_if_ne (tgt := 21) S.1 S.2.1 dX6_start_8 (by decide) (fun c3 => ?_) (fun c3 => ?_)
  · have hf := it_f hf c3
    refine mm_aload_n S dX6_start_21 rfl (lv_at hl 0 rfl) ?_
    refine mm_getp S hR fdX6_21 (hK.k hk0) rfl dX6_start_22 ?_
    obtain ⟨g5, hf⟩ := gd hf
    obtain ⟨y4, hy4, hf⟩ := bd hf
    refine mm_callVi S hR hS hA (As := []) (rest := []) cvX6_85 (hK.k g5) (kX3_isFull_c l G A (hK.k g5) hy4) rfl rfl ⟨Nat.le_of_ble_eq_true rfl, Nat.le_of_ble_eq_true rfl⟩ rfl hl.1 rfl (lv_room (by simp [rf_cat, int_cat, long_cat])) dX6_start_25 ⟨Nat.zero_le _, Nat.zero_le _⟩ (fun H locs hR hS => ?_)
    have hK : mmKN μ y4.2 := hK.tr (kX3_isFull_kn hy4)
    refine lv_if_eq (tgt := 41) S.1 S.2.1 dX6_start_28 (by decide) (fun c6 => ?_) (fun c6 => ?_)
    · have hf := it_t hf c6
      refine mm_aload_n S dX6_start_41 rfl (lv_at hl 0 rfl) ?_
      refine mm_getp S hR fdX6_21 (hK.k hk0) rfl dX6_start_42 ?_
      refine lv_iload_n S.1 S.2.1 dX6_start_45 rfl (lv_at hl 1 rfl) ?_
      refine lv_iconst (v := 1) S.1 S.2.1 dX6_start_46 (by decide) ?_
      refine lv_iconst (v := (-1)) S.1 S.2.1 dX6_start_47 (by decide) ?_
      obtain ⟨g8, hf⟩ := gd hf
      obtain ⟨y7, hy7, hf⟩ := bd hf
      refine mm_callVh S hR hS hA (As := [.int x1, .int 1, .int (-1)]) (rest := []) cvX6_91 (hK.k g8) (kX3_make_c l G A (hK.k g8) hy7) rfl rfl ⟨Nat.le_of_ble_eq_true rfl, Nat.le_of_ble_eq_true rfl⟩ rfl hl.1 rfl (lv_room (by simp [rf_cat, int_cat, long_cat])) dX6_start_48 ⟨Nat.zero_le _, Nat.zero_le _⟩ (fun H locs hR hS => ?_)
      have hK : mmKN μ y7.2 := hK.tr (kX3_make_kn hy7)
      obtain ⟨g9, hf⟩ := gd hf
      refine mm_geti S hR fdX6_95 (hK.k g9) rfl dX6_start_51 ?_
      obtain rfl := Option.some.inj hf
      exact absurd rfl h0n
    · have hf := it_f hf c6
      obtain rfl := Option.some.inj hf
      refine mm_throwS S hR hS hl0 hX thX6_32_89_36 hl.1 hno dX6_start_31 dX6_start_34 dX6_start_35 dX6_start_37 dX6_start_40 (Nat.le_of_ble_eq_true rfl) (by simp [rf_cat, int_cat, long_cat]) (Nat.le_of_ble_eq_true rfl) (Nat.le_of_ble_eq_true rfl) hlocks (Nat.le_of_ble_eq_true rfl) (Nat.le_of_ble_eq_true rfl)
  · have hf := it_t hf c3
    obtain rfl := Option.some.inj hf
    refine mm_throwS S hR hS hl0 hX thX6_47_49_51 hl.1 hno dX6_start_11 dX6_start_14 dX6_start_15 dX6_start_17 dX6_start_20 (Nat.le_of_ble_eq_true rfl) (by simp [rf_cat, int_cat, long_cat]) (Nat.le_of_ble_eq_true rfl) (Nat.le_of_ble_eq_true rfl) hlocks (Nat.le_of_ble_eq_true rfl) (Nat.le_of_ble_eq_true rfl)
-- X6_run
def fX6_run (h0 : Nat) (x1 : Int32) (μ : MM) : Option (Nat × Int32 × MM) :=
  (fX6_within x1 1 50 μ).bind fun y1 => if y1.1 = 0 then (some (2, 0, y1.2)) else (if mK μ (mP y1.2 h0 1) = 4 then (fX3_doTurns (mP y1.2 h0 1) x1 y1.2).bind fun y3 => some (0, y3.1, y3.2) else none)
set_option maxRecDepth 100000 in
set_option maxHeartbeats 4000000 in
theorem kX6_run_kn {μ : MM} {res : Nat × Int32 × MM} {h0 : Nat} {x1 : Int32} (hf : fX6_run h0 x1 μ = some res) : mmKN μ res.2.2 := by
  have hK : mmKN μ μ := mmKN.rf
  unfold fX6_run at hf
  obtain ⟨y1, hy1, hf⟩ := bd hf
  have hK : mmKN μ y1.2 := hK.tr (kX6_within_kn hy1)
  rcases it_or hf with ⟨c2, hf⟩ | ⟨c2, hf⟩
  · skip
    obtain rfl := Option.some.inj hf
    exact hK
  · skip
    obtain ⟨g4, hf⟩ := gd hf
    obtain ⟨y3, hy3, hf⟩ := bd hf
    have hK : mmKN μ y3.2 := hK.tr (kX3_doTurns_kn hy3)
    obtain rfl := Option.some.inj hf
    exact hK
abbrev rmX6_run : Room := { frames := 6, cells := 0, slots := 0, locals := 144 }
abbrev rxX6_run : Room := { frames := 6, cells := 1, slots := 6, locals := 144 }
set_option maxRecDepth 100000 in
set_option maxHeartbeats 4000000 in
theorem kX6_run_c (l : Launch) (G : mmG) (A : Nat → Prop) {μ : MM} {res : Nat × Int32 × MM} {h0 : Nat} {x1 : Int32} (hk0 : mK μ h0 = 7) (hf : fX6_run h0 x1 μ = some res) (h0r : res.1 = 0) : Met l yX6_run [.code yX6_run cX6_run 2 (some (.int))] rmX6_run (mmPc G A μ [rf h0, .int x1]) (mmQ G A res.2.2 (some (.int res.2.1))) 0 0 A := by
  refine mm_ofW (by decide +kernel) (by simp [lg_sl, rf_cat, int_cat]) ?_
  intro p e s m below meth c ls S hR hA hS hr hlocks hl hnm
  have hl : lv_has ls 2 [(0, rf h0), (1, .int x1)] := by simpa [lv_args, rf_cat, int_cat] using hl
  have E0 : mmEnv p m c cX6_run 2 s _ RX6 G A meth (some (.int)) := ⟨S, hA, hr, hlocks⟩
  have hK : mmKN μ μ := mmKN.rf
  unfold fX6_run at hf
  refine lv_iload_n S.1 S.2.1 dX6_run_0 rfl (lv_at hl 1 rfl) ?_
  refine lv_iconst (v := 1) S.1 S.2.1 dX6_run_1 (by decide) ?_
  refine lv_bipush (v := 50) S.1 S.2.1 dX6_run_2 (by decide) ?_
  obtain ⟨y1, hy1, hf⟩ := bd hf
  refine mm_callSi S hR hS hA (As := [.int x1, .int 1, .int 50]) (rest := []) csX6_105 (kX6_within_c l G A hy1) rfl rfl ⟨Nat.le_of_ble_eq_true rfl, Nat.le_of_ble_eq_true rfl⟩ rfl hl.1 rfl (lv_room (by simp [rf_cat, int_cat, long_cat])) dX6_run_4 ⟨Nat.zero_le _, Nat.zero_le _⟩ (fun H locs hR hS => ?_)
  have hK : mmKN μ y1.2 := hK.tr (kX6_within_kn hy1)
  refine lv_if_ne (tgt := 20) S.1 S.2.1 dX6_run_7 (by decide) (fun c2 => ?_) (fun c2 => ?_)
  · have hf := it_f hf c2
    refine mm_aload_n S dX6_run_20 rfl (lv_at hl 0 rfl) ?_
    refine mm_getp S hR fdX6_21 (hK.k hk0) rfl dX6_run_21 ?_
    refine lv_iload_n S.1 S.2.1 dX6_run_24 rfl (lv_at hl 1 rfl) ?_
    obtain ⟨g4, hf⟩ := gd hf
    obtain ⟨y3, hy3, hf⟩ := bd hf
    refine mm_callVi S hR hS hA (As := [.int x1]) (rest := []) cvX6_132 (hK.k g4) (kX3_doTurns_c l G A (hK.k g4) hy3) rfl rfl ⟨Nat.le_of_ble_eq_true rfl, Nat.le_of_ble_eq_true rfl⟩ rfl hl.1 rfl (lv_room (by simp [rf_cat, int_cat, long_cat])) dX6_run_25 ⟨Nat.zero_le _, Nat.zero_le _⟩ (fun H locs hR hS => ?_)
    have hK : mmKN μ y3.2 := hK.tr (kX3_doTurns_kn hy3)
    obtain rfl := Option.some.inj hf
    exact mm_iret S hR hS hr hlocks dX6_run_28
  · have hf := it_t hf c2
    obtain rfl := Option.some.inj hf
    exact absurd h0r (by simp)
set_option maxRecDepth 100000 in
set_option maxHeartbeats 4000000 in
theorem kX6_run_x (l : Launch) (hl0 : l.stackTraces = false) (G : mmG) (A : Nat → Prop) {μ : MM} {res : Nat × Int32 × MM} {h0 : Nat} {x1 : Int32} (hk0 : mK μ h0 = 7) (hf : fX6_run h0 x1 μ = some res) (h0n : ¬ res.1 = 0) : vx_Met l yX6_run [.code yX6_run cX6_run 2 (some (.int))] rxX6_run (mmPx G A μ [rf h0, .int x1]) (fun _ _ _ _ => False) (mmXC G A res.2.2 (exn res.1)) 1 6 A := by
  refine mm_ofX (by decide +kernel) (by simp [lg_sl, rf_cat, int_cat]) ?_
  intro p e s m below meth c ls S hR hA hS hr hlocks hl hX hno
  have hl : lv_has ls 2 [(0, rf h0), (1, .int x1)] := by simpa [lv_args, rf_cat, int_cat] using hl
  have hK : mmKN μ μ := mmKN.rf
  unfold fX6_run at hf
  refine lv_iload_n S.1 S.2.1 dX6_run_0 rfl (lv_at hl 1 rfl) ?_
  refine lv_iconst (v := 1) S.1 S.2.1 dX6_run_1 (by decide) ?_
  refine lv_bipush (v := 50) S.1 S.2.1 dX6_run_2 (by decide) ?_
  obtain ⟨y1, hy1, hf⟩ := bd hf
  refine mm_callSi S hR hS hA (As := [.int x1, .int 1, .int 50]) (rest := []) csX6_105 (kX6_within_c l G A hy1) rfl rfl ⟨Nat.le_of_ble_eq_true rfl, Nat.le_of_ble_eq_true rfl⟩ rfl hl.1 rfl (lv_room (by simp [rf_cat, int_cat, long_cat])) dX6_run_4 ⟨Nat.zero_le _, Nat.zero_le _⟩ (fun H locs hR hS => ?_)
  have hK : mmKN μ y1.2 := hK.tr (kX6_within_kn hy1)
  refine lv_if_ne (tgt := 20) S.1 S.2.1 dX6_run_7 (by decide) (fun c2 => ?_) (fun c2 => ?_)
  · have hf := it_f hf c2
    refine mm_aload_n S dX6_run_20 rfl (lv_at hl 0 rfl) ?_
    refine mm_getp S hR fdX6_21 (hK.k hk0) rfl dX6_run_21 ?_
    refine lv_iload_n S.1 S.2.1 dX6_run_24 rfl (lv_at hl 1 rfl) ?_
    obtain ⟨g4, hf⟩ := gd hf
    obtain ⟨y3, hy3, hf⟩ := bd hf
    refine mm_callVi S hR hS hA (As := [.int x1]) (rest := []) cvX6_132 (hK.k g4) (kX3_doTurns_c l G A (hK.k g4) hy3) rfl rfl ⟨Nat.le_of_ble_eq_true rfl, Nat.le_of_ble_eq_true rfl⟩ rfl hl.1 rfl (lv_room (by simp [rf_cat, int_cat, long_cat])) dX6_run_25 ⟨Nat.zero_le _, Nat.zero_le _⟩ (fun H locs hR hS => ?_)
    have hK : mmKN μ y3.2 := hK.tr (kX3_doTurns_kn hy3)
    obtain rfl := Option.some.inj hf
    exact absurd rfl h0n
  · have hf := it_t hf c2
    obtain rfl := Option.some.inj hf
    refine mm_throwS S hR hS hl0 hX thX6_62_130_66 hl.1 hno dX6_run_10 dX6_run_13 dX6_run_14 dX6_run_16 dX6_run_19 (Nat.le_of_ble_eq_true rfl) (by simp [rf_cat, int_cat, long_cat]) (Nat.le_of_ble_eq_true rfl) (Nat.le_of_ble_eq_true rfl) hlocks (Nat.le_of_ble_eq_true rfl) (Nat.le_of_ble_eq_true rfl)
-- X6_tick
def bX6_tick_24 (kk24 : Nat → Int32 → Int32 → Int32 → MM → Option (Nat × Int32 × MM)) (h0 : Nat) (x1 : Int32) (x2 : Int32) (x3 : Int32) (μ : MM) : Option (Nat × Int32 × MM) :=
  if x1 ≤ x3 then (some (0, x2, μ)) else (if mK μ h0 = 7 then if mK μ (mP μ h0 1) = 4 then (fX3_oneTick (mP μ h0 1) μ).bind fun y3 => kk24 h0 x1 (x2 + y3.1) (x3 + 1) y3.2 else none else none)
def lX6_tick_24  : Nat → Nat → Int32 → Int32 → Int32 → MM → Option (Nat × Int32 × MM)
  | 0, _, _, _, _, _ => none
  | n + 1, h0, x1, x2, x3, μ => bX6_tick_24  (fun h0 x1 x2 x3 μ => lX6_tick_24  n h0 x1 x2 x3 μ) h0 x1 x2 x3 μ
def fX6_tick (h0 : Nat) (x1 : Int32) (μ : MM) : Option (Nat × Int32 × MM) :=
  (fX6_within x1 1 20 μ).bind fun y1 => if y1.1 = 0 then (some (2, 0, y1.2)) else (lX6_tick_24  FU h0 x1 0 0 y1.2)
set_option maxRecDepth 100000 in
set_option maxHeartbeats 4000000 in
theorem knbX6_tick_24 (kk24 : Nat → Int32 → Int32 → Int32 → MM → Option (Nat × Int32 × MM)) (hkk24 : ∀ (h0 : Nat) (x1 : Int32) (x2 : Int32) (x3 : Int32) (μ : MM) (res : Nat × Int32 × MM), kk24 h0 x1 x2 x3 μ = some res → mmKN μ res.2.2) : ∀ (h0 : Nat) (x1 : Int32) (x2 : Int32) (x3 : Int32) (μ : MM) (res : Nat × Int32 × MM), bX6_tick_24 kk24 h0 x1 x2 x3 μ = some res → mmKN μ res.2.2 := by
  intro h0 x1 x2 x3 μ res hf
  have hK : mmKN μ μ := mmKN.rf
  unfold bX6_tick_24 at hf
  rcases it_or hf with ⟨c1, hf⟩ | ⟨c1, hf⟩
  · skip
    obtain rfl := Option.some.inj hf
    exact hK
  · skip
    obtain ⟨g2, hf⟩ := gd hf
    obtain ⟨g4, hf⟩ := gd hf
    obtain ⟨y3, hy3, hf⟩ := bd hf
    have hK : mmKN μ y3.2 := hK.tr (kX3_oneTick_kn hy3)
    exact hK.tr (hkk24 h0 x1 (x2 + y3.1) (x3 + 1) y3.2 _ hf)
theorem knlX6_tick_24  : ∀ (n : Nat) (h0 : Nat) (x1 : Int32) (x2 : Int32) (x3 : Int32) (μ : MM) (res : Nat × Int32 × MM), lX6_tick_24  n h0 x1 x2 x3 μ = some res → mmKN μ res.2.2 := by
  intro n
  induction n with
  | zero => intro h0 x1 x2 x3 μ res hf; cases hf
  | succ n ih => intro h0 x1 x2 x3 μ res hf; exact knbX6_tick_24  _ ih h0 x1 x2 x3 μ res hf
set_option maxRecDepth 100000 in
set_option maxHeartbeats 4000000 in
theorem zbX6_tick_24 (kk24 : Nat → Int32 → Int32 → Int32 → MM → Option (Nat × Int32 × MM)) (hkk24 : ∀ (h0 : Nat) (x1 : Int32) (x2 : Int32) (x3 : Int32) (μ : MM) (res : Nat × Int32 × MM), kk24 h0 x1 x2 x3 μ = some res → res.1 = 0) : ∀ (h0 : Nat) (x1 : Int32) (x2 : Int32) (x3 : Int32) (μ : MM) (res : Nat × Int32 × MM), bX6_tick_24 kk24 h0 x1 x2 x3 μ = some res → res.1 = 0 := by
  intro h0 x1 x2 x3 μ res hf
  unfold bX6_tick_24 at hf
  rcases it_or hf with ⟨c1, hf⟩ | ⟨c1, hf⟩
  · skip
    obtain rfl := Option.some.inj hf
    exact rfl
  · skip
    obtain ⟨g2, hf⟩ := gd hf
    obtain ⟨g4, hf⟩ := gd hf
    obtain ⟨y3, hy3, hf⟩ := bd hf
    exact (hkk24 h0 x1 (x2 + y3.1) (x3 + 1) y3.2 _ hf)
theorem zlX6_tick_24 : ∀ (n : Nat) (h0 : Nat) (x1 : Int32) (x2 : Int32) (x3 : Int32) (μ : MM) (res : Nat × Int32 × MM), lX6_tick_24 n h0 x1 x2 x3 μ = some res → res.1 = 0 := by
  intro n
  induction n with
  | zero => intro h0 x1 x2 x3 μ res hf; cases hf
  | succ n ih => intro h0 x1 x2 x3 μ res hf; exact zbX6_tick_24 _ ih h0 x1 x2 x3 μ res hf
set_option maxRecDepth 100000 in
set_option maxHeartbeats 4000000 in
theorem kX6_tick_kn {μ : MM} {res : Nat × Int32 × MM} {h0 : Nat} {x1 : Int32} (hf : fX6_tick h0 x1 μ = some res) : mmKN μ res.2.2 := by
  have hK : mmKN μ μ := mmKN.rf
  unfold fX6_tick at hf
  obtain ⟨y1, hy1, hf⟩ := bd hf
  have hK : mmKN μ y1.2 := hK.tr (kX6_within_kn hy1)
  rcases it_or hf with ⟨c2, hf⟩ | ⟨c2, hf⟩
  · skip
    obtain rfl := Option.some.inj hf
    exact hK
  · skip
    exact hK.tr (knlX6_tick_24  FU h0 x1 0 0 y1.2 _ hf)
abbrev rmX6_tick : Room := { frames := 2, cells := 0, slots := 0, locals := 44 }
set_option maxRecDepth 100000 in
set_option maxHeartbeats 4000000 in
theorem wbX6_tick_24 {p : Program} {l : Launch} {e : Env} {s : State} {m : MethodId} {args : Array Value} {below : List Frame} {meth : Method} {c : Code} {G : mmG} {A : Nat → Prop} {res : Nat × Int32 × MM} (E0 : mmEnv p m c cX6_tick 4 s args RX6 G A meth (some (.int))) (kk24 : Nat → Int32 → Int32 → Int32 → MM → Option (Nat × Int32 × MM)) (hkk24 : ∀ (h0 : Nat) (x1 : Int32) (x2 : Int32) (x3 : Int32) (μ : MM), kk24 h0 x1 x2 x3 μ = some res → mmGoal p l e rmX6_tick s m args below meth c G A 24 4 [(0, rf h0), (1, .int x1), (2, .int x2), (3, .int x3)] μ (mmQ G A res.2.2 (some (.int res.2.1)))) : ∀ (h0 : Nat) (x1 : Int32) (x2 : Int32) (x3 : Int32) (μ : MM), bX6_tick_24 kk24 h0 x1 x2 x3 μ = some res → mmGoal p l e rmX6_tick s m args below meth c G A 24 4 [(0, rf h0), (1, .int x1), (2, .int x2), (3, .int x3)] μ (mmQ G A res.2.2 (some (.int res.2.1))) := by
  obtain ⟨S, hA, hr, hlocks⟩ := id E0
  intro h0 x1 x2 x3 μ hf H locs ls hR hS hl
  have hK : mmKN μ μ := mmKN.rf
  unfold bX6_tick_24 at hf
  refine lv_iload_n S.1 S.2.1 dX6_tick_24 rfl (lv_at hl 3 rfl) ?_
  refine lv_iload_n S.1 S.2.1 dX6_tick_25 rfl (lv_at hl 1 rfl) ?_
  refine lv_icmp_ge (tgt := 45) S.1 S.2.1 dX6_tick_26 (by decide) (fun c1 => ?_) (fun c1 => ?_)
  · have hf := it_t hf c1
    refine lv_iload_n S.1 S.2.1 dX6_tick_45 rfl (lv_at hl 2 rfl) ?_
    obtain rfl := Option.some.inj hf
    exact mm_iret S hR hS hr hlocks dX6_tick_46
  · have hf := it_f hf c1
    refine lv_iload_n S.1 S.2.1 dX6_tick_29 rfl (lv_at hl 2 rfl) ?_
    refine mm_aload_n S dX6_tick_30 rfl (lv_at hl 0 rfl) ?_
    obtain ⟨g2, hf⟩ := gd hf
    refine mm_getp S hR fdX6_21 (hK.k g2) rfl dX6_tick_31 ?_
    obtain ⟨g4, hf⟩ := gd hf
    obtain ⟨y3, hy3, hf⟩ := bd hf
    refine mm_callVi S hR hS hA (As := []) (rest := [.int x2]) cvX6_137 (hK.k g4) (kX3_oneTick_c l G A (hK.k g4) hy3) rfl rfl ⟨Nat.le_of_ble_eq_true rfl, Nat.le_of_ble_eq_true rfl⟩ rfl hl.1 rfl (lv_room (by simp [rf_cat, int_cat, long_cat])) dX6_tick_34 ⟨Nat.zero_le _, Nat.zero_le _⟩ (fun H locs hR hS => ?_)
    have hK : mmKN μ y3.2 := hK.tr (kX3_oneTick_kn hy3)
    refine lv_iadd S.1 S.2.1 dX6_tick_37 ?_
    refine lv_istore_n (i := 2) (lv' := [(2, .int (x2 + y3.1)), (0, rf h0), (1, .int x1), (3, .int x3)]) S.1 S.2.1 dX6_tick_38 rfl hl (by decide) rfl (fun ls hl => ?_)
    refine lv_iinc (v := (x3 + 1)) (lv' := [(3, .int (x3 + 1)), (2, .int (x2 + y3.1)), (0, rf h0), (1, .int x1)]) S.1 S.2.1 dX6_tick_39 hl (k := 3) rfl (by rfl) (by decide) rfl (fun ls hl => ?_)
    refine lv_goto (tgt := 24) S.1 S.2.1 dX6_tick_42 (by decide) ?_
    exact hkk24 h0 x1 (x2 + y3.1) (x3 + 1) y3.2 hf _ _ _ hR hS (lv_sub hl [2, 3, 1, 0] rfl)
theorem wlX6_tick_24 {p : Program} {l : Launch} {e : Env} {s : State} {m : MethodId} {args : Array Value} {below : List Frame} {meth : Method} {c : Code} {G : mmG} {A : Nat → Prop} {res : Nat × Int32 × MM} (E0 : mmEnv p m c cX6_tick 4 s args RX6 G A meth (some (.int)))  : ∀ (n : Nat) (h0 : Nat) (x1 : Int32) (x2 : Int32) (x3 : Int32) (μ : MM), lX6_tick_24  n h0 x1 x2 x3 μ = some res → mmGoal p l e rmX6_tick s m args below meth c G A 24 4 [(0, rf h0), (1, .int x1), (2, .int x2), (3, .int x3)] μ (mmQ G A res.2.2 (some (.int res.2.1))) := by
  intro n
  induction n with
  | zero => intro h0 x1 x2 x3 μ hf; cases hf
  | succ n ih => intro h0 x1 x2 x3 μ hf; exact wbX6_tick_24 E0  _ ih h0 x1 x2 x3 μ hf
abbrev rxX6_tick : Room := { frames := 6, cells := 1, slots := 6, locals := 90 }
set_option maxRecDepth 100000 in
set_option maxHeartbeats 4000000 in
theorem kX6_tick_c (l : Launch) (G : mmG) (A : Nat → Prop) {μ : MM} {res : Nat × Int32 × MM} {h0 : Nat} {x1 : Int32} (hk0 : mK μ h0 = 7) (hf : fX6_tick h0 x1 μ = some res) (h0r : res.1 = 0) : Met l yX6_tick [.code yX6_tick cX6_tick 4 (some (.int))] rmX6_tick (mmPc G A μ [rf h0, .int x1]) (mmQ G A res.2.2 (some (.int res.2.1))) 0 0 A := by
  refine mm_ofW (by decide +kernel) (by simp [lg_sl, rf_cat, int_cat]) ?_
  intro p e s m below meth c ls S hR hA hS hr hlocks hl hnm
  have hl : lv_has ls 4 [(0, rf h0), (1, .int x1)] := by simpa [lv_args, rf_cat, int_cat] using hl
  have E0 : mmEnv p m c cX6_tick 4 s _ RX6 G A meth (some (.int)) := ⟨S, hA, hr, hlocks⟩
  have hK : mmKN μ μ := mmKN.rf
  unfold fX6_tick at hf
  refine lv_iload_n S.1 S.2.1 dX6_tick_0 rfl (lv_at hl 1 rfl) ?_
  refine lv_iconst (v := 1) S.1 S.2.1 dX6_tick_1 (by decide) ?_
  refine lv_bipush (v := 20) S.1 S.2.1 dX6_tick_2 (by decide) ?_
  obtain ⟨y1, hy1, hf⟩ := bd hf
  refine mm_callSi S hR hS hA (As := [.int x1, .int 1, .int 20]) (rest := []) csX6_105 (kX6_within_c l G A hy1) rfl rfl ⟨Nat.le_of_ble_eq_true rfl, Nat.le_of_ble_eq_true rfl⟩ rfl hl.1 rfl (lv_room (by simp [rf_cat, int_cat, long_cat])) dX6_tick_4 ⟨Nat.zero_le _, Nat.zero_le _⟩ (fun H locs hR hS => ?_)
  have hK : mmKN μ y1.2 := hK.tr (kX6_within_kn hy1)
  refine lv_if_ne (tgt := 20) S.1 S.2.1 dX6_tick_7 (by decide) (fun c2 => ?_) (fun c2 => ?_)
  · have hf := it_f hf c2
    refine lv_iconst (v := 0) S.1 S.2.1 dX6_tick_20 (by decide) ?_
    refine lv_istore_n (i := 2) (lv' := [(2, .int 0), (0, rf h0), (1, .int x1)]) S.1 S.2.1 dX6_tick_21 rfl hl (by decide) rfl (fun ls hl => ?_)
    refine lv_iconst (v := 0) S.1 S.2.1 dX6_tick_22 (by decide) ?_
    refine lv_istore_n (i := 3) (lv' := [(3, .int 0), (2, .int 0), (0, rf h0), (1, .int x1)]) S.1 S.2.1 dX6_tick_23 rfl hl (by decide) rfl (fun ls hl => ?_)
    exact wlX6_tick_24 E0  FU h0 x1 0 0 y1.2 hf _ _ _ hR hS (lv_sub hl [2, 3, 1, 0] rfl)
  · have hf := it_t hf c2
    obtain rfl := Option.some.inj hf
    exact absurd h0r (by simp)
set_option maxRecDepth 100000 in
set_option maxHeartbeats 4000000 in
theorem kX6_tick_x (l : Launch) (hl0 : l.stackTraces = false) (G : mmG) (A : Nat → Prop) {μ : MM} {res : Nat × Int32 × MM} {h0 : Nat} {x1 : Int32} (hk0 : mK μ h0 = 7) (hf : fX6_tick h0 x1 μ = some res) (h0n : ¬ res.1 = 0) : vx_Met l yX6_tick [.code yX6_tick cX6_tick 4 (some (.int))] rxX6_tick (mmPx G A μ [rf h0, .int x1]) (fun _ _ _ _ => False) (mmXC G A res.2.2 (exn res.1)) 1 6 A := by
  refine mm_ofX (by decide +kernel) (by simp [lg_sl, rf_cat, int_cat]) ?_
  intro p e s m below meth c ls S hR hA hS hr hlocks hl hX hno
  have hl : lv_has ls 4 [(0, rf h0), (1, .int x1)] := by simpa [lv_args, rf_cat, int_cat] using hl
  have hK : mmKN μ μ := mmKN.rf
  unfold fX6_tick at hf
  refine lv_iload_n S.1 S.2.1 dX6_tick_0 rfl (lv_at hl 1 rfl) ?_
  refine lv_iconst (v := 1) S.1 S.2.1 dX6_tick_1 (by decide) ?_
  refine lv_bipush (v := 20) S.1 S.2.1 dX6_tick_2 (by decide) ?_
  obtain ⟨y1, hy1, hf⟩ := bd hf
  refine mm_callSi S hR hS hA (As := [.int x1, .int 1, .int 20]) (rest := []) csX6_105 (kX6_within_c l G A hy1) rfl rfl ⟨Nat.le_of_ble_eq_true rfl, Nat.le_of_ble_eq_true rfl⟩ rfl hl.1 rfl (lv_room (by simp [rf_cat, int_cat, long_cat])) dX6_tick_4 ⟨Nat.zero_le _, Nat.zero_le _⟩ (fun H locs hR hS => ?_)
  have hK : mmKN μ y1.2 := hK.tr (kX6_within_kn hy1)
  refine lv_if_ne (tgt := 20) S.1 S.2.1 dX6_tick_7 (by decide) (fun c2 => ?_) (fun c2 => ?_)
  · have hf := it_f hf c2
    refine lv_iconst (v := 0) S.1 S.2.1 dX6_tick_20 (by decide) ?_
    refine lv_istore_n (i := 2) (lv' := [(2, .int 0), (0, rf h0), (1, .int x1)]) S.1 S.2.1 dX6_tick_21 rfl hl (by decide) rfl (fun ls hl => ?_)
    refine lv_iconst (v := 0) S.1 S.2.1 dX6_tick_22 (by decide) ?_
    refine lv_istore_n (i := 3) (lv' := [(3, .int 0), (2, .int 0), (0, rf h0), (1, .int x1)]) S.1 S.2.1 dX6_tick_23 rfl hl (by decide) rfl (fun ls hl => ?_)
    exact absurd (zlX6_tick_24 _ _ _ _ _ _ _ hf) h0n
  · have hf := it_t hf c2
    obtain rfl := Option.some.inj hf
    refine mm_throwS S hR hS hl0 hX thX6_62_135_66 hl.1 hno dX6_tick_10 dX6_tick_13 dX6_tick_14 dX6_tick_16 dX6_tick_19 (Nat.le_of_ble_eq_true rfl) (by simp [rf_cat, int_cat, long_cat]) (Nat.le_of_ble_eq_true rfl) (Nat.le_of_ble_eq_true rfl) hlocks (Nat.le_of_ble_eq_true rfl) (Nat.le_of_ble_eq_true rfl)
-- X6_cancel
def fX6_cancel (h0 : Nat) (x1 : Int32) (μ : MM) : Option (Nat × Int32 × MM) :=
  if mK μ (mP μ h0 1) = 4 then (fX3_has (mP μ h0 1) x1 1 μ).bind fun y1 => if y1.1 = 0 then (some (1, 0, y1.2)) else (if mK μ (mP y1.2 h0 1) = 4 then (fX3_askToCancel (mP y1.2 h0 1) x1 y1.2).bind fun y4 => if y4.1 = 0 ∨ y4.1 = 1 then some (0, y4.1, y4.2) else none else none) else none
set_option maxRecDepth 100000 in
set_option maxHeartbeats 4000000 in
theorem kX6_cancel_kn {μ : MM} {res : Nat × Int32 × MM} {h0 : Nat} {x1 : Int32} (hf : fX6_cancel h0 x1 μ = some res) : mmKN μ res.2.2 := by
  have hK : mmKN μ μ := mmKN.rf
  unfold fX6_cancel at hf
  obtain ⟨g2, hf⟩ := gd hf
  obtain ⟨y1, hy1, hf⟩ := bd hf
  have hK : mmKN μ y1.2 := hK.tr (kX3_has_kn hy1)
  rcases it_or hf with ⟨c3, hf⟩ | ⟨c3, hf⟩
  · skip
    obtain rfl := Option.some.inj hf
    exact hK
  · skip
    obtain ⟨g5, hf⟩ := gd hf
    obtain ⟨y4, hy4, hf⟩ := bd hf
    have hK : mmKN μ y4.2 := hK.tr (kX3_askToCancel_kn hy4)
    obtain ⟨g6, hf⟩ := gd hf
    obtain rfl := Option.some.inj hf
    exact hK
abbrev rmX6_cancel : Room := { frames := 3, cells := 0, slots := 0, locals := 66 }
abbrev rxX6_cancel : Room := { frames := 6, cells := 1, slots := 6, locals := 90 }
set_option maxRecDepth 100000 in
set_option maxHeartbeats 4000000 in
theorem kX6_cancel_c (l : Launch) (G : mmG) (A : Nat → Prop) {μ : MM} {res : Nat × Int32 × MM} {h0 : Nat} {x1 : Int32} (hk0 : mK μ h0 = 7) (hf : fX6_cancel h0 x1 μ = some res) (h0r : res.1 = 0) : Met l yX6_cancel [.code yX6_cancel cX6_cancel 2 (some (.boolean))] rmX6_cancel (mmPc G A μ [rf h0, .int x1]) (mmQ G A res.2.2 (some (.int res.2.1))) 0 0 A := by
  refine mm_ofW (by decide +kernel) (by simp [lg_sl, rf_cat, int_cat]) ?_
  intro p e s m below meth c ls S hR hA hS hr hlocks hl hnm
  have hl : lv_has ls 2 [(0, rf h0), (1, .int x1)] := by simpa [lv_args, rf_cat, int_cat] using hl
  have E0 : mmEnv p m c cX6_cancel 2 s _ RX6 G A meth (some (.boolean)) := ⟨S, hA, hr, hlocks⟩
  have hK : mmKN μ μ := mmKN.rf
  unfold fX6_cancel at hf
  refine mm_aload_n S dX6_cancel_0 rfl (lv_at hl 0 rfl) ?_
  refine mm_getp S hR fdX6_21 (hK.k hk0) rfl dX6_cancel_1 ?_
  refine lv_iload_n S.1 S.2.1 dX6_cancel_4 rfl (lv_at hl 1 rfl) ?_
  refine lv_iconst (v := 1) S.1 S.2.1 dX6_cancel_5 (by decide) ?_
  obtain ⟨g2, hf⟩ := gd hf
  obtain ⟨y1, hy1, hf⟩ := bd hf
  refine mm_callVi S hR hS hA (As := [.int x1, .int 1]) (rest := []) cvX6_100 (hK.k g2) (kX3_has_c l G A (hK.k g2) hy1) rfl rfl ⟨Nat.le_of_ble_eq_true rfl, Nat.le_of_ble_eq_true rfl⟩ rfl hl.1 rfl (lv_room (by simp [rf_cat, int_cat, long_cat])) dX6_cancel_6 ⟨Nat.zero_le _, Nat.zero_le _⟩ (fun H locs hR hS => ?_)
  have hK : mmKN μ y1.2 := hK.tr (kX3_has_kn hy1)
  refine lv_if_ne (tgt := 22) S.1 S.2.1 dX6_cancel_9 (by decide) (fun c3 => ?_) (fun c3 => ?_)
  · have hf := it_f hf c3
    refine mm_aload_n S dX6_cancel_22 rfl (lv_at hl 0 rfl) ?_
    refine mm_getp S hR fdX6_21 (hK.k hk0) rfl dX6_cancel_23 ?_
    refine lv_iload_n S.1 S.2.1 dX6_cancel_26 rfl (lv_at hl 1 rfl) ?_
    obtain ⟨g5, hf⟩ := gd hf
    obtain ⟨y4, hy4, hf⟩ := bd hf
    refine mm_callVi S hR hS hA (As := [.int x1]) (rest := []) cvX6_142 (hK.k g5) (kX3_askToCancel_c l G A (hK.k g5) hy4) rfl rfl ⟨Nat.le_of_ble_eq_true rfl, Nat.le_of_ble_eq_true rfl⟩ rfl hl.1 rfl (lv_room (by simp [rf_cat, int_cat, long_cat])) dX6_cancel_27 ⟨Nat.zero_le _, Nat.zero_le _⟩ (fun H locs hR hS => ?_)
    have hK : mmKN μ y4.2 := hK.tr (kX3_askToCancel_kn hy4)
    obtain ⟨g6, hf⟩ := gd hf
    obtain rfl := Option.some.inj hf
    exact mm_zret S hR hS hr hlocks g6 dX6_cancel_30
  · have hf := it_t hf c3
    obtain rfl := Option.some.inj hf
    exact absurd h0r (by simp)
set_option maxRecDepth 100000 in
set_option maxHeartbeats 4000000 in
theorem kX6_cancel_x (l : Launch) (hl0 : l.stackTraces = false) (G : mmG) (A : Nat → Prop) {μ : MM} {res : Nat × Int32 × MM} {h0 : Nat} {x1 : Int32} (hk0 : mK μ h0 = 7) (hf : fX6_cancel h0 x1 μ = some res) (h0n : ¬ res.1 = 0) : vx_Met l yX6_cancel [.code yX6_cancel cX6_cancel 2 (some (.boolean))] rxX6_cancel (mmPx G A μ [rf h0, .int x1]) (fun _ _ _ _ => False) (mmXC G A res.2.2 (exn res.1)) 1 6 A := by
  refine mm_ofX (by decide +kernel) (by simp [lg_sl, rf_cat, int_cat]) ?_
  intro p e s m below meth c ls S hR hA hS hr hlocks hl hX hno
  have hl : lv_has ls 2 [(0, rf h0), (1, .int x1)] := by simpa [lv_args, rf_cat, int_cat] using hl
  have hK : mmKN μ μ := mmKN.rf
  unfold fX6_cancel at hf
  refine mm_aload_n S dX6_cancel_0 rfl (lv_at hl 0 rfl) ?_
  refine mm_getp S hR fdX6_21 (hK.k hk0) rfl dX6_cancel_1 ?_
  refine lv_iload_n S.1 S.2.1 dX6_cancel_4 rfl (lv_at hl 1 rfl) ?_
  refine lv_iconst (v := 1) S.1 S.2.1 dX6_cancel_5 (by decide) ?_
  obtain ⟨g2, hf⟩ := gd hf
  obtain ⟨y1, hy1, hf⟩ := bd hf
  refine mm_callVi S hR hS hA (As := [.int x1, .int 1]) (rest := []) cvX6_100 (hK.k g2) (kX3_has_c l G A (hK.k g2) hy1) rfl rfl ⟨Nat.le_of_ble_eq_true rfl, Nat.le_of_ble_eq_true rfl⟩ rfl hl.1 rfl (lv_room (by simp [rf_cat, int_cat, long_cat])) dX6_cancel_6 ⟨Nat.zero_le _, Nat.zero_le _⟩ (fun H locs hR hS => ?_)
  have hK : mmKN μ y1.2 := hK.tr (kX3_has_kn hy1)
  refine lv_if_ne (tgt := 22) S.1 S.2.1 dX6_cancel_9 (by decide) (fun c3 => ?_) (fun c3 => ?_)
  · have hf := it_f hf c3
    refine mm_aload_n S dX6_cancel_22 rfl (lv_at hl 0 rfl) ?_
    refine mm_getp S hR fdX6_21 (hK.k hk0) rfl dX6_cancel_23 ?_
    refine lv_iload_n S.1 S.2.1 dX6_cancel_26 rfl (lv_at hl 1 rfl) ?_
    obtain ⟨g5, hf⟩ := gd hf
    obtain ⟨y4, hy4, hf⟩ := bd hf
    refine mm_callVi S hR hS hA (As := [.int x1]) (rest := []) cvX6_142 (hK.k g5) (kX3_askToCancel_c l G A (hK.k g5) hy4) rfl rfl ⟨Nat.le_of_ble_eq_true rfl, Nat.le_of_ble_eq_true rfl⟩ rfl hl.1 rfl (lv_room (by simp [rf_cat, int_cat, long_cat])) dX6_cancel_27 ⟨Nat.zero_le _, Nat.zero_le _⟩ (fun H locs hR hS => ?_)
    have hK : mmKN μ y4.2 := hK.tr (kX3_askToCancel_kn hy4)
    obtain ⟨g6, hf⟩ := gd hf
    obtain rfl := Option.some.inj hf
    exact absurd rfl h0n
  · have hf := it_t hf c3
    obtain rfl := Option.some.inj hf
    refine mm_throwS S hR hS hl0 hX thX6_47_140_51 hl.1 hno dX6_cancel_12 dX6_cancel_15 dX6_cancel_16 dX6_cancel_18 dX6_cancel_21 (Nat.le_of_ble_eq_true rfl) (by simp [rf_cat, int_cat, long_cat]) (Nat.le_of_ble_eq_true rfl) (Nat.le_of_ble_eq_true rfl) hlocks (Nat.le_of_ble_eq_true rfl) (Nat.le_of_ble_eq_true rfl)
-- X6_of
def fX6_of (h0 : Nat) (x1 : Int32) (x2 : Int32) (μ : MM) : Option (Nat × Int32 × MM) :=
  if mK μ (mP μ h0 1) = 4 then (fX3_isMade (mP μ h0 1) x1 μ).bind fun y1 => if y1.1 = 0 then (some (1, 0, y1.2)) else (if mK μ (mP y1.2 h0 1) = 4 then (fX3_at (mP y1.2 h0 1) x1 y1.2).bind fun y4 => if x2 = 0 then (if mK μ y4.1 = 3 then some (0, (mI y4.2 y4.1 3), y4.2) else none) else (if x2 = 1 then (if mK μ y4.1 = 3 then some (0, (mI y4.2 y4.1 5), y4.2) else none) else (if x2 = 2 then (if mK μ y4.1 = 3 then some (0, (mI y4.2 y4.1 4), y4.2) else none) else (if x2 = 3 then (if mK μ y4.1 = 3 then if (mI y4.2 y4.1 5) = (1 : Int32) then (some (0, (mI y4.2 y4.1 6), y4.2)) else (some (0, (-1), y4.2)) else none) else (if x2 = 4 then (if mK μ y4.1 = 3 then some (0, (mI y4.2 y4.1 7), y4.2) else none) else (if x2 = 5 then (if mK μ y4.1 = 3 then if mK μ (mP y4.2 y4.1 2) = 6 then some (0, (mI y4.2 (mP y4.2 y4.1 2) 2), y4.2) else none else none) else (if x2 = 6 then (if mK μ y4.1 = 3 then some (0, (mI y4.2 y4.1 9), y4.2) else none) else (if x2 = 7 then (if mK μ y4.1 = 3 then some (0, (mI y4.2 y4.1 11), y4.2) else none) else (some (2, 0, y4.2))))))))) else none) else none
set_option maxRecDepth 100000 in
set_option maxHeartbeats 4000000 in
theorem kX6_of_kn {μ : MM} {res : Nat × Int32 × MM} {h0 : Nat} {x1 : Int32} {x2 : Int32} (hf : fX6_of h0 x1 x2 μ = some res) : mmKN μ res.2.2 := by
  have hK : mmKN μ μ := mmKN.rf
  unfold fX6_of at hf
  obtain ⟨g2, hf⟩ := gd hf
  obtain ⟨y1, hy1, hf⟩ := bd hf
  have hK : mmKN μ y1.2 := hK.tr (kX3_isMade_kn hy1)
  rcases it_or hf with ⟨c3, hf⟩ | ⟨c3, hf⟩
  · skip
    obtain rfl := Option.some.inj hf
    exact hK
  · skip
    obtain ⟨g5, hf⟩ := gd hf
    obtain ⟨y4, hy4, hf⟩ := bd hf
    have hK : mmKN μ y4.2 := hK.tr (kX3_at_kn hy4)
    rcases it_or hf with ⟨c6, hf⟩ | ⟨c6, hf⟩
    · skip
      obtain ⟨g7, hf⟩ := gd hf
      obtain rfl := Option.some.inj hf
      exact hK
    rcases it_or hf with ⟨c8, hf⟩ | ⟨c8, hf⟩
    · skip
      obtain ⟨g9, hf⟩ := gd hf
      obtain rfl := Option.some.inj hf
      exact hK
    rcases it_or hf with ⟨c10, hf⟩ | ⟨c10, hf⟩
    · skip
      obtain ⟨g11, hf⟩ := gd hf
      obtain rfl := Option.some.inj hf
      exact hK
    rcases it_or hf with ⟨c12, hf⟩ | ⟨c12, hf⟩
    · skip
      obtain ⟨g13, hf⟩ := gd hf
      rcases it_or hf with ⟨c14, hf⟩ | ⟨c14, hf⟩
      · skip
        obtain rfl := Option.some.inj hf
        exact hK
      · skip
        obtain rfl := Option.some.inj hf
        exact hK
    rcases it_or hf with ⟨c15, hf⟩ | ⟨c15, hf⟩
    · skip
      obtain ⟨g16, hf⟩ := gd hf
      obtain rfl := Option.some.inj hf
      exact hK
    rcases it_or hf with ⟨c17, hf⟩ | ⟨c17, hf⟩
    · skip
      obtain ⟨g18, hf⟩ := gd hf
      obtain ⟨g19, hf⟩ := gd hf
      obtain rfl := Option.some.inj hf
      exact hK
    rcases it_or hf with ⟨c20, hf⟩ | ⟨c20, hf⟩
    · skip
      obtain ⟨g21, hf⟩ := gd hf
      obtain rfl := Option.some.inj hf
      exact hK
    rcases it_or hf with ⟨c22, hf⟩ | ⟨c22, hf⟩
    · skip
      obtain ⟨g23, hf⟩ := gd hf
      obtain rfl := Option.some.inj hf
      exact hK
    obtain rfl := Option.some.inj hf
    exact hK
abbrev rmX6_of : Room := { frames := 1, cells := 0, slots := 0, locals := 21 }
abbrev rxX6_of : Room := { frames := 6, cells := 1, slots := 6, locals := 90 }
set_option maxRecDepth 100000 in
set_option maxHeartbeats 4000000 in
theorem kX6_of_c (l : Launch) (G : mmG) (A : Nat → Prop) {μ : MM} {res : Nat × Int32 × MM} {h0 : Nat} {x1 : Int32} {x2 : Int32} (hk0 : mK μ h0 = 7) (hf : fX6_of h0 x1 x2 μ = some res) (h0r : res.1 = 0) : Met l yX6_of [.code yX6_of cX6_of 4 (some (.int))] rmX6_of (mmPc G A μ [rf h0, .int x1, .int x2]) (mmQ G A res.2.2 (some (.int res.2.1))) 0 0 A := by
  refine mm_ofW (by decide +kernel) (by simp [lg_sl, rf_cat, int_cat]) ?_
  intro p e s m below meth c ls S hR hA hS hr hlocks hl hnm
  have hl : lv_has ls 4 [(0, rf h0), (1, .int x1), (2, .int x2)] := by simpa [lv_args, rf_cat, int_cat] using hl
  have E0 : mmEnv p m c cX6_of 4 s _ RX6 G A meth (some (.int)) := ⟨S, hA, hr, hlocks⟩
  have hK : mmKN μ μ := mmKN.rf
  unfold fX6_of at hf
  refine mm_aload_n S dX6_of_0 rfl (lv_at hl 0 rfl) ?_
  refine mm_getp S hR fdX6_21 (hK.k hk0) rfl dX6_of_1 ?_
  refine lv_iload_n S.1 S.2.1 dX6_of_4 rfl (lv_at hl 1 rfl) ?_
  obtain ⟨g2, hf⟩ := gd hf
  obtain ⟨y1, hy1, hf⟩ := bd hf
  refine mm_callVi S hR hS hA (As := [.int x1]) (rest := []) cvX6_145 (hK.k g2) (kX3_isMade_c l G A (hK.k g2) hy1) rfl rfl ⟨Nat.le_of_ble_eq_true rfl, Nat.le_of_ble_eq_true rfl⟩ rfl hl.1 rfl (lv_room (by simp [rf_cat, int_cat, long_cat])) dX6_of_5 ⟨Nat.zero_le _, Nat.zero_le _⟩ (fun H locs hR hS => ?_)
  have hK : mmKN μ y1.2 := hK.tr (kX3_isMade_kn hy1)
  refine lv_if_ne (tgt := 21) S.1 S.2.1 dX6_of_8 (by decide) (fun c3 => ?_) (fun c3 => ?_)
  · have hf := it_f hf c3
    refine mm_aload_n S dX6_of_21 rfl (lv_at hl 0 rfl) ?_
    refine mm_getp S hR fdX6_21 (hK.k hk0) rfl dX6_of_22 ?_
    refine lv_iload_n S.1 S.2.1 dX6_of_25 rfl (lv_at hl 1 rfl) ?_
    obtain ⟨g5, hf⟩ := gd hf
    obtain ⟨y4, hy4, hf⟩ := bd hf
    refine mm_callVh S hR hS hA (As := [.int x1]) (rest := []) cvX6_110 (hK.k g5) (kX3_at_c l G A (hK.k g5) hy4) rfl rfl ⟨Nat.le_of_ble_eq_true rfl, Nat.le_of_ble_eq_true rfl⟩ rfl hl.1 rfl (lv_room (by simp [rf_cat, int_cat, long_cat])) dX6_of_26 ⟨Nat.zero_le _, Nat.zero_le _⟩ (fun H locs hR hS => ?_)
    have hK : mmKN μ y4.2 := hK.tr (kX3_at_kn hy4)
    refine mm_astore_n (i := 3) (lv' := [(3, rf y4.1), (0, rf h0), (1, .int x1), (2, .int x2)]) S dX6_of_29 rfl hl (by decide) rfl (fun ls hl => ?_)
    refine lv_iload_n S.1 S.2.1 dX6_of_30 rfl (lv_at hl 3 rfl) ?_
    rcases it_or hf with ⟨c6, hf⟩ | ⟨c6, hf⟩
    · refine mm_swL (tgt := 76) (off := 45) S [0] dX6_of_31 (by simpa using c6) (by decide) (by decide) ?_
      refine mm_aload_n S dX6_of_76 rfl (lv_at hl 0 rfl) ?_
      obtain ⟨g7, hf⟩ := gd hf
      refine mm_geti S hR fdX6_150 (hK.k g7) rfl dX6_of_77 ?_
      obtain rfl := Option.some.inj hf
      exact mm_iret S hR hS hr hlocks dX6_of_80
    rcases it_or hf with ⟨c8, hf⟩ | ⟨c8, hf⟩
    · refine mm_swL (tgt := 81) (off := 50) S [1] dX6_of_31 (by simpa using c8) (by decide) (by decide) ?_
      refine mm_aload_n S dX6_of_81 rfl (lv_at hl 0 rfl) ?_
      obtain ⟨g9, hf⟩ := gd hf
      refine mm_geti S hR fdX6_153 (hK.k g9) rfl dX6_of_82 ?_
      obtain rfl := Option.some.inj hf
      exact mm_iret S hR hS hr hlocks dX6_of_85
    rcases it_or hf with ⟨c10, hf⟩ | ⟨c10, hf⟩
    · refine mm_swL (tgt := 86) (off := 55) S [2] dX6_of_31 (by simpa using c10) (by decide) (by decide) ?_
      refine mm_aload_n S dX6_of_86 rfl (lv_at hl 0 rfl) ?_
      obtain ⟨g11, hf⟩ := gd hf
      refine mm_geti S hR fdX6_156 (hK.k g11) rfl dX6_of_87 ?_
      obtain rfl := Option.some.inj hf
      exact mm_iret S hR hS hr hlocks dX6_of_90
    rcases it_or hf with ⟨c12, hf⟩ | ⟨c12, hf⟩
    · refine mm_swL (tgt := 91) (off := 60) S [3] dX6_of_31 (by simpa using c12) (by decide) (by decide) ?_
      refine mm_aload_n S dX6_of_91 rfl (lv_at hl 0 rfl) ?_
      obtain ⟨g13, hf⟩ := gd hf
      refine mm_geti S hR fdX6_153 (hK.k g13) rfl dX6_of_92 ?_
      refine lv_iconst (v := 1) S.1 S.2.1 dX6_of_95 (by decide) ?_
      refine lv_icmp_ne (tgt := 106) S.1 S.2.1 dX6_of_96 (by decide) (fun c14 => ?_) (fun c14 => ?_)
      · have hf := it_f hf c14
        refine lv_iconst (v := (-1)) S.1 S.2.1 dX6_of_106 (by decide) ?_
        obtain rfl := Option.some.inj hf
        exact mm_iret S hR hS hr hlocks dX6_of_107
      · have hf := it_t hf c14
        refine mm_aload_n S dX6_of_99 rfl (lv_at hl 0 rfl) ?_
        refine mm_geti S hR fdX6_159 (hK.k g13) rfl dX6_of_100 ?_
        refine lv_goto (tgt := 107) S.1 S.2.1 dX6_of_103 (by decide) ?_
        obtain rfl := Option.some.inj hf
        exact mm_iret S hR hS hr hlocks dX6_of_107
    rcases it_or hf with ⟨c15, hf⟩ | ⟨c15, hf⟩
    · refine mm_swL (tgt := 108) (off := 77) S [4] dX6_of_31 (by simpa using c15) (by decide) (by decide) ?_
      refine mm_aload_n S dX6_of_108 rfl (lv_at hl 0 rfl) ?_
      obtain ⟨g16, hf⟩ := gd hf
      refine mm_geti S hR fdX6_162 (hK.k g16) rfl dX6_of_109 ?_
      obtain rfl := Option.some.inj hf
      exact mm_iret S hR hS hr hlocks dX6_of_112
    rcases it_or hf with ⟨c17, hf⟩ | ⟨c17, hf⟩
    · refine mm_swL (tgt := 113) (off := 82) S [5] dX6_of_31 (by simpa using c17) (by decide) (by decide) ?_
      refine mm_aload_n S dX6_of_113 rfl (lv_at hl 0 rfl) ?_
      obtain ⟨g18, hf⟩ := gd hf
      refine mm_getp S hR fdX6_165 (hK.k g18) rfl dX6_of_114 ?_
      obtain ⟨g19, hf⟩ := gd hf
      refine mm_geti S hR fdX6_169 (hK.k g19) rfl dX6_of_117 ?_
      obtain rfl := Option.some.inj hf
      exact mm_iret S hR hS hr hlocks dX6_of_120
    rcases it_or hf with ⟨c20, hf⟩ | ⟨c20, hf⟩
    · refine mm_swL (tgt := 121) (off := 90) S [6] dX6_of_31 (by simpa using c20) (by decide) (by decide) ?_
      refine mm_aload_n S dX6_of_121 rfl (lv_at hl 0 rfl) ?_
      obtain ⟨g21, hf⟩ := gd hf
      refine mm_geti S hR fdX6_172 (hK.k g21) rfl dX6_of_122 ?_
      obtain rfl := Option.some.inj hf
      exact mm_iret S hR hS hr hlocks dX6_of_125
    rcases it_or hf with ⟨c22, hf⟩ | ⟨c22, hf⟩
    · refine mm_swL (tgt := 126) (off := 95) S [7] dX6_of_31 (by simpa using c22) (by decide) (by decide) ?_
      refine mm_aload_n S dX6_of_126 rfl (lv_at hl 0 rfl) ?_
      obtain ⟨g23, hf⟩ := gd hf
      refine mm_geti S hR fdX6_175 (hK.k g23) rfl dX6_of_127 ?_
      obtain rfl := Option.some.inj hf
      exact mm_iret S hR hS hr hlocks dX6_of_130
    refine mm_swD (tgt := 131) S [0, 1, 2, 3, 4, 5, 6, 7] dX6_of_31 (by simp only [List.forall_mem_cons, List.not_mem_nil, false_imp_iff, implies_true, and_true]; (try simp only [not_or] at c6 c8 c10 c12 c15 c17 c20 c22); simp only [c6, c8, c10, c12, c15, c17, c20, c22, not_false_eq_true, and_self, and_true, true_and]) (by decide) (by decide) ?_
    obtain rfl := Option.some.inj hf
    exact absurd h0r (by simp)
  · have hf := it_t hf c3
    obtain rfl := Option.some.inj hf
    exact absurd h0r (by simp)
set_option maxRecDepth 100000 in
set_option maxHeartbeats 4000000 in
theorem kX6_of_x (l : Launch) (hl0 : l.stackTraces = false) (G : mmG) (A : Nat → Prop) {μ : MM} {res : Nat × Int32 × MM} {h0 : Nat} {x1 : Int32} {x2 : Int32} (hk0 : mK μ h0 = 7) (hf : fX6_of h0 x1 x2 μ = some res) (h0n : ¬ res.1 = 0) : vx_Met l yX6_of [.code yX6_of cX6_of 4 (some (.int))] rxX6_of (mmPx G A μ [rf h0, .int x1, .int x2]) (fun _ _ _ _ => False) (mmXC G A res.2.2 (exn res.1)) 1 6 A := by
  refine mm_ofX (by decide +kernel) (by simp [lg_sl, rf_cat, int_cat]) ?_
  intro p e s m below meth c ls S hR hA hS hr hlocks hl hX hno
  have hl : lv_has ls 4 [(0, rf h0), (1, .int x1), (2, .int x2)] := by simpa [lv_args, rf_cat, int_cat] using hl
  have hK : mmKN μ μ := mmKN.rf
  unfold fX6_of at hf
  refine mm_aload_n S dX6_of_0 rfl (lv_at hl 0 rfl) ?_
  refine mm_getp S hR fdX6_21 (hK.k hk0) rfl dX6_of_1 ?_
  refine lv_iload_n S.1 S.2.1 dX6_of_4 rfl (lv_at hl 1 rfl) ?_
  obtain ⟨g2, hf⟩ := gd hf
  obtain ⟨y1, hy1, hf⟩ := bd hf
  refine mm_callVi S hR hS hA (As := [.int x1]) (rest := []) cvX6_145 (hK.k g2) (kX3_isMade_c l G A (hK.k g2) hy1) rfl rfl ⟨Nat.le_of_ble_eq_true rfl, Nat.le_of_ble_eq_true rfl⟩ rfl hl.1 rfl (lv_room (by simp [rf_cat, int_cat, long_cat])) dX6_of_5 ⟨Nat.zero_le _, Nat.zero_le _⟩ (fun H locs hR hS => ?_)
  have hK : mmKN μ y1.2 := hK.tr (kX3_isMade_kn hy1)
  refine lv_if_ne (tgt := 21) S.1 S.2.1 dX6_of_8 (by decide) (fun c3 => ?_) (fun c3 => ?_)
  · have hf := it_f hf c3
    refine mm_aload_n S dX6_of_21 rfl (lv_at hl 0 rfl) ?_
    refine mm_getp S hR fdX6_21 (hK.k hk0) rfl dX6_of_22 ?_
    refine lv_iload_n S.1 S.2.1 dX6_of_25 rfl (lv_at hl 1 rfl) ?_
    obtain ⟨g5, hf⟩ := gd hf
    obtain ⟨y4, hy4, hf⟩ := bd hf
    refine mm_callVh S hR hS hA (As := [.int x1]) (rest := []) cvX6_110 (hK.k g5) (kX3_at_c l G A (hK.k g5) hy4) rfl rfl ⟨Nat.le_of_ble_eq_true rfl, Nat.le_of_ble_eq_true rfl⟩ rfl hl.1 rfl (lv_room (by simp [rf_cat, int_cat, long_cat])) dX6_of_26 ⟨Nat.zero_le _, Nat.zero_le _⟩ (fun H locs hR hS => ?_)
    have hK : mmKN μ y4.2 := hK.tr (kX3_at_kn hy4)
    refine mm_astore_n (i := 3) (lv' := [(3, rf y4.1), (0, rf h0), (1, .int x1), (2, .int x2)]) S dX6_of_29 rfl hl (by decide) rfl (fun ls hl => ?_)
    refine lv_iload_n S.1 S.2.1 dX6_of_30 rfl (lv_at hl 3 rfl) ?_
    rcases it_or hf with ⟨c6, hf⟩ | ⟨c6, hf⟩
    · refine mm_swL (tgt := 76) (off := 45) S [0] dX6_of_31 (by simpa using c6) (by decide) (by decide) ?_
      refine mm_aload_n S dX6_of_76 rfl (lv_at hl 0 rfl) ?_
      obtain ⟨g7, hf⟩ := gd hf
      refine mm_geti S hR fdX6_150 (hK.k g7) rfl dX6_of_77 ?_
      obtain rfl := Option.some.inj hf
      exact absurd rfl h0n
    rcases it_or hf with ⟨c8, hf⟩ | ⟨c8, hf⟩
    · refine mm_swL (tgt := 81) (off := 50) S [1] dX6_of_31 (by simpa using c8) (by decide) (by decide) ?_
      refine mm_aload_n S dX6_of_81 rfl (lv_at hl 0 rfl) ?_
      obtain ⟨g9, hf⟩ := gd hf
      refine mm_geti S hR fdX6_153 (hK.k g9) rfl dX6_of_82 ?_
      obtain rfl := Option.some.inj hf
      exact absurd rfl h0n
    rcases it_or hf with ⟨c10, hf⟩ | ⟨c10, hf⟩
    · refine mm_swL (tgt := 86) (off := 55) S [2] dX6_of_31 (by simpa using c10) (by decide) (by decide) ?_
      refine mm_aload_n S dX6_of_86 rfl (lv_at hl 0 rfl) ?_
      obtain ⟨g11, hf⟩ := gd hf
      refine mm_geti S hR fdX6_156 (hK.k g11) rfl dX6_of_87 ?_
      obtain rfl := Option.some.inj hf
      exact absurd rfl h0n
    rcases it_or hf with ⟨c12, hf⟩ | ⟨c12, hf⟩
    · refine mm_swL (tgt := 91) (off := 60) S [3] dX6_of_31 (by simpa using c12) (by decide) (by decide) ?_
      refine mm_aload_n S dX6_of_91 rfl (lv_at hl 0 rfl) ?_
      obtain ⟨g13, hf⟩ := gd hf
      refine mm_geti S hR fdX6_153 (hK.k g13) rfl dX6_of_92 ?_
      refine lv_iconst (v := 1) S.1 S.2.1 dX6_of_95 (by decide) ?_
      refine lv_icmp_ne (tgt := 106) S.1 S.2.1 dX6_of_96 (by decide) (fun c14 => ?_) (fun c14 => ?_)
      · have hf := it_f hf c14
        refine lv_iconst (v := (-1)) S.1 S.2.1 dX6_of_106 (by decide) ?_
        obtain rfl := Option.some.inj hf
        exact absurd rfl h0n
      · have hf := it_t hf c14
        refine mm_aload_n S dX6_of_99 rfl (lv_at hl 0 rfl) ?_
        refine mm_geti S hR fdX6_159 (hK.k g13) rfl dX6_of_100 ?_
        refine lv_goto (tgt := 107) S.1 S.2.1 dX6_of_103 (by decide) ?_
        obtain rfl := Option.some.inj hf
        exact absurd rfl h0n
    rcases it_or hf with ⟨c15, hf⟩ | ⟨c15, hf⟩
    · refine mm_swL (tgt := 108) (off := 77) S [4] dX6_of_31 (by simpa using c15) (by decide) (by decide) ?_
      refine mm_aload_n S dX6_of_108 rfl (lv_at hl 0 rfl) ?_
      obtain ⟨g16, hf⟩ := gd hf
      refine mm_geti S hR fdX6_162 (hK.k g16) rfl dX6_of_109 ?_
      obtain rfl := Option.some.inj hf
      exact absurd rfl h0n
    rcases it_or hf with ⟨c17, hf⟩ | ⟨c17, hf⟩
    · refine mm_swL (tgt := 113) (off := 82) S [5] dX6_of_31 (by simpa using c17) (by decide) (by decide) ?_
      refine mm_aload_n S dX6_of_113 rfl (lv_at hl 0 rfl) ?_
      obtain ⟨g18, hf⟩ := gd hf
      refine mm_getp S hR fdX6_165 (hK.k g18) rfl dX6_of_114 ?_
      obtain ⟨g19, hf⟩ := gd hf
      refine mm_geti S hR fdX6_169 (hK.k g19) rfl dX6_of_117 ?_
      obtain rfl := Option.some.inj hf
      exact absurd rfl h0n
    rcases it_or hf with ⟨c20, hf⟩ | ⟨c20, hf⟩
    · refine mm_swL (tgt := 121) (off := 90) S [6] dX6_of_31 (by simpa using c20) (by decide) (by decide) ?_
      refine mm_aload_n S dX6_of_121 rfl (lv_at hl 0 rfl) ?_
      obtain ⟨g21, hf⟩ := gd hf
      refine mm_geti S hR fdX6_172 (hK.k g21) rfl dX6_of_122 ?_
      obtain rfl := Option.some.inj hf
      exact absurd rfl h0n
    rcases it_or hf with ⟨c22, hf⟩ | ⟨c22, hf⟩
    · refine mm_swL (tgt := 126) (off := 95) S [7] dX6_of_31 (by simpa using c22) (by decide) (by decide) ?_
      refine mm_aload_n S dX6_of_126 rfl (lv_at hl 0 rfl) ?_
      obtain ⟨g23, hf⟩ := gd hf
      refine mm_geti S hR fdX6_175 (hK.k g23) rfl dX6_of_127 ?_
      obtain rfl := Option.some.inj hf
      exact absurd rfl h0n
    refine mm_swD (tgt := 131) S [0, 1, 2, 3, 4, 5, 6, 7] dX6_of_31 (by simp only [List.forall_mem_cons, List.not_mem_nil, false_imp_iff, implies_true, and_true]; (try simp only [not_or] at c6 c8 c10 c12 c15 c17 c20 c22); simp only [c6, c8, c10, c12, c15, c17, c20, c22, not_false_eq_true, and_self, and_true, true_and]) (by decide) (by decide) ?_
    obtain rfl := Option.some.inj hf
    refine mm_throwS S hR hS hl0 hX thX6_62_178_66 hl.1 hno dX6_of_131 dX6_of_134 dX6_of_135 dX6_of_137 dX6_of_140 (Nat.le_of_ble_eq_true rfl) (by simp [rf_cat, int_cat, long_cat]) (Nat.le_of_ble_eq_true rfl) (Nat.le_of_ble_eq_true rfl) hlocks (Nat.le_of_ble_eq_true rfl) (Nat.le_of_ble_eq_true rfl)
  · have hf := it_t hf c3
    obtain rfl := Option.some.inj hf
    refine mm_throwS S hR hS hl0 hX thX6_47_148_51 hl.1 hno dX6_of_11 dX6_of_14 dX6_of_15 dX6_of_17 dX6_of_20 (Nat.le_of_ble_eq_true rfl) (by simp [rf_cat, int_cat, long_cat]) (Nat.le_of_ble_eq_true rfl) (Nat.le_of_ble_eq_true rfl) hlocks (Nat.le_of_ble_eq_true rfl) (Nat.le_of_ble_eq_true rfl)
-- X6_local
def fX6_local (h0 : Nat) (x1 : Int32) (x2 : Int32) (μ : MM) : Option (Nat × Int32 × MM) :=
  if mK μ (mP μ h0 1) = 4 then (fX3_isMade (mP μ h0 1) x1 μ).bind fun y1 => if y1.1 = 0 then (some (1, 0, y1.2)) else ((fX6_within x2 0 3 y1.2).bind fun y4 => if y4.1 = 0 then (some (1, 0, y4.2)) else (if mK μ (mP y4.2 h0 1) = 4 then (fX3_at (mP y4.2 h0 1) x1 y4.2).bind fun y6 => if mK μ y6.1 = 3 then (fX2_localAt y6.1 x2 y6.2).bind fun y8 => some (0, y8.1, y8.2) else none else none)) else none
set_option maxRecDepth 100000 in
set_option maxHeartbeats 4000000 in
theorem kX6_local_kn {μ : MM} {res : Nat × Int32 × MM} {h0 : Nat} {x1 : Int32} {x2 : Int32} (hf : fX6_local h0 x1 x2 μ = some res) : mmKN μ res.2.2 := by
  have hK : mmKN μ μ := mmKN.rf
  unfold fX6_local at hf
  obtain ⟨g2, hf⟩ := gd hf
  obtain ⟨y1, hy1, hf⟩ := bd hf
  have hK : mmKN μ y1.2 := hK.tr (kX3_isMade_kn hy1)
  rcases it_or hf with ⟨c3, hf⟩ | ⟨c3, hf⟩
  · skip
    obtain rfl := Option.some.inj hf
    exact hK
  · skip
    obtain ⟨y4, hy4, hf⟩ := bd hf
    have hK : mmKN μ y4.2 := hK.tr (kX6_within_kn hy4)
    rcases it_or hf with ⟨c5, hf⟩ | ⟨c5, hf⟩
    · skip
      obtain rfl := Option.some.inj hf
      exact hK
    · skip
      obtain ⟨g7, hf⟩ := gd hf
      obtain ⟨y6, hy6, hf⟩ := bd hf
      have hK : mmKN μ y6.2 := hK.tr (kX3_at_kn hy6)
      obtain ⟨g9, hf⟩ := gd hf
      obtain ⟨y8, hy8, hf⟩ := bd hf
      have hK : mmKN μ y8.2 := hK.tr (kX2_localAt_kn hy8)
      obtain rfl := Option.some.inj hf
      exact hK
abbrev rmX6_local : Room := { frames := 1, cells := 0, slots := 0, locals := 22 }
abbrev rxX6_local : Room := { frames := 6, cells := 1, slots := 6, locals := 90 }
set_option maxRecDepth 100000 in
set_option maxHeartbeats 4000000 in
theorem kX6_local_c (l : Launch) (G : mmG) (A : Nat → Prop) {μ : MM} {res : Nat × Int32 × MM} {h0 : Nat} {x1 : Int32} {x2 : Int32} (hk0 : mK μ h0 = 7) (hf : fX6_local h0 x1 x2 μ = some res) (h0r : res.1 = 0) : Met l yX6_local [.code yX6_local cX6_local 3 (some (.int))] rmX6_local (mmPc G A μ [rf h0, .int x1, .int x2]) (mmQ G A res.2.2 (some (.int res.2.1))) 0 0 A := by
  refine mm_ofW (by decide +kernel) (by simp [lg_sl, rf_cat, int_cat]) ?_
  intro p e s m below meth c ls S hR hA hS hr hlocks hl hnm
  have hl : lv_has ls 3 [(0, rf h0), (1, .int x1), (2, .int x2)] := by simpa [lv_args, rf_cat, int_cat] using hl
  have E0 : mmEnv p m c cX6_local 3 s _ RX6 G A meth (some (.int)) := ⟨S, hA, hr, hlocks⟩
  have hK : mmKN μ μ := mmKN.rf
  unfold fX6_local at hf
  refine mm_aload_n S dX6_local_0 rfl (lv_at hl 0 rfl) ?_
  refine mm_getp S hR fdX6_21 (hK.k hk0) rfl dX6_local_1 ?_
  refine lv_iload_n S.1 S.2.1 dX6_local_4 rfl (lv_at hl 1 rfl) ?_
  obtain ⟨g2, hf⟩ := gd hf
  obtain ⟨y1, hy1, hf⟩ := bd hf
  refine mm_callVi S hR hS hA (As := [.int x1]) (rest := []) cvX6_145 (hK.k g2) (kX3_isMade_c l G A (hK.k g2) hy1) rfl rfl ⟨Nat.le_of_ble_eq_true rfl, Nat.le_of_ble_eq_true rfl⟩ rfl hl.1 rfl (lv_room (by simp [rf_cat, int_cat, long_cat])) dX6_local_5 ⟨Nat.zero_le _, Nat.zero_le _⟩ (fun H locs hR hS => ?_)
  have hK : mmKN μ y1.2 := hK.tr (kX3_isMade_kn hy1)
  refine lv_if_eq (tgt := 20) S.1 S.2.1 dX6_local_8 (by decide) (fun c3 => ?_) (fun c3 => ?_)
  · have hf := it_t hf c3
    obtain rfl := Option.some.inj hf
    exact absurd h0r (by simp)
  · have hf := it_f hf c3
    refine lv_iload_n S.1 S.2.1 dX6_local_11 rfl (lv_at hl 2 rfl) ?_
    refine lv_iconst (v := 0) S.1 S.2.1 dX6_local_12 (by decide) ?_
    refine lv_iconst (v := 3) S.1 S.2.1 dX6_local_13 (by decide) ?_
    obtain ⟨y4, hy4, hf⟩ := bd hf
    refine mm_callSi S hR hS hA (As := [.int x2, .int 0, .int 3]) (rest := []) csX6_105 (kX6_within_c l G A hy4) rfl rfl ⟨Nat.le_of_ble_eq_true rfl, Nat.le_of_ble_eq_true rfl⟩ rfl hl.1 rfl (lv_room (by simp [rf_cat, int_cat, long_cat])) dX6_local_14 ⟨Nat.zero_le _, Nat.zero_le _⟩ (fun H locs hR hS => ?_)
    have hK : mmKN μ y4.2 := hK.tr (kX6_within_kn hy4)
    refine lv_if_ne (tgt := 30) S.1 S.2.1 dX6_local_17 (by decide) (fun c5 => ?_) (fun c5 => ?_)
    · have hf := it_f hf c5
      refine mm_aload_n S dX6_local_30 rfl (lv_at hl 0 rfl) ?_
      refine mm_getp S hR fdX6_21 (hK.k hk0) rfl dX6_local_31 ?_
      refine lv_iload_n S.1 S.2.1 dX6_local_34 rfl (lv_at hl 1 rfl) ?_
      obtain ⟨g7, hf⟩ := gd hf
      obtain ⟨y6, hy6, hf⟩ := bd hf
      refine mm_callVh S hR hS hA (As := [.int x1]) (rest := []) cvX6_110 (hK.k g7) (kX3_at_c l G A (hK.k g7) hy6) rfl rfl ⟨Nat.le_of_ble_eq_true rfl, Nat.le_of_ble_eq_true rfl⟩ rfl hl.1 rfl (lv_room (by simp [rf_cat, int_cat, long_cat])) dX6_local_35 ⟨Nat.zero_le _, Nat.zero_le _⟩ (fun H locs hR hS => ?_)
      have hK : mmKN μ y6.2 := hK.tr (kX3_at_kn hy6)
      refine lv_iload_n S.1 S.2.1 dX6_local_38 rfl (lv_at hl 2 rfl) ?_
      obtain ⟨g9, hf⟩ := gd hf
      obtain ⟨y8, hy8, hf⟩ := bd hf
      refine mm_callVi S hR hS hA (As := [.int x2]) (rest := []) cvX6_182 (hK.k g9) (kX2_localAt_c l G A (hK.k g9) hy8) rfl rfl ⟨Nat.le_of_ble_eq_true rfl, Nat.le_of_ble_eq_true rfl⟩ rfl hl.1 rfl (lv_room (by simp [rf_cat, int_cat, long_cat])) dX6_local_39 ⟨Nat.zero_le _, Nat.zero_le _⟩ (fun H locs hR hS => ?_)
      have hK : mmKN μ y8.2 := hK.tr (kX2_localAt_kn hy8)
      obtain rfl := Option.some.inj hf
      exact mm_iret S hR hS hr hlocks dX6_local_42
    · have hf := it_t hf c5
      obtain rfl := Option.some.inj hf
      exact absurd h0r (by simp)
set_option maxRecDepth 100000 in
set_option maxHeartbeats 4000000 in
theorem kX6_local_x (l : Launch) (hl0 : l.stackTraces = false) (G : mmG) (A : Nat → Prop) {μ : MM} {res : Nat × Int32 × MM} {h0 : Nat} {x1 : Int32} {x2 : Int32} (hk0 : mK μ h0 = 7) (hf : fX6_local h0 x1 x2 μ = some res) (h0n : ¬ res.1 = 0) : vx_Met l yX6_local [.code yX6_local cX6_local 3 (some (.int))] rxX6_local (mmPx G A μ [rf h0, .int x1, .int x2]) (fun _ _ _ _ => False) (mmXC G A res.2.2 (exn res.1)) 1 6 A := by
  refine mm_ofX (by decide +kernel) (by simp [lg_sl, rf_cat, int_cat]) ?_
  intro p e s m below meth c ls S hR hA hS hr hlocks hl hX hno
  have hl : lv_has ls 3 [(0, rf h0), (1, .int x1), (2, .int x2)] := by simpa [lv_args, rf_cat, int_cat] using hl
  have hK : mmKN μ μ := mmKN.rf
  unfold fX6_local at hf
  refine mm_aload_n S dX6_local_0 rfl (lv_at hl 0 rfl) ?_
  refine mm_getp S hR fdX6_21 (hK.k hk0) rfl dX6_local_1 ?_
  refine lv_iload_n S.1 S.2.1 dX6_local_4 rfl (lv_at hl 1 rfl) ?_
  obtain ⟨g2, hf⟩ := gd hf
  obtain ⟨y1, hy1, hf⟩ := bd hf
  refine mm_callVi S hR hS hA (As := [.int x1]) (rest := []) cvX6_145 (hK.k g2) (kX3_isMade_c l G A (hK.k g2) hy1) rfl rfl ⟨Nat.le_of_ble_eq_true rfl, Nat.le_of_ble_eq_true rfl⟩ rfl hl.1 rfl (lv_room (by simp [rf_cat, int_cat, long_cat])) dX6_local_5 ⟨Nat.zero_le _, Nat.zero_le _⟩ (fun H locs hR hS => ?_)
  have hK : mmKN μ y1.2 := hK.tr (kX3_isMade_kn hy1)
  refine lv_if_eq (tgt := 20) S.1 S.2.1 dX6_local_8 (by decide) (fun c3 => ?_) (fun c3 => ?_)
  · have hf := it_t hf c3
    obtain rfl := Option.some.inj hf
    refine mm_throwS S hR hS hl0 hX thX6_47_180_51 hl.1 hno dX6_local_20 dX6_local_23 dX6_local_24 dX6_local_26 dX6_local_29 (Nat.le_of_ble_eq_true rfl) (by simp [rf_cat, int_cat, long_cat]) (Nat.le_of_ble_eq_true rfl) (Nat.le_of_ble_eq_true rfl) hlocks (Nat.le_of_ble_eq_true rfl) (Nat.le_of_ble_eq_true rfl)
  · have hf := it_f hf c3
    refine lv_iload_n S.1 S.2.1 dX6_local_11 rfl (lv_at hl 2 rfl) ?_
    refine lv_iconst (v := 0) S.1 S.2.1 dX6_local_12 (by decide) ?_
    refine lv_iconst (v := 3) S.1 S.2.1 dX6_local_13 (by decide) ?_
    obtain ⟨y4, hy4, hf⟩ := bd hf
    refine mm_callSi S hR hS hA (As := [.int x2, .int 0, .int 3]) (rest := []) csX6_105 (kX6_within_c l G A hy4) rfl rfl ⟨Nat.le_of_ble_eq_true rfl, Nat.le_of_ble_eq_true rfl⟩ rfl hl.1 rfl (lv_room (by simp [rf_cat, int_cat, long_cat])) dX6_local_14 ⟨Nat.zero_le _, Nat.zero_le _⟩ (fun H locs hR hS => ?_)
    have hK : mmKN μ y4.2 := hK.tr (kX6_within_kn hy4)
    refine lv_if_ne (tgt := 30) S.1 S.2.1 dX6_local_17 (by decide) (fun c5 => ?_) (fun c5 => ?_)
    · have hf := it_f hf c5
      refine mm_aload_n S dX6_local_30 rfl (lv_at hl 0 rfl) ?_
      refine mm_getp S hR fdX6_21 (hK.k hk0) rfl dX6_local_31 ?_
      refine lv_iload_n S.1 S.2.1 dX6_local_34 rfl (lv_at hl 1 rfl) ?_
      obtain ⟨g7, hf⟩ := gd hf
      obtain ⟨y6, hy6, hf⟩ := bd hf
      refine mm_callVh S hR hS hA (As := [.int x1]) (rest := []) cvX6_110 (hK.k g7) (kX3_at_c l G A (hK.k g7) hy6) rfl rfl ⟨Nat.le_of_ble_eq_true rfl, Nat.le_of_ble_eq_true rfl⟩ rfl hl.1 rfl (lv_room (by simp [rf_cat, int_cat, long_cat])) dX6_local_35 ⟨Nat.zero_le _, Nat.zero_le _⟩ (fun H locs hR hS => ?_)
      have hK : mmKN μ y6.2 := hK.tr (kX3_at_kn hy6)
      refine lv_iload_n S.1 S.2.1 dX6_local_38 rfl (lv_at hl 2 rfl) ?_
      obtain ⟨g9, hf⟩ := gd hf
      obtain ⟨y8, hy8, hf⟩ := bd hf
      refine mm_callVi S hR hS hA (As := [.int x2]) (rest := []) cvX6_182 (hK.k g9) (kX2_localAt_c l G A (hK.k g9) hy8) rfl rfl ⟨Nat.le_of_ble_eq_true rfl, Nat.le_of_ble_eq_true rfl⟩ rfl hl.1 rfl (lv_room (by simp [rf_cat, int_cat, long_cat])) dX6_local_39 ⟨Nat.zero_le _, Nat.zero_le _⟩ (fun H locs hR hS => ?_)
      have hK : mmKN μ y8.2 := hK.tr (kX2_localAt_kn hy8)
      obtain rfl := Option.some.inj hf
      exact absurd rfl h0n
    · have hf := it_t hf c5
      obtain rfl := Option.some.inj hf
      refine mm_throwS S hR hS hl0 hX thX6_47_180_51 hl.1 hno dX6_local_20 dX6_local_23 dX6_local_24 dX6_local_26 dX6_local_29 (Nat.le_of_ble_eq_true rfl) (by simp [rf_cat, int_cat, long_cat]) (Nat.le_of_ble_eq_true rfl) (Nat.le_of_ble_eq_true rfl) hlocks (Nat.le_of_ble_eq_true rfl) (Nat.le_of_ble_eq_true rfl)
-- X6_stack
def fX6_stack (h0 : Nat) (x1 : Int32) (x2 : Int32) (μ : MM) : Option (Nat × Int32 × MM) :=
  if mK μ (mP μ h0 1) = 4 then (fX3_isMade (mP μ h0 1) x1 μ).bind fun y1 => if y1.1 = 0 then (some (1, 0, y1.2)) else (if mK μ (mP y1.2 h0 1) = 4 then (fX3_at (mP y1.2 h0 1) x1 y1.2).bind fun y4 => if mK μ y4.1 = 3 then if mK μ (mP y4.2 y4.1 2) = 6 then (fX5_has (mP y4.2 y4.1 2) x2 y4.2).bind fun y7 => if y7.1 = 0 then (some (1, 0, y7.2)) else (if mK μ (mP y7.2 h0 1) = 4 then (fX3_at (mP y7.2 h0 1) x1 y7.2).bind fun y10 => if mK μ y10.1 = 3 then if mK μ (mP y10.2 y10.1 2) = 6 then (fX5_signAt (mP y10.2 y10.1 2) x2 y10.2).bind fun y13 => some (0, y13.1, y13.2) else none else none else none) else none else none else none) else none
set_option maxRecDepth 100000 in
set_option maxHeartbeats 4000000 in
theorem kX6_stack_kn {μ : MM} {res : Nat × Int32 × MM} {h0 : Nat} {x1 : Int32} {x2 : Int32} (hf : fX6_stack h0 x1 x2 μ = some res) : mmKN μ res.2.2 := by
  have hK : mmKN μ μ := mmKN.rf
  unfold fX6_stack at hf
  obtain ⟨g2, hf⟩ := gd hf
  obtain ⟨y1, hy1, hf⟩ := bd hf
  have hK : mmKN μ y1.2 := hK.tr (kX3_isMade_kn hy1)
  rcases it_or hf with ⟨c3, hf⟩ | ⟨c3, hf⟩
  · skip
    obtain rfl := Option.some.inj hf
    exact hK
  · skip
    obtain ⟨g5, hf⟩ := gd hf
    obtain ⟨y4, hy4, hf⟩ := bd hf
    have hK : mmKN μ y4.2 := hK.tr (kX3_at_kn hy4)
    obtain ⟨g6, hf⟩ := gd hf
    obtain ⟨g8, hf⟩ := gd hf
    obtain ⟨y7, hy7, hf⟩ := bd hf
    have hK : mmKN μ y7.2 := hK.tr (kX5_has_kn hy7)
    rcases it_or hf with ⟨c9, hf⟩ | ⟨c9, hf⟩
    · skip
      obtain rfl := Option.some.inj hf
      exact hK
    · skip
      obtain ⟨g11, hf⟩ := gd hf
      obtain ⟨y10, hy10, hf⟩ := bd hf
      have hK : mmKN μ y10.2 := hK.tr (kX3_at_kn hy10)
      obtain ⟨g12, hf⟩ := gd hf
      obtain ⟨g14, hf⟩ := gd hf
      obtain ⟨y13, hy13, hf⟩ := bd hf
      have hK : mmKN μ y13.2 := hK.tr (kX5_signAt_kn hy13)
      obtain rfl := Option.some.inj hf
      exact hK
abbrev rmX6_stack : Room := { frames := 2, cells := 0, slots := 0, locals := 42 }
abbrev rxX6_stack : Room := { frames := 6, cells := 1, slots := 6, locals := 90 }
set_option maxRecDepth 100000 in
set_option maxHeartbeats 4000000 in
theorem kX6_stack_c (l : Launch) (G : mmG) (A : Nat → Prop) {μ : MM} {res : Nat × Int32 × MM} {h0 : Nat} {x1 : Int32} {x2 : Int32} (hk0 : mK μ h0 = 7) (hf : fX6_stack h0 x1 x2 μ = some res) (h0r : res.1 = 0) : Met l yX6_stack [.code yX6_stack cX6_stack 3 (some (.int))] rmX6_stack (mmPc G A μ [rf h0, .int x1, .int x2]) (mmQ G A res.2.2 (some (.int res.2.1))) 0 0 A := by
  refine mm_ofW (by decide +kernel) (by simp [lg_sl, rf_cat, int_cat]) ?_
  intro p e s m below meth c ls S hR hA hS hr hlocks hl hnm
  have hl : lv_has ls 3 [(0, rf h0), (1, .int x1), (2, .int x2)] := by simpa [lv_args, rf_cat, int_cat] using hl
  have E0 : mmEnv p m c cX6_stack 3 s _ RX6 G A meth (some (.int)) := ⟨S, hA, hr, hlocks⟩
  have hK : mmKN μ μ := mmKN.rf
  unfold fX6_stack at hf
  refine mm_aload_n S dX6_stack_0 rfl (lv_at hl 0 rfl) ?_
  refine mm_getp S hR fdX6_21 (hK.k hk0) rfl dX6_stack_1 ?_
  refine lv_iload_n S.1 S.2.1 dX6_stack_4 rfl (lv_at hl 1 rfl) ?_
  obtain ⟨g2, hf⟩ := gd hf
  obtain ⟨y1, hy1, hf⟩ := bd hf
  refine mm_callVi S hR hS hA (As := [.int x1]) (rest := []) cvX6_145 (hK.k g2) (kX3_isMade_c l G A (hK.k g2) hy1) rfl rfl ⟨Nat.le_of_ble_eq_true rfl, Nat.le_of_ble_eq_true rfl⟩ rfl hl.1 rfl (lv_room (by simp [rf_cat, int_cat, long_cat])) dX6_stack_5 ⟨Nat.zero_le _, Nat.zero_le _⟩ (fun H locs hR hS => ?_)
  have hK : mmKN μ y1.2 := hK.tr (kX3_isMade_kn hy1)
  refine lv_if_eq (tgt := 29) S.1 S.2.1 dX6_stack_8 (by decide) (fun c3 => ?_) (fun c3 => ?_)
  · have hf := it_t hf c3
    obtain rfl := Option.some.inj hf
    exact absurd h0r (by simp)
  · have hf := it_f hf c3
    refine mm_aload_n S dX6_stack_11 rfl (lv_at hl 0 rfl) ?_
    refine mm_getp S hR fdX6_21 (hK.k hk0) rfl dX6_stack_12 ?_
    refine lv_iload_n S.1 S.2.1 dX6_stack_15 rfl (lv_at hl 1 rfl) ?_
    obtain ⟨g5, hf⟩ := gd hf
    obtain ⟨y4, hy4, hf⟩ := bd hf
    refine mm_callVh S hR hS hA (As := [.int x1]) (rest := []) cvX6_110 (hK.k g5) (kX3_at_c l G A (hK.k g5) hy4) rfl rfl ⟨Nat.le_of_ble_eq_true rfl, Nat.le_of_ble_eq_true rfl⟩ rfl hl.1 rfl (lv_room (by simp [rf_cat, int_cat, long_cat])) dX6_stack_16 ⟨Nat.zero_le _, Nat.zero_le _⟩ (fun H locs hR hS => ?_)
    have hK : mmKN μ y4.2 := hK.tr (kX3_at_kn hy4)
    obtain ⟨g6, hf⟩ := gd hf
    refine mm_getp S hR fdX6_165 (hK.k g6) rfl dX6_stack_19 ?_
    refine lv_iload_n S.1 S.2.1 dX6_stack_22 rfl (lv_at hl 2 rfl) ?_
    obtain ⟨g8, hf⟩ := gd hf
    obtain ⟨y7, hy7, hf⟩ := bd hf
    refine mm_callVi S hR hS hA (As := [.int x2]) (rest := []) cvX6_185 (hK.k g8) (kX5_has_c l G A (hK.k g8) hy7) rfl rfl ⟨Nat.le_of_ble_eq_true rfl, Nat.le_of_ble_eq_true rfl⟩ rfl hl.1 rfl (lv_room (by simp [rf_cat, int_cat, long_cat])) dX6_stack_23 ⟨Nat.zero_le _, Nat.zero_le _⟩ (fun H locs hR hS => ?_)
    have hK : mmKN μ y7.2 := hK.tr (kX5_has_kn hy7)
    refine lv_if_ne (tgt := 39) S.1 S.2.1 dX6_stack_26 (by decide) (fun c9 => ?_) (fun c9 => ?_)
    · have hf := it_f hf c9
      refine mm_aload_n S dX6_stack_39 rfl (lv_at hl 0 rfl) ?_
      refine mm_getp S hR fdX6_21 (hK.k hk0) rfl dX6_stack_40 ?_
      refine lv_iload_n S.1 S.2.1 dX6_stack_43 rfl (lv_at hl 1 rfl) ?_
      obtain ⟨g11, hf⟩ := gd hf
      obtain ⟨y10, hy10, hf⟩ := bd hf
      refine mm_callVh S hR hS hA (As := [.int x1]) (rest := []) cvX6_110 (hK.k g11) (kX3_at_c l G A (hK.k g11) hy10) rfl rfl ⟨Nat.le_of_ble_eq_true rfl, Nat.le_of_ble_eq_true rfl⟩ rfl hl.1 rfl (lv_room (by simp [rf_cat, int_cat, long_cat])) dX6_stack_44 ⟨Nat.zero_le _, Nat.zero_le _⟩ (fun H locs hR hS => ?_)
      have hK : mmKN μ y10.2 := hK.tr (kX3_at_kn hy10)
      obtain ⟨g12, hf⟩ := gd hf
      refine mm_getp S hR fdX6_165 (hK.k g12) rfl dX6_stack_47 ?_
      refine lv_iload_n S.1 S.2.1 dX6_stack_50 rfl (lv_at hl 2 rfl) ?_
      obtain ⟨g14, hf⟩ := gd hf
      obtain ⟨y13, hy13, hf⟩ := bd hf
      refine mm_callVi S hR hS hA (As := [.int x2]) (rest := []) cvX6_188 (hK.k g14) (kX5_signAt_c l G A (hK.k g14) hy13) rfl rfl ⟨Nat.le_of_ble_eq_true rfl, Nat.le_of_ble_eq_true rfl⟩ rfl hl.1 rfl (lv_room (by simp [rf_cat, int_cat, long_cat])) dX6_stack_51 ⟨Nat.zero_le _, Nat.zero_le _⟩ (fun H locs hR hS => ?_)
      have hK : mmKN μ y13.2 := hK.tr (kX5_signAt_kn hy13)
      obtain rfl := Option.some.inj hf
      exact mm_iret S hR hS hr hlocks dX6_stack_54
    · have hf := it_t hf c9
      obtain rfl := Option.some.inj hf
      exact absurd h0r (by simp)
set_option maxRecDepth 100000 in
set_option maxHeartbeats 4000000 in
theorem kX6_stack_x (l : Launch) (hl0 : l.stackTraces = false) (G : mmG) (A : Nat → Prop) {μ : MM} {res : Nat × Int32 × MM} {h0 : Nat} {x1 : Int32} {x2 : Int32} (hk0 : mK μ h0 = 7) (hf : fX6_stack h0 x1 x2 μ = some res) (h0n : ¬ res.1 = 0) : vx_Met l yX6_stack [.code yX6_stack cX6_stack 3 (some (.int))] rxX6_stack (mmPx G A μ [rf h0, .int x1, .int x2]) (fun _ _ _ _ => False) (mmXC G A res.2.2 (exn res.1)) 1 6 A := by
  refine mm_ofX (by decide +kernel) (by simp [lg_sl, rf_cat, int_cat]) ?_
  intro p e s m below meth c ls S hR hA hS hr hlocks hl hX hno
  have hl : lv_has ls 3 [(0, rf h0), (1, .int x1), (2, .int x2)] := by simpa [lv_args, rf_cat, int_cat] using hl
  have hK : mmKN μ μ := mmKN.rf
  unfold fX6_stack at hf
  refine mm_aload_n S dX6_stack_0 rfl (lv_at hl 0 rfl) ?_
  refine mm_getp S hR fdX6_21 (hK.k hk0) rfl dX6_stack_1 ?_
  refine lv_iload_n S.1 S.2.1 dX6_stack_4 rfl (lv_at hl 1 rfl) ?_
  obtain ⟨g2, hf⟩ := gd hf
  obtain ⟨y1, hy1, hf⟩ := bd hf
  refine mm_callVi S hR hS hA (As := [.int x1]) (rest := []) cvX6_145 (hK.k g2) (kX3_isMade_c l G A (hK.k g2) hy1) rfl rfl ⟨Nat.le_of_ble_eq_true rfl, Nat.le_of_ble_eq_true rfl⟩ rfl hl.1 rfl (lv_room (by simp [rf_cat, int_cat, long_cat])) dX6_stack_5 ⟨Nat.zero_le _, Nat.zero_le _⟩ (fun H locs hR hS => ?_)
  have hK : mmKN μ y1.2 := hK.tr (kX3_isMade_kn hy1)
  refine lv_if_eq (tgt := 29) S.1 S.2.1 dX6_stack_8 (by decide) (fun c3 => ?_) (fun c3 => ?_)
  · have hf := it_t hf c3
    obtain rfl := Option.some.inj hf
    refine mm_throwS S hR hS hl0 hX thX6_47_186_51 hl.1 hno dX6_stack_29 dX6_stack_32 dX6_stack_33 dX6_stack_35 dX6_stack_38 (Nat.le_of_ble_eq_true rfl) (by simp [rf_cat, int_cat, long_cat]) (Nat.le_of_ble_eq_true rfl) (Nat.le_of_ble_eq_true rfl) hlocks (Nat.le_of_ble_eq_true rfl) (Nat.le_of_ble_eq_true rfl)
  · have hf := it_f hf c3
    refine mm_aload_n S dX6_stack_11 rfl (lv_at hl 0 rfl) ?_
    refine mm_getp S hR fdX6_21 (hK.k hk0) rfl dX6_stack_12 ?_
    refine lv_iload_n S.1 S.2.1 dX6_stack_15 rfl (lv_at hl 1 rfl) ?_
    obtain ⟨g5, hf⟩ := gd hf
    obtain ⟨y4, hy4, hf⟩ := bd hf
    refine mm_callVh S hR hS hA (As := [.int x1]) (rest := []) cvX6_110 (hK.k g5) (kX3_at_c l G A (hK.k g5) hy4) rfl rfl ⟨Nat.le_of_ble_eq_true rfl, Nat.le_of_ble_eq_true rfl⟩ rfl hl.1 rfl (lv_room (by simp [rf_cat, int_cat, long_cat])) dX6_stack_16 ⟨Nat.zero_le _, Nat.zero_le _⟩ (fun H locs hR hS => ?_)
    have hK : mmKN μ y4.2 := hK.tr (kX3_at_kn hy4)
    obtain ⟨g6, hf⟩ := gd hf
    refine mm_getp S hR fdX6_165 (hK.k g6) rfl dX6_stack_19 ?_
    refine lv_iload_n S.1 S.2.1 dX6_stack_22 rfl (lv_at hl 2 rfl) ?_
    obtain ⟨g8, hf⟩ := gd hf
    obtain ⟨y7, hy7, hf⟩ := bd hf
    refine mm_callVi S hR hS hA (As := [.int x2]) (rest := []) cvX6_185 (hK.k g8) (kX5_has_c l G A (hK.k g8) hy7) rfl rfl ⟨Nat.le_of_ble_eq_true rfl, Nat.le_of_ble_eq_true rfl⟩ rfl hl.1 rfl (lv_room (by simp [rf_cat, int_cat, long_cat])) dX6_stack_23 ⟨Nat.zero_le _, Nat.zero_le _⟩ (fun H locs hR hS => ?_)
    have hK : mmKN μ y7.2 := hK.tr (kX5_has_kn hy7)
    refine lv_if_ne (tgt := 39) S.1 S.2.1 dX6_stack_26 (by decide) (fun c9 => ?_) (fun c9 => ?_)
    · have hf := it_f hf c9
      refine mm_aload_n S dX6_stack_39 rfl (lv_at hl 0 rfl) ?_
      refine mm_getp S hR fdX6_21 (hK.k hk0) rfl dX6_stack_40 ?_
      refine lv_iload_n S.1 S.2.1 dX6_stack_43 rfl (lv_at hl 1 rfl) ?_
      obtain ⟨g11, hf⟩ := gd hf
      obtain ⟨y10, hy10, hf⟩ := bd hf
      refine mm_callVh S hR hS hA (As := [.int x1]) (rest := []) cvX6_110 (hK.k g11) (kX3_at_c l G A (hK.k g11) hy10) rfl rfl ⟨Nat.le_of_ble_eq_true rfl, Nat.le_of_ble_eq_true rfl⟩ rfl hl.1 rfl (lv_room (by simp [rf_cat, int_cat, long_cat])) dX6_stack_44 ⟨Nat.zero_le _, Nat.zero_le _⟩ (fun H locs hR hS => ?_)
      have hK : mmKN μ y10.2 := hK.tr (kX3_at_kn hy10)
      obtain ⟨g12, hf⟩ := gd hf
      refine mm_getp S hR fdX6_165 (hK.k g12) rfl dX6_stack_47 ?_
      refine lv_iload_n S.1 S.2.1 dX6_stack_50 rfl (lv_at hl 2 rfl) ?_
      obtain ⟨g14, hf⟩ := gd hf
      obtain ⟨y13, hy13, hf⟩ := bd hf
      refine mm_callVi S hR hS hA (As := [.int x2]) (rest := []) cvX6_188 (hK.k g14) (kX5_signAt_c l G A (hK.k g14) hy13) rfl rfl ⟨Nat.le_of_ble_eq_true rfl, Nat.le_of_ble_eq_true rfl⟩ rfl hl.1 rfl (lv_room (by simp [rf_cat, int_cat, long_cat])) dX6_stack_51 ⟨Nat.zero_le _, Nat.zero_le _⟩ (fun H locs hR hS => ?_)
      have hK : mmKN μ y13.2 := hK.tr (kX5_signAt_kn hy13)
      obtain rfl := Option.some.inj hf
      exact absurd rfl h0n
    · have hf := it_t hf c9
      obtain rfl := Option.some.inj hf
      refine mm_throwS S hR hS hl0 hX thX6_47_186_51 hl.1 hno dX6_stack_29 dX6_stack_32 dX6_stack_33 dX6_stack_35 dX6_stack_38 (Nat.le_of_ble_eq_true rfl) (by simp [rf_cat, int_cat, long_cat]) (Nat.le_of_ble_eq_true rfl) (Nat.le_of_ble_eq_true rfl) hlocks (Nat.le_of_ble_eq_true rfl) (Nat.le_of_ble_eq_true rfl)
-- X6_ofTask
def fX6_ofTask (h0 : Nat) (x1 : Int32) (x2 : Int32) (μ : MM) : Option (Nat × Int32 × MM) :=
  if mK μ (mP μ h0 1) = 4 then (fX3_has (mP μ h0 1) x1 1 μ).bind fun y1 => if y1.1 = 0 then (some (1, 0, y1.2)) else (if mK μ (mP y1.2 h0 1) = 4 then (fX3_at (mP y1.2 h0 1) x1 y1.2).bind fun y4 => if x2 = 0 then (if mK μ (mP y4.2 h0 1) = 4 then if mK μ (mP y4.2 (mP y4.2 h0 1) 3) = 5 then (fX4_placeOf (mP y4.2 (mP y4.2 h0 1) 3) x1 y4.2).bind fun y8 => some (0, y8.1, y8.2) else none else none) else (if x2 = 1 then (if mK μ y4.1 = 3 then some (0, (mI y4.2 y4.1 12), y4.2) else none) else (if x2 = 2 then (if mK μ y4.1 = 3 then some (0, (mI y4.2 y4.1 13), y4.2) else none) else (if x2 = 3 then (if mK μ y4.1 = 3 then some (0, (mI y4.2 y4.1 14), y4.2) else none) else (if x2 = 4 then (if mK μ y4.1 = 3 then if (mI y4.2 y4.1 15) = 0 then (some (0, 0, y4.2)) else (some (0, 1, y4.2)) else none) else (if x2 = 5 then (if mK μ y4.1 = 3 then some (0, (mI y4.2 y4.1 16), y4.2) else none) else (if x2 = 6 then (if mK μ (mP y4.2 h0 1) = 4 then (fX3_howManyAwait (mP y4.2 h0 1) x1 y4.2).bind fun y22 => some (0, y22.1, y22.2) else none) else (some (2, 0, y4.2)))))))) else none) else none
set_option maxRecDepth 100000 in
set_option maxHeartbeats 4000000 in
theorem kX6_ofTask_kn {μ : MM} {res : Nat × Int32 × MM} {h0 : Nat} {x1 : Int32} {x2 : Int32} (hf : fX6_ofTask h0 x1 x2 μ = some res) : mmKN μ res.2.2 := by
  have hK : mmKN μ μ := mmKN.rf
  unfold fX6_ofTask at hf
  obtain ⟨g2, hf⟩ := gd hf
  obtain ⟨y1, hy1, hf⟩ := bd hf
  have hK : mmKN μ y1.2 := hK.tr (kX3_has_kn hy1)
  rcases it_or hf with ⟨c3, hf⟩ | ⟨c3, hf⟩
  · skip
    obtain rfl := Option.some.inj hf
    exact hK
  · skip
    obtain ⟨g5, hf⟩ := gd hf
    obtain ⟨y4, hy4, hf⟩ := bd hf
    have hK : mmKN μ y4.2 := hK.tr (kX3_at_kn hy4)
    rcases it_or hf with ⟨c6, hf⟩ | ⟨c6, hf⟩
    · skip
      obtain ⟨g7, hf⟩ := gd hf
      obtain ⟨g9, hf⟩ := gd hf
      obtain ⟨y8, hy8, hf⟩ := bd hf
      have hK : mmKN μ y8.2 := hK.tr (kX4_placeOf_kn hy8)
      obtain rfl := Option.some.inj hf
      exact hK
    rcases it_or hf with ⟨c10, hf⟩ | ⟨c10, hf⟩
    · skip
      obtain ⟨g11, hf⟩ := gd hf
      obtain rfl := Option.some.inj hf
      exact hK
    rcases it_or hf with ⟨c12, hf⟩ | ⟨c12, hf⟩
    · skip
      obtain ⟨g13, hf⟩ := gd hf
      obtain rfl := Option.some.inj hf
      exact hK
    rcases it_or hf with ⟨c14, hf⟩ | ⟨c14, hf⟩
    · skip
      obtain ⟨g15, hf⟩ := gd hf
      obtain rfl := Option.some.inj hf
      exact hK
    rcases it_or hf with ⟨c16, hf⟩ | ⟨c16, hf⟩
    · skip
      obtain ⟨g17, hf⟩ := gd hf
      rcases it_or hf with ⟨c18, hf⟩ | ⟨c18, hf⟩
      · skip
        obtain rfl := Option.some.inj hf
        exact hK
      · skip
        obtain rfl := Option.some.inj hf
        exact hK
    rcases it_or hf with ⟨c19, hf⟩ | ⟨c19, hf⟩
    · skip
      obtain ⟨g20, hf⟩ := gd hf
      obtain rfl := Option.some.inj hf
      exact hK
    rcases it_or hf with ⟨c21, hf⟩ | ⟨c21, hf⟩
    · skip
      obtain ⟨g23, hf⟩ := gd hf
      obtain ⟨y22, hy22, hf⟩ := bd hf
      have hK : mmKN μ y22.2 := hK.tr (kX3_howManyAwait_kn hy22)
      obtain rfl := Option.some.inj hf
      exact hK
    obtain rfl := Option.some.inj hf
    exact hK
abbrev rmX6_ofTask : Room := { frames := 2, cells := 0, slots := 0, locals := 44 }
abbrev rxX6_ofTask : Room := { frames := 6, cells := 1, slots := 6, locals := 90 }
set_option maxRecDepth 100000 in
set_option maxHeartbeats 4000000 in
theorem kX6_ofTask_c (l : Launch) (G : mmG) (A : Nat → Prop) {μ : MM} {res : Nat × Int32 × MM} {h0 : Nat} {x1 : Int32} {x2 : Int32} (hk0 : mK μ h0 = 7) (hf : fX6_ofTask h0 x1 x2 μ = some res) (h0r : res.1 = 0) : Met l yX6_ofTask [.code yX6_ofTask cX6_ofTask 4 (some (.int))] rmX6_ofTask (mmPc G A μ [rf h0, .int x1, .int x2]) (mmQ G A res.2.2 (some (.int res.2.1))) 0 0 A := by
  refine mm_ofW (by decide +kernel) (by simp [lg_sl, rf_cat, int_cat]) ?_
  intro p e s m below meth c ls S hR hA hS hr hlocks hl hnm
  have hl : lv_has ls 4 [(0, rf h0), (1, .int x1), (2, .int x2)] := by simpa [lv_args, rf_cat, int_cat] using hl
  have E0 : mmEnv p m c cX6_ofTask 4 s _ RX6 G A meth (some (.int)) := ⟨S, hA, hr, hlocks⟩
  have hK : mmKN μ μ := mmKN.rf
  unfold fX6_ofTask at hf
  refine mm_aload_n S dX6_ofTask_0 rfl (lv_at hl 0 rfl) ?_
  refine mm_getp S hR fdX6_21 (hK.k hk0) rfl dX6_ofTask_1 ?_
  refine lv_iload_n S.1 S.2.1 dX6_ofTask_4 rfl (lv_at hl 1 rfl) ?_
  refine lv_iconst (v := 1) S.1 S.2.1 dX6_ofTask_5 (by decide) ?_
  obtain ⟨g2, hf⟩ := gd hf
  obtain ⟨y1, hy1, hf⟩ := bd hf
  refine mm_callVi S hR hS hA (As := [.int x1, .int 1]) (rest := []) cvX6_100 (hK.k g2) (kX3_has_c l G A (hK.k g2) hy1) rfl rfl ⟨Nat.le_of_ble_eq_true rfl, Nat.le_of_ble_eq_true rfl⟩ rfl hl.1 rfl (lv_room (by simp [rf_cat, int_cat, long_cat])) dX6_ofTask_6 ⟨Nat.zero_le _, Nat.zero_le _⟩ (fun H locs hR hS => ?_)
  have hK : mmKN μ y1.2 := hK.tr (kX3_has_kn hy1)
  refine lv_if_ne (tgt := 22) S.1 S.2.1 dX6_ofTask_9 (by decide) (fun c3 => ?_) (fun c3 => ?_)
  · have hf := it_f hf c3
    refine mm_aload_n S dX6_ofTask_22 rfl (lv_at hl 0 rfl) ?_
    refine mm_getp S hR fdX6_21 (hK.k hk0) rfl dX6_ofTask_23 ?_
    refine lv_iload_n S.1 S.2.1 dX6_ofTask_26 rfl (lv_at hl 1 rfl) ?_
    obtain ⟨g5, hf⟩ := gd hf
    obtain ⟨y4, hy4, hf⟩ := bd hf
    refine mm_callVh S hR hS hA (As := [.int x1]) (rest := []) cvX6_110 (hK.k g5) (kX3_at_c l G A (hK.k g5) hy4) rfl rfl ⟨Nat.le_of_ble_eq_true rfl, Nat.le_of_ble_eq_true rfl⟩ rfl hl.1 rfl (lv_room (by simp [rf_cat, int_cat, long_cat])) dX6_ofTask_27 ⟨Nat.zero_le _, Nat.zero_le _⟩ (fun H locs hR hS => ?_)
    have hK : mmKN μ y4.2 := hK.tr (kX3_at_kn hy4)
    refine mm_astore_n (i := 3) (lv' := [(3, rf y4.1), (0, rf h0), (1, .int x1), (2, .int x2)]) S dX6_ofTask_30 rfl hl (by decide) rfl (fun ls hl => ?_)
    refine lv_iload_n S.1 S.2.1 dX6_ofTask_31 rfl (lv_at hl 3 rfl) ?_
    rcases it_or hf with ⟨c6, hf⟩ | ⟨c6, hf⟩
    · refine mm_swL (tgt := 76) (off := 44) S [0] dX6_ofTask_32 (by simpa using c6) (by decide) (by decide) ?_
      refine mm_aload_n S dX6_ofTask_76 rfl (lv_at hl 1 rfl) ?_
      refine mm_getp S hR fdX6_21 (hK.k hk0) rfl dX6_ofTask_77 ?_
      obtain ⟨g7, hf⟩ := gd hf
      refine mm_getp S hR fdX6_191 (hK.k g7) rfl dX6_ofTask_80 ?_
      refine lv_iload_n S.1 S.2.1 dX6_ofTask_83 rfl (lv_at hl 2 rfl) ?_
      obtain ⟨g9, hf⟩ := gd hf
      obtain ⟨y8, hy8, hf⟩ := bd hf
      refine mm_callVi S hR hS hA (As := [.int x1]) (rest := []) cvX6_195 (hK.k g9) (kX4_placeOf_c l G A (hK.k g9) hy8) rfl rfl ⟨Nat.le_of_ble_eq_true rfl, Nat.le_of_ble_eq_true rfl⟩ rfl hl.1 rfl (lv_room (by simp [rf_cat, int_cat, long_cat])) dX6_ofTask_84 ⟨Nat.zero_le _, Nat.zero_le _⟩ (fun H locs hR hS => ?_)
      have hK : mmKN μ y8.2 := hK.tr (kX4_placeOf_kn hy8)
      obtain rfl := Option.some.inj hf
      exact mm_iret S hR hS hr hlocks dX6_ofTask_87
    rcases it_or hf with ⟨c10, hf⟩ | ⟨c10, hf⟩
    · refine mm_swL (tgt := 88) (off := 56) S [1] dX6_ofTask_32 (by simpa using c10) (by decide) (by decide) ?_
      refine mm_aload_n S dX6_ofTask_88 rfl (lv_at hl 0 rfl) ?_
      obtain ⟨g11, hf⟩ := gd hf
      refine mm_geti S hR fdX6_200 (hK.k g11) rfl dX6_ofTask_89 ?_
      obtain rfl := Option.some.inj hf
      exact mm_iret S hR hS hr hlocks dX6_ofTask_92
    rcases it_or hf with ⟨c12, hf⟩ | ⟨c12, hf⟩
    · refine mm_swL (tgt := 93) (off := 61) S [2] dX6_ofTask_32 (by simpa using c12) (by decide) (by decide) ?_
      refine mm_aload_n S dX6_ofTask_93 rfl (lv_at hl 0 rfl) ?_
      obtain ⟨g13, hf⟩ := gd hf
      refine mm_geti S hR fdX6_203 (hK.k g13) rfl dX6_ofTask_94 ?_
      obtain rfl := Option.some.inj hf
      exact mm_iret S hR hS hr hlocks dX6_ofTask_97
    rcases it_or hf with ⟨c14, hf⟩ | ⟨c14, hf⟩
    · refine mm_swL (tgt := 98) (off := 66) S [3] dX6_ofTask_32 (by simpa using c14) (by decide) (by decide) ?_
      refine mm_aload_n S dX6_ofTask_98 rfl (lv_at hl 0 rfl) ?_
      obtain ⟨g15, hf⟩ := gd hf
      refine mm_geti S hR fdX6_206 (hK.k g15) rfl dX6_ofTask_99 ?_
      obtain rfl := Option.some.inj hf
      exact mm_iret S hR hS hr hlocks dX6_ofTask_102
    rcases it_or hf with ⟨c16, hf⟩ | ⟨c16, hf⟩
    · refine mm_swL (tgt := 103) (off := 71) S [4] dX6_ofTask_32 (by simpa using c16) (by decide) (by decide) ?_
      refine mm_aload_n S dX6_ofTask_103 rfl (lv_at hl 0 rfl) ?_
      obtain ⟨g17, hf⟩ := gd hf
      refine mm_geti S hR fdX6_209 (hK.k g17) rfl dX6_ofTask_104 ?_
      refine lv_if_eq (tgt := 114) S.1 S.2.1 dX6_ofTask_107 (by decide) (fun c18 => ?_) (fun c18 => ?_)
      · have hf := it_t hf c18
        refine lv_iconst (v := 0) S.1 S.2.1 dX6_ofTask_114 (by decide) ?_
        obtain rfl := Option.some.inj hf
        exact mm_iret S hR hS hr hlocks dX6_ofTask_115
      · have hf := it_f hf c18
        refine lv_iconst (v := 1) S.1 S.2.1 dX6_ofTask_110 (by decide) ?_
        refine lv_goto (tgt := 115) S.1 S.2.1 dX6_ofTask_111 (by decide) ?_
        obtain rfl := Option.some.inj hf
        exact mm_iret S hR hS hr hlocks dX6_ofTask_115
    rcases it_or hf with ⟨c19, hf⟩ | ⟨c19, hf⟩
    · refine mm_swL (tgt := 116) (off := 84) S [5] dX6_ofTask_32 (by simpa using c19) (by decide) (by decide) ?_
      refine mm_aload_n S dX6_ofTask_116 rfl (lv_at hl 0 rfl) ?_
      obtain ⟨g20, hf⟩ := gd hf
      refine mm_geti S hR fdX6_213 (hK.k g20) rfl dX6_ofTask_117 ?_
      obtain rfl := Option.some.inj hf
      exact mm_iret S hR hS hr hlocks dX6_ofTask_120
    rcases it_or hf with ⟨c21, hf⟩ | ⟨c21, hf⟩
    · refine mm_swL (tgt := 121) (off := 89) S [6] dX6_ofTask_32 (by simpa using c21) (by decide) (by decide) ?_
      refine mm_aload_n S dX6_ofTask_121 rfl (lv_at hl 1 rfl) ?_
      refine mm_getp S hR fdX6_21 (hK.k hk0) rfl dX6_ofTask_122 ?_
      refine lv_iload_n S.1 S.2.1 dX6_ofTask_125 rfl (lv_at hl 2 rfl) ?_
      obtain ⟨g23, hf⟩ := gd hf
      obtain ⟨y22, hy22, hf⟩ := bd hf
      refine mm_callVi S hR hS hA (As := [.int x1]) (rest := []) cvX6_216 (hK.k g23) (kX3_howManyAwait_c l G A (hK.k g23) hy22) rfl rfl ⟨Nat.le_of_ble_eq_true rfl, Nat.le_of_ble_eq_true rfl⟩ rfl hl.1 rfl (lv_room (by simp [rf_cat, int_cat, long_cat])) dX6_ofTask_126 ⟨Nat.zero_le _, Nat.zero_le _⟩ (fun H locs hR hS => ?_)
      have hK : mmKN μ y22.2 := hK.tr (kX3_howManyAwait_kn hy22)
      obtain rfl := Option.some.inj hf
      exact mm_iret S hR hS hr hlocks dX6_ofTask_129
    refine mm_swD (tgt := 130) S [0, 1, 2, 3, 4, 5, 6] dX6_ofTask_32 (by simp only [List.forall_mem_cons, List.not_mem_nil, false_imp_iff, implies_true, and_true]; (try simp only [not_or] at c6 c10 c12 c14 c16 c19 c21); simp only [c6, c10, c12, c14, c16, c19, c21, not_false_eq_true, and_self, and_true, true_and]) (by decide) (by decide) ?_
    obtain rfl := Option.some.inj hf
    exact absurd h0r (by simp)
  · have hf := it_t hf c3
    obtain rfl := Option.some.inj hf
    exact absurd h0r (by simp)
set_option maxRecDepth 100000 in
set_option maxHeartbeats 4000000 in
theorem kX6_ofTask_x (l : Launch) (hl0 : l.stackTraces = false) (G : mmG) (A : Nat → Prop) {μ : MM} {res : Nat × Int32 × MM} {h0 : Nat} {x1 : Int32} {x2 : Int32} (hk0 : mK μ h0 = 7) (hf : fX6_ofTask h0 x1 x2 μ = some res) (h0n : ¬ res.1 = 0) : vx_Met l yX6_ofTask [.code yX6_ofTask cX6_ofTask 4 (some (.int))] rxX6_ofTask (mmPx G A μ [rf h0, .int x1, .int x2]) (fun _ _ _ _ => False) (mmXC G A res.2.2 (exn res.1)) 1 6 A := by
  refine mm_ofX (by decide +kernel) (by simp [lg_sl, rf_cat, int_cat]) ?_
  intro p e s m below meth c ls S hR hA hS hr hlocks hl hX hno
  have hl : lv_has ls 4 [(0, rf h0), (1, .int x1), (2, .int x2)] := by simpa [lv_args, rf_cat, int_cat] using hl
  have hK : mmKN μ μ := mmKN.rf
  unfold fX6_ofTask at hf
  refine mm_aload_n S dX6_ofTask_0 rfl (lv_at hl 0 rfl) ?_
  refine mm_getp S hR fdX6_21 (hK.k hk0) rfl dX6_ofTask_1 ?_
  refine lv_iload_n S.1 S.2.1 dX6_ofTask_4 rfl (lv_at hl 1 rfl) ?_
  refine lv_iconst (v := 1) S.1 S.2.1 dX6_ofTask_5 (by decide) ?_
  obtain ⟨g2, hf⟩ := gd hf
  obtain ⟨y1, hy1, hf⟩ := bd hf
  refine mm_callVi S hR hS hA (As := [.int x1, .int 1]) (rest := []) cvX6_100 (hK.k g2) (kX3_has_c l G A (hK.k g2) hy1) rfl rfl ⟨Nat.le_of_ble_eq_true rfl, Nat.le_of_ble_eq_true rfl⟩ rfl hl.1 rfl (lv_room (by simp [rf_cat, int_cat, long_cat])) dX6_ofTask_6 ⟨Nat.zero_le _, Nat.zero_le _⟩ (fun H locs hR hS => ?_)
  have hK : mmKN μ y1.2 := hK.tr (kX3_has_kn hy1)
  refine lv_if_ne (tgt := 22) S.1 S.2.1 dX6_ofTask_9 (by decide) (fun c3 => ?_) (fun c3 => ?_)
  · have hf := it_f hf c3
    refine mm_aload_n S dX6_ofTask_22 rfl (lv_at hl 0 rfl) ?_
    refine mm_getp S hR fdX6_21 (hK.k hk0) rfl dX6_ofTask_23 ?_
    refine lv_iload_n S.1 S.2.1 dX6_ofTask_26 rfl (lv_at hl 1 rfl) ?_
    obtain ⟨g5, hf⟩ := gd hf
    obtain ⟨y4, hy4, hf⟩ := bd hf
    refine mm_callVh S hR hS hA (As := [.int x1]) (rest := []) cvX6_110 (hK.k g5) (kX3_at_c l G A (hK.k g5) hy4) rfl rfl ⟨Nat.le_of_ble_eq_true rfl, Nat.le_of_ble_eq_true rfl⟩ rfl hl.1 rfl (lv_room (by simp [rf_cat, int_cat, long_cat])) dX6_ofTask_27 ⟨Nat.zero_le _, Nat.zero_le _⟩ (fun H locs hR hS => ?_)
    have hK : mmKN μ y4.2 := hK.tr (kX3_at_kn hy4)
    refine mm_astore_n (i := 3) (lv' := [(3, rf y4.1), (0, rf h0), (1, .int x1), (2, .int x2)]) S dX6_ofTask_30 rfl hl (by decide) rfl (fun ls hl => ?_)
    refine lv_iload_n S.1 S.2.1 dX6_ofTask_31 rfl (lv_at hl 3 rfl) ?_
    rcases it_or hf with ⟨c6, hf⟩ | ⟨c6, hf⟩
    · refine mm_swL (tgt := 76) (off := 44) S [0] dX6_ofTask_32 (by simpa using c6) (by decide) (by decide) ?_
      refine mm_aload_n S dX6_ofTask_76 rfl (lv_at hl 1 rfl) ?_
      refine mm_getp S hR fdX6_21 (hK.k hk0) rfl dX6_ofTask_77 ?_
      obtain ⟨g7, hf⟩ := gd hf
      refine mm_getp S hR fdX6_191 (hK.k g7) rfl dX6_ofTask_80 ?_
      refine lv_iload_n S.1 S.2.1 dX6_ofTask_83 rfl (lv_at hl 2 rfl) ?_
      obtain ⟨g9, hf⟩ := gd hf
      obtain ⟨y8, hy8, hf⟩ := bd hf
      refine mm_callVi S hR hS hA (As := [.int x1]) (rest := []) cvX6_195 (hK.k g9) (kX4_placeOf_c l G A (hK.k g9) hy8) rfl rfl ⟨Nat.le_of_ble_eq_true rfl, Nat.le_of_ble_eq_true rfl⟩ rfl hl.1 rfl (lv_room (by simp [rf_cat, int_cat, long_cat])) dX6_ofTask_84 ⟨Nat.zero_le _, Nat.zero_le _⟩ (fun H locs hR hS => ?_)
      have hK : mmKN μ y8.2 := hK.tr (kX4_placeOf_kn hy8)
      obtain rfl := Option.some.inj hf
      exact absurd rfl h0n
    rcases it_or hf with ⟨c10, hf⟩ | ⟨c10, hf⟩
    · refine mm_swL (tgt := 88) (off := 56) S [1] dX6_ofTask_32 (by simpa using c10) (by decide) (by decide) ?_
      refine mm_aload_n S dX6_ofTask_88 rfl (lv_at hl 0 rfl) ?_
      obtain ⟨g11, hf⟩ := gd hf
      refine mm_geti S hR fdX6_200 (hK.k g11) rfl dX6_ofTask_89 ?_
      obtain rfl := Option.some.inj hf
      exact absurd rfl h0n
    rcases it_or hf with ⟨c12, hf⟩ | ⟨c12, hf⟩
    · refine mm_swL (tgt := 93) (off := 61) S [2] dX6_ofTask_32 (by simpa using c12) (by decide) (by decide) ?_
      refine mm_aload_n S dX6_ofTask_93 rfl (lv_at hl 0 rfl) ?_
      obtain ⟨g13, hf⟩ := gd hf
      refine mm_geti S hR fdX6_203 (hK.k g13) rfl dX6_ofTask_94 ?_
      obtain rfl := Option.some.inj hf
      exact absurd rfl h0n
    rcases it_or hf with ⟨c14, hf⟩ | ⟨c14, hf⟩
    · refine mm_swL (tgt := 98) (off := 66) S [3] dX6_ofTask_32 (by simpa using c14) (by decide) (by decide) ?_
      refine mm_aload_n S dX6_ofTask_98 rfl (lv_at hl 0 rfl) ?_
      obtain ⟨g15, hf⟩ := gd hf
      refine mm_geti S hR fdX6_206 (hK.k g15) rfl dX6_ofTask_99 ?_
      obtain rfl := Option.some.inj hf
      exact absurd rfl h0n
    rcases it_or hf with ⟨c16, hf⟩ | ⟨c16, hf⟩
    · refine mm_swL (tgt := 103) (off := 71) S [4] dX6_ofTask_32 (by simpa using c16) (by decide) (by decide) ?_
      refine mm_aload_n S dX6_ofTask_103 rfl (lv_at hl 0 rfl) ?_
      obtain ⟨g17, hf⟩ := gd hf
      refine mm_geti S hR fdX6_209 (hK.k g17) rfl dX6_ofTask_104 ?_
      refine lv_if_eq (tgt := 114) S.1 S.2.1 dX6_ofTask_107 (by decide) (fun c18 => ?_) (fun c18 => ?_)
      · have hf := it_t hf c18
        refine lv_iconst (v := 0) S.1 S.2.1 dX6_ofTask_114 (by decide) ?_
        obtain rfl := Option.some.inj hf
        exact absurd rfl h0n
      · have hf := it_f hf c18
        refine lv_iconst (v := 1) S.1 S.2.1 dX6_ofTask_110 (by decide) ?_
        refine lv_goto (tgt := 115) S.1 S.2.1 dX6_ofTask_111 (by decide) ?_
        obtain rfl := Option.some.inj hf
        exact absurd rfl h0n
    rcases it_or hf with ⟨c19, hf⟩ | ⟨c19, hf⟩
    · refine mm_swL (tgt := 116) (off := 84) S [5] dX6_ofTask_32 (by simpa using c19) (by decide) (by decide) ?_
      refine mm_aload_n S dX6_ofTask_116 rfl (lv_at hl 0 rfl) ?_
      obtain ⟨g20, hf⟩ := gd hf
      refine mm_geti S hR fdX6_213 (hK.k g20) rfl dX6_ofTask_117 ?_
      obtain rfl := Option.some.inj hf
      exact absurd rfl h0n
    rcases it_or hf with ⟨c21, hf⟩ | ⟨c21, hf⟩
    · refine mm_swL (tgt := 121) (off := 89) S [6] dX6_ofTask_32 (by simpa using c21) (by decide) (by decide) ?_
      refine mm_aload_n S dX6_ofTask_121 rfl (lv_at hl 1 rfl) ?_
      refine mm_getp S hR fdX6_21 (hK.k hk0) rfl dX6_ofTask_122 ?_
      refine lv_iload_n S.1 S.2.1 dX6_ofTask_125 rfl (lv_at hl 2 rfl) ?_
      obtain ⟨g23, hf⟩ := gd hf
      obtain ⟨y22, hy22, hf⟩ := bd hf
      refine mm_callVi S hR hS hA (As := [.int x1]) (rest := []) cvX6_216 (hK.k g23) (kX3_howManyAwait_c l G A (hK.k g23) hy22) rfl rfl ⟨Nat.le_of_ble_eq_true rfl, Nat.le_of_ble_eq_true rfl⟩ rfl hl.1 rfl (lv_room (by simp [rf_cat, int_cat, long_cat])) dX6_ofTask_126 ⟨Nat.zero_le _, Nat.zero_le _⟩ (fun H locs hR hS => ?_)
      have hK : mmKN μ y22.2 := hK.tr (kX3_howManyAwait_kn hy22)
      obtain rfl := Option.some.inj hf
      exact absurd rfl h0n
    refine mm_swD (tgt := 130) S [0, 1, 2, 3, 4, 5, 6] dX6_ofTask_32 (by simp only [List.forall_mem_cons, List.not_mem_nil, false_imp_iff, implies_true, and_true]; (try simp only [not_or] at c6 c10 c12 c14 c16 c19 c21); simp only [c6, c10, c12, c14, c16, c19, c21, not_false_eq_true, and_self, and_true, true_and]) (by decide) (by decide) ?_
    obtain rfl := Option.some.inj hf
    refine mm_throwS S hR hS hl0 hX thX6_62_219_66 hl.1 hno dX6_ofTask_130 dX6_ofTask_133 dX6_ofTask_134 dX6_ofTask_136 dX6_ofTask_139 (Nat.le_of_ble_eq_true rfl) (by simp [rf_cat, int_cat, long_cat]) (Nat.le_of_ble_eq_true rfl) (Nat.le_of_ble_eq_true rfl) hlocks (Nat.le_of_ble_eq_true rfl) (Nat.le_of_ble_eq_true rfl)
  · have hf := it_t hf c3
    obtain rfl := Option.some.inj hf
    refine mm_throwS S hR hS hl0 hX thX6_47_140_51 hl.1 hno dX6_ofTask_12 dX6_ofTask_15 dX6_ofTask_16 dX6_ofTask_18 dX6_ofTask_21 (Nat.le_of_ble_eq_true rfl) (by simp [rf_cat, int_cat, long_cat]) (Nat.le_of_ble_eq_true rfl) (Nat.le_of_ble_eq_true rfl) hlocks (Nat.le_of_ble_eq_true rfl) (Nat.le_of_ble_eq_true rfl)
-- X6_many
def fX6_many (h0 : Nat) (x1 : Int32) (μ : MM) : Option (Nat × Int32 × MM) :=
  if x1 = 0 then (if mK μ (mP μ h0 0) = 1 then some (0, (mI μ (mP μ h0 0) 2), μ) else none) else (if x1 = 1 then (if mK μ (mP μ h0 1) = 4 then some (0, (mI μ (mP μ h0 1) 5), μ) else none) else (if x1 = 2 then (if mK μ (mP μ h0 1) = 4 then (fX3_howManyOfSort (mP μ h0 1) 0 μ).bind fun y6 => some (0, y6.1, y6.2) else none) else (if x1 = 3 then (if mK μ (mP μ h0 1) = 4 then (fX3_howManyOfSort (mP μ h0 1) 1 μ).bind fun y9 => some (0, y9.1, y9.2) else none) else (if x1 = 4 then (if mK μ (mP μ h0 1) = 4 then (fX3_howManyInState (mP μ h0 1) 0 μ).bind fun y12 => some (0, y12.1, y12.2) else none) else (if x1 = 5 then (if mK μ (mP μ h0 1) = 4 then (fX3_howManyInState (mP μ h0 1) 1 μ).bind fun y15 => some (0, y15.1, y15.2) else none) else (if x1 = 6 then (if mK μ (mP μ h0 1) = 4 then (fX3_howManyInState (mP μ h0 1) 3 μ).bind fun y18 => some (0, y18.1, y18.2) else none) else (if x1 = 7 then (if mK μ (mP μ h0 1) = 4 then (fX3_howManyInState (mP μ h0 1) 4 μ).bind fun y21 => some (0, y21.1, y21.2) else none) else (if x1 = 8 then (if mK μ (mP μ h0 1) = 4 then if mK μ (mP μ (mP μ h0 1) 3) = 5 then some (0, (mI μ (mP μ (mP μ h0 1) 3) 1), μ) else none else none) else (if x1 = 9 then (if mK μ (mP μ h0 1) = 4 then some (0, (mI μ (mP μ h0 1) 6), μ) else none) else (if x1 = 10 then (if mK μ (mP μ h0 1) = 4 then (fX3_linesDoneInAll (mP μ h0 1) μ).bind fun y29 => some (0, y29.1, y29.2) else none) else (if x1 = 11 then (if mK μ (mP μ h0 1) = 4 then some (0, (mI μ (mP μ h0 1) 7), μ) else none) else (some (2, 0, μ)))))))))))))
set_option maxRecDepth 100000 in
set_option maxHeartbeats 4000000 in
theorem kX6_many_kn {μ : MM} {res : Nat × Int32 × MM} {h0 : Nat} {x1 : Int32} (hf : fX6_many h0 x1 μ = some res) : mmKN μ res.2.2 := by
  have hK : mmKN μ μ := mmKN.rf
  unfold fX6_many at hf
  rcases it_or hf with ⟨c1, hf⟩ | ⟨c1, hf⟩
  · skip
    obtain ⟨g2, hf⟩ := gd hf
    obtain rfl := Option.some.inj hf
    exact hK
  rcases it_or hf with ⟨c3, hf⟩ | ⟨c3, hf⟩
  · skip
    obtain ⟨g4, hf⟩ := gd hf
    obtain rfl := Option.some.inj hf
    exact hK
  rcases it_or hf with ⟨c5, hf⟩ | ⟨c5, hf⟩
  · skip
    obtain ⟨g7, hf⟩ := gd hf
    obtain ⟨y6, hy6, hf⟩ := bd hf
    have hK : mmKN μ y6.2 := hK.tr (kX3_howManyOfSort_kn hy6)
    obtain rfl := Option.some.inj hf
    exact hK
  rcases it_or hf with ⟨c8, hf⟩ | ⟨c8, hf⟩
  · skip
    obtain ⟨g10, hf⟩ := gd hf
    obtain ⟨y9, hy9, hf⟩ := bd hf
    have hK : mmKN μ y9.2 := hK.tr (kX3_howManyOfSort_kn hy9)
    obtain rfl := Option.some.inj hf
    exact hK
  rcases it_or hf with ⟨c11, hf⟩ | ⟨c11, hf⟩
  · skip
    obtain ⟨g13, hf⟩ := gd hf
    obtain ⟨y12, hy12, hf⟩ := bd hf
    have hK : mmKN μ y12.2 := hK.tr (kX3_howManyInState_kn hy12)
    obtain rfl := Option.some.inj hf
    exact hK
  rcases it_or hf with ⟨c14, hf⟩ | ⟨c14, hf⟩
  · skip
    obtain ⟨g16, hf⟩ := gd hf
    obtain ⟨y15, hy15, hf⟩ := bd hf
    have hK : mmKN μ y15.2 := hK.tr (kX3_howManyInState_kn hy15)
    obtain rfl := Option.some.inj hf
    exact hK
  rcases it_or hf with ⟨c17, hf⟩ | ⟨c17, hf⟩
  · skip
    obtain ⟨g19, hf⟩ := gd hf
    obtain ⟨y18, hy18, hf⟩ := bd hf
    have hK : mmKN μ y18.2 := hK.tr (kX3_howManyInState_kn hy18)
    obtain rfl := Option.some.inj hf
    exact hK
  rcases it_or hf with ⟨c20, hf⟩ | ⟨c20, hf⟩
  · skip
    obtain ⟨g22, hf⟩ := gd hf
    obtain ⟨y21, hy21, hf⟩ := bd hf
    have hK : mmKN μ y21.2 := hK.tr (kX3_howManyInState_kn hy21)
    obtain rfl := Option.some.inj hf
    exact hK
  rcases it_or hf with ⟨c23, hf⟩ | ⟨c23, hf⟩
  · skip
    obtain ⟨g24, hf⟩ := gd hf
    obtain ⟨g25, hf⟩ := gd hf
    obtain rfl := Option.some.inj hf
    exact hK
  rcases it_or hf with ⟨c26, hf⟩ | ⟨c26, hf⟩
  · skip
    obtain ⟨g27, hf⟩ := gd hf
    obtain rfl := Option.some.inj hf
    exact hK
  rcases it_or hf with ⟨c28, hf⟩ | ⟨c28, hf⟩
  · skip
    obtain ⟨g30, hf⟩ := gd hf
    obtain ⟨y29, hy29, hf⟩ := bd hf
    have hK : mmKN μ y29.2 := hK.tr (kX3_linesDoneInAll_kn hy29)
    obtain rfl := Option.some.inj hf
    exact hK
  rcases it_or hf with ⟨c31, hf⟩ | ⟨c31, hf⟩
  · skip
    obtain ⟨g32, hf⟩ := gd hf
    obtain rfl := Option.some.inj hf
    exact hK
  obtain rfl := Option.some.inj hf
  exact hK
abbrev rmX6_many : Room := { frames := 2, cells := 0, slots := 0, locals := 44 }
abbrev rxX6_many : Room := { frames := 6, cells := 1, slots := 6, locals := 90 }
set_option maxRecDepth 100000 in
set_option maxHeartbeats 4000000 in
theorem kX6_many_c (l : Launch) (G : mmG) (A : Nat → Prop) {μ : MM} {res : Nat × Int32 × MM} {h0 : Nat} {x1 : Int32} (hk0 : mK μ h0 = 7) (hf : fX6_many h0 x1 μ = some res) (h0r : res.1 = 0) : Met l yX6_many [.code yX6_many cX6_many 2 (some (.int))] rmX6_many (mmPc G A μ [rf h0, .int x1]) (mmQ G A res.2.2 (some (.int res.2.1))) 0 0 A := by
  refine mm_ofW (by decide +kernel) (by simp [lg_sl, rf_cat, int_cat]) ?_
  intro p e s m below meth c ls S hR hA hS hr hlocks hl hnm
  have hl : lv_has ls 2 [(0, rf h0), (1, .int x1)] := by simpa [lv_args, rf_cat, int_cat] using hl
  have E0 : mmEnv p m c cX6_many 2 s _ RX6 G A meth (some (.int)) := ⟨S, hA, hr, hlocks⟩
  have hK : mmKN μ μ := mmKN.rf
  unfold fX6_many at hf
  refine lv_iload_n S.1 S.2.1 dX6_many_0 rfl (lv_at hl 1 rfl) ?_
  rcases it_or hf with ⟨c1, hf⟩ | ⟨c1, hf⟩
  · refine mm_swL (tgt := 64) (off := 63) S [0] dX6_many_1 (by simpa using c1) (by decide) (by decide) ?_
    refine mm_aload_n S dX6_many_64 rfl (lv_at hl 0 rfl) ?_
    refine mm_getp S hR fdX6_10 (hK.k hk0) rfl dX6_many_65 ?_
    obtain ⟨g2, hf⟩ := gd hf
    refine mm_geti S hR fdX6_28 (hK.k g2) rfl dX6_many_68 ?_
    obtain rfl := Option.some.inj hf
    exact mm_iret S hR hS hr hlocks dX6_many_71
  rcases it_or hf with ⟨c3, hf⟩ | ⟨c3, hf⟩
  · refine mm_swL (tgt := 72) (off := 71) S [1] dX6_many_1 (by simpa using c3) (by decide) (by decide) ?_
    refine mm_aload_n S dX6_many_72 rfl (lv_at hl 0 rfl) ?_
    refine mm_getp S hR fdX6_21 (hK.k hk0) rfl dX6_many_73 ?_
    obtain ⟨g4, hf⟩ := gd hf
    refine mm_geti S hR fdX6_221 (hK.k g4) rfl dX6_many_76 ?_
    obtain rfl := Option.some.inj hf
    exact mm_iret S hR hS hr hlocks dX6_many_79
  rcases it_or hf with ⟨c5, hf⟩ | ⟨c5, hf⟩
  · refine mm_swL (tgt := 80) (off := 79) S [2] dX6_many_1 (by simpa using c5) (by decide) (by decide) ?_
    refine mm_aload_n S dX6_many_80 rfl (lv_at hl 0 rfl) ?_
    refine mm_getp S hR fdX6_21 (hK.k hk0) rfl dX6_many_81 ?_
    refine lv_iconst (v := 0) S.1 S.2.1 dX6_many_84 (by decide) ?_
    obtain ⟨g7, hf⟩ := gd hf
    obtain ⟨y6, hy6, hf⟩ := bd hf
    refine mm_callVi S hR hS hA (As := [.int 0]) (rest := []) cvX6_222 (hK.k g7) (kX3_howManyOfSort_c l G A (hK.k g7) hy6) rfl rfl ⟨Nat.le_of_ble_eq_true rfl, Nat.le_of_ble_eq_true rfl⟩ rfl hl.1 rfl (lv_room (by simp [rf_cat, int_cat, long_cat])) dX6_many_85 ⟨Nat.zero_le _, Nat.zero_le _⟩ (fun H locs hR hS => ?_)
    have hK : mmKN μ y6.2 := hK.tr (kX3_howManyOfSort_kn hy6)
    obtain rfl := Option.some.inj hf
    exact mm_iret S hR hS hr hlocks dX6_many_88
  rcases it_or hf with ⟨c8, hf⟩ | ⟨c8, hf⟩
  · refine mm_swL (tgt := 89) (off := 88) S [3] dX6_many_1 (by simpa using c8) (by decide) (by decide) ?_
    refine mm_aload_n S dX6_many_89 rfl (lv_at hl 0 rfl) ?_
    refine mm_getp S hR fdX6_21 (hK.k hk0) rfl dX6_many_90 ?_
    refine lv_iconst (v := 1) S.1 S.2.1 dX6_many_93 (by decide) ?_
    obtain ⟨g10, hf⟩ := gd hf
    obtain ⟨y9, hy9, hf⟩ := bd hf
    refine mm_callVi S hR hS hA (As := [.int 1]) (rest := []) cvX6_222 (hK.k g10) (kX3_howManyOfSort_c l G A (hK.k g10) hy9) rfl rfl ⟨Nat.le_of_ble_eq_true rfl, Nat.le_of_ble_eq_true rfl⟩ rfl hl.1 rfl (lv_room (by simp [rf_cat, int_cat, long_cat])) dX6_many_94 ⟨Nat.zero_le _, Nat.zero_le _⟩ (fun H locs hR hS => ?_)
    have hK : mmKN μ y9.2 := hK.tr (kX3_howManyOfSort_kn hy9)
    obtain rfl := Option.some.inj hf
    exact mm_iret S hR hS hr hlocks dX6_many_97
  rcases it_or hf with ⟨c11, hf⟩ | ⟨c11, hf⟩
  · refine mm_swL (tgt := 98) (off := 97) S [4] dX6_many_1 (by simpa using c11) (by decide) (by decide) ?_
    refine mm_aload_n S dX6_many_98 rfl (lv_at hl 0 rfl) ?_
    refine mm_getp S hR fdX6_21 (hK.k hk0) rfl dX6_many_99 ?_
    refine lv_iconst (v := 0) S.1 S.2.1 dX6_many_102 (by decide) ?_
    obtain ⟨g13, hf⟩ := gd hf
    obtain ⟨y12, hy12, hf⟩ := bd hf
    refine mm_callVi S hR hS hA (As := [.int 0]) (rest := []) cvX6_225 (hK.k g13) (kX3_howManyInState_c l G A (hK.k g13) hy12) rfl rfl ⟨Nat.le_of_ble_eq_true rfl, Nat.le_of_ble_eq_true rfl⟩ rfl hl.1 rfl (lv_room (by simp [rf_cat, int_cat, long_cat])) dX6_many_103 ⟨Nat.zero_le _, Nat.zero_le _⟩ (fun H locs hR hS => ?_)
    have hK : mmKN μ y12.2 := hK.tr (kX3_howManyInState_kn hy12)
    obtain rfl := Option.some.inj hf
    exact mm_iret S hR hS hr hlocks dX6_many_106
  rcases it_or hf with ⟨c14, hf⟩ | ⟨c14, hf⟩
  · refine mm_swL (tgt := 107) (off := 106) S [5] dX6_many_1 (by simpa using c14) (by decide) (by decide) ?_
    refine mm_aload_n S dX6_many_107 rfl (lv_at hl 0 rfl) ?_
    refine mm_getp S hR fdX6_21 (hK.k hk0) rfl dX6_many_108 ?_
    refine lv_iconst (v := 1) S.1 S.2.1 dX6_many_111 (by decide) ?_
    obtain ⟨g16, hf⟩ := gd hf
    obtain ⟨y15, hy15, hf⟩ := bd hf
    refine mm_callVi S hR hS hA (As := [.int 1]) (rest := []) cvX6_225 (hK.k g16) (kX3_howManyInState_c l G A (hK.k g16) hy15) rfl rfl ⟨Nat.le_of_ble_eq_true rfl, Nat.le_of_ble_eq_true rfl⟩ rfl hl.1 rfl (lv_room (by simp [rf_cat, int_cat, long_cat])) dX6_many_112 ⟨Nat.zero_le _, Nat.zero_le _⟩ (fun H locs hR hS => ?_)
    have hK : mmKN μ y15.2 := hK.tr (kX3_howManyInState_kn hy15)
    obtain rfl := Option.some.inj hf
    exact mm_iret S hR hS hr hlocks dX6_many_115
  rcases it_or hf with ⟨c17, hf⟩ | ⟨c17, hf⟩
  · refine mm_swL (tgt := 116) (off := 115) S [6] dX6_many_1 (by simpa using c17) (by decide) (by decide) ?_
    refine mm_aload_n S dX6_many_116 rfl (lv_at hl 0 rfl) ?_
    refine mm_getp S hR fdX6_21 (hK.k hk0) rfl dX6_many_117 ?_
    refine lv_iconst (v := 3) S.1 S.2.1 dX6_many_120 (by decide) ?_
    obtain ⟨g19, hf⟩ := gd hf
    obtain ⟨y18, hy18, hf⟩ := bd hf
    refine mm_callVi S hR hS hA (As := [.int 3]) (rest := []) cvX6_225 (hK.k g19) (kX3_howManyInState_c l G A (hK.k g19) hy18) rfl rfl ⟨Nat.le_of_ble_eq_true rfl, Nat.le_of_ble_eq_true rfl⟩ rfl hl.1 rfl (lv_room (by simp [rf_cat, int_cat, long_cat])) dX6_many_121 ⟨Nat.zero_le _, Nat.zero_le _⟩ (fun H locs hR hS => ?_)
    have hK : mmKN μ y18.2 := hK.tr (kX3_howManyInState_kn hy18)
    obtain rfl := Option.some.inj hf
    exact mm_iret S hR hS hr hlocks dX6_many_124
  rcases it_or hf with ⟨c20, hf⟩ | ⟨c20, hf⟩
  · refine mm_swL (tgt := 125) (off := 124) S [7] dX6_many_1 (by simpa using c20) (by decide) (by decide) ?_
    refine mm_aload_n S dX6_many_125 rfl (lv_at hl 0 rfl) ?_
    refine mm_getp S hR fdX6_21 (hK.k hk0) rfl dX6_many_126 ?_
    refine lv_iconst (v := 4) S.1 S.2.1 dX6_many_129 (by decide) ?_
    obtain ⟨g22, hf⟩ := gd hf
    obtain ⟨y21, hy21, hf⟩ := bd hf
    refine mm_callVi S hR hS hA (As := [.int 4]) (rest := []) cvX6_225 (hK.k g22) (kX3_howManyInState_c l G A (hK.k g22) hy21) rfl rfl ⟨Nat.le_of_ble_eq_true rfl, Nat.le_of_ble_eq_true rfl⟩ rfl hl.1 rfl (lv_room (by simp [rf_cat, int_cat, long_cat])) dX6_many_130 ⟨Nat.zero_le _, Nat.zero_le _⟩ (fun H locs hR hS => ?_)
    have hK : mmKN μ y21.2 := hK.tr (kX3_howManyInState_kn hy21)
    obtain rfl := Option.some.inj hf
    exact mm_iret S hR hS hr hlocks dX6_many_133
  rcases it_or hf with ⟨c23, hf⟩ | ⟨c23, hf⟩
  · refine mm_swL (tgt := 134) (off := 133) S [8] dX6_many_1 (by simpa using c23) (by decide) (by decide) ?_
    refine mm_aload_n S dX6_many_134 rfl (lv_at hl 0 rfl) ?_
    refine mm_getp S hR fdX6_21 (hK.k hk0) rfl dX6_many_135 ?_
    obtain ⟨g24, hf⟩ := gd hf
    refine mm_getp S hR fdX6_191 (hK.k g24) rfl dX6_many_138 ?_
    obtain ⟨g25, hf⟩ := gd hf
    refine mm_geti S hR fdX6_228 (hK.k g25) rfl dX6_many_141 ?_
    obtain rfl := Option.some.inj hf
    exact mm_iret S hR hS hr hlocks dX6_many_144
  rcases it_or hf with ⟨c26, hf⟩ | ⟨c26, hf⟩
  · refine mm_swL (tgt := 145) (off := 144) S [9] dX6_many_1 (by simpa using c26) (by decide) (by decide) ?_
    refine mm_aload_n S dX6_many_145 rfl (lv_at hl 0 rfl) ?_
    refine mm_getp S hR fdX6_21 (hK.k hk0) rfl dX6_many_146 ?_
    obtain ⟨g27, hf⟩ := gd hf
    refine mm_geti S hR fdX6_229 (hK.k g27) rfl dX6_many_149 ?_
    obtain rfl := Option.some.inj hf
    exact mm_iret S hR hS hr hlocks dX6_many_152
  rcases it_or hf with ⟨c28, hf⟩ | ⟨c28, hf⟩
  · refine mm_swL (tgt := 153) (off := 152) S [10] dX6_many_1 (by simpa using c28) (by decide) (by decide) ?_
    refine mm_aload_n S dX6_many_153 rfl (lv_at hl 0 rfl) ?_
    refine mm_getp S hR fdX6_21 (hK.k hk0) rfl dX6_many_154 ?_
    obtain ⟨g30, hf⟩ := gd hf
    obtain ⟨y29, hy29, hf⟩ := bd hf
    refine mm_callVi S hR hS hA (As := []) (rest := []) cvX6_232 (hK.k g30) (kX3_linesDoneInAll_c l G A (hK.k g30) hy29) rfl rfl ⟨Nat.le_of_ble_eq_true rfl, Nat.le_of_ble_eq_true rfl⟩ rfl hl.1 rfl (lv_room (by simp [rf_cat, int_cat, long_cat])) dX6_many_157 ⟨Nat.zero_le _, Nat.zero_le _⟩ (fun H locs hR hS => ?_)
    have hK : mmKN μ y29.2 := hK.tr (kX3_linesDoneInAll_kn hy29)
    obtain rfl := Option.some.inj hf
    exact mm_iret S hR hS hr hlocks dX6_many_160
  rcases it_or hf with ⟨c31, hf⟩ | ⟨c31, hf⟩
  · refine mm_swL (tgt := 161) (off := 160) S [11] dX6_many_1 (by simpa using c31) (by decide) (by decide) ?_
    refine mm_aload_n S dX6_many_161 rfl (lv_at hl 0 rfl) ?_
    refine mm_getp S hR fdX6_21 (hK.k hk0) rfl dX6_many_162 ?_
    obtain ⟨g32, hf⟩ := gd hf
    refine mm_geti S hR fdX6_235 (hK.k g32) rfl dX6_many_165 ?_
    obtain rfl := Option.some.inj hf
    exact mm_iret S hR hS hr hlocks dX6_many_168
  refine mm_swD (tgt := 169) S [0, 1, 2, 3, 4, 5, 6, 7, 8, 9, 10, 11] dX6_many_1 (by simp only [List.forall_mem_cons, List.not_mem_nil, false_imp_iff, implies_true, and_true]; (try simp only [not_or] at c1 c3 c5 c8 c11 c14 c17 c20 c23 c26 c28 c31); simp only [c1, c3, c5, c8, c11, c14, c17, c20, c23, c26, c28, c31, not_false_eq_true, and_self, and_true, true_and]) (by decide) (by decide) ?_
  obtain rfl := Option.some.inj hf
  exact absurd h0r (by simp)
set_option maxRecDepth 100000 in
set_option maxHeartbeats 4000000 in
theorem kX6_many_x (l : Launch) (hl0 : l.stackTraces = false) (G : mmG) (A : Nat → Prop) {μ : MM} {res : Nat × Int32 × MM} {h0 : Nat} {x1 : Int32} (hk0 : mK μ h0 = 7) (hf : fX6_many h0 x1 μ = some res) (h0n : ¬ res.1 = 0) : vx_Met l yX6_many [.code yX6_many cX6_many 2 (some (.int))] rxX6_many (mmPx G A μ [rf h0, .int x1]) (fun _ _ _ _ => False) (mmXC G A res.2.2 (exn res.1)) 1 6 A := by
  refine mm_ofX (by decide +kernel) (by simp [lg_sl, rf_cat, int_cat]) ?_
  intro p e s m below meth c ls S hR hA hS hr hlocks hl hX hno
  have hl : lv_has ls 2 [(0, rf h0), (1, .int x1)] := by simpa [lv_args, rf_cat, int_cat] using hl
  have hK : mmKN μ μ := mmKN.rf
  unfold fX6_many at hf
  refine lv_iload_n S.1 S.2.1 dX6_many_0 rfl (lv_at hl 1 rfl) ?_
  rcases it_or hf with ⟨c1, hf⟩ | ⟨c1, hf⟩
  · refine mm_swL (tgt := 64) (off := 63) S [0] dX6_many_1 (by simpa using c1) (by decide) (by decide) ?_
    refine mm_aload_n S dX6_many_64 rfl (lv_at hl 0 rfl) ?_
    refine mm_getp S hR fdX6_10 (hK.k hk0) rfl dX6_many_65 ?_
    obtain ⟨g2, hf⟩ := gd hf
    refine mm_geti S hR fdX6_28 (hK.k g2) rfl dX6_many_68 ?_
    obtain rfl := Option.some.inj hf
    exact absurd rfl h0n
  rcases it_or hf with ⟨c3, hf⟩ | ⟨c3, hf⟩
  · refine mm_swL (tgt := 72) (off := 71) S [1] dX6_many_1 (by simpa using c3) (by decide) (by decide) ?_
    refine mm_aload_n S dX6_many_72 rfl (lv_at hl 0 rfl) ?_
    refine mm_getp S hR fdX6_21 (hK.k hk0) rfl dX6_many_73 ?_
    obtain ⟨g4, hf⟩ := gd hf
    refine mm_geti S hR fdX6_221 (hK.k g4) rfl dX6_many_76 ?_
    obtain rfl := Option.some.inj hf
    exact absurd rfl h0n
  rcases it_or hf with ⟨c5, hf⟩ | ⟨c5, hf⟩
  · refine mm_swL (tgt := 80) (off := 79) S [2] dX6_many_1 (by simpa using c5) (by decide) (by decide) ?_
    refine mm_aload_n S dX6_many_80 rfl (lv_at hl 0 rfl) ?_
    refine mm_getp S hR fdX6_21 (hK.k hk0) rfl dX6_many_81 ?_
    refine lv_iconst (v := 0) S.1 S.2.1 dX6_many_84 (by decide) ?_
    obtain ⟨g7, hf⟩ := gd hf
    obtain ⟨y6, hy6, hf⟩ := bd hf
    refine mm_callVi S hR hS hA (As := [.int 0]) (rest := []) cvX6_222 (hK.k g7) (kX3_howManyOfSort_c l G A (hK.k g7) hy6) rfl rfl ⟨Nat.le_of_ble_eq_true rfl, Nat.le_of_ble_eq_true rfl⟩ rfl hl.1 rfl (lv_room (by simp [rf_cat, int_cat, long_cat])) dX6_many_85 ⟨Nat.zero_le _, Nat.zero_le _⟩ (fun H locs hR hS => ?_)
    have hK : mmKN μ y6.2 := hK.tr (kX3_howManyOfSort_kn hy6)
    obtain rfl := Option.some.inj hf
    exact absurd rfl h0n
  rcases it_or hf with ⟨c8, hf⟩ | ⟨c8, hf⟩
  · refine mm_swL (tgt := 89) (off := 88) S [3] dX6_many_1 (by simpa using c8) (by decide) (by decide) ?_
    refine mm_aload_n S dX6_many_89 rfl (lv_at hl 0 rfl) ?_
    refine mm_getp S hR fdX6_21 (hK.k hk0) rfl dX6_many_90 ?_
    refine lv_iconst (v := 1) S.1 S.2.1 dX6_many_93 (by decide) ?_
    obtain ⟨g10, hf⟩ := gd hf
    obtain ⟨y9, hy9, hf⟩ := bd hf
    refine mm_callVi S hR hS hA (As := [.int 1]) (rest := []) cvX6_222 (hK.k g10) (kX3_howManyOfSort_c l G A (hK.k g10) hy9) rfl rfl ⟨Nat.le_of_ble_eq_true rfl, Nat.le_of_ble_eq_true rfl⟩ rfl hl.1 rfl (lv_room (by simp [rf_cat, int_cat, long_cat])) dX6_many_94 ⟨Nat.zero_le _, Nat.zero_le _⟩ (fun H locs hR hS => ?_)
    have hK : mmKN μ y9.2 := hK.tr (kX3_howManyOfSort_kn hy9)
    obtain rfl := Option.some.inj hf
    exact absurd rfl h0n
  rcases it_or hf with ⟨c11, hf⟩ | ⟨c11, hf⟩
  · refine mm_swL (tgt := 98) (off := 97) S [4] dX6_many_1 (by simpa using c11) (by decide) (by decide) ?_
    refine mm_aload_n S dX6_many_98 rfl (lv_at hl 0 rfl) ?_
    refine mm_getp S hR fdX6_21 (hK.k hk0) rfl dX6_many_99 ?_
    refine lv_iconst (v := 0) S.1 S.2.1 dX6_many_102 (by decide) ?_
    obtain ⟨g13, hf⟩ := gd hf
    obtain ⟨y12, hy12, hf⟩ := bd hf
    refine mm_callVi S hR hS hA (As := [.int 0]) (rest := []) cvX6_225 (hK.k g13) (kX3_howManyInState_c l G A (hK.k g13) hy12) rfl rfl ⟨Nat.le_of_ble_eq_true rfl, Nat.le_of_ble_eq_true rfl⟩ rfl hl.1 rfl (lv_room (by simp [rf_cat, int_cat, long_cat])) dX6_many_103 ⟨Nat.zero_le _, Nat.zero_le _⟩ (fun H locs hR hS => ?_)
    have hK : mmKN μ y12.2 := hK.tr (kX3_howManyInState_kn hy12)
    obtain rfl := Option.some.inj hf
    exact absurd rfl h0n
  rcases it_or hf with ⟨c14, hf⟩ | ⟨c14, hf⟩
  · refine mm_swL (tgt := 107) (off := 106) S [5] dX6_many_1 (by simpa using c14) (by decide) (by decide) ?_
    refine mm_aload_n S dX6_many_107 rfl (lv_at hl 0 rfl) ?_
    refine mm_getp S hR fdX6_21 (hK.k hk0) rfl dX6_many_108 ?_
    refine lv_iconst (v := 1) S.1 S.2.1 dX6_many_111 (by decide) ?_
    obtain ⟨g16, hf⟩ := gd hf
    obtain ⟨y15, hy15, hf⟩ := bd hf
    refine mm_callVi S hR hS hA (As := [.int 1]) (rest := []) cvX6_225 (hK.k g16) (kX3_howManyInState_c l G A (hK.k g16) hy15) rfl rfl ⟨Nat.le_of_ble_eq_true rfl, Nat.le_of_ble_eq_true rfl⟩ rfl hl.1 rfl (lv_room (by simp [rf_cat, int_cat, long_cat])) dX6_many_112 ⟨Nat.zero_le _, Nat.zero_le _⟩ (fun H locs hR hS => ?_)
    have hK : mmKN μ y15.2 := hK.tr (kX3_howManyInState_kn hy15)
    obtain rfl := Option.some.inj hf
    exact absurd rfl h0n
  rcases it_or hf with ⟨c17, hf⟩ | ⟨c17, hf⟩
  · refine mm_swL (tgt := 116) (off := 115) S [6] dX6_many_1 (by simpa using c17) (by decide) (by decide) ?_
    refine mm_aload_n S dX6_many_116 rfl (lv_at hl 0 rfl) ?_
    refine mm_getp S hR fdX6_21 (hK.k hk0) rfl dX6_many_117 ?_
    refine lv_iconst (v := 3) S.1 S.2.1 dX6_many_120 (by decide) ?_
    obtain ⟨g19, hf⟩ := gd hf
    obtain ⟨y18, hy18, hf⟩ := bd hf
    refine mm_callVi S hR hS hA (As := [.int 3]) (rest := []) cvX6_225 (hK.k g19) (kX3_howManyInState_c l G A (hK.k g19) hy18) rfl rfl ⟨Nat.le_of_ble_eq_true rfl, Nat.le_of_ble_eq_true rfl⟩ rfl hl.1 rfl (lv_room (by simp [rf_cat, int_cat, long_cat])) dX6_many_121 ⟨Nat.zero_le _, Nat.zero_le _⟩ (fun H locs hR hS => ?_)
    have hK : mmKN μ y18.2 := hK.tr (kX3_howManyInState_kn hy18)
    obtain rfl := Option.some.inj hf
    exact absurd rfl h0n
  rcases it_or hf with ⟨c20, hf⟩ | ⟨c20, hf⟩
  · refine mm_swL (tgt := 125) (off := 124) S [7] dX6_many_1 (by simpa using c20) (by decide) (by decide) ?_
    refine mm_aload_n S dX6_many_125 rfl (lv_at hl 0 rfl) ?_
    refine mm_getp S hR fdX6_21 (hK.k hk0) rfl dX6_many_126 ?_
    refine lv_iconst (v := 4) S.1 S.2.1 dX6_many_129 (by decide) ?_
    obtain ⟨g22, hf⟩ := gd hf
    obtain ⟨y21, hy21, hf⟩ := bd hf
    refine mm_callVi S hR hS hA (As := [.int 4]) (rest := []) cvX6_225 (hK.k g22) (kX3_howManyInState_c l G A (hK.k g22) hy21) rfl rfl ⟨Nat.le_of_ble_eq_true rfl, Nat.le_of_ble_eq_true rfl⟩ rfl hl.1 rfl (lv_room (by simp [rf_cat, int_cat, long_cat])) dX6_many_130 ⟨Nat.zero_le _, Nat.zero_le _⟩ (fun H locs hR hS => ?_)
    have hK : mmKN μ y21.2 := hK.tr (kX3_howManyInState_kn hy21)
    obtain rfl := Option.some.inj hf
    exact absurd rfl h0n
  rcases it_or hf with ⟨c23, hf⟩ | ⟨c23, hf⟩
  · refine mm_swL (tgt := 134) (off := 133) S [8] dX6_many_1 (by simpa using c23) (by decide) (by decide) ?_
    refine mm_aload_n S dX6_many_134 rfl (lv_at hl 0 rfl) ?_
    refine mm_getp S hR fdX6_21 (hK.k hk0) rfl dX6_many_135 ?_
    obtain ⟨g24, hf⟩ := gd hf
    refine mm_getp S hR fdX6_191 (hK.k g24) rfl dX6_many_138 ?_
    obtain ⟨g25, hf⟩ := gd hf
    refine mm_geti S hR fdX6_228 (hK.k g25) rfl dX6_many_141 ?_
    obtain rfl := Option.some.inj hf
    exact absurd rfl h0n
  rcases it_or hf with ⟨c26, hf⟩ | ⟨c26, hf⟩
  · refine mm_swL (tgt := 145) (off := 144) S [9] dX6_many_1 (by simpa using c26) (by decide) (by decide) ?_
    refine mm_aload_n S dX6_many_145 rfl (lv_at hl 0 rfl) ?_
    refine mm_getp S hR fdX6_21 (hK.k hk0) rfl dX6_many_146 ?_
    obtain ⟨g27, hf⟩ := gd hf
    refine mm_geti S hR fdX6_229 (hK.k g27) rfl dX6_many_149 ?_
    obtain rfl := Option.some.inj hf
    exact absurd rfl h0n
  rcases it_or hf with ⟨c28, hf⟩ | ⟨c28, hf⟩
  · refine mm_swL (tgt := 153) (off := 152) S [10] dX6_many_1 (by simpa using c28) (by decide) (by decide) ?_
    refine mm_aload_n S dX6_many_153 rfl (lv_at hl 0 rfl) ?_
    refine mm_getp S hR fdX6_21 (hK.k hk0) rfl dX6_many_154 ?_
    obtain ⟨g30, hf⟩ := gd hf
    obtain ⟨y29, hy29, hf⟩ := bd hf
    refine mm_callVi S hR hS hA (As := []) (rest := []) cvX6_232 (hK.k g30) (kX3_linesDoneInAll_c l G A (hK.k g30) hy29) rfl rfl ⟨Nat.le_of_ble_eq_true rfl, Nat.le_of_ble_eq_true rfl⟩ rfl hl.1 rfl (lv_room (by simp [rf_cat, int_cat, long_cat])) dX6_many_157 ⟨Nat.zero_le _, Nat.zero_le _⟩ (fun H locs hR hS => ?_)
    have hK : mmKN μ y29.2 := hK.tr (kX3_linesDoneInAll_kn hy29)
    obtain rfl := Option.some.inj hf
    exact absurd rfl h0n
  rcases it_or hf with ⟨c31, hf⟩ | ⟨c31, hf⟩
  · refine mm_swL (tgt := 161) (off := 160) S [11] dX6_many_1 (by simpa using c31) (by decide) (by decide) ?_
    refine mm_aload_n S dX6_many_161 rfl (lv_at hl 0 rfl) ?_
    refine mm_getp S hR fdX6_21 (hK.k hk0) rfl dX6_many_162 ?_
    obtain ⟨g32, hf⟩ := gd hf
    refine mm_geti S hR fdX6_235 (hK.k g32) rfl dX6_many_165 ?_
    obtain rfl := Option.some.inj hf
    exact absurd rfl h0n
  refine mm_swD (tgt := 169) S [0, 1, 2, 3, 4, 5, 6, 7, 8, 9, 10, 11] dX6_many_1 (by simp only [List.forall_mem_cons, List.not_mem_nil, false_imp_iff, implies_true, and_true]; (try simp only [not_or] at c1 c3 c5 c8 c11 c14 c17 c20 c23 c26 c28 c31); simp only [c1, c3, c5, c8, c11, c14, c17, c20, c23, c26, c28, c31, not_false_eq_true, and_self, and_true, true_and]) (by decide) (by decide) ?_
  obtain rfl := Option.some.inj hf
  refine mm_throwS S hR hS hl0 hX thX6_62_238_66 hl.1 hno dX6_many_169 dX6_many_172 dX6_many_173 dX6_many_175 dX6_many_178 (Nat.le_of_ble_eq_true rfl) (by simp [rf_cat, int_cat, long_cat]) (Nat.le_of_ble_eq_true rfl) (Nat.le_of_ble_eq_true rfl) hlocks (Nat.le_of_ble_eq_true rfl) (Nat.le_of_ble_eq_true rfl)
-- X6_wouldGive
def fX6_wouldGive (h0 : Nat) (x1 : Int32) (x2 : Int32) (μ : MM) : Option (Nat × Int32 × MM) :=
  if mK μ (mP μ h0 1) = 4 then (fX3_has (mP μ h0 1) x1 0 μ).bind fun y1 => if y1.1 = 0 then (some (1, 0, y1.2)) else (if mK μ (mP y1.2 h0 1) = 4 then (fX3_at (mP y1.2 h0 1) x1 y1.2).bind fun y4 => if mK μ y4.1 = 3 then (fX2_isOver y4.1 y4.2).bind fun y6 => if y6.1 = 0 then ((fX6_within x2 (-999) 999 y6.2).bind fun y9 => if y9.1 = 0 then (some (2, 0, y9.2)) else (if mK μ (mP y9.2 h0 2) = 4 then (fX3_copyFrom (mP y9.2 h0 2) (mP y9.2 h0 1) y9.2).bind fun y11 => if mK μ (mP y11 h0 2) = 4 then (fX3_resumeWith (mP y11 h0 2) x1 x2 y11).bind fun y13 => some (0, y13.1, y13.2) else none else none)) else (some (1, 0, y6.2)) else none else none) else none
set_option maxRecDepth 100000 in
set_option maxHeartbeats 4000000 in
theorem kX6_wouldGive_kn {μ : MM} {res : Nat × Int32 × MM} {h0 : Nat} {x1 : Int32} {x2 : Int32} (hf : fX6_wouldGive h0 x1 x2 μ = some res) : mmKN μ res.2.2 := by
  have hK : mmKN μ μ := mmKN.rf
  unfold fX6_wouldGive at hf
  obtain ⟨g2, hf⟩ := gd hf
  obtain ⟨y1, hy1, hf⟩ := bd hf
  have hK : mmKN μ y1.2 := hK.tr (kX3_has_kn hy1)
  rcases it_or hf with ⟨c3, hf⟩ | ⟨c3, hf⟩
  · skip
    obtain rfl := Option.some.inj hf
    exact hK
  · skip
    obtain ⟨g5, hf⟩ := gd hf
    obtain ⟨y4, hy4, hf⟩ := bd hf
    have hK : mmKN μ y4.2 := hK.tr (kX3_at_kn hy4)
    obtain ⟨g7, hf⟩ := gd hf
    obtain ⟨y6, hy6, hf⟩ := bd hf
    have hK : mmKN μ y6.2 := hK.tr (kX2_isOver_kn hy6)
    rcases it_or hf with ⟨c8, hf⟩ | ⟨c8, hf⟩
    · skip
      obtain ⟨y9, hy9, hf⟩ := bd hf
      have hK : mmKN μ y9.2 := hK.tr (kX6_within_kn hy9)
      rcases it_or hf with ⟨c10, hf⟩ | ⟨c10, hf⟩
      · skip
        obtain rfl := Option.some.inj hf
        exact hK
      · skip
        obtain ⟨g12, hf⟩ := gd hf
        obtain ⟨y11, hy11, hf⟩ := bd hf
        have hK : mmKN μ y11 := hK.tr (kX3_copyFrom_kn hy11)
        obtain ⟨g14, hf⟩ := gd hf
        obtain ⟨y13, hy13, hf⟩ := bd hf
        have hK : mmKN μ y13.2 := hK.tr (kX3_resumeWith_kn hy13)
        obtain rfl := Option.some.inj hf
        exact hK
    · skip
      obtain rfl := Option.some.inj hf
      exact hK
abbrev rmX6_wouldGive : Room := { frames := 6, cells := 0, slots := 0, locals := 144 }
abbrev rxX6_wouldGive : Room := { frames := 6, cells := 1, slots := 6, locals := 144 }
set_option maxRecDepth 100000 in
set_option maxHeartbeats 4000000 in
theorem kX6_wouldGive_c (l : Launch) (G : mmG) (A : Nat → Prop) {μ : MM} {res : Nat × Int32 × MM} {h0 : Nat} {x1 : Int32} {x2 : Int32} (hk0 : mK μ h0 = 7) (hf : fX6_wouldGive h0 x1 x2 μ = some res) (h0r : res.1 = 0) : Met l yX6_wouldGive [.code yX6_wouldGive cX6_wouldGive 3 (some (.int))] rmX6_wouldGive (mmPc G A μ [rf h0, .int x1, .int x2]) (mmQ G A res.2.2 (some (.int res.2.1))) 0 0 A := by
  refine mm_ofW (by decide +kernel) (by simp [lg_sl, rf_cat, int_cat]) ?_
  intro p e s m below meth c ls S hR hA hS hr hlocks hl hnm
  have hl : lv_has ls 3 [(0, rf h0), (1, .int x1), (2, .int x2)] := by simpa [lv_args, rf_cat, int_cat] using hl
  have E0 : mmEnv p m c cX6_wouldGive 3 s _ RX6 G A meth (some (.int)) := ⟨S, hA, hr, hlocks⟩
  have hK : mmKN μ μ := mmKN.rf
  unfold fX6_wouldGive at hf
  refine mm_aload_n S dX6_wouldGive_0 rfl (lv_at hl 0 rfl) ?_
  refine mm_getp S hR fdX6_21 (hK.k hk0) rfl dX6_wouldGive_1 ?_
  refine lv_iload_n S.1 S.2.1 dX6_wouldGive_4 rfl (lv_at hl 1 rfl) ?_
  refine lv_iconst (v := 0) S.1 S.2.1 dX6_wouldGive_5 (by decide) ?_
  obtain ⟨g2, hf⟩ := gd hf
  obtain ⟨y1, hy1, hf⟩ := bd hf
  refine mm_callVi S hR hS hA (As := [.int x1, .int 0]) (rest := []) cvX6_100 (hK.k g2) (kX3_has_c l G A (hK.k g2) hy1) rfl rfl ⟨Nat.le_of_ble_eq_true rfl, Nat.le_of_ble_eq_true rfl⟩ rfl hl.1 rfl (lv_room (by simp [rf_cat, int_cat, long_cat])) dX6_wouldGive_6 ⟨Nat.zero_le _, Nat.zero_le _⟩ (fun H locs hR hS => ?_)
  have hK : mmKN μ y1.2 := hK.tr (kX3_has_kn hy1)
  refine lv_if_eq (tgt := 26) S.1 S.2.1 dX6_wouldGive_9 (by decide) (fun c3 => ?_) (fun c3 => ?_)
  · have hf := it_t hf c3
    obtain rfl := Option.some.inj hf
    exact absurd h0r (by simp)
  · have hf := it_f hf c3
    refine mm_aload_n S dX6_wouldGive_12 rfl (lv_at hl 0 rfl) ?_
    refine mm_getp S hR fdX6_21 (hK.k hk0) rfl dX6_wouldGive_13 ?_
    refine lv_iload_n S.1 S.2.1 dX6_wouldGive_16 rfl (lv_at hl 1 rfl) ?_
    obtain ⟨g5, hf⟩ := gd hf
    obtain ⟨y4, hy4, hf⟩ := bd hf
    refine mm_callVh S hR hS hA (As := [.int x1]) (rest := []) cvX6_110 (hK.k g5) (kX3_at_c l G A (hK.k g5) hy4) rfl rfl ⟨Nat.le_of_ble_eq_true rfl, Nat.le_of_ble_eq_true rfl⟩ rfl hl.1 rfl (lv_room (by simp [rf_cat, int_cat, long_cat])) dX6_wouldGive_17 ⟨Nat.zero_le _, Nat.zero_le _⟩ (fun H locs hR hS => ?_)
    have hK : mmKN μ y4.2 := hK.tr (kX3_at_kn hy4)
    obtain ⟨g7, hf⟩ := gd hf
    obtain ⟨y6, hy6, hf⟩ := bd hf
    refine mm_callVi S hR hS hA (As := []) (rest := []) cvX6_113 (hK.k g7) (kX2_isOver_c l G A (hK.k g7) hy6) rfl rfl ⟨Nat.le_of_ble_eq_true rfl, Nat.le_of_ble_eq_true rfl⟩ rfl hl.1 rfl (lv_room (by simp [rf_cat, int_cat, long_cat])) dX6_wouldGive_20 ⟨Nat.zero_le _, Nat.zero_le _⟩ (fun H locs hR hS => ?_)
    have hK : mmKN μ y6.2 := hK.tr (kX2_isOver_kn hy6)
    refine lv_if_eq (tgt := 36) S.1 S.2.1 dX6_wouldGive_23 (by decide) (fun c8 => ?_) (fun c8 => ?_)
    · have hf := it_t hf c8
      refine lv_iload_n S.1 S.2.1 dX6_wouldGive_36 rfl (lv_at hl 2 rfl) ?_
      refine lv_sipush (v := (-999)) S.1 S.2.1 dX6_wouldGive_37 (by decide) ?_
      refine lv_sipush (v := 999) S.1 S.2.1 dX6_wouldGive_40 (by decide) ?_
      obtain ⟨y9, hy9, hf⟩ := bd hf
      refine mm_callSi S hR hS hA (As := [.int x2, .int (-999), .int 999]) (rest := []) csX6_105 (kX6_within_c l G A hy9) rfl rfl ⟨Nat.le_of_ble_eq_true rfl, Nat.le_of_ble_eq_true rfl⟩ rfl hl.1 rfl (lv_room (by simp [rf_cat, int_cat, long_cat])) dX6_wouldGive_43 ⟨Nat.zero_le _, Nat.zero_le _⟩ (fun H locs hR hS => ?_)
      have hK : mmKN μ y9.2 := hK.tr (kX6_within_kn hy9)
      refine lv_if_ne (tgt := 59) S.1 S.2.1 dX6_wouldGive_46 (by decide) (fun c10 => ?_) (fun c10 => ?_)
      · have hf := it_f hf c10
        refine mm_aload_n S dX6_wouldGive_59 rfl (lv_at hl 0 rfl) ?_
        refine mm_getp S hR fdX6_25 (hK.k hk0) rfl dX6_wouldGive_60 ?_
        refine mm_aload_n S dX6_wouldGive_63 rfl (lv_at hl 0 rfl) ?_
        refine mm_getp S hR fdX6_21 (hK.k hk0) rfl dX6_wouldGive_64 ?_
        obtain ⟨g12, hf⟩ := gd hf
        obtain ⟨y11, hy11, hf⟩ := bd hf
        refine mm_callVv S hR hS hA (As := [rf (mP y9.2 h0 1)]) (rest := []) cvX6_242 (hK.k g12) (kX3_copyFrom_c l G A (hK.k g12) hy11) rfl rfl ⟨Nat.le_of_ble_eq_true rfl, Nat.le_of_ble_eq_true rfl⟩ rfl hl.1 rfl (lv_room (by simp [rf_cat, int_cat, long_cat])) dX6_wouldGive_67 ⟨Nat.zero_le _, Nat.zero_le _⟩ (fun H locs hR hS => ?_)
        have hK : mmKN μ y11 := hK.tr (kX3_copyFrom_kn hy11)
        refine mm_aload_n S dX6_wouldGive_70 rfl (lv_at hl 0 rfl) ?_
        refine mm_getp S hR fdX6_25 (hK.k hk0) rfl dX6_wouldGive_71 ?_
        refine lv_iload_n S.1 S.2.1 dX6_wouldGive_74 rfl (lv_at hl 1 rfl) ?_
        refine lv_iload_n S.1 S.2.1 dX6_wouldGive_75 rfl (lv_at hl 2 rfl) ?_
        obtain ⟨g14, hf⟩ := gd hf
        obtain ⟨y13, hy13, hf⟩ := bd hf
        refine mm_callVi S hR hS hA (As := [.int x1, .int x2]) (rest := []) cvX6_118 (hK.k g14) (kX3_resumeWith_c l G A (hK.k g14) hy13) rfl rfl ⟨Nat.le_of_ble_eq_true rfl, Nat.le_of_ble_eq_true rfl⟩ rfl hl.1 rfl (lv_room (by simp [rf_cat, int_cat, long_cat])) dX6_wouldGive_76 ⟨Nat.zero_le _, Nat.zero_le _⟩ (fun H locs hR hS => ?_)
        have hK : mmKN μ y13.2 := hK.tr (kX3_resumeWith_kn hy13)
        obtain rfl := Option.some.inj hf
        exact mm_iret S hR hS hr hlocks dX6_wouldGive_79
      · have hf := it_t hf c10
        obtain rfl := Option.some.inj hf
        exact absurd h0r (by simp)
    · have hf := it_f hf c8
      obtain rfl := Option.some.inj hf
      exact absurd h0r (by simp)
set_option maxRecDepth 100000 in
set_option maxHeartbeats 4000000 in
theorem kX6_wouldGive_x (l : Launch) (hl0 : l.stackTraces = false) (G : mmG) (A : Nat → Prop) {μ : MM} {res : Nat × Int32 × MM} {h0 : Nat} {x1 : Int32} {x2 : Int32} (hk0 : mK μ h0 = 7) (hf : fX6_wouldGive h0 x1 x2 μ = some res) (h0n : ¬ res.1 = 0) : vx_Met l yX6_wouldGive [.code yX6_wouldGive cX6_wouldGive 3 (some (.int))] rxX6_wouldGive (mmPx G A μ [rf h0, .int x1, .int x2]) (fun _ _ _ _ => False) (mmXC G A res.2.2 (exn res.1)) 1 6 A := by
  refine mm_ofX (by decide +kernel) (by simp [lg_sl, rf_cat, int_cat]) ?_
  intro p e s m below meth c ls S hR hA hS hr hlocks hl hX hno
  have hl : lv_has ls 3 [(0, rf h0), (1, .int x1), (2, .int x2)] := by simpa [lv_args, rf_cat, int_cat] using hl
  have hK : mmKN μ μ := mmKN.rf
  unfold fX6_wouldGive at hf
  refine mm_aload_n S dX6_wouldGive_0 rfl (lv_at hl 0 rfl) ?_
  refine mm_getp S hR fdX6_21 (hK.k hk0) rfl dX6_wouldGive_1 ?_
  refine lv_iload_n S.1 S.2.1 dX6_wouldGive_4 rfl (lv_at hl 1 rfl) ?_
  refine lv_iconst (v := 0) S.1 S.2.1 dX6_wouldGive_5 (by decide) ?_
  obtain ⟨g2, hf⟩ := gd hf
  obtain ⟨y1, hy1, hf⟩ := bd hf
  refine mm_callVi S hR hS hA (As := [.int x1, .int 0]) (rest := []) cvX6_100 (hK.k g2) (kX3_has_c l G A (hK.k g2) hy1) rfl rfl ⟨Nat.le_of_ble_eq_true rfl, Nat.le_of_ble_eq_true rfl⟩ rfl hl.1 rfl (lv_room (by simp [rf_cat, int_cat, long_cat])) dX6_wouldGive_6 ⟨Nat.zero_le _, Nat.zero_le _⟩ (fun H locs hR hS => ?_)
  have hK : mmKN μ y1.2 := hK.tr (kX3_has_kn hy1)
  refine lv_if_eq (tgt := 26) S.1 S.2.1 dX6_wouldGive_9 (by decide) (fun c3 => ?_) (fun c3 => ?_)
  · have hf := it_t hf c3
    obtain rfl := Option.some.inj hf
    refine mm_throwS S hR hS hl0 hX thX6_47_240_51 hl.1 hno dX6_wouldGive_26 dX6_wouldGive_29 dX6_wouldGive_30 dX6_wouldGive_32 dX6_wouldGive_35 (Nat.le_of_ble_eq_true rfl) (by simp [rf_cat, int_cat, long_cat]) (Nat.le_of_ble_eq_true rfl) (Nat.le_of_ble_eq_true rfl) hlocks (Nat.le_of_ble_eq_true rfl) (Nat.le_of_ble_eq_true rfl)
  · have hf := it_f hf c3
    refine mm_aload_n S dX6_wouldGive_12 rfl (lv_at hl 0 rfl) ?_
    refine mm_getp S hR fdX6_21 (hK.k hk0) rfl dX6_wouldGive_13 ?_
    refine lv_iload_n S.1 S.2.1 dX6_wouldGive_16 rfl (lv_at hl 1 rfl) ?_
    obtain ⟨g5, hf⟩ := gd hf
    obtain ⟨y4, hy4, hf⟩ := bd hf
    refine mm_callVh S hR hS hA (As := [.int x1]) (rest := []) cvX6_110 (hK.k g5) (kX3_at_c l G A (hK.k g5) hy4) rfl rfl ⟨Nat.le_of_ble_eq_true rfl, Nat.le_of_ble_eq_true rfl⟩ rfl hl.1 rfl (lv_room (by simp [rf_cat, int_cat, long_cat])) dX6_wouldGive_17 ⟨Nat.zero_le _, Nat.zero_le _⟩ (fun H locs hR hS => ?_)
    have hK : mmKN μ y4.2 := hK.tr (kX3_at_kn hy4)
    obtain ⟨g7, hf⟩ := gd hf
    obtain ⟨y6, hy6, hf⟩ := bd hf
    refine mm_callVi S hR hS hA (As := []) (rest := []) cvX6_113 (hK.k g7) (kX2_isOver_c l G A (hK.k g7) hy6) rfl rfl ⟨Nat.le_of_ble_eq_true rfl, Nat.le_of_ble_eq_true rfl⟩ rfl hl.1 rfl (lv_room (by simp [rf_cat, int_cat, long_cat])) dX6_wouldGive_20 ⟨Nat.zero_le _, Nat.zero_le _⟩ (fun H locs hR hS => ?_)
    have hK : mmKN μ y6.2 := hK.tr (kX2_isOver_kn hy6)
    refine lv_if_eq (tgt := 36) S.1 S.2.1 dX6_wouldGive_23 (by decide) (fun c8 => ?_) (fun c8 => ?_)
    · have hf := it_t hf c8
      refine lv_iload_n S.1 S.2.1 dX6_wouldGive_36 rfl (lv_at hl 2 rfl) ?_
      refine lv_sipush (v := (-999)) S.1 S.2.1 dX6_wouldGive_37 (by decide) ?_
      refine lv_sipush (v := 999) S.1 S.2.1 dX6_wouldGive_40 (by decide) ?_
      obtain ⟨y9, hy9, hf⟩ := bd hf
      refine mm_callSi S hR hS hA (As := [.int x2, .int (-999), .int 999]) (rest := []) csX6_105 (kX6_within_c l G A hy9) rfl rfl ⟨Nat.le_of_ble_eq_true rfl, Nat.le_of_ble_eq_true rfl⟩ rfl hl.1 rfl (lv_room (by simp [rf_cat, int_cat, long_cat])) dX6_wouldGive_43 ⟨Nat.zero_le _, Nat.zero_le _⟩ (fun H locs hR hS => ?_)
      have hK : mmKN μ y9.2 := hK.tr (kX6_within_kn hy9)
      refine lv_if_ne (tgt := 59) S.1 S.2.1 dX6_wouldGive_46 (by decide) (fun c10 => ?_) (fun c10 => ?_)
      · have hf := it_f hf c10
        refine mm_aload_n S dX6_wouldGive_59 rfl (lv_at hl 0 rfl) ?_
        refine mm_getp S hR fdX6_25 (hK.k hk0) rfl dX6_wouldGive_60 ?_
        refine mm_aload_n S dX6_wouldGive_63 rfl (lv_at hl 0 rfl) ?_
        refine mm_getp S hR fdX6_21 (hK.k hk0) rfl dX6_wouldGive_64 ?_
        obtain ⟨g12, hf⟩ := gd hf
        obtain ⟨y11, hy11, hf⟩ := bd hf
        refine mm_callVv S hR hS hA (As := [rf (mP y9.2 h0 1)]) (rest := []) cvX6_242 (hK.k g12) (kX3_copyFrom_c l G A (hK.k g12) hy11) rfl rfl ⟨Nat.le_of_ble_eq_true rfl, Nat.le_of_ble_eq_true rfl⟩ rfl hl.1 rfl (lv_room (by simp [rf_cat, int_cat, long_cat])) dX6_wouldGive_67 ⟨Nat.zero_le _, Nat.zero_le _⟩ (fun H locs hR hS => ?_)
        have hK : mmKN μ y11 := hK.tr (kX3_copyFrom_kn hy11)
        refine mm_aload_n S dX6_wouldGive_70 rfl (lv_at hl 0 rfl) ?_
        refine mm_getp S hR fdX6_25 (hK.k hk0) rfl dX6_wouldGive_71 ?_
        refine lv_iload_n S.1 S.2.1 dX6_wouldGive_74 rfl (lv_at hl 1 rfl) ?_
        refine lv_iload_n S.1 S.2.1 dX6_wouldGive_75 rfl (lv_at hl 2 rfl) ?_
        obtain ⟨g14, hf⟩ := gd hf
        obtain ⟨y13, hy13, hf⟩ := bd hf
        refine mm_callVi S hR hS hA (As := [.int x1, .int x2]) (rest := []) cvX6_118 (hK.k g14) (kX3_resumeWith_c l G A (hK.k g14) hy13) rfl rfl ⟨Nat.le_of_ble_eq_true rfl, Nat.le_of_ble_eq_true rfl⟩ rfl hl.1 rfl (lv_room (by simp [rf_cat, int_cat, long_cat])) dX6_wouldGive_76 ⟨Nat.zero_le _, Nat.zero_le _⟩ (fun H locs hR hS => ?_)
        have hK : mmKN μ y13.2 := hK.tr (kX3_resumeWith_kn hy13)
        obtain rfl := Option.some.inj hf
        exact absurd rfl h0n
      · have hf := it_t hf c10
        obtain rfl := Option.some.inj hf
        refine mm_throwS S hR hS hl0 hX thX6_62_108_66 hl.1 hno dX6_wouldGive_49 dX6_wouldGive_52 dX6_wouldGive_53 dX6_wouldGive_55 dX6_wouldGive_58 (Nat.le_of_ble_eq_true rfl) (by simp [rf_cat, int_cat, long_cat]) (Nat.le_of_ble_eq_true rfl) (Nat.le_of_ble_eq_true rfl) hlocks (Nat.le_of_ble_eq_true rfl) (Nat.le_of_ble_eq_true rfl)
    · have hf := it_f hf c8
      obtain rfl := Option.some.inj hf
      refine mm_throwS S hR hS hl0 hX thX6_47_240_51 hl.1 hno dX6_wouldGive_26 dX6_wouldGive_29 dX6_wouldGive_30 dX6_wouldGive_32 dX6_wouldGive_35 (Nat.le_of_ble_eq_true rfl) (by simp [rf_cat, int_cat, long_cat]) (Nat.le_of_ble_eq_true rfl) (Nat.le_of_ble_eq_true rfl) hlocks (Nat.le_of_ble_eq_true rfl) (Nat.le_of_ble_eq_true rfl)
-- X6_wouldClose
def fX6_wouldClose (h0 : Nat) (x1 : Int32) (μ : MM) : Option (Nat × Int32 × MM) :=
  if mK μ (mP μ h0 1) = 4 then (fX3_has (mP μ h0 1) x1 0 μ).bind fun y1 => if y1.1 = 0 then (some (1, 0, y1.2)) else (if mK μ (mP y1.2 h0 1) = 4 then (fX3_at (mP y1.2 h0 1) x1 y1.2).bind fun y4 => if mK μ y4.1 = 3 then if (mI y4.2 y4.1 5) = (1 : Int32) then (if mK μ (mP y4.2 h0 2) = 4 then (fX3_copyFrom (mP y4.2 h0 2) (mP y4.2 h0 1) y4.2).bind fun y8 => if mK μ (mP y8 h0 2) = 4 then (fX3_closeAll (mP y8 h0 2) x1 y8).bind fun y10 => some (0, y10.1, y10.2) else none else none) else (some (0, 0, y4.2)) else none else none) else none
set_option maxRecDepth 100000 in
set_option maxHeartbeats 4000000 in
theorem kX6_wouldClose_kn {μ : MM} {res : Nat × Int32 × MM} {h0 : Nat} {x1 : Int32} (hf : fX6_wouldClose h0 x1 μ = some res) : mmKN μ res.2.2 := by
  have hK : mmKN μ μ := mmKN.rf
  unfold fX6_wouldClose at hf
  obtain ⟨g2, hf⟩ := gd hf
  obtain ⟨y1, hy1, hf⟩ := bd hf
  have hK : mmKN μ y1.2 := hK.tr (kX3_has_kn hy1)
  rcases it_or hf with ⟨c3, hf⟩ | ⟨c3, hf⟩
  · skip
    obtain rfl := Option.some.inj hf
    exact hK
  · skip
    obtain ⟨g5, hf⟩ := gd hf
    obtain ⟨y4, hy4, hf⟩ := bd hf
    have hK : mmKN μ y4.2 := hK.tr (kX3_at_kn hy4)
    obtain ⟨g6, hf⟩ := gd hf
    rcases it_or hf with ⟨c7, hf⟩ | ⟨c7, hf⟩
    · skip
      obtain ⟨g9, hf⟩ := gd hf
      obtain ⟨y8, hy8, hf⟩ := bd hf
      have hK : mmKN μ y8 := hK.tr (kX3_copyFrom_kn hy8)
      obtain ⟨g11, hf⟩ := gd hf
      obtain ⟨y10, hy10, hf⟩ := bd hf
      have hK : mmKN μ y10.2 := hK.tr (kX3_closeAll_kn hy10)
      obtain rfl := Option.some.inj hf
      exact hK
    · skip
      obtain rfl := Option.some.inj hf
      exact hK
abbrev rmX6_wouldClose : Room := { frames := 6, cells := 0, slots := 0, locals := 146 }
abbrev rxX6_wouldClose : Room := { frames := 6, cells := 1, slots := 6, locals := 146 }
set_option maxRecDepth 100000 in
set_option maxHeartbeats 4000000 in
theorem kX6_wouldClose_c (l : Launch) (G : mmG) (A : Nat → Prop) {μ : MM} {res : Nat × Int32 × MM} {h0 : Nat} {x1 : Int32} (hk0 : mK μ h0 = 7) (hf : fX6_wouldClose h0 x1 μ = some res) (h0r : res.1 = 0) : Met l yX6_wouldClose [.code yX6_wouldClose cX6_wouldClose 2 (some (.int))] rmX6_wouldClose (mmPc G A μ [rf h0, .int x1]) (mmQ G A res.2.2 (some (.int res.2.1))) 0 0 A := by
  refine mm_ofW (by decide +kernel) (by simp [lg_sl, rf_cat, int_cat]) ?_
  intro p e s m below meth c ls S hR hA hS hr hlocks hl hnm
  have hl : lv_has ls 2 [(0, rf h0), (1, .int x1)] := by simpa [lv_args, rf_cat, int_cat] using hl
  have E0 : mmEnv p m c cX6_wouldClose 2 s _ RX6 G A meth (some (.int)) := ⟨S, hA, hr, hlocks⟩
  have hK : mmKN μ μ := mmKN.rf
  unfold fX6_wouldClose at hf
  refine mm_aload_n S dX6_wouldClose_0 rfl (lv_at hl 0 rfl) ?_
  refine mm_getp S hR fdX6_21 (hK.k hk0) rfl dX6_wouldClose_1 ?_
  refine lv_iload_n S.1 S.2.1 dX6_wouldClose_4 rfl (lv_at hl 1 rfl) ?_
  refine lv_iconst (v := 0) S.1 S.2.1 dX6_wouldClose_5 (by decide) ?_
  obtain ⟨g2, hf⟩ := gd hf
  obtain ⟨y1, hy1, hf⟩ := bd hf
  refine mm_callVi S hR hS hA (As := [.int x1, .int 0]) (rest := []) cvX6_100 (hK.k g2) (kX3_has_c l G A (hK.k g2) hy1) rfl rfl ⟨Nat.le_of_ble_eq_true rfl, Nat.le_of_ble_eq_true rfl⟩ rfl hl.1 rfl (lv_room (by simp [rf_cat, int_cat, long_cat])) dX6_wouldClose_6 ⟨Nat.zero_le _, Nat.zero_le _⟩ (fun H locs hR hS => ?_)
  have hK : mmKN μ y1.2 := hK.tr (kX3_has_kn hy1)
  refine lv_if_ne (tgt := 22) S.1 S.2.1 dX6_wouldClose_9 (by decide) (fun c3 => ?_) (fun c3 => ?_)
  · have hf := it_f hf c3
    refine mm_aload_n S dX6_wouldClose_22 rfl (lv_at hl 0 rfl) ?_
    refine mm_getp S hR fdX6_21 (hK.k hk0) rfl dX6_wouldClose_23 ?_
    refine lv_iload_n S.1 S.2.1 dX6_wouldClose_26 rfl (lv_at hl 1 rfl) ?_
    obtain ⟨g5, hf⟩ := gd hf
    obtain ⟨y4, hy4, hf⟩ := bd hf
    refine mm_callVh S hR hS hA (As := [.int x1]) (rest := []) cvX6_110 (hK.k g5) (kX3_at_c l G A (hK.k g5) hy4) rfl rfl ⟨Nat.le_of_ble_eq_true rfl, Nat.le_of_ble_eq_true rfl⟩ rfl hl.1 rfl (lv_room (by simp [rf_cat, int_cat, long_cat])) dX6_wouldClose_27 ⟨Nat.zero_le _, Nat.zero_le _⟩ (fun H locs hR hS => ?_)
    have hK : mmKN μ y4.2 := hK.tr (kX3_at_kn hy4)
    obtain ⟨g6, hf⟩ := gd hf
    refine mm_geti S hR fdX6_153 (hK.k g6) rfl dX6_wouldClose_30 ?_
    refine lv_iconst (v := 1) S.1 S.2.1 dX6_wouldClose_33 (by decide) ?_
    refine lv_icmp_eq (tgt := 39) S.1 S.2.1 dX6_wouldClose_34 (by decide) (fun c7 => ?_) (fun c7 => ?_)
    · have hf := it_t hf c7
      refine mm_aload_n S dX6_wouldClose_39 rfl (lv_at hl 0 rfl) ?_
      refine mm_getp S hR fdX6_25 (hK.k hk0) rfl dX6_wouldClose_40 ?_
      refine mm_aload_n S dX6_wouldClose_43 rfl (lv_at hl 0 rfl) ?_
      refine mm_getp S hR fdX6_21 (hK.k hk0) rfl dX6_wouldClose_44 ?_
      obtain ⟨g9, hf⟩ := gd hf
      obtain ⟨y8, hy8, hf⟩ := bd hf
      refine mm_callVv S hR hS hA (As := [rf (mP y4.2 h0 1)]) (rest := []) cvX6_242 (hK.k g9) (kX3_copyFrom_c l G A (hK.k g9) hy8) rfl rfl ⟨Nat.le_of_ble_eq_true rfl, Nat.le_of_ble_eq_true rfl⟩ rfl hl.1 rfl (lv_room (by simp [rf_cat, int_cat, long_cat])) dX6_wouldClose_47 ⟨Nat.zero_le _, Nat.zero_le _⟩ (fun H locs hR hS => ?_)
      have hK : mmKN μ y8 := hK.tr (kX3_copyFrom_kn hy8)
      refine mm_aload_n S dX6_wouldClose_50 rfl (lv_at hl 0 rfl) ?_
      refine mm_getp S hR fdX6_25 (hK.k hk0) rfl dX6_wouldClose_51 ?_
      refine lv_iload_n S.1 S.2.1 dX6_wouldClose_54 rfl (lv_at hl 1 rfl) ?_
      obtain ⟨g11, hf⟩ := gd hf
      obtain ⟨y10, hy10, hf⟩ := bd hf
      refine mm_callVi S hR hS hA (As := [.int x1]) (rest := []) cvX6_127 (hK.k g11) (kX3_closeAll_c l G A (hK.k g11) hy10) rfl rfl ⟨Nat.le_of_ble_eq_true rfl, Nat.le_of_ble_eq_true rfl⟩ rfl hl.1 rfl (lv_room (by simp [rf_cat, int_cat, long_cat])) dX6_wouldClose_55 ⟨Nat.zero_le _, Nat.zero_le _⟩ (fun H locs hR hS => ?_)
      have hK : mmKN μ y10.2 := hK.tr (kX3_closeAll_kn hy10)
      obtain rfl := Option.some.inj hf
      exact mm_iret S hR hS hr hlocks dX6_wouldClose_58
    · have hf := it_f hf c7
      refine lv_iconst (v := 0) S.1 S.2.1 dX6_wouldClose_37 (by decide) ?_
      obtain rfl := Option.some.inj hf
      exact mm_iret S hR hS hr hlocks dX6_wouldClose_38
  · have hf := it_t hf c3
    obtain rfl := Option.some.inj hf
    exact absurd h0r (by simp)
set_option maxRecDepth 100000 in
set_option maxHeartbeats 4000000 in
theorem kX6_wouldClose_x (l : Launch) (hl0 : l.stackTraces = false) (G : mmG) (A : Nat → Prop) {μ : MM} {res : Nat × Int32 × MM} {h0 : Nat} {x1 : Int32} (hk0 : mK μ h0 = 7) (hf : fX6_wouldClose h0 x1 μ = some res) (h0n : ¬ res.1 = 0) : vx_Met l yX6_wouldClose [.code yX6_wouldClose cX6_wouldClose 2 (some (.int))] rxX6_wouldClose (mmPx G A μ [rf h0, .int x1]) (fun _ _ _ _ => False) (mmXC G A res.2.2 (exn res.1)) 1 6 A := by
  refine mm_ofX (by decide +kernel) (by simp [lg_sl, rf_cat, int_cat]) ?_
  intro p e s m below meth c ls S hR hA hS hr hlocks hl hX hno
  have hl : lv_has ls 2 [(0, rf h0), (1, .int x1)] := by simpa [lv_args, rf_cat, int_cat] using hl
  have hK : mmKN μ μ := mmKN.rf
  unfold fX6_wouldClose at hf
  refine mm_aload_n S dX6_wouldClose_0 rfl (lv_at hl 0 rfl) ?_
  refine mm_getp S hR fdX6_21 (hK.k hk0) rfl dX6_wouldClose_1 ?_
  refine lv_iload_n S.1 S.2.1 dX6_wouldClose_4 rfl (lv_at hl 1 rfl) ?_
  refine lv_iconst (v := 0) S.1 S.2.1 dX6_wouldClose_5 (by decide) ?_
  obtain ⟨g2, hf⟩ := gd hf
  obtain ⟨y1, hy1, hf⟩ := bd hf
  refine mm_callVi S hR hS hA (As := [.int x1, .int 0]) (rest := []) cvX6_100 (hK.k g2) (kX3_has_c l G A (hK.k g2) hy1) rfl rfl ⟨Nat.le_of_ble_eq_true rfl, Nat.le_of_ble_eq_true rfl⟩ rfl hl.1 rfl (lv_room (by simp [rf_cat, int_cat, long_cat])) dX6_wouldClose_6 ⟨Nat.zero_le _, Nat.zero_le _⟩ (fun H locs hR hS => ?_)
  have hK : mmKN μ y1.2 := hK.tr (kX3_has_kn hy1)
  refine lv_if_ne (tgt := 22) S.1 S.2.1 dX6_wouldClose_9 (by decide) (fun c3 => ?_) (fun c3 => ?_)
  · have hf := it_f hf c3
    refine mm_aload_n S dX6_wouldClose_22 rfl (lv_at hl 0 rfl) ?_
    refine mm_getp S hR fdX6_21 (hK.k hk0) rfl dX6_wouldClose_23 ?_
    refine lv_iload_n S.1 S.2.1 dX6_wouldClose_26 rfl (lv_at hl 1 rfl) ?_
    obtain ⟨g5, hf⟩ := gd hf
    obtain ⟨y4, hy4, hf⟩ := bd hf
    refine mm_callVh S hR hS hA (As := [.int x1]) (rest := []) cvX6_110 (hK.k g5) (kX3_at_c l G A (hK.k g5) hy4) rfl rfl ⟨Nat.le_of_ble_eq_true rfl, Nat.le_of_ble_eq_true rfl⟩ rfl hl.1 rfl (lv_room (by simp [rf_cat, int_cat, long_cat])) dX6_wouldClose_27 ⟨Nat.zero_le _, Nat.zero_le _⟩ (fun H locs hR hS => ?_)
    have hK : mmKN μ y4.2 := hK.tr (kX3_at_kn hy4)
    obtain ⟨g6, hf⟩ := gd hf
    refine mm_geti S hR fdX6_153 (hK.k g6) rfl dX6_wouldClose_30 ?_
    refine lv_iconst (v := 1) S.1 S.2.1 dX6_wouldClose_33 (by decide) ?_
    refine lv_icmp_eq (tgt := 39) S.1 S.2.1 dX6_wouldClose_34 (by decide) (fun c7 => ?_) (fun c7 => ?_)
    · have hf := it_t hf c7
      refine mm_aload_n S dX6_wouldClose_39 rfl (lv_at hl 0 rfl) ?_
      refine mm_getp S hR fdX6_25 (hK.k hk0) rfl dX6_wouldClose_40 ?_
      refine mm_aload_n S dX6_wouldClose_43 rfl (lv_at hl 0 rfl) ?_
      refine mm_getp S hR fdX6_21 (hK.k hk0) rfl dX6_wouldClose_44 ?_
      obtain ⟨g9, hf⟩ := gd hf
      obtain ⟨y8, hy8, hf⟩ := bd hf
      refine mm_callVv S hR hS hA (As := [rf (mP y4.2 h0 1)]) (rest := []) cvX6_242 (hK.k g9) (kX3_copyFrom_c l G A (hK.k g9) hy8) rfl rfl ⟨Nat.le_of_ble_eq_true rfl, Nat.le_of_ble_eq_true rfl⟩ rfl hl.1 rfl (lv_room (by simp [rf_cat, int_cat, long_cat])) dX6_wouldClose_47 ⟨Nat.zero_le _, Nat.zero_le _⟩ (fun H locs hR hS => ?_)
      have hK : mmKN μ y8 := hK.tr (kX3_copyFrom_kn hy8)
      refine mm_aload_n S dX6_wouldClose_50 rfl (lv_at hl 0 rfl) ?_
      refine mm_getp S hR fdX6_25 (hK.k hk0) rfl dX6_wouldClose_51 ?_
      refine lv_iload_n S.1 S.2.1 dX6_wouldClose_54 rfl (lv_at hl 1 rfl) ?_
      obtain ⟨g11, hf⟩ := gd hf
      obtain ⟨y10, hy10, hf⟩ := bd hf
      refine mm_callVi S hR hS hA (As := [.int x1]) (rest := []) cvX6_127 (hK.k g11) (kX3_closeAll_c l G A (hK.k g11) hy10) rfl rfl ⟨Nat.le_of_ble_eq_true rfl, Nat.le_of_ble_eq_true rfl⟩ rfl hl.1 rfl (lv_room (by simp [rf_cat, int_cat, long_cat])) dX6_wouldClose_55 ⟨Nat.zero_le _, Nat.zero_le _⟩ (fun H locs hR hS => ?_)
      have hK : mmKN μ y10.2 := hK.tr (kX3_closeAll_kn hy10)
      obtain rfl := Option.some.inj hf
      exact absurd rfl h0n
    · have hf := it_f hf c7
      refine lv_iconst (v := 0) S.1 S.2.1 dX6_wouldClose_37 (by decide) ?_
      obtain rfl := Option.some.inj hf
      exact absurd rfl h0n
  · have hf := it_t hf c3
    obtain rfl := Option.some.inj hf
    refine mm_throwS S hR hS hl0 hX thX6_47_103_51 hl.1 hno dX6_wouldClose_12 dX6_wouldClose_15 dX6_wouldClose_16 dX6_wouldClose_18 dX6_wouldClose_21 (Nat.le_of_ble_eq_true rfl) (by simp [rf_cat, int_cat, long_cat]) (Nat.le_of_ble_eq_true rfl) (Nat.le_of_ble_eq_true rfl) hlocks (Nat.le_of_ble_eq_true rfl) (Nat.le_of_ble_eq_true rfl)
-- X6_overIn
def fX6_overIn (h0 : Nat) (x1 : Int32) (μ : MM) : Option (Nat × Int32 × MM) :=
  (fX6_within x1 1 50 μ).bind fun y1 => if y1.1 = 0 then (some (2, 0, y1.2)) else (if mK μ (mP y1.2 h0 2) = 4 then (fX3_copyFrom (mP y1.2 h0 2) (mP y1.2 h0 1) y1.2).bind fun y3 => if mK μ (mP y3 h0 2) = 4 then (fX3_doTurns (mP y3 h0 2) x1 y3).bind fun y5 => if mK μ (mP y5.2 h0 2) = 4 then (fX3_howManyTasksOver (mP y5.2 h0 2) y5.2).bind fun y7 => some (0, y7.1, y7.2) else none else none else none)
set_option maxRecDepth 100000 in
set_option maxHeartbeats 4000000 in
theorem kX6_overIn_kn {μ : MM} {res : Nat × Int32 × MM} {h0 : Nat} {x1 : Int32} (hf : fX6_overIn h0 x1 μ = some res) : mmKN μ res.2.2 := by
  have hK : mmKN μ μ := mmKN.rf
  unfold fX6_overIn at hf
  obtain ⟨y1, hy1, hf⟩ := bd hf
  have hK : mmKN μ y1.2 := hK.tr (kX6_within_kn hy1)
  rcases it_or hf with ⟨c2, hf⟩ | ⟨c2, hf⟩
  · skip
    obtain rfl := Option.some.inj hf
    exact hK
  · skip
    obtain ⟨g4, hf⟩ := gd hf
    obtain ⟨y3, hy3, hf⟩ := bd hf
    have hK : mmKN μ y3 := hK.tr (kX3_copyFrom_kn hy3)
    obtain ⟨g6, hf⟩ := gd hf
    obtain ⟨y5, hy5, hf⟩ := bd hf
    have hK : mmKN μ y5.2 := hK.tr (kX3_doTurns_kn hy5)
    obtain ⟨g8, hf⟩ := gd hf
    obtain ⟨y7, hy7, hf⟩ := bd hf
    have hK : mmKN μ y7.2 := hK.tr (kX3_howManyTasksOver_kn hy7)
    obtain rfl := Option.some.inj hf
    exact hK
abbrev rmX6_overIn : Room := { frames := 6, cells := 0, slots := 0, locals := 144 }
abbrev rxX6_overIn : Room := { frames := 6, cells := 1, slots := 6, locals := 144 }
set_option maxRecDepth 100000 in
set_option maxHeartbeats 4000000 in
theorem kX6_overIn_c (l : Launch) (G : mmG) (A : Nat → Prop) {μ : MM} {res : Nat × Int32 × MM} {h0 : Nat} {x1 : Int32} (hk0 : mK μ h0 = 7) (hf : fX6_overIn h0 x1 μ = some res) (h0r : res.1 = 0) : Met l yX6_overIn [.code yX6_overIn cX6_overIn 2 (some (.int))] rmX6_overIn (mmPc G A μ [rf h0, .int x1]) (mmQ G A res.2.2 (some (.int res.2.1))) 0 0 A := by
  refine mm_ofW (by decide +kernel) (by simp [lg_sl, rf_cat, int_cat]) ?_
  intro p e s m below meth c ls S hR hA hS hr hlocks hl hnm
  have hl : lv_has ls 2 [(0, rf h0), (1, .int x1)] := by simpa [lv_args, rf_cat, int_cat] using hl
  have E0 : mmEnv p m c cX6_overIn 2 s _ RX6 G A meth (some (.int)) := ⟨S, hA, hr, hlocks⟩
  have hK : mmKN μ μ := mmKN.rf
  unfold fX6_overIn at hf
  refine lv_iload_n S.1 S.2.1 dX6_overIn_0 rfl (lv_at hl 1 rfl) ?_
  refine lv_iconst (v := 1) S.1 S.2.1 dX6_overIn_1 (by decide) ?_
  refine lv_bipush (v := 50) S.1 S.2.1 dX6_overIn_2 (by decide) ?_
  obtain ⟨y1, hy1, hf⟩ := bd hf
  refine mm_callSi S hR hS hA (As := [.int x1, .int 1, .int 50]) (rest := []) csX6_105 (kX6_within_c l G A hy1) rfl rfl ⟨Nat.le_of_ble_eq_true rfl, Nat.le_of_ble_eq_true rfl⟩ rfl hl.1 rfl (lv_room (by simp [rf_cat, int_cat, long_cat])) dX6_overIn_4 ⟨Nat.zero_le _, Nat.zero_le _⟩ (fun H locs hR hS => ?_)
  have hK : mmKN μ y1.2 := hK.tr (kX6_within_kn hy1)
  refine lv_if_ne (tgt := 20) S.1 S.2.1 dX6_overIn_7 (by decide) (fun c2 => ?_) (fun c2 => ?_)
  · have hf := it_f hf c2
    refine mm_aload_n S dX6_overIn_20 rfl (lv_at hl 0 rfl) ?_
    refine mm_getp S hR fdX6_25 (hK.k hk0) rfl dX6_overIn_21 ?_
    refine mm_aload_n S dX6_overIn_24 rfl (lv_at hl 0 rfl) ?_
    refine mm_getp S hR fdX6_21 (hK.k hk0) rfl dX6_overIn_25 ?_
    obtain ⟨g4, hf⟩ := gd hf
    obtain ⟨y3, hy3, hf⟩ := bd hf
    refine mm_callVv S hR hS hA (As := [rf (mP y1.2 h0 1)]) (rest := []) cvX6_242 (hK.k g4) (kX3_copyFrom_c l G A (hK.k g4) hy3) rfl rfl ⟨Nat.le_of_ble_eq_true rfl, Nat.le_of_ble_eq_true rfl⟩ rfl hl.1 rfl (lv_room (by simp [rf_cat, int_cat, long_cat])) dX6_overIn_28 ⟨Nat.zero_le _, Nat.zero_le _⟩ (fun H locs hR hS => ?_)
    have hK : mmKN μ y3 := hK.tr (kX3_copyFrom_kn hy3)
    refine mm_aload_n S dX6_overIn_31 rfl (lv_at hl 0 rfl) ?_
    refine mm_getp S hR fdX6_25 (hK.k hk0) rfl dX6_overIn_32 ?_
    refine lv_iload_n S.1 S.2.1 dX6_overIn_35 rfl (lv_at hl 1 rfl) ?_
    obtain ⟨g6, hf⟩ := gd hf
    obtain ⟨y5, hy5, hf⟩ := bd hf
    refine mm_callVi S hR hS hA (As := [.int x1]) (rest := []) cvX6_132 (hK.k g6) (kX3_doTurns_c l G A (hK.k g6) hy5) rfl rfl ⟨Nat.le_of_ble_eq_true rfl, Nat.le_of_ble_eq_true rfl⟩ rfl hl.1 rfl (lv_room (by simp [rf_cat, int_cat, long_cat])) dX6_overIn_36 ⟨Nat.zero_le _, Nat.zero_le _⟩ (fun H locs hR hS => ?_)
    have hK : mmKN μ y5.2 := hK.tr (kX3_doTurns_kn hy5)
    refine lv_pop S.1 S.2.1 dX6_overIn_39 rfl ?_
    refine mm_aload_n S dX6_overIn_40 rfl (lv_at hl 0 rfl) ?_
    refine mm_getp S hR fdX6_25 (hK.k hk0) rfl dX6_overIn_41 ?_
    obtain ⟨g8, hf⟩ := gd hf
    obtain ⟨y7, hy7, hf⟩ := bd hf
    refine mm_callVi S hR hS hA (As := []) (rest := []) cvX6_246 (hK.k g8) (kX3_howManyTasksOver_c l G A (hK.k g8) hy7) rfl rfl ⟨Nat.le_of_ble_eq_true rfl, Nat.le_of_ble_eq_true rfl⟩ rfl hl.1 rfl (lv_room (by simp [rf_cat, int_cat, long_cat])) dX6_overIn_44 ⟨Nat.zero_le _, Nat.zero_le _⟩ (fun H locs hR hS => ?_)
    have hK : mmKN μ y7.2 := hK.tr (kX3_howManyTasksOver_kn hy7)
    obtain rfl := Option.some.inj hf
    exact mm_iret S hR hS hr hlocks dX6_overIn_47
  · have hf := it_t hf c2
    obtain rfl := Option.some.inj hf
    exact absurd h0r (by simp)
set_option maxRecDepth 100000 in
set_option maxHeartbeats 4000000 in
theorem kX6_overIn_x (l : Launch) (hl0 : l.stackTraces = false) (G : mmG) (A : Nat → Prop) {μ : MM} {res : Nat × Int32 × MM} {h0 : Nat} {x1 : Int32} (hk0 : mK μ h0 = 7) (hf : fX6_overIn h0 x1 μ = some res) (h0n : ¬ res.1 = 0) : vx_Met l yX6_overIn [.code yX6_overIn cX6_overIn 2 (some (.int))] rxX6_overIn (mmPx G A μ [rf h0, .int x1]) (fun _ _ _ _ => False) (mmXC G A res.2.2 (exn res.1)) 1 6 A := by
  refine mm_ofX (by decide +kernel) (by simp [lg_sl, rf_cat, int_cat]) ?_
  intro p e s m below meth c ls S hR hA hS hr hlocks hl hX hno
  have hl : lv_has ls 2 [(0, rf h0), (1, .int x1)] := by simpa [lv_args, rf_cat, int_cat] using hl
  have hK : mmKN μ μ := mmKN.rf
  unfold fX6_overIn at hf
  refine lv_iload_n S.1 S.2.1 dX6_overIn_0 rfl (lv_at hl 1 rfl) ?_
  refine lv_iconst (v := 1) S.1 S.2.1 dX6_overIn_1 (by decide) ?_
  refine lv_bipush (v := 50) S.1 S.2.1 dX6_overIn_2 (by decide) ?_
  obtain ⟨y1, hy1, hf⟩ := bd hf
  refine mm_callSi S hR hS hA (As := [.int x1, .int 1, .int 50]) (rest := []) csX6_105 (kX6_within_c l G A hy1) rfl rfl ⟨Nat.le_of_ble_eq_true rfl, Nat.le_of_ble_eq_true rfl⟩ rfl hl.1 rfl (lv_room (by simp [rf_cat, int_cat, long_cat])) dX6_overIn_4 ⟨Nat.zero_le _, Nat.zero_le _⟩ (fun H locs hR hS => ?_)
  have hK : mmKN μ y1.2 := hK.tr (kX6_within_kn hy1)
  refine lv_if_ne (tgt := 20) S.1 S.2.1 dX6_overIn_7 (by decide) (fun c2 => ?_) (fun c2 => ?_)
  · have hf := it_f hf c2
    refine mm_aload_n S dX6_overIn_20 rfl (lv_at hl 0 rfl) ?_
    refine mm_getp S hR fdX6_25 (hK.k hk0) rfl dX6_overIn_21 ?_
    refine mm_aload_n S dX6_overIn_24 rfl (lv_at hl 0 rfl) ?_
    refine mm_getp S hR fdX6_21 (hK.k hk0) rfl dX6_overIn_25 ?_
    obtain ⟨g4, hf⟩ := gd hf
    obtain ⟨y3, hy3, hf⟩ := bd hf
    refine mm_callVv S hR hS hA (As := [rf (mP y1.2 h0 1)]) (rest := []) cvX6_242 (hK.k g4) (kX3_copyFrom_c l G A (hK.k g4) hy3) rfl rfl ⟨Nat.le_of_ble_eq_true rfl, Nat.le_of_ble_eq_true rfl⟩ rfl hl.1 rfl (lv_room (by simp [rf_cat, int_cat, long_cat])) dX6_overIn_28 ⟨Nat.zero_le _, Nat.zero_le _⟩ (fun H locs hR hS => ?_)
    have hK : mmKN μ y3 := hK.tr (kX3_copyFrom_kn hy3)
    refine mm_aload_n S dX6_overIn_31 rfl (lv_at hl 0 rfl) ?_
    refine mm_getp S hR fdX6_25 (hK.k hk0) rfl dX6_overIn_32 ?_
    refine lv_iload_n S.1 S.2.1 dX6_overIn_35 rfl (lv_at hl 1 rfl) ?_
    obtain ⟨g6, hf⟩ := gd hf
    obtain ⟨y5, hy5, hf⟩ := bd hf
    refine mm_callVi S hR hS hA (As := [.int x1]) (rest := []) cvX6_132 (hK.k g6) (kX3_doTurns_c l G A (hK.k g6) hy5) rfl rfl ⟨Nat.le_of_ble_eq_true rfl, Nat.le_of_ble_eq_true rfl⟩ rfl hl.1 rfl (lv_room (by simp [rf_cat, int_cat, long_cat])) dX6_overIn_36 ⟨Nat.zero_le _, Nat.zero_le _⟩ (fun H locs hR hS => ?_)
    have hK : mmKN μ y5.2 := hK.tr (kX3_doTurns_kn hy5)
    refine lv_pop S.1 S.2.1 dX6_overIn_39 rfl ?_
    refine mm_aload_n S dX6_overIn_40 rfl (lv_at hl 0 rfl) ?_
    refine mm_getp S hR fdX6_25 (hK.k hk0) rfl dX6_overIn_41 ?_
    obtain ⟨g8, hf⟩ := gd hf
    obtain ⟨y7, hy7, hf⟩ := bd hf
    refine mm_callVi S hR hS hA (As := []) (rest := []) cvX6_246 (hK.k g8) (kX3_howManyTasksOver_c l G A (hK.k g8) hy7) rfl rfl ⟨Nat.le_of_ble_eq_true rfl, Nat.le_of_ble_eq_true rfl⟩ rfl hl.1 rfl (lv_room (by simp [rf_cat, int_cat, long_cat])) dX6_overIn_44 ⟨Nat.zero_le _, Nat.zero_le _⟩ (fun H locs hR hS => ?_)
    have hK : mmKN μ y7.2 := hK.tr (kX3_howManyTasksOver_kn hy7)
    obtain rfl := Option.some.inj hf
    exact absurd rfl h0n
  · have hf := it_t hf c2
    obtain rfl := Option.some.inj hf
    refine mm_throwS S hR hS hl0 hX thX6_62_130_66 hl.1 hno dX6_overIn_10 dX6_overIn_13 dX6_overIn_14 dX6_overIn_16 dX6_overIn_19 (Nat.le_of_ble_eq_true rfl) (by simp [rf_cat, int_cat, long_cat]) (Nat.le_of_ble_eq_true rfl) (Nat.le_of_ble_eq_true rfl) hlocks (Nat.le_of_ble_eq_true rfl) (Nat.le_of_ble_eq_true rfl)
-- X6_left
def bX6_left_51 (kk51 : Nat → Int32 → Int32 → MM → Option (Nat × Int32 × MM)) (h0 : Nat) (x1 : Int32) (x2 : Int32) (μ : MM) : Option (Nat × Int32 × MM) :=
  if (20 : Int32) ≤ x2 then (some (0, 20, μ)) else (if mK μ h0 = 7 then if mK μ (mP μ h0 2) = 4 then (fX3_resumeWith (mP μ h0 2) x1 0 μ).bind fun y3 => if mK μ (mP y3.2 h0 2) = 4 then (fX3_at (mP y3.2 h0 2) x1 y3.2).bind fun y5 => if mK μ y5.1 = 3 then (fX2_isOver y5.1 y5.2).bind fun y7 => if y7.1 = 0 then (kk51 h0 x1 (x2 + 1) y7.2) else (some (0, x2, y7.2)) else none else none else none else none)
def lX6_left_51  : Nat → Nat → Int32 → Int32 → MM → Option (Nat × Int32 × MM)
  | 0, _, _, _, _ => none
  | n + 1, h0, x1, x2, μ => bX6_left_51  (fun h0 x1 x2 μ => lX6_left_51  n h0 x1 x2 μ) h0 x1 x2 μ
def fX6_left (h0 : Nat) (x1 : Int32) (μ : MM) : Option (Nat × Int32 × MM) :=
  if mK μ (mP μ h0 1) = 4 then (fX3_has (mP μ h0 1) x1 0 μ).bind fun y1 => if y1.1 = 0 then (some (1, 0, y1.2)) else (if mK μ (mP y1.2 h0 1) = 4 then (fX3_at (mP y1.2 h0 1) x1 y1.2).bind fun y4 => if mK μ y4.1 = 3 then (fX2_isOver y4.1 y4.2).bind fun y6 => if y6.1 = 0 then (if mK μ (mP y6.2 h0 2) = 4 then (fX3_copyFrom (mP y6.2 h0 2) (mP y6.2 h0 1) y6.2).bind fun y9 => lX6_left_51  FU h0 x1 0 y9 else none) else (some (0, 0, y6.2)) else none else none) else none
set_option maxRecDepth 100000 in
set_option maxHeartbeats 4000000 in
theorem knbX6_left_51 (kk51 : Nat → Int32 → Int32 → MM → Option (Nat × Int32 × MM)) (hkk51 : ∀ (h0 : Nat) (x1 : Int32) (x2 : Int32) (μ : MM) (res : Nat × Int32 × MM), kk51 h0 x1 x2 μ = some res → mmKN μ res.2.2) : ∀ (h0 : Nat) (x1 : Int32) (x2 : Int32) (μ : MM) (res : Nat × Int32 × MM), bX6_left_51 kk51 h0 x1 x2 μ = some res → mmKN μ res.2.2 := by
  intro h0 x1 x2 μ res hf
  have hK : mmKN μ μ := mmKN.rf
  unfold bX6_left_51 at hf
  rcases it_or hf with ⟨c1, hf⟩ | ⟨c1, hf⟩
  · skip
    obtain rfl := Option.some.inj hf
    exact hK
  · skip
    obtain ⟨g2, hf⟩ := gd hf
    obtain ⟨g4, hf⟩ := gd hf
    obtain ⟨y3, hy3, hf⟩ := bd hf
    have hK : mmKN μ y3.2 := hK.tr (kX3_resumeWith_kn hy3)
    obtain ⟨g6, hf⟩ := gd hf
    obtain ⟨y5, hy5, hf⟩ := bd hf
    have hK : mmKN μ y5.2 := hK.tr (kX3_at_kn hy5)
    obtain ⟨g8, hf⟩ := gd hf
    obtain ⟨y7, hy7, hf⟩ := bd hf
    have hK : mmKN μ y7.2 := hK.tr (kX2_isOver_kn hy7)
    rcases it_or hf with ⟨c9, hf⟩ | ⟨c9, hf⟩
    · skip
      exact hK.tr (hkk51 h0 x1 (x2 + 1) y7.2 _ hf)
    · skip
      obtain rfl := Option.some.inj hf
      exact hK
theorem knlX6_left_51  : ∀ (n : Nat) (h0 : Nat) (x1 : Int32) (x2 : Int32) (μ : MM) (res : Nat × Int32 × MM), lX6_left_51  n h0 x1 x2 μ = some res → mmKN μ res.2.2 := by
  intro n
  induction n with
  | zero => intro h0 x1 x2 μ res hf; cases hf
  | succ n ih => intro h0 x1 x2 μ res hf; exact knbX6_left_51  _ ih h0 x1 x2 μ res hf
set_option maxRecDepth 100000 in
set_option maxHeartbeats 4000000 in
theorem zbX6_left_51 (kk51 : Nat → Int32 → Int32 → MM → Option (Nat × Int32 × MM)) (hkk51 : ∀ (h0 : Nat) (x1 : Int32) (x2 : Int32) (μ : MM) (res : Nat × Int32 × MM), kk51 h0 x1 x2 μ = some res → res.1 = 0) : ∀ (h0 : Nat) (x1 : Int32) (x2 : Int32) (μ : MM) (res : Nat × Int32 × MM), bX6_left_51 kk51 h0 x1 x2 μ = some res → res.1 = 0 := by
  intro h0 x1 x2 μ res hf
  unfold bX6_left_51 at hf
  rcases it_or hf with ⟨c1, hf⟩ | ⟨c1, hf⟩
  · skip
    obtain rfl := Option.some.inj hf
    exact rfl
  · skip
    obtain ⟨g2, hf⟩ := gd hf
    obtain ⟨g4, hf⟩ := gd hf
    obtain ⟨y3, hy3, hf⟩ := bd hf
    obtain ⟨g6, hf⟩ := gd hf
    obtain ⟨y5, hy5, hf⟩ := bd hf
    obtain ⟨g8, hf⟩ := gd hf
    obtain ⟨y7, hy7, hf⟩ := bd hf
    rcases it_or hf with ⟨c9, hf⟩ | ⟨c9, hf⟩
    · skip
      exact (hkk51 h0 x1 (x2 + 1) y7.2 _ hf)
    · skip
      obtain rfl := Option.some.inj hf
      exact rfl
theorem zlX6_left_51 : ∀ (n : Nat) (h0 : Nat) (x1 : Int32) (x2 : Int32) (μ : MM) (res : Nat × Int32 × MM), lX6_left_51 n h0 x1 x2 μ = some res → res.1 = 0 := by
  intro n
  induction n with
  | zero => intro h0 x1 x2 μ res hf; cases hf
  | succ n ih => intro h0 x1 x2 μ res hf; exact zbX6_left_51 _ ih h0 x1 x2 μ res hf
set_option maxRecDepth 100000 in
set_option maxHeartbeats 4000000 in
theorem kX6_left_kn {μ : MM} {res : Nat × Int32 × MM} {h0 : Nat} {x1 : Int32} (hf : fX6_left h0 x1 μ = some res) : mmKN μ res.2.2 := by
  have hK : mmKN μ μ := mmKN.rf
  unfold fX6_left at hf
  obtain ⟨g2, hf⟩ := gd hf
  obtain ⟨y1, hy1, hf⟩ := bd hf
  have hK : mmKN μ y1.2 := hK.tr (kX3_has_kn hy1)
  rcases it_or hf with ⟨c3, hf⟩ | ⟨c3, hf⟩
  · skip
    obtain rfl := Option.some.inj hf
    exact hK
  · skip
    obtain ⟨g5, hf⟩ := gd hf
    obtain ⟨y4, hy4, hf⟩ := bd hf
    have hK : mmKN μ y4.2 := hK.tr (kX3_at_kn hy4)
    obtain ⟨g7, hf⟩ := gd hf
    obtain ⟨y6, hy6, hf⟩ := bd hf
    have hK : mmKN μ y6.2 := hK.tr (kX2_isOver_kn hy6)
    rcases it_or hf with ⟨c8, hf⟩ | ⟨c8, hf⟩
    · skip
      obtain ⟨g10, hf⟩ := gd hf
      obtain ⟨y9, hy9, hf⟩ := bd hf
      have hK : mmKN μ y9 := hK.tr (kX3_copyFrom_kn hy9)
      exact hK.tr (knlX6_left_51  FU h0 x1 0 y9 _ hf)
    · skip
      obtain rfl := Option.some.inj hf
      exact hK
abbrev rmX6_left : Room := { frames := 6, cells := 0, slots := 0, locals := 144 }
set_option maxRecDepth 100000 in
set_option maxHeartbeats 4000000 in
theorem wbX6_left_51 {p : Program} {l : Launch} {e : Env} {s : State} {m : MethodId} {args : Array Value} {below : List Frame} {meth : Method} {c : Code} {G : mmG} {A : Nat → Prop} {res : Nat × Int32 × MM} (E0 : mmEnv p m c cX6_left 3 s args RX6 G A meth (some (.int))) (kk51 : Nat → Int32 → Int32 → MM → Option (Nat × Int32 × MM)) (hkk51 : ∀ (h0 : Nat) (x1 : Int32) (x2 : Int32) (μ : MM), kk51 h0 x1 x2 μ = some res → mmGoal p l e rmX6_left s m args below meth c G A 51 3 [(0, rf h0), (1, .int x1), (2, .int x2)] μ (mmQ G A res.2.2 (some (.int res.2.1)))) : ∀ (h0 : Nat) (x1 : Int32) (x2 : Int32) (μ : MM), bX6_left_51 kk51 h0 x1 x2 μ = some res → mmGoal p l e rmX6_left s m args below meth c G A 51 3 [(0, rf h0), (1, .int x1), (2, .int x2)] μ (mmQ G A res.2.2 (some (.int res.2.1))) := by
  obtain ⟨S, hA, hr, hlocks⟩ := id E0
  intro h0 x1 x2 μ hf H locs ls hR hS hl
  have hK : mmKN μ μ := mmKN.rf
  unfold bX6_left_51 at hf
  refine lv_iload_n S.1 S.2.1 dX6_left_51 rfl (lv_at hl 2 rfl) ?_
  refine lv_bipush (v := 20) S.1 S.2.1 dX6_left_52 (by decide) ?_
  refine lv_icmp_ge (tgt := 89) S.1 S.2.1 dX6_left_54 (by decide) (fun c1 => ?_) (fun c1 => ?_)
  · have hf := it_t hf c1
    refine lv_bipush (v := 20) S.1 S.2.1 dX6_left_89 (by decide) ?_
    obtain rfl := Option.some.inj hf
    exact mm_iret S hR hS hr hlocks dX6_left_91
  · have hf := it_f hf c1
    refine mm_aload_n S dX6_left_57 rfl (lv_at hl 0 rfl) ?_
    obtain ⟨g2, hf⟩ := gd hf
    refine mm_getp S hR fdX6_25 (hK.k g2) rfl dX6_left_58 ?_
    refine lv_iload_n S.1 S.2.1 dX6_left_61 rfl (lv_at hl 1 rfl) ?_
    refine lv_iconst (v := 0) S.1 S.2.1 dX6_left_62 (by decide) ?_
    obtain ⟨g4, hf⟩ := gd hf
    obtain ⟨y3, hy3, hf⟩ := bd hf
    refine mm_callVi S hR hS hA (As := [.int x1, .int 0]) (rest := []) cvX6_118 (hK.k g4) (kX3_resumeWith_c l G A (hK.k g4) hy3) rfl rfl ⟨Nat.le_of_ble_eq_true rfl, Nat.le_of_ble_eq_true rfl⟩ rfl hl.1 rfl (lv_room (by simp [rf_cat, int_cat, long_cat])) dX6_left_63 ⟨Nat.zero_le _, Nat.zero_le _⟩ (fun H locs hR hS => ?_)
    have hK : mmKN μ y3.2 := hK.tr (kX3_resumeWith_kn hy3)
    refine lv_pop S.1 S.2.1 dX6_left_66 rfl ?_
    refine mm_aload_n S dX6_left_67 rfl (lv_at hl 0 rfl) ?_
    refine mm_getp S hR fdX6_25 (hK.k g2) rfl dX6_left_68 ?_
    refine lv_iload_n S.1 S.2.1 dX6_left_71 rfl (lv_at hl 1 rfl) ?_
    obtain ⟨g6, hf⟩ := gd hf
    obtain ⟨y5, hy5, hf⟩ := bd hf
    refine mm_callVh S hR hS hA (As := [.int x1]) (rest := []) cvX6_110 (hK.k g6) (kX3_at_c l G A (hK.k g6) hy5) rfl rfl ⟨Nat.le_of_ble_eq_true rfl, Nat.le_of_ble_eq_true rfl⟩ rfl hl.1 rfl (lv_room (by simp [rf_cat, int_cat, long_cat])) dX6_left_72 ⟨Nat.zero_le _, Nat.zero_le _⟩ (fun H locs hR hS => ?_)
    have hK : mmKN μ y5.2 := hK.tr (kX3_at_kn hy5)
    obtain ⟨g8, hf⟩ := gd hf
    obtain ⟨y7, hy7, hf⟩ := bd hf
    refine mm_callVi S hR hS hA (As := []) (rest := []) cvX6_113 (hK.k g8) (kX2_isOver_c l G A (hK.k g8) hy7) rfl rfl ⟨Nat.le_of_ble_eq_true rfl, Nat.le_of_ble_eq_true rfl⟩ rfl hl.1 rfl (lv_room (by simp [rf_cat, int_cat, long_cat])) dX6_left_75 ⟨Nat.zero_le _, Nat.zero_le _⟩ (fun H locs hR hS => ?_)
    have hK : mmKN μ y7.2 := hK.tr (kX2_isOver_kn hy7)
    refine lv_if_eq (tgt := 83) S.1 S.2.1 dX6_left_78 (by decide) (fun c9 => ?_) (fun c9 => ?_)
    · have hf := it_t hf c9
      refine lv_iinc (v := (x2 + 1)) (lv' := [(2, .int (x2 + 1)), (0, rf h0), (1, .int x1)]) S.1 S.2.1 dX6_left_83 hl (k := 2) rfl (by rfl) (by decide) rfl (fun ls hl => ?_)
      refine lv_goto (tgt := 51) S.1 S.2.1 dX6_left_86 (by decide) ?_
      exact hkk51 h0 x1 (x2 + 1) y7.2 hf _ _ _ hR hS (lv_sub hl [1, 2, 0] rfl)
    · have hf := it_f hf c9
      refine lv_iload_n S.1 S.2.1 dX6_left_81 rfl (lv_at hl 2 rfl) ?_
      obtain rfl := Option.some.inj hf
      exact mm_iret S hR hS hr hlocks dX6_left_82
theorem wlX6_left_51 {p : Program} {l : Launch} {e : Env} {s : State} {m : MethodId} {args : Array Value} {below : List Frame} {meth : Method} {c : Code} {G : mmG} {A : Nat → Prop} {res : Nat × Int32 × MM} (E0 : mmEnv p m c cX6_left 3 s args RX6 G A meth (some (.int)))  : ∀ (n : Nat) (h0 : Nat) (x1 : Int32) (x2 : Int32) (μ : MM), lX6_left_51  n h0 x1 x2 μ = some res → mmGoal p l e rmX6_left s m args below meth c G A 51 3 [(0, rf h0), (1, .int x1), (2, .int x2)] μ (mmQ G A res.2.2 (some (.int res.2.1))) := by
  intro n
  induction n with
  | zero => intro h0 x1 x2 μ hf; cases hf
  | succ n ih => intro h0 x1 x2 μ hf; exact wbX6_left_51 E0  _ ih h0 x1 x2 μ hf
abbrev rxX6_left : Room := { frames := 6, cells := 1, slots := 6, locals := 144 }
set_option maxRecDepth 100000 in
set_option maxHeartbeats 4000000 in
theorem kX6_left_c (l : Launch) (G : mmG) (A : Nat → Prop) {μ : MM} {res : Nat × Int32 × MM} {h0 : Nat} {x1 : Int32} (hk0 : mK μ h0 = 7) (hf : fX6_left h0 x1 μ = some res) (h0r : res.1 = 0) : Met l yX6_left [.code yX6_left cX6_left 3 (some (.int))] rmX6_left (mmPc G A μ [rf h0, .int x1]) (mmQ G A res.2.2 (some (.int res.2.1))) 0 0 A := by
  refine mm_ofW (by decide +kernel) (by simp [lg_sl, rf_cat, int_cat]) ?_
  intro p e s m below meth c ls S hR hA hS hr hlocks hl hnm
  have hl : lv_has ls 3 [(0, rf h0), (1, .int x1)] := by simpa [lv_args, rf_cat, int_cat] using hl
  have E0 : mmEnv p m c cX6_left 3 s _ RX6 G A meth (some (.int)) := ⟨S, hA, hr, hlocks⟩
  have hK : mmKN μ μ := mmKN.rf
  unfold fX6_left at hf
  refine mm_aload_n S dX6_left_0 rfl (lv_at hl 0 rfl) ?_
  refine mm_getp S hR fdX6_21 (hK.k hk0) rfl dX6_left_1 ?_
  refine lv_iload_n S.1 S.2.1 dX6_left_4 rfl (lv_at hl 1 rfl) ?_
  refine lv_iconst (v := 0) S.1 S.2.1 dX6_left_5 (by decide) ?_
  obtain ⟨g2, hf⟩ := gd hf
  obtain ⟨y1, hy1, hf⟩ := bd hf
  refine mm_callVi S hR hS hA (As := [.int x1, .int 0]) (rest := []) cvX6_100 (hK.k g2) (kX3_has_c l G A (hK.k g2) hy1) rfl rfl ⟨Nat.le_of_ble_eq_true rfl, Nat.le_of_ble_eq_true rfl⟩ rfl hl.1 rfl (lv_room (by simp [rf_cat, int_cat, long_cat])) dX6_left_6 ⟨Nat.zero_le _, Nat.zero_le _⟩ (fun H locs hR hS => ?_)
  have hK : mmKN μ y1.2 := hK.tr (kX3_has_kn hy1)
  refine lv_if_ne (tgt := 22) S.1 S.2.1 dX6_left_9 (by decide) (fun c3 => ?_) (fun c3 => ?_)
  · have hf := it_f hf c3
    refine mm_aload_n S dX6_left_22 rfl (lv_at hl 0 rfl) ?_
    refine mm_getp S hR fdX6_21 (hK.k hk0) rfl dX6_left_23 ?_
    refine lv_iload_n S.1 S.2.1 dX6_left_26 rfl (lv_at hl 1 rfl) ?_
    obtain ⟨g5, hf⟩ := gd hf
    obtain ⟨y4, hy4, hf⟩ := bd hf
    refine mm_callVh S hR hS hA (As := [.int x1]) (rest := []) cvX6_110 (hK.k g5) (kX3_at_c l G A (hK.k g5) hy4) rfl rfl ⟨Nat.le_of_ble_eq_true rfl, Nat.le_of_ble_eq_true rfl⟩ rfl hl.1 rfl (lv_room (by simp [rf_cat, int_cat, long_cat])) dX6_left_27 ⟨Nat.zero_le _, Nat.zero_le _⟩ (fun H locs hR hS => ?_)
    have hK : mmKN μ y4.2 := hK.tr (kX3_at_kn hy4)
    obtain ⟨g7, hf⟩ := gd hf
    obtain ⟨y6, hy6, hf⟩ := bd hf
    refine mm_callVi S hR hS hA (As := []) (rest := []) cvX6_113 (hK.k g7) (kX2_isOver_c l G A (hK.k g7) hy6) rfl rfl ⟨Nat.le_of_ble_eq_true rfl, Nat.le_of_ble_eq_true rfl⟩ rfl hl.1 rfl (lv_room (by simp [rf_cat, int_cat, long_cat])) dX6_left_30 ⟨Nat.zero_le _, Nat.zero_le _⟩ (fun H locs hR hS => ?_)
    have hK : mmKN μ y6.2 := hK.tr (kX2_isOver_kn hy6)
    refine lv_if_eq (tgt := 38) S.1 S.2.1 dX6_left_33 (by decide) (fun c8 => ?_) (fun c8 => ?_)
    · have hf := it_t hf c8
      refine mm_aload_n S dX6_left_38 rfl (lv_at hl 0 rfl) ?_
      refine mm_getp S hR fdX6_25 (hK.k hk0) rfl dX6_left_39 ?_
      refine mm_aload_n S dX6_left_42 rfl (lv_at hl 0 rfl) ?_
      refine mm_getp S hR fdX6_21 (hK.k hk0) rfl dX6_left_43 ?_
      obtain ⟨g10, hf⟩ := gd hf
      obtain ⟨y9, hy9, hf⟩ := bd hf
      refine mm_callVv S hR hS hA (As := [rf (mP y6.2 h0 1)]) (rest := []) cvX6_242 (hK.k g10) (kX3_copyFrom_c l G A (hK.k g10) hy9) rfl rfl ⟨Nat.le_of_ble_eq_true rfl, Nat.le_of_ble_eq_true rfl⟩ rfl hl.1 rfl (lv_room (by simp [rf_cat, int_cat, long_cat])) dX6_left_46 ⟨Nat.zero_le _, Nat.zero_le _⟩ (fun H locs hR hS => ?_)
      have hK : mmKN μ y9 := hK.tr (kX3_copyFrom_kn hy9)
      refine lv_iconst (v := 0) S.1 S.2.1 dX6_left_49 (by decide) ?_
      refine lv_istore_n (i := 2) (lv' := [(2, .int 0), (0, rf h0), (1, .int x1)]) S.1 S.2.1 dX6_left_50 rfl hl (by decide) rfl (fun ls hl => ?_)
      exact wlX6_left_51 E0  FU h0 x1 0 y9 hf _ _ _ hR hS (lv_sub hl [1, 2, 0] rfl)
    · have hf := it_f hf c8
      refine lv_iconst (v := 0) S.1 S.2.1 dX6_left_36 (by decide) ?_
      obtain rfl := Option.some.inj hf
      exact mm_iret S hR hS hr hlocks dX6_left_37
  · have hf := it_t hf c3
    obtain rfl := Option.some.inj hf
    exact absurd h0r (by simp)
set_option maxRecDepth 100000 in
set_option maxHeartbeats 4000000 in
theorem kX6_left_x (l : Launch) (hl0 : l.stackTraces = false) (G : mmG) (A : Nat → Prop) {μ : MM} {res : Nat × Int32 × MM} {h0 : Nat} {x1 : Int32} (hk0 : mK μ h0 = 7) (hf : fX6_left h0 x1 μ = some res) (h0n : ¬ res.1 = 0) : vx_Met l yX6_left [.code yX6_left cX6_left 3 (some (.int))] rxX6_left (mmPx G A μ [rf h0, .int x1]) (fun _ _ _ _ => False) (mmXC G A res.2.2 (exn res.1)) 1 6 A := by
  refine mm_ofX (by decide +kernel) (by simp [lg_sl, rf_cat, int_cat]) ?_
  intro p e s m below meth c ls S hR hA hS hr hlocks hl hX hno
  have hl : lv_has ls 3 [(0, rf h0), (1, .int x1)] := by simpa [lv_args, rf_cat, int_cat] using hl
  have hK : mmKN μ μ := mmKN.rf
  unfold fX6_left at hf
  refine mm_aload_n S dX6_left_0 rfl (lv_at hl 0 rfl) ?_
  refine mm_getp S hR fdX6_21 (hK.k hk0) rfl dX6_left_1 ?_
  refine lv_iload_n S.1 S.2.1 dX6_left_4 rfl (lv_at hl 1 rfl) ?_
  refine lv_iconst (v := 0) S.1 S.2.1 dX6_left_5 (by decide) ?_
  obtain ⟨g2, hf⟩ := gd hf
  obtain ⟨y1, hy1, hf⟩ := bd hf
  refine mm_callVi S hR hS hA (As := [.int x1, .int 0]) (rest := []) cvX6_100 (hK.k g2) (kX3_has_c l G A (hK.k g2) hy1) rfl rfl ⟨Nat.le_of_ble_eq_true rfl, Nat.le_of_ble_eq_true rfl⟩ rfl hl.1 rfl (lv_room (by simp [rf_cat, int_cat, long_cat])) dX6_left_6 ⟨Nat.zero_le _, Nat.zero_le _⟩ (fun H locs hR hS => ?_)
  have hK : mmKN μ y1.2 := hK.tr (kX3_has_kn hy1)
  refine lv_if_ne (tgt := 22) S.1 S.2.1 dX6_left_9 (by decide) (fun c3 => ?_) (fun c3 => ?_)
  · have hf := it_f hf c3
    refine mm_aload_n S dX6_left_22 rfl (lv_at hl 0 rfl) ?_
    refine mm_getp S hR fdX6_21 (hK.k hk0) rfl dX6_left_23 ?_
    refine lv_iload_n S.1 S.2.1 dX6_left_26 rfl (lv_at hl 1 rfl) ?_
    obtain ⟨g5, hf⟩ := gd hf
    obtain ⟨y4, hy4, hf⟩ := bd hf
    refine mm_callVh S hR hS hA (As := [.int x1]) (rest := []) cvX6_110 (hK.k g5) (kX3_at_c l G A (hK.k g5) hy4) rfl rfl ⟨Nat.le_of_ble_eq_true rfl, Nat.le_of_ble_eq_true rfl⟩ rfl hl.1 rfl (lv_room (by simp [rf_cat, int_cat, long_cat])) dX6_left_27 ⟨Nat.zero_le _, Nat.zero_le _⟩ (fun H locs hR hS => ?_)
    have hK : mmKN μ y4.2 := hK.tr (kX3_at_kn hy4)
    obtain ⟨g7, hf⟩ := gd hf
    obtain ⟨y6, hy6, hf⟩ := bd hf
    refine mm_callVi S hR hS hA (As := []) (rest := []) cvX6_113 (hK.k g7) (kX2_isOver_c l G A (hK.k g7) hy6) rfl rfl ⟨Nat.le_of_ble_eq_true rfl, Nat.le_of_ble_eq_true rfl⟩ rfl hl.1 rfl (lv_room (by simp [rf_cat, int_cat, long_cat])) dX6_left_30 ⟨Nat.zero_le _, Nat.zero_le _⟩ (fun H locs hR hS => ?_)
    have hK : mmKN μ y6.2 := hK.tr (kX2_isOver_kn hy6)
    refine lv_if_eq (tgt := 38) S.1 S.2.1 dX6_left_33 (by decide) (fun c8 => ?_) (fun c8 => ?_)
    · have hf := it_t hf c8
      refine mm_aload_n S dX6_left_38 rfl (lv_at hl 0 rfl) ?_
      refine mm_getp S hR fdX6_25 (hK.k hk0) rfl dX6_left_39 ?_
      refine mm_aload_n S dX6_left_42 rfl (lv_at hl 0 rfl) ?_
      refine mm_getp S hR fdX6_21 (hK.k hk0) rfl dX6_left_43 ?_
      obtain ⟨g10, hf⟩ := gd hf
      obtain ⟨y9, hy9, hf⟩ := bd hf
      refine mm_callVv S hR hS hA (As := [rf (mP y6.2 h0 1)]) (rest := []) cvX6_242 (hK.k g10) (kX3_copyFrom_c l G A (hK.k g10) hy9) rfl rfl ⟨Nat.le_of_ble_eq_true rfl, Nat.le_of_ble_eq_true rfl⟩ rfl hl.1 rfl (lv_room (by simp [rf_cat, int_cat, long_cat])) dX6_left_46 ⟨Nat.zero_le _, Nat.zero_le _⟩ (fun H locs hR hS => ?_)
      have hK : mmKN μ y9 := hK.tr (kX3_copyFrom_kn hy9)
      refine lv_iconst (v := 0) S.1 S.2.1 dX6_left_49 (by decide) ?_
      refine lv_istore_n (i := 2) (lv' := [(2, .int 0), (0, rf h0), (1, .int x1)]) S.1 S.2.1 dX6_left_50 rfl hl (by decide) rfl (fun ls hl => ?_)
      exact absurd (zlX6_left_51 _ _ _ _ _ _ hf) h0n
    · have hf := it_f hf c8
      refine lv_iconst (v := 0) S.1 S.2.1 dX6_left_36 (by decide) ?_
      obtain rfl := Option.some.inj hf
      exact absurd rfl h0n
  · have hf := it_t hf c3
    obtain rfl := Option.some.inj hf
    refine mm_throwS S hR hS hl0 hX thX6_47_103_51 hl.1 hno dX6_left_12 dX6_left_15 dX6_left_16 dX6_left_18 dX6_left_21 (Nat.le_of_ble_eq_true rfl) (by simp [rf_cat, int_cat, long_cat]) (Nat.le_of_ble_eq_true rfl) (Nat.le_of_ble_eq_true rfl) hlocks (Nat.le_of_ble_eq_true rfl) (Nat.le_of_ble_eq_true rfl)
