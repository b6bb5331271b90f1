-- X1_hasLine
def fX1_hasLine (h0 : Nat) (x1 : Int32) (μ : MM) : Option (Int32 × MM) :=
  if x1 < 0 then (some (0, μ)) else (if (mI μ h0 3) ≤ x1 then (some (0, μ)) else (some (1, μ)))
set_option maxRecDepth 100000 in
set_option maxHeartbeats 4000000 in
theorem kX1_hasLine_kn {μ : MM} {res : Int32 × MM} {h0 : Nat} {x1 : Int32} (hf : fX1_hasLine h0 x1 μ = some res) : mmKN μ res.2 := by
  have hK : mmKN μ μ := mmKN.rf
  unfold fX1_hasLine at hf
  rcases it_or hf with ⟨c1, hf⟩ | ⟨c1, hf⟩
  · skip
    obtain rfl := Option.some.inj hf
    exact hK
  · skip
    rcases it_or hf with ⟨c2, hf⟩ | ⟨c2, hf⟩
    · skip
      obtain rfl := Option.some.inj hf
      exact hK
    · skip
      obtain rfl := Option.some.inj hf
      exact hK
abbrev rmX1_hasLine : Room := { frames := 0, cells := 0, slots := 0, locals := 0 }
set_option maxRecDepth 100000 in
set_option maxHeartbeats 4000000 in
theorem kX1_hasLine_c (l : Launch) (G : mmG) (A : Nat → Prop) {μ : MM} {res : Int32 × MM} {h0 : Nat} {x1 : Int32} (hk0 : mK μ h0 = 2) (hf : fX1_hasLine h0 x1 μ = some res) : Met l yX1_hasLine [.code yX1_hasLine cX1_hasLine 2 (some (.boolean))] rmX1_hasLine (mmPc G A μ [rf h0, .int x1]) (mmQ G A res.2 (some (.int res.1))) 0 0 A := by
  refine mm_ofW (by decide +kernel) (by simp [lg_sl, rf_cat, int_cat]) ?_
  intro p e s m below meth c ls S hR hA hS hr hlocks hl hnm
  have hl : lv_has ls 2 [(0, rf h0), (1, .int x1)] := by simpa [lv_args, rf_cat, int_cat] using hl
  have E0 : mmEnv p m c cX1_hasLine 2 s _ RX1 G A meth (some (.boolean)) := ⟨S, hA, hr, hlocks⟩
  have hK : mmKN μ μ := mmKN.rf
  unfold fX1_hasLine at hf
  refine lv_iload_n S.1 S.2.1 dX1_hasLine_0 rfl (lv_at hl 1 rfl) ?_
  refine lv_if_lt (tgt := 16) S.1 S.2.1 dX1_hasLine_1 (by decide) (fun c1 => ?_) (fun c1 => ?_)
  · have hf := it_t hf c1
    refine lv_iconst (v := 0) S.1 S.2.1 dX1_hasLine_16 (by decide) ?_
    obtain rfl := Option.some.inj hf
    exact mm_zret S hR hS hr hlocks (Or.inl rfl) dX1_hasLine_17
  · have hf := it_f hf c1
    refine lv_iload_n S.1 S.2.1 dX1_hasLine_4 rfl (lv_at hl 1 rfl) ?_
    refine mm_aload_n S dX1_hasLine_5 rfl (lv_at hl 0 rfl) ?_
    refine mm_geti S hR fdX1_21 (hK.k hk0) rfl dX1_hasLine_6 ?_
    refine lv_icmp_ge (tgt := 16) S.1 S.2.1 dX1_hasLine_9 (by decide) (fun c2 => ?_) (fun c2 => ?_)
    · have hf := it_t hf c2
      refine lv_iconst (v := 0) S.1 S.2.1 dX1_hasLine_16 (by decide) ?_
      obtain rfl := Option.some.inj hf
      exact mm_zret S hR hS hr hlocks (Or.inl rfl) dX1_hasLine_17
    · have hf := it_f hf c2
      refine lv_iconst (v := 1) S.1 S.2.1 dX1_hasLine_12 (by decide) ?_
      refine lv_goto (tgt := 17) S.1 S.2.1 dX1_hasLine_13 (by decide) ?_
      obtain rfl := Option.some.inj hf
      exact mm_zret S hR hS hr hlocks (Or.inr rfl) dX1_hasLine_17
-- X1_kindAt
def fX1_kindAt (h0 : Nat) (x1 : Int32) (μ : MM) : Option (Int32 × MM) :=
  (fX1_hasLine h0 x1 μ).bind fun y1 => if y1.1 = 0 then (some (11, y1.2)) else (if mK μ (mP y1.2 h0 0) = 20 then if ¬ (x1 < 0 ∨ mN y1.2 (mP y1.2 h0 0) ≤ x1.toNatClampNeg) then some ((mI y1.2 (mP y1.2 h0 0) x1.toNatClampNeg), y1.2) else none else none)
set_option maxRecDepth 100000 in
set_option maxHeartbeats 4000000 in
theorem kX1_kindAt_kn {μ : MM} {res : Int32 × MM} {h0 : Nat} {x1 : Int32} (hf : fX1_kindAt h0 x1 μ = some res) : mmKN μ res.2 := by
  have hK : mmKN μ μ := mmKN.rf
  unfold fX1_kindAt at hf
  obtain ⟨y1, hy1, hf⟩ := bd hf
  have hK : mmKN μ y1.2 := hK.tr (kX1_hasLine_kn hy1)
  rcases it_or hf with ⟨c2, hf⟩ | ⟨c2, hf⟩
  · skip
    obtain rfl := Option.some.inj hf
    exact hK
  · skip
    obtain ⟨g3, hf⟩ := gd hf
    obtain ⟨g4, hf⟩ := gd hf
    obtain rfl := Option.some.inj hf
    exact hK
abbrev rmX1_kindAt : Room := { frames := 1, cells := 0, slots := 0, locals := 21 }
set_option maxRecDepth 100000 in
set_option maxHeartbeats 4000000 in
theorem kX1_kindAt_c (l : Launch) (G : mmG) (A : Nat → Prop) {μ : MM} {res : Int32 × MM} {h0 : Nat} {x1 : Int32} (hk0 : mK μ h0 = 2) (hf : fX1_kindAt h0 x1 μ = some res) : Met l yX1_kindAt [.code yX1_kindAt cX1_kindAt 2 (some (.int))] rmX1_kindAt (mmPc G A μ [rf h0, .int x1]) (mmQ G A res.2 (some (.int res.1))) 0 0 A := by
  refine mm_ofW (by decide +kernel) (by simp [lg_sl, rf_cat, int_cat]) ?_
  intro p e s m below meth c ls S hR hA hS hr hlocks hl hnm
  have hl : lv_has ls 2 [(0, rf h0), (1, .int x1)] := by simpa [lv_args, rf_cat, int_cat] using hl
  have E0 : mmEnv p m c cX1_kindAt 2 s _ RX1 G A meth (some (.int)) := ⟨S, hA, hr, hlocks⟩
  have hK : mmKN μ μ := mmKN.rf
  unfold fX1_kindAt at hf
  refine mm_aload_n S dX1_kindAt_0 rfl (lv_at hl 0 rfl) ?_
  refine lv_iload_n S.1 S.2.1 dX1_kindAt_1 rfl (lv_at hl 1 rfl) ?_
  obtain ⟨y1, hy1, hf⟩ := bd hf
  refine mm_callVi S hR hS hA (As := [.int x1]) (rest := []) cvX1_25 (hK.k hk0) (kX1_hasLine_c l G A (hK.k hk0) hy1) rfl rfl ⟨Nat.le_of_ble_eq_true rfl, Nat.le_of_ble_eq_true rfl⟩ rfl hl.1 rfl (lv_room (by simp [rf_cat, int_cat, long_cat])) dX1_kindAt_2 ⟨Nat.zero_le _, Nat.zero_le _⟩ (fun H locs hR hS => ?_)
  have hK : mmKN μ y1.2 := hK.tr (kX1_hasLine_kn hy1)
  refine lv_if_eq (tgt := 17) S.1 S.2.1 dX1_kindAt_5 (by decide) (fun c2 => ?_) (fun c2 => ?_)
  · have hf := it_t hf c2
    refine lv_bipush (v := 11) S.1 S.2.1 dX1_kindAt_17 (by decide) ?_
    obtain rfl := Option.some.inj hf
    exact mm_iret S hR hS hr hlocks dX1_kindAt_19
  · have hf := it_f hf c2
    refine mm_aload_n S dX1_kindAt_8 rfl (lv_at hl 0 rfl) ?_
    refine mm_getp S hR fdX1_9 (hK.k hk0) rfl dX1_kindAt_9 ?_
    refine lv_iload_n S.1 S.2.1 dX1_kindAt_12 rfl (lv_at hl 1 rfl) ?_
    obtain ⟨g3, hf⟩ := gd hf
    obtain ⟨g4, hf⟩ := gd hf
    refine mm_iald S hR (hK.k g3) g4 dX1_kindAt_13 ?_
    refine lv_goto (tgt := 19) S.1 S.2.1 dX1_kindAt_14 (by decide) ?_
    obtain rfl := Option.some.inj hf
    exact mm_iret S hR hS hr hlocks dX1_kindAt_19
-- X1_aAt
def fX1_aAt (h0 : Nat) (x1 : Int32) (μ : MM) : Option (Int32 × MM) :=
  (fX1_hasLine h0 x1 μ).bind fun y1 => if y1.1 = 0 then (some (0, y1.2)) else (if mK μ (mP y1.2 h0 1) = 20 then if ¬ (x1 < 0 ∨ mN y1.2 (mP y1.2 h0 1) ≤ x1.toNatClampNeg) then some ((mI y1.2 (mP y1.2 h0 1) x1.toNatClampNeg), y1.2) else none else none)
set_option maxRecDepth 100000 in
set_option maxHeartbeats 4000000 in
theorem kX1_aAt_kn {μ : MM} {res : Int32 × MM} {h0 : Nat} {x1 : Int32} (hf : fX1_aAt h0 x1 μ = some res) : mmKN μ res.2 := by
  have hK : mmKN μ μ := mmKN.rf
  unfold fX1_aAt at hf
  obtain ⟨y1, hy1, hf⟩ := bd hf
  have hK : mmKN μ y1.2 := hK.tr (kX1_hasLine_kn hy1)
  rcases it_or hf with ⟨c2, hf⟩ | ⟨c2, hf⟩
  · skip
    obtain rfl := Option.some.inj hf
    exact hK
  · skip
    obtain ⟨g3, hf⟩ := gd hf
    obtain ⟨g4, hf⟩ := gd hf
    obtain rfl := Option.some.inj hf
    exact hK
abbrev rmX1_aAt : Room := { frames := 1, cells := 0, slots := 0, locals := 21 }
set_option maxRecDepth 100000 in
set_option maxHeartbeats 4000000 in
theorem kX1_aAt_c (l : Launch) (G : mmG) (A : Nat → Prop) {μ : MM} {res : Int32 × MM} {h0 : Nat} {x1 : Int32} (hk0 : mK μ h0 = 2) (hf : fX1_aAt h0 x1 μ = some res) : Met l yX1_aAt [.code yX1_aAt cX1_aAt 2 (some (.int))] rmX1_aAt (mmPc G A μ [rf h0, .int x1]) (mmQ G A res.2 (some (.int res.1))) 0 0 A := by
  refine mm_ofW (by decide +kernel) (by simp [lg_sl, rf_cat, int_cat]) ?_
  intro p e s m below meth c ls S hR hA hS hr hlocks hl hnm
  have hl : lv_has ls 2 [(0, rf h0), (1, .int x1)] := by simpa [lv_args, rf_cat, int_cat] using hl
  have E0 : mmEnv p m c cX1_aAt 2 s _ RX1 G A meth (some (.int)) := ⟨S, hA, hr, hlocks⟩
  have hK : mmKN μ μ := mmKN.rf
  unfold fX1_aAt at hf
  refine mm_aload_n S dX1_aAt_0 rfl (lv_at hl 0 rfl) ?_
  refine lv_iload_n S.1 S.2.1 dX1_aAt_1 rfl (lv_at hl 1 rfl) ?_
  obtain ⟨y1, hy1, hf⟩ := bd hf
  refine mm_callVi S hR hS hA (As := [.int x1]) (rest := []) cvX1_25 (hK.k hk0) (kX1_hasLine_c l G A (hK.k hk0) hy1) rfl rfl ⟨Nat.le_of_ble_eq_true rfl, Nat.le_of_ble_eq_true rfl⟩ rfl hl.1 rfl (lv_room (by simp [rf_cat, int_cat, long_cat])) dX1_aAt_2 ⟨Nat.zero_le _, Nat.zero_le _⟩ (fun H locs hR hS => ?_)
  have hK : mmKN μ y1.2 := hK.tr (kX1_hasLine_kn hy1)
  refine lv_if_eq (tgt := 17) S.1 S.2.1 dX1_aAt_5 (by decide) (fun c2 => ?_) (fun c2 => ?_)
  · have hf := it_t hf c2
    refine lv_iconst (v := 0) S.1 S.2.1 dX1_aAt_17 (by decide) ?_
    obtain rfl := Option.some.inj hf
    exact mm_iret S hR hS hr hlocks dX1_aAt_18
  · have hf := it_f hf c2
    refine mm_aload_n S dX1_aAt_8 rfl (lv_at hl 0 rfl) ?_
    refine mm_getp S hR fdX1_15 (hK.k hk0) rfl dX1_aAt_9 ?_
    refine lv_iload_n S.1 S.2.1 dX1_aAt_12 rfl (lv_at hl 1 rfl) ?_
    obtain ⟨g3, hf⟩ := gd hf
    obtain ⟨g4, hf⟩ := gd hf
    refine mm_iald S hR (hK.k g3) g4 dX1_aAt_13 ?_
    refine lv_goto (tgt := 18) S.1 S.2.1 dX1_aAt_14 (by decide) ?_
    obtain rfl := Option.some.inj hf
    exact mm_iret S hR hS hr hlocks dX1_aAt_18
-- X1_bAt
def fX1_bAt (h0 : Nat) (x1 : Int32) (μ : MM) : Option (Int32 × MM) :=
  (fX1_hasLine h0 x1 μ).bind fun y1 => if y1.1 = 0 then (some (0, y1.2)) else (if mK μ (mP y1.2 h0 2) = 20 then if ¬ (x1 < 0 ∨ mN y1.2 (mP y1.2 h0 2) ≤ x1.toNatClampNeg) then some ((mI y1.2 (mP y1.2 h0 2) x1.toNatClampNeg), y1.2) else none else none)
set_option maxRecDepth 100000 in
set_option maxHeartbeats 4000000 in
theorem kX1_bAt_kn {μ : MM} {res : Int32 × MM} {h0 : Nat} {x1 : Int32} (hf : fX1_bAt h0 x1 μ = some res) : mmKN μ res.2 := by
  have hK : mmKN μ μ := mmKN.rf
  unfold fX1_bAt at hf
  obtain ⟨y1, hy1, hf⟩ := bd hf
  have hK : mmKN μ y1.2 := hK.tr (kX1_hasLine_kn hy1)
  rcases it_or hf with ⟨c2, hf⟩ | ⟨c2, hf⟩
  · skip
    obtain rfl := Option.some.inj hf
    exact hK
  · skip
    obtain ⟨g3, hf⟩ := gd hf
    obtain ⟨g4, hf⟩ := gd hf
    obtain rfl := Option.some.inj hf
    exact hK
abbrev rmX1_bAt : Room := { frames := 1, cells := 0, slots := 0, locals := 21 }
set_option maxRecDepth 100000 in
set_option maxHeartbeats 4000000 in
theorem kX1_bAt_c (l : Launch) (G : mmG) (A : Nat → Prop) {μ : MM} {res : Int32 × MM} {h0 : Nat} {x1 : Int32} (hk0 : mK μ h0 = 2) (hf : fX1_bAt h0 x1 μ = some res) : Met l yX1_bAt [.code yX1_bAt cX1_bAt 2 (some (.int))] rmX1_bAt (mmPc G A μ [rf h0, .int x1]) (mmQ G A res.2 (some (.int res.1))) 0 0 A := by
  refine mm_ofW (by decide +kernel) (by simp [lg_sl, rf_cat, int_cat]) ?_
  intro p e s m below meth c ls S hR hA hS hr hlocks hl hnm
  have hl : lv_has ls 2 [(0, rf h0), (1, .int x1)] := by simpa [lv_args, rf_cat, int_cat] using hl
  have E0 : mmEnv p m c cX1_bAt 2 s _ RX1 G A meth (some (.int)) := ⟨S, hA, hr, hlocks⟩
  have hK : mmKN μ μ := mmKN.rf
  unfold fX1_bAt at hf
  refine mm_aload_n S dX1_bAt_0 rfl (lv_at hl 0 rfl) ?_
  refine lv_iload_n S.1 S.2.1 dX1_bAt_1 rfl (lv_at hl 1 rfl) ?_
  obtain ⟨y1, hy1, hf⟩ := bd hf
  refine mm_callVi S hR hS hA (As := [.int x1]) (rest := []) cvX1_25 (hK.k hk0) (kX1_hasLine_c l G A (hK.k hk0) hy1) rfl rfl ⟨Nat.le_of_ble_eq_true rfl, Nat.le_of_ble_eq_true rfl⟩ rfl hl.1 rfl (lv_room (by simp [rf_cat, int_cat, long_cat])) dX1_bAt_2 ⟨Nat.zero_le _, Nat.zero_le _⟩ (fun H locs hR hS => ?_)
  have hK : mmKN μ y1.2 := hK.tr (kX1_hasLine_kn hy1)
  refine lv_if_eq (tgt := 17) S.1 S.2.1 dX1_bAt_5 (by decide) (fun c2 => ?_) (fun c2 => ?_)
  · have hf := it_t hf c2
    refine lv_iconst (v := 0) S.1 S.2.1 dX1_bAt_17 (by decide) ?_
    obtain rfl := Option.some.inj hf
    exact mm_iret S hR hS hr hlocks dX1_bAt_18
  · have hf := it_f hf c2
    refine mm_aload_n S dX1_bAt_8 rfl (lv_at hl 0 rfl) ?_
    refine mm_getp S hR fdX1_18 (hK.k hk0) rfl dX1_bAt_9 ?_
    refine lv_iload_n S.1 S.2.1 dX1_bAt_12 rfl (lv_at hl 1 rfl) ?_
    obtain ⟨g3, hf⟩ := gd hf
    obtain ⟨g4, hf⟩ := gd hf
    refine mm_iald S hR (hK.k g3) g4 dX1_bAt_13 ?_
    refine lv_goto (tgt := 18) S.1 S.2.1 dX1_bAt_14 (by decide) ?_
    obtain rfl := Option.some.inj hf
    exact mm_iret S hR hS hr hlocks dX1_bAt_18
-- X1_fits
def fX1_fits (h0 : Nat) (x1 : Int32) (x2 : Int32) (x3 : Int32) (μ : MM) : Option (Int32 × MM) :=
  if x1 = 0 then ((fX6_within x2 (-99) 99 μ).bind fun y2 => if y2.1 = 0 then (some (0, y2.2)) else (if x3 = 0 then (some (1, y2.2)) else (some (0, y2.2)))) else (if x1 = 1 ∨ x1 = 2 then ((fX6_within x2 0 3 μ).bind fun y6 => if y6.1 = 0 then (some (0, y6.2)) else (if x3 = 0 then (some (1, y6.2)) else (some (0, y6.2)))) else (if x1 = 3 ∨ x1 = 8 ∨ x1 = 11 ∨ x1 = 13 then (if x2 = 0 then (if x3 = 0 then (some (1, μ)) else (some (0, μ))) else (some (0, μ))) else (if x1 = 4 then ((fX6_within x2 0 3 μ).bind fun y13 => if y13.1 = 0 then (some (0, y13.2)) else ((fX6_within x3 0 (mI y13.2 h0 3) y13.2).bind fun y15 => if y15.1 = 0 then (some (0, y15.2)) else (some (1, y15.2)))) else (if x1 = 5 ∨ x1 = 7 then (if x2 = 0 then ((fX6_within x3 ((mI μ h0 3) + 1) 12 μ).bind fun y19 => if y19.1 = 0 then (some (0, y19.2)) else (some (1, y19.2))) else (some (0, μ))) else (if x1 = 6 then ((fX6_within x2 0 1 μ).bind fun y22 => if y22.1 = 0 then (some (0, y22.2)) else ((fX6_within x3 ((mI y22.2 h0 3) + 1) 12 y22.2).bind fun y24 => if y24.1 = 0 then (some (0, y24.2)) else (some (1, y24.2)))) else (if x1 = 9 then ((fX6_within x2 1 7 μ).bind fun y27 => if y27.1 = 0 then (some (0, y27.2)) else (if x3 = 0 then (some (1, y27.2)) else (some (0, y27.2)))) else (if x1 = 10 ∨ x1 = 14 then ((fX6_within x2 0 7 μ).bind fun y31 => if y31.1 = 0 then (some (0, y31.2)) else (if x3 = 0 then (some (1, y31.2)) else (some (0, y31.2)))) else (if x1 = 12 then ((fX6_within x2 1 9 μ).bind fun y35 => if y35.1 = 0 then (some (0, y35.2)) else (if x3 = 0 then (some (1, y35.2)) else (some (0, y35.2)))) else (if x1 = 15 then ((fX6_within x2 0 1 μ).bind fun y39 => if y39.1 = 0 then (some (0, y39.2)) else (if x3 = 0 then (some (1, y39.2)) else (some (0, y39.2)))) else (some (0, μ)))))))))))
set_option maxRecDepth 100000 in
set_option maxHeartbeats 4000000 in
theorem kX1_fits_kn {μ : MM} {res : Int32 × MM} {h0 : Nat} {x1 : Int32} {x2 : Int32} {x3 : Int32} (hf : fX1_fits h0 x1 x2 x3 μ = some res) : mmKN μ res.2 := by
  have hK : mmKN μ μ := mmKN.rf
  unfold fX1_fits at hf
  rcases it_or hf with ⟨c1, hf⟩ | ⟨c1, hf⟩
  · skip
    obtain ⟨y2, hy2, hf⟩ := bd hf
    have hK : mmKN μ y2.2 := hK.tr (kX6_within_kn hy2)
    rcases it_or hf with ⟨c3, hf⟩ | ⟨c3, hf⟩
    · skip
      obtain rfl := Option.some.inj hf
      exact hK
    · skip
      rcases it_or hf with ⟨c4, hf⟩ | ⟨c4, hf⟩
      · skip
        obtain rfl := Option.some.inj hf
        exact hK
      · skip
        obtain rfl := Option.some.inj hf
        exact hK
  rcases it_or hf with ⟨c5, hf⟩ | ⟨c5, hf⟩
  · skip
    obtain ⟨y6, hy6, hf⟩ := bd hf
    have hK : mmKN μ y6.2 := hK.tr (kX6_within_kn hy6)
    rcases it_or hf with ⟨c7, hf⟩ | ⟨c7, hf⟩
    · skip
      obtain rfl := Option.some.inj hf
      exact hK
    · skip
      rcases it_or hf with ⟨c8, hf⟩ | ⟨c8, hf⟩
      · skip
        obtain rfl := Option.some.inj hf
        exact hK
      · skip
        obtain rfl := Option.some.inj hf
        exact hK
  rcases it_or hf with ⟨c9, hf⟩ | ⟨c9, hf⟩
  · skip
    rcases it_or hf with ⟨c10, hf⟩ | ⟨c10, hf⟩
    · skip
      rcases it_or hf with ⟨c11, hf⟩ | ⟨c11, hf⟩
      · skip
        obtain rfl := Option.some.inj hf
        exact hK
      · skip
        obtain rfl := Option.some.inj hf
        exact hK
    · skip
      obtain rfl := Option.some.inj hf
      exact hK
  rcases it_or hf with ⟨c12, hf⟩ | ⟨c12, hf⟩
  · skip
    obtain ⟨y13, hy13, hf⟩ := bd hf
    have hK : mmKN μ y13.2 := hK.tr (kX6_within_kn hy13)
    rcases it_or hf with ⟨c14, hf⟩ | ⟨c14, hf⟩
    · skip
      obtain rfl := Option.some.inj hf
      exact hK
    · skip
      obtain ⟨y15, hy15, hf⟩ := bd hf
      have hK : mmKN μ y15.2 := hK.tr (kX6_within_kn hy15)
      rcases it_or hf with ⟨c16, hf⟩ | ⟨c16, hf⟩
      · skip
        obtain rfl := Option.some.inj hf
        exact hK
      · skip
        obtain rfl := Option.some.inj hf
        exact hK
  rcases it_or hf with ⟨c17, hf⟩ | ⟨c17, hf⟩
  · skip
    rcases it_or hf with ⟨c18, hf⟩ | ⟨c18, hf⟩
    · skip
      obtain ⟨y19, hy19, hf⟩ := bd hf
      have hK : mmKN μ y19.2 := hK.tr (kX6_within_kn hy19)
      rcases it_or hf with ⟨c20, hf⟩ | ⟨c20, hf⟩
      · skip
        obtain rfl := Option.some.inj hf
        exact hK
      · skip
        obtain rfl := Option.some.inj hf
        exact hK
    · skip
      obtain rfl := Option.some.inj hf
      exact hK
  rcases it_or hf with ⟨c21, hf⟩ | ⟨c21, hf⟩
  · skip
    obtain ⟨y22, hy22, hf⟩ := bd hf
    have hK : mmKN μ y22.2 := hK.tr (kX6_within_kn hy22)
    rcases it_or hf with ⟨c23, hf⟩ | ⟨c23, hf⟩
    · skip
      obtain rfl := Option.some.inj hf
      exact hK
    · skip
      obtain ⟨y24, hy24, hf⟩ := bd hf
      have hK : mmKN μ y24.2 := hK.tr (kX6_within_kn hy24)
      rcases it_or hf with ⟨c25, hf⟩ | ⟨c25, hf⟩
      · skip
        obtain rfl := Option.some.inj hf
        exact hK
      · skip
        obtain rfl := Option.some.inj hf
        exact hK
  rcases it_or hf with ⟨c26, hf⟩ | ⟨c26, hf⟩
  · skip
    obtain ⟨y27, hy27, hf⟩ := bd hf
    have hK : mmKN μ y27.2 := hK.tr (kX6_within_kn hy27)
    rcases it_or hf with ⟨c28, hf⟩ | ⟨c28, hf⟩
    · skip
      obtain rfl := Option.some.inj hf
      exact hK
    · skip
      rcases it_or hf with ⟨c29, hf⟩ | ⟨c29, hf⟩
      · skip
        obtain rfl := Option.some.inj hf
        exact hK
      · skip
        obtain rfl := Option.some.inj hf
        exact hK
  rcases it_or hf with ⟨c30, hf⟩ | ⟨c30, hf⟩
  · skip
    obtain ⟨y31, hy31, hf⟩ := bd hf
    have hK : mmKN μ y31.2 := hK.tr (kX6_within_kn hy31)
    rcases it_or hf with ⟨c32, hf⟩ | ⟨c32, hf⟩
    · skip
      obtain rfl := Option.some.inj hf
      exact hK
    · skip
      rcases it_or hf with ⟨c33, hf⟩ | ⟨c33, hf⟩
      · skip
        obtain rfl := Option.some.inj hf
        exact hK
      · skip
        obtain rfl := Option.some.inj hf
        exact hK
  rcases it_or hf with ⟨c34, hf⟩ | ⟨c34, hf⟩
  · skip
    obtain ⟨y35, hy35, hf⟩ := bd hf
    have hK : mmKN μ y35.2 := hK.tr (kX6_within_kn hy35)
    rcases it_or hf with ⟨c36, hf⟩ | ⟨c36, hf⟩
    · skip
      obtain rfl := Option.some.inj hf
      exact hK
    · skip
      rcases it_or hf with ⟨c37, hf⟩ | ⟨c37, hf⟩
      · skip
        obtain rfl := Option.some.inj hf
        exact hK
      · skip
        obtain rfl := Option.some.inj hf
        exact hK
  rcases it_or hf with ⟨c38, hf⟩ | ⟨c38, hf⟩
  · skip
    obtain ⟨y39, hy39, hf⟩ := bd hf
    have hK : mmKN μ y39.2 := hK.tr (kX6_within_kn hy39)
    rcases it_or hf with ⟨c40, hf⟩ | ⟨c40, hf⟩
    · skip
      obtain rfl := Option.some.inj hf
      exact hK
    · skip
      rcases it_or hf with ⟨c41, hf⟩ | ⟨c41, hf⟩
      · skip
        obtain rfl := Option.some.inj hf
        exact hK
      · skip
        obtain rfl := Option.some.inj hf
        exact hK
  obtain rfl := Option.some.inj hf
  exact hK
abbrev rmX1_fits : Room := { frames := 1, cells := 0, slots := 0, locals := 22 }
set_option maxRecDepth 100000 in
set_option maxHeartbeats 4000000 in
theorem kX1_fits_c (l : Launch) (G : mmG) (A : Nat → Prop) {μ : MM} {res : Int32 × MM} {h0 : Nat} {x1 : Int32} {x2 : Int32} {x3 : Int32} (hk0 : mK μ h0 = 2) (hf : fX1_fits h0 x1 x2 x3 μ = some res) : Met l yX1_fits [.code yX1_fits cX1_fits 4 (some (.boolean))] rmX1_fits (mmPc G A μ [rf h0, .int x1, .int x2, .int x3]) (mmQ G A res.2 (some (.int res.1))) 0 0 A := by
  refine mm_ofW (by decide +kernel) (by simp [lg_sl, rf_cat, int_cat]) ?_
  intro p e s m below meth c ls S hR hA hS hr hlocks hl hnm
  have hl : lv_has ls 4 [(0, rf h0), (1, .int x1), (2, .int x2), (3, .int x3)] := by simpa [lv_args, rf_cat, int_cat] using hl
  have E0 : mmEnv p m c cX1_fits 4 s _ RX1 G A meth (some (.boolean)) := ⟨S, hA, hr, hlocks⟩
  have hK : mmKN μ μ := mmKN.rf
  unfold fX1_fits at hf
  refine lv_iload_n S.1 S.2.1 dX1_fits_0 rfl (lv_at hl 1 rfl) ?_
  rcases it_or hf with ⟨c1, hf⟩ | ⟨c1, hf⟩
  · refine mm_swL (tgt := 80) (off := 79) S [0] dX1_fits_1 (by simpa using c1) (by decide) (by decide) ?_
    refine lv_iload_n S.1 S.2.1 dX1_fits_80 rfl (lv_at hl 2 rfl) ?_
    refine lv_bipush (v := (-99)) S.1 S.2.1 dX1_fits_81 (by decide) ?_
    refine lv_bipush (v := 99) S.1 S.2.1 dX1_fits_83 (by decide) ?_
    obtain ⟨y2, hy2, hf⟩ := bd hf
    refine mm_callNi S hR hS hA (As := [.int x2, .int (-99), .int 99]) (rest := []) csX1_29 (kX6_within_c l G A hy2) rfl rfl ⟨Nat.le_of_ble_eq_true rfl, Nat.le_of_ble_eq_true rfl⟩ rfl hl.1 rfl (lv_room (by simp [rf_cat, int_cat, long_cat])) dX1_fits_85 ⟨Nat.zero_le _, Nat.zero_le _⟩ (fun H locs hR hS => ?_)
    have hK : mmKN μ y2.2 := hK.tr (kX6_within_kn hy2)
    refine lv_if_eq (tgt := 99) S.1 S.2.1 dX1_fits_88 (by decide) (fun c3 => ?_) (fun c3 => ?_)
    · have hf := it_t hf c3
      refine lv_iconst (v := 0) S.1 S.2.1 dX1_fits_99 (by decide) ?_
      obtain rfl := Option.some.inj hf
      exact mm_zret S hR hS hr hlocks (Or.inl rfl) dX1_fits_100
    · have hf := it_f hf c3
      refine lv_iload_n S.1 S.2.1 dX1_fits_91 rfl (lv_at hl 3 rfl) ?_
      refine lv_if_ne (tgt := 99) S.1 S.2.1 dX1_fits_92 (by decide) (fun c4 => ?_) (fun c4 => ?_)
      · have hf := it_f hf c4
        refine lv_iconst (v := 0) S.1 S.2.1 dX1_fits_99 (by decide) ?_
        obtain rfl := Option.some.inj hf
        exact mm_zret S hR hS hr hlocks (Or.inl rfl) dX1_fits_100
      · have hf := it_t hf c4
        refine lv_iconst (v := 1) S.1 S.2.1 dX1_fits_95 (by decide) ?_
        refine lv_goto (tgt := 100) S.1 S.2.1 dX1_fits_96 (by decide) ?_
        obtain rfl := Option.some.inj hf
        exact mm_zret S hR hS hr hlocks (Or.inr rfl) dX1_fits_100
  rcases it_or hf with ⟨c5, hf⟩ | ⟨c5, hf⟩
  · refine mm_swL (tgt := 101) (off := 100) S [1, 2] dX1_fits_1 (by simpa using c5) (by decide) (by decide) ?_
    refine lv_iload_n S.1 S.2.1 dX1_fits_101 rfl (lv_at hl 2 rfl) ?_
    refine lv_iconst (v := 0) S.1 S.2.1 dX1_fits_102 (by decide) ?_
    refine lv_iconst (v := 3) S.1 S.2.1 dX1_fits_103 (by decide) ?_
    obtain ⟨y6, hy6, hf⟩ := bd hf
    refine mm_callNi S hR hS hA (As := [.int x2, .int 0, .int 3]) (rest := []) csX1_29 (kX6_within_c l G A hy6) rfl rfl ⟨Nat.le_of_ble_eq_true rfl, Nat.le_of_ble_eq_true rfl⟩ rfl hl.1 rfl (lv_room (by simp [rf_cat, int_cat, long_cat])) dX1_fits_104 ⟨Nat.zero_le _, Nat.zero_le _⟩ (fun H locs hR hS => ?_)
    have hK : mmKN μ y6.2 := hK.tr (kX6_within_kn hy6)
    refine lv_if_eq (tgt := 118) S.1 S.2.1 dX1_fits_107 (by decide) (fun c7 => ?_) (fun c7 => ?_)
    · have hf := it_t hf c7
      refine lv_iconst (v := 0) S.1 S.2.1 dX1_fits_118 (by decide) ?_
      obtain rfl := Option.some.inj hf
      exact mm_zret S hR hS hr hlocks (Or.inl rfl) dX1_fits_119
    · have hf := it_f hf c7
      refine lv_iload_n S.1 S.2.1 dX1_fits_110 rfl (lv_at hl 3 rfl) ?_
      refine lv_if_ne (tgt := 118) S.1 S.2.1 dX1_fits_111 (by decide) (fun c8 => ?_) (fun c8 => ?_)
      · have hf := it_f hf c8
        refine lv_iconst (v := 0) S.1 S.2.1 dX1_fits_118 (by decide) ?_
        obtain rfl := Option.some.inj hf
        exact mm_zret S hR hS hr hlocks (Or.inl rfl) dX1_fits_119
      · have hf := it_t hf c8
        refine lv_iconst (v := 1) S.1 S.2.1 dX1_fits_114 (by decide) ?_
        refine lv_goto (tgt := 119) S.1 S.2.1 dX1_fits_115 (by decide) ?_
        obtain rfl := Option.some.inj hf
        exact mm_zret S hR hS hr hlocks (Or.inr rfl) dX1_fits_119
  rcases it_or hf with ⟨c9, hf⟩ | ⟨c9, hf⟩
  · refine mm_swL (tgt := 281) (off := 280) S [3, 8, 11, 13] dX1_fits_1 (by simpa using c9) (by decide) (by decide) ?_
    refine lv_iload_n S.1 S.2.1 dX1_fits_281 rfl (lv_at hl 2 rfl) ?_
    refine lv_if_ne (tgt := 293) S.1 S.2.1 dX1_fits_282 (by decide) (fun c10 => ?_) (fun c10 => ?_)
    · have hf := it_f hf c10
      refine lv_iconst (v := 0) S.1 S.2.1 dX1_fits_293 (by decide) ?_
      obtain rfl := Option.some.inj hf
      exact mm_zret S hR hS hr hlocks (Or.inl rfl) dX1_fits_294
    · have hf := it_t hf c10
      refine lv_iload_n S.1 S.2.1 dX1_fits_285 rfl (lv_at hl 3 rfl) ?_
      refine lv_if_ne (tgt := 293) S.1 S.2.1 dX1_fits_286 (by decide) (fun c11 => ?_) (fun c11 => ?_)
      · have hf := it_f hf c11
        refine lv_iconst (v := 0) S.1 S.2.1 dX1_fits_293 (by decide) ?_
        obtain rfl := Option.some.inj hf
        exact mm_zret S hR hS hr hlocks (Or.inl rfl) dX1_fits_294
      · have hf := it_t hf c11
        refine lv_iconst (v := 1) S.1 S.2.1 dX1_fits_289 (by decide) ?_
        refine lv_goto (tgt := 294) S.1 S.2.1 dX1_fits_290 (by decide) ?_
        obtain rfl := Option.some.inj hf
        exact mm_zret S hR hS hr hlocks (Or.inr rfl) dX1_fits_294
  rcases it_or hf with ⟨c12, hf⟩ | ⟨c12, hf⟩
  · refine mm_swL (tgt := 120) (off := 119) S [4] dX1_fits_1 (by simpa using c12) (by decide) (by decide) ?_
    refine lv_iload_n S.1 S.2.1 dX1_fits_120 rfl (lv_at hl 2 rfl) ?_
    refine lv_iconst (v := 0) S.1 S.2.1 dX1_fits_121 (by decide) ?_
    refine lv_iconst (v := 3) S.1 S.2.1 dX1_fits_122 (by decide) ?_
    obtain ⟨y13, hy13, hf⟩ := bd hf
    refine mm_callNi S hR hS hA (As := [.int x2, .int 0, .int 3]) (rest := []) csX1_29 (kX6_within_c l G A hy13) rfl rfl ⟨Nat.le_of_ble_eq_true rfl, Nat.le_of_ble_eq_true rfl⟩ rfl hl.1 rfl (lv_room (by simp [rf_cat, int_cat, long_cat])) dX1_fits_123 ⟨Nat.zero_le _, Nat.zero_le _⟩ (fun H locs hR hS => ?_)
    have hK : mmKN μ y13.2 := hK.tr (kX6_within_kn hy13)
    refine lv_if_eq (tgt := 145) S.1 S.2.1 dX1_fits_126 (by decide) (fun c14 => ?_) (fun c14 => ?_)
    · have hf := it_t hf c14
      refine lv_iconst (v := 0) S.1 S.2.1 dX1_fits_145 (by decide) ?_
      obtain rfl := Option.some.inj hf
      exact mm_zret S hR hS hr hlocks (Or.inl rfl) dX1_fits_146
    · have hf := it_f hf c14
      refine lv_iload_n S.1 S.2.1 dX1_fits_129 rfl (lv_at hl 3 rfl) ?_
      refine lv_iconst (v := 0) S.1 S.2.1 dX1_fits_130 (by decide) ?_
      refine mm_aload_n S dX1_fits_131 rfl (lv_at hl 0 rfl) ?_
      refine mm_geti S hR fdX1_21 (hK.k hk0) rfl dX1_fits_132 ?_
      obtain ⟨y15, hy15, hf⟩ := bd hf
      refine mm_callNi S hR hS hA (As := [.int x3, .int 0, .int (mI y13.2 h0 3)]) (rest := []) csX1_29 (kX6_within_c l G A hy15) rfl rfl ⟨Nat.le_of_ble_eq_true rfl, Nat.le_of_ble_eq_true rfl⟩ rfl hl.1 rfl (lv_room (by simp [rf_cat, int_cat, long_cat])) dX1_fits_135 ⟨Nat.zero_le _, Nat.zero_le _⟩ (fun H locs hR hS => ?_)
      have hK : mmKN μ y15.2 := hK.tr (kX6_within_kn hy15)
      refine lv_if_eq (tgt := 145) S.1 S.2.1 dX1_fits_138 (by decide) (fun c16 => ?_) (fun c16 => ?_)
      · have hf := it_t hf c16
        refine lv_iconst (v := 0) S.1 S.2.1 dX1_fits_145 (by decide) ?_
        obtain rfl := Option.some.inj hf
        exact mm_zret S hR hS hr hlocks (Or.inl rfl) dX1_fits_146
      · have hf := it_f hf c16
        refine lv_iconst (v := 1) S.1 S.2.1 dX1_fits_141 (by decide) ?_
        refine lv_goto (tgt := 146) S.1 S.2.1 dX1_fits_142 (by decide) ?_
        obtain rfl := Option.some.inj hf
        exact mm_zret S hR hS hr hlocks (Or.inr rfl) dX1_fits_146
  rcases it_or hf with ⟨c17, hf⟩ | ⟨c17, hf⟩
  · refine mm_swL (tgt := 147) (off := 146) S [5, 7] dX1_fits_1 (by simpa using c17) (by decide) (by decide) ?_
    refine lv_iload_n S.1 S.2.1 dX1_fits_147 rfl (lv_at hl 2 rfl) ?_
    refine lv_if_ne (tgt := 170) S.1 S.2.1 dX1_fits_148 (by decide) (fun c18 => ?_) (fun c18 => ?_)
    · have hf := it_f hf c18
      refine lv_iconst (v := 0) S.1 S.2.1 dX1_fits_170 (by decide) ?_
      obtain rfl := Option.some.inj hf
      exact mm_zret S hR hS hr hlocks (Or.inl rfl) dX1_fits_171
    · have hf := it_t hf c18
      refine lv_iload_n S.1 S.2.1 dX1_fits_151 rfl (lv_at hl 3 rfl) ?_
      refine mm_aload_n S dX1_fits_152 rfl (lv_at hl 0 rfl) ?_
      refine mm_geti S hR fdX1_21 (hK.k hk0) rfl dX1_fits_153 ?_
      refine lv_iconst (v := 1) S.1 S.2.1 dX1_fits_156 (by decide) ?_
      refine lv_iadd S.1 S.2.1 dX1_fits_157 ?_
      refine lv_bipush (v := 12) S.1 S.2.1 dX1_fits_158 (by decide) ?_
      obtain ⟨y19, hy19, hf⟩ := bd hf
      refine mm_callNi S hR hS hA (As := [.int x3, .int ((mI μ h0 3) + 1), .int 12]) (rest := []) csX1_29 (kX6_within_c l G A hy19) rfl rfl ⟨Nat.le_of_ble_eq_true rfl, Nat.le_of_ble_eq_true rfl⟩ rfl hl.1 rfl (lv_room (by simp [rf_cat, int_cat, long_cat])) dX1_fits_160 ⟨Nat.zero_le _, Nat.zero_le _⟩ (fun H locs hR hS => ?_)
      have hK : mmKN μ y19.2 := hK.tr (kX6_within_kn hy19)
      refine lv_if_eq (tgt := 170) S.1 S.2.1 dX1_fits_163 (by decide) (fun c20 => ?_) (fun c20 => ?_)
      · have hf := it_t hf c20
        refine lv_iconst (v := 0) S.1 S.2.1 dX1_fits_170 (by decide) ?_
        obtain rfl := Option.some.inj hf
        exact mm_zret S hR hS hr hlocks (Or.inl rfl) dX1_fits_171
      · have hf := it_f hf c20
        refine lv_iconst (v := 1) S.1 S.2.1 dX1_fits_166 (by decide) ?_
        refine lv_goto (tgt := 171) S.1 S.2.1 dX1_fits_167 (by decide) ?_
        obtain rfl := Option.some.inj hf
        exact mm_zret S hR hS hr hlocks (Or.inr rfl) dX1_fits_171
  rcases it_or hf with ⟨c21, hf⟩ | ⟨c21, hf⟩
  · refine mm_swL (tgt := 172) (off := 171) S [6] dX1_fits_1 (by simpa using c21) (by decide) (by decide) ?_
    refine lv_iload_n S.1 S.2.1 dX1_fits_172 rfl (lv_at hl 2 rfl) ?_
    refine lv_iconst (v := 0) S.1 S.2.1 dX1_fits_173 (by decide) ?_
    refine lv_iconst (v := 1) S.1 S.2.1 dX1_fits_174 (by decide) ?_
    obtain ⟨y22, hy22, hf⟩ := bd hf
    refine mm_callNi S hR hS hA (As := [.int x2, .int 0, .int 1]) (rest := []) csX1_29 (kX6_within_c l G A hy22) rfl rfl ⟨Nat.le_of_ble_eq_true rfl, Nat.le_of_ble_eq_true rfl⟩ rfl hl.1 rfl (lv_room (by simp [rf_cat, int_cat, long_cat])) dX1_fits_175 ⟨Nat.zero_le _, Nat.zero_le _⟩ (fun H locs hR hS => ?_)
    have hK : mmKN μ y22.2 := hK.tr (kX6_within_kn hy22)
    refine lv_if_eq (tgt := 200) S.1 S.2.1 dX1_fits_178 (by decide) (fun c23 => ?_) (fun c23 => ?_)
    · have hf := it_t hf c23
      refine lv_iconst (v := 0) S.1 S.2.1 dX1_fits_200 (by decide) ?_
      obtain rfl := Option.some.inj hf
      exact mm_zret S hR hS hr hlocks (Or.inl rfl) dX1_fits_201
    · have hf := it_f hf c23
      refine lv_iload_n S.1 S.2.1 dX1_fits_181 rfl (lv_at hl 3 rfl) ?_
      refine mm_aload_n S dX1_fits_182 rfl (lv_at hl 0 rfl) ?_
      refine mm_geti S hR fdX1_21 (hK.k hk0) rfl dX1_fits_183 ?_
      refine lv_iconst (v := 1) S.1 S.2.1 dX1_fits_186 (by decide) ?_
      refine lv_iadd S.1 S.2.1 dX1_fits_187 ?_
      refine lv_bipush (v := 12) S.1 S.2.1 dX1_fits_188 (by decide) ?_
      obtain ⟨y24, hy24, hf⟩ := bd hf
      refine mm_callNi S hR hS hA (As := [.int x3, .int ((mI y22.2 h0 3) + 1), .int 12]) (rest := []) csX1_29 (kX6_within_c l G A hy24) rfl rfl ⟨Nat.le_of_ble_eq_true rfl, Nat.le_of_ble_eq_true rfl⟩ rfl hl.1 rfl (lv_room (by simp [rf_cat, int_cat, long_cat])) dX1_fits_190 ⟨Nat.zero_le _, Nat.zero_le _⟩ (fun H locs hR hS => ?_)
      have hK : mmKN μ y24.2 := hK.tr (kX6_within_kn hy24)
      refine lv_if_eq (tgt := 200) S.1 S.2.1 dX1_fits_193 (by decide) (fun c25 => ?_) (fun c25 => ?_)
      · have hf := it_t hf c25
        refine lv_iconst (v := 0) S.1 S.2.1 dX1_fits_200 (by decide) ?_
        obtain rfl := Option.some.inj hf
        exact mm_zret S hR hS hr hlocks (Or.inl rfl) dX1_fits_201
      · have hf := it_f hf c25
        refine lv_iconst (v := 1) S.1 S.2.1 dX1_fits_196 (by decide) ?_
        refine lv_goto (tgt := 201) S.1 S.2.1 dX1_fits_197 (by decide) ?_
        obtain rfl := Option.some.inj hf
        exact mm_zret S hR hS hr hlocks (Or.inr rfl) dX1_fits_201
  rcases it_or hf with ⟨c26, hf⟩ | ⟨c26, hf⟩
  · refine mm_swL (tgt := 202) (off := 201) S [9] dX1_fits_1 (by simpa using c26) (by decide) (by decide) ?_
    refine lv_iload_n S.1 S.2.1 dX1_fits_202 rfl (lv_at hl 2 rfl) ?_
    refine lv_iconst (v := 1) S.1 S.2.1 dX1_fits_203 (by decide) ?_
    refine lv_bipush (v := 7) S.1 S.2.1 dX1_fits_204 (by decide) ?_
    obtain ⟨y27, hy27, hf⟩ := bd hf
    refine mm_callNi S hR hS hA (As := [.int x2, .int 1, .int 7]) (rest := []) csX1_29 (kX6_within_c l G A hy27) rfl rfl ⟨Nat.le_of_ble_eq_true rfl, Nat.le_of_ble_eq_true rfl⟩ rfl hl.1 rfl (lv_room (by simp [rf_cat, int_cat, long_cat])) dX1_fits_206 ⟨Nat.zero_le _, Nat.zero_le _⟩ (fun H locs hR hS => ?_)
    have hK : mmKN μ y27.2 := hK.tr (kX6_within_kn hy27)
    refine lv_if_eq (tgt := 220) S.1 S.2.1 dX1_fits_209 (by decide) (fun c28 => ?_) (fun c28 => ?_)
    · have hf := it_t hf c28
      refine lv_iconst (v := 0) S.1 S.2.1 dX1_fits_220 (by decide) ?_
      obtain rfl := Option.some.inj hf
      exact mm_zret S hR hS hr hlocks (Or.inl rfl) dX1_fits_221
    · have hf := it_f hf c28
      refine lv_iload_n S.1 S.2.1 dX1_fits_212 rfl (lv_at hl 3 rfl) ?_
      refine lv_if_ne (tgt := 220) S.1 S.2.1 dX1_fits_213 (by decide) (fun c29 => ?_) (fun c29 => ?_)
      · have hf := it_f hf c29
        refine lv_iconst (v := 0) S.1 S.2.1 dX1_fits_220 (by decide) ?_
        obtain rfl := Option.some.inj hf
        exact mm_zret S hR hS hr hlocks (Or.inl rfl) dX1_fits_221
      · have hf := it_t hf c29
        refine lv_iconst (v := 1) S.1 S.2.1 dX1_fits_216 (by decide) ?_
        refine lv_goto (tgt := 221) S.1 S.2.1 dX1_fits_217 (by decide) ?_
        obtain rfl := Option.some.inj hf
        exact mm_zret S hR hS hr hlocks (Or.inr rfl) dX1_fits_221
  rcases it_or hf with ⟨c30, hf⟩ | ⟨c30, hf⟩
  · refine mm_swL (tgt := 222) (off := 221) S [10, 14] dX1_fits_1 (by simpa using c30) (by decide) (by decide) ?_
    refine lv_iload_n S.1 S.2.1 dX1_fits_222 rfl (lv_at hl 2 rfl) ?_
    refine lv_iconst (v := 0) S.1 S.2.1 dX1_fits_223 (by decide) ?_
    refine lv_bipush (v := 7) S.1 S.2.1 dX1_fits_224 (by decide) ?_
    obtain ⟨y31, hy31, hf⟩ := bd hf
    refine mm_callNi S hR hS hA (As := [.int x2, .int 0, .int 7]) (rest := []) csX1_29 (kX6_within_c l G A hy31) rfl rfl ⟨Nat.le_of_ble_eq_true rfl, Nat.le_of_ble_eq_true rfl⟩ rfl hl.1 rfl (lv_room (by simp [rf_cat, int_cat, long_cat])) dX1_fits_226 ⟨Nat.zero_le _, Nat.zero_le _⟩ (fun H locs hR hS => ?_)
    have hK : mmKN μ y31.2 := hK.tr (kX6_within_kn hy31)
    refine lv_if_eq (tgt := 240) S.1 S.2.1 dX1_fits_229 (by decide) (fun c32 => ?_) (fun c32 => ?_)
    · have hf := it_t hf c32
      refine lv_iconst (v := 0) S.1 S.2.1 dX1_fits_240 (by decide) ?_
      obtain rfl := Option.some.inj hf
      exact mm_zret S hR hS hr hlocks (Or.inl rfl) dX1_fits_241
    · have hf := it_f hf c32
      refine lv_iload_n S.1 S.2.1 dX1_fits_232 rfl (lv_at hl 3 rfl) ?_
      refine lv_if_ne (tgt := 240) S.1 S.2.1 dX1_fits_233 (by decide) (fun c33 => ?_) (fun c33 => ?_)
      · have hf := it_f hf c33
        refine lv_iconst (v := 0) S.1 S.2.1 dX1_fits_240 (by decide) ?_
        obtain rfl := Option.some.inj hf
        exact mm_zret S hR hS hr hlocks (Or.inl rfl) dX1_fits_241
      · have hf := it_t hf c33
        refine lv_iconst (v := 1) S.1 S.2.1 dX1_fits_236 (by decide) ?_
        refine lv_goto (tgt := 241) S.1 S.2.1 dX1_fits_237 (by decide) ?_
        obtain rfl := Option.some.inj hf
        exact mm_zret S hR hS hr hlocks (Or.inr rfl) dX1_fits_241
  rcases it_or hf with ⟨c34, hf⟩ | ⟨c34, hf⟩
  · refine mm_swL (tgt := 242) (off := 241) S [12] dX1_fits_1 (by simpa using c34) (by decide) (by decide) ?_
    refine lv_iload_n S.1 S.2.1 dX1_fits_242 rfl (lv_at hl 2 rfl) ?_
    refine lv_iconst (v := 1) S.1 S.2.1 dX1_fits_243 (by decide) ?_
    refine lv_bipush (v := 9) S.1 S.2.1 dX1_fits_244 (by decide) ?_
    obtain ⟨y35, hy35, hf⟩ := bd hf
    refine mm_callNi S hR hS hA (As := [.int x2, .int 1, .int 9]) (rest := []) csX1_29 (kX6_within_c l G A hy35) rfl rfl ⟨Nat.le_of_ble_eq_true rfl, Nat.le_of_ble_eq_true rfl⟩ rfl hl.1 rfl (lv_room (by simp [rf_cat, int_cat, long_cat])) dX1_fits_246 ⟨Nat.zero_le _, Nat.zero_le _⟩ (fun H locs hR hS => ?_)
    have hK : mmKN μ y35.2 := hK.tr (kX6_within_kn hy35)
    refine lv_if_eq (tgt := 260) S.1 S.2.1 dX1_fits_249 (by decide) (fun c36 => ?_) (fun c36 => ?_)
    · have hf := it_t hf c36
      refine lv_iconst (v := 0) S.1 S.2.1 dX1_fits_260 (by decide) ?_
      obtain rfl := Option.some.inj hf
      exact mm_zret S hR hS hr hlocks (Or.inl rfl) dX1_fits_261
    · have hf := it_f hf c36
      refine lv_iload_n S.1 S.2.1 dX1_fits_252 rfl (lv_at hl 3 rfl) ?_
      refine lv_if_ne (tgt := 260) S.1 S.2.1 dX1_fits_253 (by decide) (fun c37 => ?_) (fun c37 => ?_)
      · have hf := it_f hf c37
        refine lv_iconst (v := 0) S.1 S.2.1 dX1_fits_260 (by decide) ?_
        obtain rfl := Option.some.inj hf
        exact mm_zret S hR hS hr hlocks (Or.inl rfl) dX1_fits_261
      · have hf := it_t hf c37
        refine lv_iconst (v := 1) S.1 S.2.1 dX1_fits_256 (by decide) ?_
        refine lv_goto (tgt := 261) S.1 S.2.1 dX1_fits_257 (by decide) ?_
        obtain rfl := Option.some.inj hf
        exact mm_zret S hR hS hr hlocks (Or.inr rfl) dX1_fits_261
  rcases it_or hf with ⟨c38, hf⟩ | ⟨c38, hf⟩
  · refine mm_swL (tgt := 262) (off := 261) S [15] dX1_fits_1 (by simpa using c38) (by decide) (by decide) ?_
    refine lv_iload_n S.1 S.2.1 dX1_fits_262 rfl (lv_at hl 2 rfl) ?_
    refine lv_iconst (v := 0) S.1 S.2.1 dX1_fits_263 (by decide) ?_
    refine lv_iconst (v := 1) S.1 S.2.1 dX1_fits_264 (by decide) ?_
    obtain ⟨y39, hy39, hf⟩ := bd hf
    refine mm_callNi S hR hS hA (As := [.int x2, .int 0, .int 1]) (rest := []) csX1_29 (kX6_within_c l G A hy39) rfl rfl ⟨Nat.le_of_ble_eq_true rfl, Nat.le_of_ble_eq_true rfl⟩ rfl hl.1 rfl (lv_room (by simp [rf_cat, int_cat, long_cat])) dX1_fits_265 ⟨Nat.zero_le _, Nat.zero_le _⟩ (fun H locs hR hS => ?_)
    have hK : mmKN μ y39.2 := hK.tr (kX6_within_kn hy39)
    refine lv_if_eq (tgt := 279) S.1 S.2.1 dX1_fits_268 (by decide) (fun c40 => ?_) (fun c40 => ?_)
    · have hf := it_t hf c40
      refine lv_iconst (v := 0) S.1 S.2.1 dX1_fits_279 (by decide) ?_
      obtain rfl := Option.some.inj hf
      exact mm_zret S hR hS hr hlocks (Or.inl rfl) dX1_fits_280
    · have hf := it_f hf c40
      refine lv_iload_n S.1 S.2.1 dX1_fits_271 rfl (lv_at hl 3 rfl) ?_
      refine lv_if_ne (tgt := 279) S.1 S.2.1 dX1_fits_272 (by decide) (fun c41 => ?_) (fun c41 => ?_)
      · have hf := it_f hf c41
        refine lv_iconst (v := 0) S.1 S.2.1 dX1_fits_279 (by decide) ?_
        obtain rfl := Option.some.inj hf
        exact mm_zret S hR hS hr hlocks (Or.inl rfl) dX1_fits_280
      · have hf := it_t hf c41
        refine lv_iconst (v := 1) S.1 S.2.1 dX1_fits_275 (by decide) ?_
        refine lv_goto (tgt := 280) S.1 S.2.1 dX1_fits_276 (by decide) ?_
        obtain rfl := Option.some.inj hf
        exact mm_zret S hR hS hr hlocks (Or.inr rfl) dX1_fits_280
  refine mm_swD (tgt := 295) S [0, 1, 2, 3, 8, 11, 13, 4, 5, 7, 6, 9, 10, 14, 12, 15] dX1_fits_1 (by simp only [List.forall_mem_cons, List.not_mem_nil, false_imp_iff, implies_true, and_true]; (try simp only [not_or] at c1 c5 c9 c12 c17 c21 c26 c30 c34 c38); simp only [c1, c5, c9, c12, c17, c21, c26, c30, c34, c38, not_false_eq_true, and_self, and_true, true_and]) (by decide) (by decide) ?_
  refine lv_iconst (v := 0) S.1 S.2.1 dX1_fits_295 (by decide) ?_
  obtain rfl := Option.some.inj hf
  exact mm_zret S hR hS hr hlocks (Or.inl rfl) dX1_fits_296
-- X1_addLine
def fX1_addLine (h0 : Nat) (x1 : Int32) (x2 : Int32) (x3 : Int32) (μ : MM) : Option (Int32 × MM) :=
  if (12 : Int32) ≤ (mI μ h0 3) then (some ((mI μ h0 3), μ)) else (if mK μ (mP μ h0 0) = 20 then if ¬ ((mI μ h0 3) < 0 ∨ mN μ (mP μ h0 0) ≤ (mI μ h0 3).toNatClampNeg) then st (sI μ (mP μ h0 0) (mI μ h0 3).toNatClampNeg x1) fun μ4 => if mK μ (mP μ4 h0 1) = 20 then if ¬ ((mI μ h0 3) < 0 ∨ mN μ4 (mP μ4 h0 1) ≤ (mI μ h0 3).toNatClampNeg) then st (sI μ4 (mP μ4 h0 1) (mI μ h0 3).toNatClampNeg x2) fun μ7 => if mK μ (mP μ7 h0 2) = 20 then if ¬ ((mI μ h0 3) < 0 ∨ mN μ7 (mP μ7 h0 2) ≤ (mI μ h0 3).toNatClampNeg) then st (sI μ7 (mP μ7 h0 2) (mI μ h0 3).toNatClampNeg x3) fun μ10 => st (sI μ10 h0 3 ((mI μ h0 3) + 1)) fun μ11 => some ((mI μ h0 3), μ11) else none else none else none else none else none else none)
set_option maxRecDepth 100000 in
set_option maxHeartbeats 4000000 in
theorem kX1_addLine_kn {μ : MM} {res : Int32 × MM} {h0 : Nat} {x1 : Int32} {x2 : Int32} {x3 : Int32} (hf : fX1_addLine h0 x1 x2 x3 μ = some res) : mmKN μ res.2 := by
  have hK : mmKN μ μ := mmKN.rf
  unfold fX1_addLine at hf
  rcases it_or hf with ⟨c1, hf⟩ | ⟨c1, hf⟩
  · skip
    obtain rfl := Option.some.inj hf
    exact hK
  · skip
    obtain ⟨g2, hf⟩ := gd hf
    obtain ⟨g3, hf⟩ := gd hf
    obtain ⟨μ4, e4, hf⟩ := stx hf
    have hK : mmKN μ μ4 := by rw [e4]; exact hK.sI
    obtain ⟨g5, hf⟩ := gd hf
    obtain ⟨g6, hf⟩ := gd hf
    obtain ⟨μ7, e7, hf⟩ := stx hf
    have hK : mmKN μ μ7 := by rw [e7]; exact hK.sI
    obtain ⟨g8, hf⟩ := gd hf
    obtain ⟨g9, hf⟩ := gd hf
    obtain ⟨μ10, e10, hf⟩ := stx hf
    have hK : mmKN μ μ10 := by rw [e10]; exact hK.sI
    obtain ⟨μ11, e11, hf⟩ := stx hf
    have hK : mmKN μ μ11 := by rw [e11]; exact hK.sI
    obtain rfl := Option.some.inj hf
    exact hK
abbrev rmX1_addLine : Room := { frames := 0, cells := 0, slots := 0, locals := 0 }
set_option maxRecDepth 100000 in
set_option maxHeartbeats 4000000 in
theorem kX1_addLine_c (l : Launch) (G : mmG) (A : Nat → Prop) {μ : MM} {res : Int32 × MM} {h0 : Nat} {x1 : Int32} {x2 : Int32} {x3 : Int32} (hk0 : mK μ h0 = 2) (hf : fX1_addLine h0 x1 x2 x3 μ = some res) : Met l yX1_addLine [.code yX1_addLine cX1_addLine 5 (some (.int))] rmX1_addLine (mmPc G A μ [rf h0, .int x1, .int x2, .int x3]) (mmQ G A res.2 (some (.int res.1))) 0 0 A := by
  refine mm_ofW (by decide +kernel) (by simp [lg_sl, rf_cat, int_cat]) ?_
  intro p e s m below meth c ls S hR hA hS hr hlocks hl hnm
  have hl : lv_has ls 5 [(0, rf h0), (1, .int x1), (2, .int x2), (3, .int x3)] := by simpa [lv_args, rf_cat, int_cat] using hl
  have E0 : mmEnv p m c cX1_addLine 5 s _ RX1 G A meth (some (.int)) := ⟨S, hA, hr, hlocks⟩
  have hK : mmKN μ μ := mmKN.rf
  unfold fX1_addLine at hf
  refine mm_aload_n S dX1_addLine_0 rfl (lv_at hl 0 rfl) ?_
  refine mm_geti S hR fdX1_21 (hK.k hk0) rfl dX1_addLine_1 ?_
  refine lv_istore (i := 4) (lv' := [(4, .int (mI μ h0 3)), (0, rf h0), (1, .int x1), (2, .int x2), (3, .int x3)]) S.1 S.2.1 dX1_addLine_4 hl (by decide) rfl (fun ls hl => ?_)
  refine lv_iload S.1 S.2.1 dX1_addLine_6 (lv_at hl 0 rfl) ?_
  refine lv_bipush (v := 12) S.1 S.2.1 dX1_addLine_8 (by decide) ?_
  refine lv_icmp_ge (tgt := 45) S.1 S.2.1 dX1_addLine_10 (by decide) (fun c1 => ?_) (fun c1 => ?_)
  · have hf := it_t hf c1
    refine lv_iload S.1 S.2.1 dX1_addLine_45 (lv_at hl 0 rfl) ?_
    obtain rfl := Option.some.inj hf
    exact mm_iret S hR hS hr hlocks dX1_addLine_47
  · have hf := it_f hf c1
    refine mm_aload_n S dX1_addLine_13 rfl (lv_at hl 1 rfl) ?_
    refine mm_getp S hR fdX1_9 (hK.k hk0) rfl dX1_addLine_14 ?_
    refine lv_iload S.1 S.2.1 dX1_addLine_17 (lv_at hl 0 rfl) ?_
    refine lv_iload_n S.1 S.2.1 dX1_addLine_19 rfl (lv_at hl 2 rfl) ?_
    obtain ⟨g2, hf⟩ := gd hf
    obtain ⟨g3, hf⟩ := gd hf
    refine mm_iast S hR hS (hK.k g2) g3 dX1_addLine_20 (fun H locs hR hS => ?_)
    obtain ⟨μ4, e4, hf⟩ := stx hf
    rw [← e4] at hR
    have hK : mmKN μ μ4 := by rw [e4]; exact hK.sI
    refine mm_aload_n S dX1_addLine_21 rfl (lv_at hl 1 rfl) ?_
    refine mm_getp S hR fdX1_15 (hK.k hk0) rfl dX1_addLine_22 ?_
    refine lv_iload S.1 S.2.1 dX1_addLine_25 (lv_at hl 0 rfl) ?_
    refine lv_iload_n S.1 S.2.1 dX1_addLine_27 rfl (lv_at hl 3 rfl) ?_
    obtain ⟨g5, hf⟩ := gd hf
    obtain ⟨g6, hf⟩ := gd hf
    refine mm_iast S hR hS (hK.k g5) g6 dX1_addLine_28 (fun H locs hR hS => ?_)
    obtain ⟨μ7, e7, hf⟩ := stx hf
    rw [← e7] at hR
    have hK : mmKN μ μ7 := by rw [e7]; exact hK.sI
    refine mm_aload_n S dX1_addLine_29 rfl (lv_at hl 1 rfl) ?_
    refine mm_getp S hR fdX1_18 (hK.k hk0) rfl dX1_addLine_30 ?_
    refine lv_iload S.1 S.2.1 dX1_addLine_33 (lv_at hl 0 rfl) ?_
    refine lv_iload_n S.1 S.2.1 dX1_addLine_35 rfl (lv_at hl 4 rfl) ?_
    obtain ⟨g8, hf⟩ := gd hf
    obtain ⟨g9, hf⟩ := gd hf
    refine mm_iast S hR hS (hK.k g8) g9 dX1_addLine_36 (fun H locs hR hS => ?_)
    obtain ⟨μ10, e10, hf⟩ := stx hf
    rw [← e10] at hR
    have hK : mmKN μ μ10 := by rw [e10]; exact hK.sI
    refine mm_aload_n S dX1_addLine_37 rfl (lv_at hl 1 rfl) ?_
    refine lv_iload S.1 S.2.1 dX1_addLine_38 (lv_at hl 0 rfl) ?_
    refine lv_iconst (v := 1) S.1 S.2.1 dX1_addLine_40 (by decide) ?_
    refine lv_iadd S.1 S.2.1 dX1_addLine_41 ?_
    refine mm_puti S hR hS fpX1_21 (hK.k hk0) rfl rfl rfl dX1_addLine_42 (fun H locs hR hS => ?_)
    obtain ⟨μ11, e11, hf⟩ := stx hf
    rw [← e11] at hR
    have hK : mmKN μ μ11 := by rw [e11]; exact hK.sI
    refine lv_iload S.1 S.2.1 dX1_addLine_45 (lv_at hl 0 rfl) ?_
    obtain rfl := Option.some.inj hf
    exact mm_iret S hR hS hr hlocks dX1_addLine_47
-- X1_isWait
def fX1_isWait (x0 : Int32) (μ : MM) : Option (Int32 × MM) :=
  if x0 = (3 : Int32) then (some (1, μ)) else (if x0 = (10 : Int32) then (some (1, μ)) else (if x0 = (12 : Int32) then (some (1, μ)) else (if x0 = (13 : Int32) then (some (1, μ)) else (some (0, μ)))))
set_option maxRecDepth 100000 in
set_option maxHeartbeats 4000000 in
theorem kX1_isWait_kn {μ : MM} {res : Int32 × MM} {x0 : Int32} (hf : fX1_isWait x0 μ = some res) : mmKN μ res.2 := by
  have hK : mmKN μ μ := mmKN.rf
  unfold fX1_isWait at hf
  rcases it_or hf with ⟨c1, hf⟩ | ⟨c1, hf⟩
  · skip
    obtain rfl := Option.some.inj hf
    exact hK
  · skip
    rcases it_or hf with ⟨c2, hf⟩ | ⟨c2, hf⟩
    · skip
      obtain rfl := Option.some.inj hf
      exact hK
    · skip
      rcases it_or hf with ⟨c3, hf⟩ | ⟨c3, hf⟩
      · skip
        obtain rfl := Option.some.inj hf
        exact hK
      · skip
        rcases it_or hf with ⟨c4, hf⟩ | ⟨c4, hf⟩
        · skip
          obtain rfl := Option.some.inj hf
          exact hK
        · skip
          obtain rfl := Option.some.inj hf
          exact hK
abbrev rmX1_isWait : Room := { frames := 0, cells := 0, slots := 0, locals := 0 }
set_option maxRecDepth 100000 in
set_option maxHeartbeats 4000000 in
theorem kX1_isWait_c (l : Launch) (G : mmG) (A : Nat → Prop) {μ : MM} {res : Int32 × MM} {x0 : Int32} (hf : fX1_isWait x0 μ = some res) : Met l yX1_isWait [.code yX1_isWait cX1_isWait 1 (some (.boolean))] rmX1_isWait (mmPc G A μ [.int x0]) (mmQ G A res.2 (some (.int res.1))) 0 0 A := by
  refine mm_ofW (by decide +kernel) (by simp [lg_sl, rf_cat, int_cat]) ?_
  intro p e s m below meth c ls S hR hA hS hr hlocks hl hnm
  have hl : lv_has ls 1 [(0, .int x0)] := by simpa [lv_args, rf_cat, int_cat] using hl
  have E0 : mmEnv p m c cX1_isWait 1 s _ RX1 G A meth (some (.boolean)) := ⟨S, hA, hr, hlocks⟩
  have hK : mmKN μ μ := mmKN.rf
  unfold fX1_isWait at hf
  refine lv_iload_n S.1 S.2.1 dX1_isWait_0 rfl (lv_at hl 0 rfl) ?_
  refine lv_iconst (v := 3) S.1 S.2.1 dX1_isWait_1 (by decide) ?_
  refine lv_icmp_eq (tgt := 23) S.1 S.2.1 dX1_isWait_2 (by decide) (fun c1 => ?_) (fun c1 => ?_)
  · have hf := it_t hf c1
    refine lv_iconst (v := 1) S.1 S.2.1 dX1_isWait_23 (by decide) ?_
    refine lv_goto (tgt := 28) S.1 S.2.1 dX1_isWait_24 (by decide) ?_
    obtain rfl := Option.some.inj hf
    exact mm_zret S hR hS hr hlocks (Or.inr rfl) dX1_isWait_28
  · have hf := it_f hf c1
    refine lv_iload_n S.1 S.2.1 dX1_isWait_5 rfl (lv_at hl 0 rfl) ?_
    refine lv_bipush (v := 10) S.1 S.2.1 dX1_isWait_6 (by decide) ?_
    refine lv_icmp_eq (tgt := 23) S.1 S.2.1 dX1_isWait_8 (by decide) (fun c2 => ?_) (fun c2 => ?_)
    · have hf := it_t hf c2
      refine lv_iconst (v := 1) S.1 S.2.1 dX1_isWait_23 (by decide) ?_
      refine lv_goto (tgt := 28) S.1 S.2.1 dX1_isWait_24 (by decide) ?_
      obtain rfl := Option.some.inj hf
      exact mm_zret S hR hS hr hlocks (Or.inr rfl) dX1_isWait_28
    · have hf := it_f hf c2
      refine lv_iload_n S.1 S.2.1 dX1_isWait_11 rfl (lv_at hl 0 rfl) ?_
      refine lv_bipush (v := 12) S.1 S.2.1 dX1_isWait_12 (by decide) ?_
      refine lv_icmp_eq (tgt := 23) S.1 S.2.1 dX1_isWait_14 (by decide) (fun c3 => ?_) (fun c3 => ?_)
      · have hf := it_t hf c3
        refine lv_iconst (v := 1) S.1 S.2.1 dX1_isWait_23 (by decide) ?_
        refine lv_goto (tgt := 28) S.1 S.2.1 dX1_isWait_24 (by decide) ?_
        obtain rfl := Option.some.inj hf
        exact mm_zret S hR hS hr hlocks (Or.inr rfl) dX1_isWait_28
      · have hf := it_f hf c3
        refine lv_iload_n S.1 S.2.1 dX1_isWait_17 rfl (lv_at hl 0 rfl) ?_
        refine lv_bipush (v := 13) S.1 S.2.1 dX1_isWait_18 (by decide) ?_
        refine lv_icmp_ne (tgt := 27) S.1 S.2.1 dX1_isWait_20 (by decide) (fun c4 => ?_) (fun c4 => ?_)
        · have hf := it_f hf c4
          refine lv_iconst (v := 0) S.1 S.2.1 dX1_isWait_27 (by decide) ?_
          obtain rfl := Option.some.inj hf
          exact mm_zret S hR hS hr hlocks (Or.inl rfl) dX1_isWait_28
        · have hf := it_t hf c4
          refine lv_iconst (v := 1) S.1 S.2.1 dX1_isWait_23 (by decide) ?_
          refine lv_goto (tgt := 28) S.1 S.2.1 dX1_isWait_24 (by decide) ?_
          obtain rfl := Option.some.inj hf
          exact mm_zret S hR hS hr hlocks (Or.inr rfl) dX1_isWait_28
-- X1_nextOf
def fX1_nextOf (h0 : Nat) (x1 : Int32) (μ : MM) : Option (Int32 × MM) :=
  (fX1_kindAt h0 x1 μ).bind fun y1 => if y1.1 = 4 ∨ y1.1 = 5 ∨ y1.1 = 6 then ((fX1_bAt h0 x1 y1.2).bind fun y3 => some (((1 <<< ((x1 + 1) &&& 31)) ||| (1 <<< (y3.1 &&& 31))), y3.2)) else (if y1.1 = 7 then ((fX1_bAt h0 x1 y1.2).bind fun y5 => some ((1 <<< (y5.1 &&& 31)), y5.2)) else (if y1.1 = 9 ∨ y1.1 = 11 then (some (0, y1.2)) else (some ((1 <<< ((x1 + 1) &&& 31)), y1.2))))
set_option maxRecDepth 100000 in
set_option maxHeartbeats 4000000 in
theorem kX1_nextOf_kn {μ : MM} {res : Int32 × MM} {h0 : Nat} {x1 : Int32} (hf : fX1_nextOf h0 x1 μ = some res) : mmKN μ res.2 := by
  have hK : mmKN μ μ := mmKN.rf
  unfold fX1_nextOf at hf
  obtain ⟨y1, hy1, hf⟩ := bd hf
  have hK : mmKN μ y1.2 := hK.tr (kX1_kindAt_kn hy1)
  rcases it_or hf with ⟨c2, hf⟩ | ⟨c2, hf⟩
  · skip
    obtain ⟨y3, hy3, hf⟩ := bd hf
    have hK : mmKN μ y3.2 := hK.tr (kX1_bAt_kn hy3)
    obtain rfl := Option.some.inj hf
    exact hK
  rcases it_or hf with ⟨c4, hf⟩ | ⟨c4, hf⟩
  · skip
    obtain ⟨y5, hy5, hf⟩ := bd hf
    have hK : mmKN μ y5.2 := hK.tr (kX1_bAt_kn hy5)
    obtain rfl := Option.some.inj hf
    exact hK
  rcases it_or hf with ⟨c6, hf⟩ | ⟨c6, hf⟩
  · skip
    obtain rfl := Option.some.inj hf
    exact hK
  obtain rfl := Option.some.inj hf
  exact hK
abbrev rmX1_nextOf : Room := { frames := 2, cells := 0, slots := 0, locals := 42 }
set_option maxRecDepth 100000 in
set_option maxHeartbeats 4000000 in
theorem kX1_nextOf_c (l : Launch) (G : mmG) (A : Nat → Prop) {μ : MM} {res : Int32 × MM} {h0 : Nat} {x1 : Int32} (hk0 : mK μ h0 = 2) (hf : fX1_nextOf h0 x1 μ = some res) : Met l yX1_nextOf [.code yX1_nextOf cX1_nextOf 3 (some (.int))] rmX1_nextOf (mmPc G A μ [rf h0, .int x1]) (mmQ G A res.2 (some (.int res.1))) 0 0 A := by
  refine mm_ofW (by decide +kernel) (by simp [lg_sl, rf_cat, int_cat]) ?_
  intro p e s m below meth c ls S hR hA hS hr hlocks hl hnm
  have hl : lv_has ls 3 [(0, rf h0), (1, .int x1)] := by simpa [lv_args, rf_cat, int_cat] using hl
  have E0 : mmEnv p m c cX1_nextOf 3 s _ RX1 G A meth (some (.int)) := ⟨S, hA, hr, hlocks⟩
  have hK : mmKN μ μ := mmKN.rf
  unfold fX1_nextOf at hf
  refine lv_iconst (v := 1) S.1 S.2.1 dX1_nextOf_0 (by decide) ?_
  refine lv_iload_n S.1 S.2.1 dX1_nextOf_1 rfl (lv_at hl 1 rfl) ?_
  refine lv_iconst (v := 1) S.1 S.2.1 dX1_nextOf_2 (by decide) ?_
  refine lv_iadd S.1 S.2.1 dX1_nextOf_3 ?_
  refine lv_ishl S.1 S.2.1 dX1_nextOf_4 ?_
  refine lv_istore_n (i := 2) (lv' := [(2, .int (1 <<< ((x1 + 1) &&& 31))), (0, rf h0), (1, .int x1)]) S.1 S.2.1 dX1_nextOf_5 rfl hl (by decide) rfl (fun ls hl => ?_)
  refine mm_aload_n S dX1_nextOf_6 rfl (lv_at hl 1 rfl) ?_
  refine lv_iload_n S.1 S.2.1 dX1_nextOf_7 rfl (lv_at hl 2 rfl) ?_
  obtain ⟨y1, hy1, hf⟩ := bd hf
  refine mm_callVi S hR hS hA (As := [.int x1]) (rest := []) cvX1_37 (hK.k hk0) (kX1_kindAt_c l G A (hK.k hk0) hy1) rfl rfl ⟨Nat.le_of_ble_eq_true rfl, Nat.le_of_ble_eq_true rfl⟩ rfl hl.1 rfl (lv_room (by simp [rf_cat, int_cat, long_cat])) dX1_nextOf_8 ⟨Nat.zero_le _, Nat.zero_le _⟩ (fun H locs hR hS => ?_)
  have hK : mmKN μ y1.2 := hK.tr (kX1_kindAt_kn hy1)
  rcases it_or hf with ⟨c2, hf⟩ | ⟨c2, hf⟩
  · refine mm_swL (tgt := 56) (off := 45) S [4, 5, 6] dX1_nextOf_11 (by simpa using c2) (by decide) (by decide) ?_
    refine lv_iload_n S.1 S.2.1 dX1_nextOf_56 rfl (lv_at hl 0 rfl) ?_
    refine lv_iconst (v := 1) S.1 S.2.1 dX1_nextOf_57 (by decide) ?_
    refine mm_aload_n S dX1_nextOf_58 rfl (lv_at hl 1 rfl) ?_
    refine lv_iload_n S.1 S.2.1 dX1_nextOf_59 rfl (lv_at hl 2 rfl) ?_
    obtain ⟨y3, hy3, hf⟩ := bd hf
    refine mm_callVi S hR hS hA (As := [.int x1]) (rest := [.int 1, .int (1 <<< ((x1 + 1) &&& 31))]) cvX1_43 (hK.k hk0) (kX1_bAt_c l G A (hK.k hk0) hy3) rfl rfl ⟨Nat.le_of_ble_eq_true rfl, Nat.le_of_ble_eq_true rfl⟩ rfl hl.1 rfl (lv_room (by simp [rf_cat, int_cat, long_cat])) dX1_nextOf_60 ⟨Nat.zero_le _, Nat.zero_le _⟩ (fun H locs hR hS => ?_)
    have hK : mmKN μ y3.2 := hK.tr (kX1_bAt_kn hy3)
    refine lv_ishl S.1 S.2.1 dX1_nextOf_63 ?_
    refine lv_ior S.1 S.2.1 dX1_nextOf_64 ?_
    obtain rfl := Option.some.inj hf
    exact mm_iret S hR hS hr hlocks dX1_nextOf_65
  rcases it_or hf with ⟨c4, hf⟩ | ⟨c4, hf⟩
  · refine mm_swL (tgt := 66) (off := 55) S [7] dX1_nextOf_11 (by simpa using c4) (by decide) (by decide) ?_
    refine lv_iconst (v := 1) S.1 S.2.1 dX1_nextOf_66 (by decide) ?_
    refine mm_aload_n S dX1_nextOf_67 rfl (lv_at hl 1 rfl) ?_
    refine lv_iload_n S.1 S.2.1 dX1_nextOf_68 rfl (lv_at hl 2 rfl) ?_
    obtain ⟨y5, hy5, hf⟩ := bd hf
    refine mm_callVi S hR hS hA (As := [.int x1]) (rest := [.int 1]) cvX1_43 (hK.k hk0) (kX1_bAt_c l G A (hK.k hk0) hy5) rfl rfl ⟨Nat.le_of_ble_eq_true rfl, Nat.le_of_ble_eq_true rfl⟩ rfl hl.1 rfl (lv_room (by simp [rf_cat, int_cat, long_cat])) dX1_nextOf_69 ⟨Nat.zero_le _, Nat.zero_le _⟩ (fun H locs hR hS => ?_)
    have hK : mmKN μ y5.2 := hK.tr (kX1_bAt_kn hy5)
    refine lv_ishl S.1 S.2.1 dX1_nextOf_72 ?_
    obtain rfl := Option.some.inj hf
    exact mm_iret S hR hS hr hlocks dX1_nextOf_73
  rcases it_or hf with ⟨c6, hf⟩ | ⟨c6, hf⟩
  · refine mm_swL (tgt := 74) (off := 63) S [9, 11] dX1_nextOf_11 (by simpa using c6) (by decide) (by decide) ?_
    refine lv_iconst (v := 0) S.1 S.2.1 dX1_nextOf_74 (by decide) ?_
    obtain rfl := Option.some.inj hf
    exact mm_iret S hR hS hr hlocks dX1_nextOf_75
  refine mm_swD (tgt := 76) S [4, 5, 6, 7, 9, 11] dX1_nextOf_11 (by simp only [List.forall_mem_cons, List.not_mem_nil, false_imp_iff, implies_true, and_true]; (try simp only [not_or] at c2 c4 c6); simp only [c2, c4, c6, not_false_eq_true, and_self, and_true, true_and]) (by decide) (by decide) ?_
  refine lv_iload_n S.1 S.2.1 dX1_nextOf_76 rfl (lv_at hl 0 rfl) ?_
  obtain rfl := Option.some.inj hf
  exact mm_iret S hR hS hr hlocks dX1_nextOf_77
-- X1_howManyWaits
def bX1_howManyWaits_52 (kk52 : Nat → Int32 → Int32 → Int32 → MM → Option (Int32 × MM)) (h0 : Nat) (x1 : Int32) (x2 : Int32) (x3 : Int32) (μ : MM) : Option (Int32 × MM) :=
  if mK μ h0 = 2 then if (mI μ h0 3) ≤ x3 then (some (x2, μ)) else (if ((x1 >>> (x3 &&& 31)) &&& 1) = 0 then (kk52 h0 x1 x2 (x3 + 1) μ) else ((fX1_kindAt h0 x3 μ).bind fun y4 => (fX1_isWait y4.1 y4.2).bind fun y5 => if y5.1 = 0 then (kk52 h0 x1 x2 (x3 + 1) y5.2) else (kk52 h0 x1 (x2 + 1) (x3 + 1) y5.2))) else none
def lX1_howManyWaits_52  : Nat → Nat → Int32 → Int32 → Int32 → MM → Option (Int32 × MM)
  | 0, _, _, _, _, _ => none
  | n + 1, h0, x1, x2, x3, μ => bX1_howManyWaits_52  (fun h0 x1 x2 x3 μ => lX1_howManyWaits_52  n h0 x1 x2 x3 μ) h0 x1 x2 x3 μ
def bX1_howManyWaits_12 (kk4 : Nat → Int32 → Int32 → MM → Option (Int32 × MM)) (kk12 : Nat → Int32 → Int32 → Int32 → MM → Option (Int32 × MM)) (h0 : Nat) (x1 : Int32) (x2 : Int32) (x3 : Int32) (μ : MM) : Option (Int32 × MM) :=
  if mK μ h0 = 2 then if (mI μ h0 3) ≤ x3 then (kk4 h0 x1 (x2 + 1) μ) else (if ((x1 >>> (x3 &&& 31)) &&& 1) = 0 then (kk12 h0 x1 x2 (x3 + 1) μ) else ((fX1_nextOf h0 x3 μ).bind fun y4 => kk12 h0 (x1 ||| y4.1) x2 (x3 + 1) y4.2)) else none
def lX1_howManyWaits_12 (kk4 : Nat → Int32 → Int32 → MM → Option (Int32 × MM)) : Nat → Nat → Int32 → Int32 → Int32 → MM → Option (Int32 × MM)
  | 0, _, _, _, _, _ => none
  | n + 1, h0, x1, x2, x3, μ => bX1_howManyWaits_12 kk4 (fun h0 x1 x2 x3 μ => lX1_howManyWaits_12 kk4 n h0 x1 x2 x3 μ) h0 x1 x2 x3 μ
def bX1_howManyWaits_4 (kk4 : Nat → Int32 → Int32 → MM → Option (Int32 × MM)) (h0 : Nat) (x1 : Int32) (x2 : Int32) (μ : MM) : Option (Int32 × MM) :=
  if (12 : Int32) ≤ x2 then (lX1_howManyWaits_52  FU h0 x1 0 0 μ) else (lX1_howManyWaits_12 kk4 FU h0 x1 x2 0 μ)
def lX1_howManyWaits_4  : Nat → Nat → Int32 → Int32 → MM → Option (Int32 × MM)
  | 0, _, _, _, _ => none
  | n + 1, h0, x1, x2, μ => bX1_howManyWaits_4  (fun h0 x1 x2 μ => lX1_howManyWaits_4  n h0 x1 x2 μ) h0 x1 x2 μ
def fX1_howManyWaits (h0 : Nat) (μ : MM) : Option (Int32 × MM) :=
  lX1_howManyWaits_4  FU h0 1 0 μ
set_option maxRecDepth 100000 in
set_option maxHeartbeats 4000000 in
theorem knbX1_howManyWaits_52 (kk52 : Nat → Int32 → Int32 → Int32 → MM → Option (Int32 × MM)) (hkk52 : ∀ (h0 : Nat) (x1 : Int32) (x2 : Int32) (x3 : Int32) (μ : MM) (res : Int32 × MM), kk52 h0 x1 x2 x3 μ = some res → mmKN μ res.2) : ∀ (h0 : Nat) (x1 : Int32) (x2 : Int32) (x3 : Int32) (μ : MM) (res : Int32 × MM), bX1_howManyWaits_52 kk52 h0 x1 x2 x3 μ = some res → mmKN μ res.2 := by
  intro h0 x1 x2 x3 μ res hf
  have hK : mmKN μ μ := mmKN.rf
  unfold bX1_howManyWaits_52 at hf
  obtain ⟨g1, hf⟩ := gd hf
  rcases it_or hf with ⟨c2, hf⟩ | ⟨c2, hf⟩
  · skip
    obtain rfl := Option.some.inj hf
    exact hK
  · skip
    rcases it_or hf with ⟨c3, hf⟩ | ⟨c3, hf⟩
    · skip
      exact hK.tr (hkk52 h0 x1 x2 (x3 + 1) μ _ hf)
    · skip
      obtain ⟨y4, hy4, hf⟩ := bd hf
      have hK : mmKN μ y4.2 := hK.tr (kX1_kindAt_kn hy4)
      obtain ⟨y5, hy5, hf⟩ := bd hf
      have hK : mmKN μ y5.2 := hK.tr (kX1_isWait_kn hy5)
      rcases it_or hf with ⟨c6, hf⟩ | ⟨c6, hf⟩
      · skip
        exact hK.tr (hkk52 h0 x1 x2 (x3 + 1) y5.2 _ hf)
      · skip
        exact hK.tr (hkk52 h0 x1 (x2 + 1) (x3 + 1) y5.2 _ hf)
theorem knlX1_howManyWaits_52  : ∀ (n : Nat) (h0 : Nat) (x1 : Int32) (x2 : Int32) (x3 : Int32) (μ : MM) (res : Int32 × MM), lX1_howManyWaits_52  n h0 x1 x2 x3 μ = some res → mmKN μ res.2 := by
  intro n
  induction n with
  | zero => intro h0 x1 x2 x3 μ res hf; cases hf
  | succ n ih => intro h0 x1 x2 x3 μ res hf; exact knbX1_howManyWaits_52  _ ih h0 x1 x2 x3 μ res hf
set_option maxRecDepth 100000 in
set_option maxHeartbeats 4000000 in
theorem knbX1_howManyWaits_12 (kk4 : Nat → Int32 → Int32 → MM → Option (Int32 × MM)) (hkk4 : ∀ (h0 : Nat) (x1 : Int32) (x2 : Int32) (μ : MM) (res : Int32 × MM), kk4 h0 x1 x2 μ = some res → mmKN μ res.2) (kk12 : Nat → Int32 → Int32 → Int32 → MM → Option (Int32 × MM)) (hkk12 : ∀ (h0 : Nat) (x1 : Int32) (x2 : Int32) (x3 : Int32) (μ : MM) (res : Int32 × MM), kk12 h0 x1 x2 x3 μ = some res → mmKN μ res.2) : ∀ (h0 : Nat) (x1 : Int32) (x2 : Int32) (x3 : Int32) (μ : MM) (res : Int32 × MM), bX1_howManyWaits_12 kk4 kk12 h0 x1 x2 x3 μ = some res → mmKN μ res.2 := by
  intro h0 x1 x2 x3 μ res hf
  have hK : mmKN μ μ := mmKN.rf
  unfold bX1_howManyWaits_12 at hf
  obtain ⟨g1, hf⟩ := gd hf
  rcases it_or hf with ⟨c2, hf⟩ | ⟨c2, hf⟩
  · skip
    exact hK.tr (hkk4 h0 x1 (x2 + 1) μ _ hf)
  · skip
    rcases it_or hf with ⟨c3, hf⟩ | ⟨c3, hf⟩
    · skip
      exact hK.tr (hkk12 h0 x1 x2 (x3 + 1) μ _ hf)
    · skip
      obtain ⟨y4, hy4, hf⟩ := bd hf
      have hK : mmKN μ y4.2 := hK.tr (kX1_nextOf_kn hy4)
      exact hK.tr (hkk12 h0 (x1 ||| y4.1) x2 (x3 + 1) y4.2 _ hf)
theorem knlX1_howManyWaits_12 (kk4 : Nat → Int32 → Int32 → MM → Option (Int32 × MM)) (hkk4 : ∀ (h0 : Nat) (x1 : Int32) (x2 : Int32) (μ : MM) (res : Int32 × MM), kk4 h0 x1 x2 μ = some res → mmKN μ res.2) : ∀ (n : Nat) (h0 : Nat) (x1 : Int32) (x2 : Int32) (x3 : Int32) (μ : MM) (res : Int32 × MM), lX1_howManyWaits_12 kk4 n h0 x1 x2 x3 μ = some res → mmKN μ res.2 := by
  intro n
  induction n with
  | zero => intro h0 x1 x2 x3 μ res hf; cases hf
  | succ n ih => intro h0 x1 x2 x3 μ res hf; exact knbX1_howManyWaits_12 kk4 hkk4 _ ih h0 x1 x2 x3 μ res hf
set_option maxRecDepth 100000 in
set_option maxHeartbeats 4000000 in
theorem knbX1_howManyWaits_4 (kk4 : Nat → Int32 → Int32 → MM → Option (Int32 × MM)) (hkk4 : ∀ (h0 : Nat) (x1 : Int32) (x2 : Int32) (μ : MM) (res : Int32 × MM), kk4 h0 x1 x2 μ = some res → mmKN μ res.2) : ∀ (h0 : Nat) (x1 : Int32) (x2 : Int32) (μ : MM) (res : Int32 × MM), bX1_howManyWaits_4 kk4 h0 x1 x2 μ = some res → mmKN μ res.2 := by
  intro h0 x1 x2 μ res hf
  have hK : mmKN μ μ := mmKN.rf
  unfold bX1_howManyWaits_4 at hf
  rcases it_or hf with ⟨c1, hf⟩ | ⟨c1, hf⟩
  · skip
    exact hK.tr (knlX1_howManyWaits_52  FU h0 x1 0 0 μ _ hf)
  · skip
    exact hK.tr (knlX1_howManyWaits_12 kk4 hkk4 FU h0 x1 x2 0 μ _ hf)
theorem knlX1_howManyWaits_4  : ∀ (n : Nat) (h0 : Nat) (x1 : Int32) (x2 : Int32) (μ : MM) (res : Int32 × MM), lX1_howManyWaits_4  n h0 x1 x2 μ = some res → mmKN μ res.2 := by
  intro n
  induction n with
  | zero => intro h0 x1 x2 μ res hf; cases hf
  | succ n ih => intro h0 x1 x2 μ res hf; exact knbX1_howManyWaits_4  _ ih h0 x1 x2 μ res hf
set_option maxRecDepth 100000 in
set_option maxHeartbeats 4000000 in
theorem kX1_howManyWaits_kn {μ : MM} {res : Int32 × MM} {h0 : Nat} (hf : fX1_howManyWaits h0 μ = some res) : mmKN μ res.2 := by
  have hK : mmKN μ μ := mmKN.rf
  unfold fX1_howManyWaits at hf
  exact hK.tr (knlX1_howManyWaits_4  FU h0 1 0 μ _ hf)
abbrev rmX1_howManyWaits : Room := { frames := 3, cells := 0, slots := 0, locals := 64 }
set_option maxRecDepth 100000 in
set_option maxHeartbeats 4000000 in
theorem wbX1_howManyWaits_52 {p : Program} {l : Launch} {e : Env} {s : State} {m : MethodId} {args : Array Value} {below : List Frame} {meth : Method} {c : Code} {G : mmG} {A : Nat → Prop} {res : Int32 × MM} (E0 : mmEnv p m c cX1_howManyWaits 4 s args RX1 G A meth (some (.int))) (kk52 : Nat → Int32 → Int32 → Int32 → MM → Option (Int32 × MM)) (hkk52 : ∀ (h0 : Nat) (x1 : Int32) (x2 : Int32) (x3 : Int32) (μ : MM), kk52 h0 x1 x2 x3 μ = some res → mmGoal p l e rmX1_howManyWaits s m args below meth c G A 52 4 [(0, rf h0), (1, .int x1), (2, .int x2), (3, .int x3)] μ (mmQ G A res.2 (some (.int res.1)))) : ∀ (h0 : Nat) (x1 : Int32) (x2 : Int32) (x3 : Int32) (μ : MM), bX1_howManyWaits_52 kk52 h0 x1 x2 x3 μ = some res → mmGoal p l e rmX1_howManyWaits s m args below meth c G A 52 4 [(0, rf h0), (1, .int x1), (2, .int x2), (3, .int x3)] μ (mmQ G A res.2 (some (.int res.1))) := by
  obtain ⟨S, hA, hr, hlocks⟩ := id E0
  intro h0 x1 x2 x3 μ hf H locs ls hR hS hl
  have hK : mmKN μ μ := mmKN.rf
  unfold bX1_howManyWaits_52 at hf
  refine lv_iload_n S.1 S.2.1 dX1_howManyWaits_52 rfl (lv_at hl 3 rfl) ?_
  refine mm_aload_n S dX1_howManyWaits_53 rfl (lv_at hl 0 rfl) ?_
  obtain ⟨g1, hf⟩ := gd hf
  refine mm_geti S hR fdX1_21 (hK.k g1) rfl dX1_howManyWaits_54 ?_
  refine lv_icmp_ge (tgt := 88) S.1 S.2.1 dX1_howManyWaits_57 (by decide) (fun c2 => ?_) (fun c2 => ?_)
  · have hf := it_t hf c2
    refine lv_iload_n S.1 S.2.1 dX1_howManyWaits_88 rfl (lv_at hl 2 rfl) ?_
    obtain rfl := Option.some.inj hf
    exact mm_iret S hR hS hr hlocks dX1_howManyWaits_89
  · have hf := it_f hf c2
    refine lv_iload_n S.1 S.2.1 dX1_howManyWaits_60 rfl (lv_at hl 1 rfl) ?_
    refine lv_iload_n S.1 S.2.1 dX1_howManyWaits_61 rfl (lv_at hl 3 rfl) ?_
    refine lv_ishr S.1 S.2.1 dX1_howManyWaits_62 ?_
    refine lv_iconst (v := 1) S.1 S.2.1 dX1_howManyWaits_63 (by decide) ?_
    refine lv_iand S.1 S.2.1 dX1_howManyWaits_64 ?_
    refine lv_if_eq (tgt := 82) S.1 S.2.1 dX1_howManyWaits_65 (by decide) (fun c3 => ?_) (fun c3 => ?_)
    · have hf := it_t hf c3
      refine lv_iinc (v := (x3 + 1)) (lv' := [(3, .int (x3 + 1)), (0, rf h0), (1, .int x1), (2, .int x2)]) S.1 S.2.1 dX1_howManyWaits_82 hl (k := 3) rfl (by rfl) (by decide) rfl (fun ls hl => ?_)
      refine lv_goto (tgt := 52) S.1 S.2.1 dX1_howManyWaits_85 (by decide) ?_
      exact hkk52 h0 x1 x2 (x3 + 1) μ hf _ _ _ hR hS (lv_sub hl [1, 2, 3, 0] rfl)
    · have hf := it_f hf c3
      refine mm_aload_n S dX1_howManyWaits_68 rfl (lv_at hl 0 rfl) ?_
      refine lv_iload_n S.1 S.2.1 dX1_howManyWaits_69 rfl (lv_at hl 3 rfl) ?_
      obtain ⟨y4, hy4, hf⟩ := bd hf
      refine mm_callVi S hR hS hA (As := [.int x3]) (rest := []) cvX1_37 (hK.k g1) (kX1_kindAt_c l G A (hK.k g1) hy4) rfl rfl ⟨Nat.le_of_ble_eq_true rfl, Nat.le_of_ble_eq_true rfl⟩ rfl hl.1 rfl (lv_room (by simp [rf_cat, int_cat, long_cat])) dX1_howManyWaits_70 ⟨Nat.zero_le _, Nat.zero_le _⟩ (fun H locs hR hS => ?_)
      have hK : mmKN μ y4.2 := hK.tr (kX1_kindAt_kn hy4)
      obtain ⟨y5, hy5, hf⟩ := bd hf
      refine mm_callSi S hR hS hA (As := [.int y4.1]) (rest := []) csX1_40 (kX1_isWait_c l G A hy5) rfl rfl ⟨Nat.le_of_ble_eq_true rfl, Nat.le_of_ble_eq_true rfl⟩ rfl hl.1 rfl (lv_room (by simp [rf_cat, int_cat, long_cat])) dX1_howManyWaits_73 ⟨Nat.zero_le _, Nat.zero_le _⟩ (fun H locs hR hS => ?_)
      have hK : mmKN μ y5.2 := hK.tr (kX1_isWait_kn hy5)
      refine lv_if_eq (tgt := 82) S.1 S.2.1 dX1_howManyWaits_76 (by decide) (fun c6 => ?_) (fun c6 => ?_)
      · have hf := it_t hf c6
        refine lv_iinc (v := (x3 + 1)) (lv' := [(3, .int (x3 + 1)), (0, rf h0), (1, .int x1), (2, .int x2)]) S.1 S.2.1 dX1_howManyWaits_82 hl (k := 3) rfl (by rfl) (by decide) rfl (fun ls hl => ?_)
        refine lv_goto (tgt := 52) S.1 S.2.1 dX1_howManyWaits_85 (by decide) ?_
        exact hkk52 h0 x1 x2 (x3 + 1) y5.2 hf _ _ _ hR hS (lv_sub hl [1, 2, 3, 0] rfl)
      · have hf := it_f hf c6
        refine lv_iinc (v := (x2 + 1)) (lv' := [(2, .int (x2 + 1)), (0, rf h0), (1, .int x1), (3, .int x3)]) S.1 S.2.1 dX1_howManyWaits_79 hl (k := 2) rfl (by rfl) (by decide) rfl (fun ls hl => ?_)
        refine lv_iinc (v := (x3 + 1)) (lv' := [(3, .int (x3 + 1)), (2, .int (x2 + 1)), (0, rf h0), (1, .int x1)]) S.1 S.2.1 dX1_howManyWaits_82 hl (k := 3) rfl (by rfl) (by decide) rfl (fun ls hl => ?_)
        refine lv_goto (tgt := 52) S.1 S.2.1 dX1_howManyWaits_85 (by decide) ?_
        exact hkk52 h0 x1 (x2 + 1) (x3 + 1) y5.2 hf _ _ _ hR hS (lv_sub hl [2, 3, 1, 0] rfl)
theorem wlX1_howManyWaits_52 {p : Program} {l : Launch} {e : Env} {s : State} {m : MethodId} {args : Array Value} {below : List Frame} {meth : Method} {c : Code} {G : mmG} {A : Nat → Prop} {res : Int32 × MM} (E0 : mmEnv p m c cX1_howManyWaits 4 s args RX1 G A meth (some (.int)))  : ∀ (n : Nat) (h0 : Nat) (x1 : Int32) (x2 : Int32) (x3 : Int32) (μ : MM), lX1_howManyWaits_52  n h0 x1 x2 x3 μ = some res → mmGoal p l e rmX1_howManyWaits s m args below meth c G A 52 4 [(0, rf h0), (1, .int x1), (2, .int x2), (3, .int x3)] μ (mmQ G A res.2 (some (.int res.1))) := by
  intro n
  induction n with
  | zero => intro h0 x1 x2 x3 μ hf; cases hf
  | succ n ih => intro h0 x1 x2 x3 μ hf; exact wbX1_howManyWaits_52 E0  _ ih h0 x1 x2 x3 μ hf
set_option maxRecDepth 100000 in
set_option maxHeartbeats 4000000 in
theorem wbX1_howManyWaits_12 {p : Program} {l : Launch} {e : Env} {s : State} {m : MethodId} {args : Array Value} {below : List Frame} {meth : Method} {c : Code} {G : mmG} {A : Nat → Prop} {res : Int32 × MM} (E0 : mmEnv p m c cX1_howManyWaits 4 s args RX1 G A meth (some (.int))) (kk4 : Nat → Int32 → Int32 → MM → Option (Int32 × MM)) (hkk4 : ∀ (h0 : Nat) (x1 : Int32) (x2 : Int32) (μ : MM), kk4 h0 x1 x2 μ = some res → mmGoal p l e rmX1_howManyWaits s m args below meth c G A 4 4 [(0, rf h0), (1, .int x1), (2, .int x2)] μ (mmQ G A res.2 (some (.int res.1)))) (kk12 : Nat → Int32 → Int32 → Int32 → MM → Option (Int32 × MM)) (hkk12 : ∀ (h0 : Nat) (x1 : Int32) (x2 : Int32) (x3 : Int32) (μ : MM), kk12 h0 x1 x2 x3 μ = some res → mmGoal p l e rmX1_howManyWaits s m args below meth c G A 12 4 [(0, rf h0), (1, .int x1), (2, .int x2), (3, .int x3)] μ (mmQ G A res.2 (some (.int res.1)))) : ∀ (h0 : Nat) (x1 : Int32) (x2 : Int32) (x3 : Int32) (μ : MM), bX1_howManyWaits_12 kk4 kk12 h0 x1 x2 x3 μ = some res → mmGoal p l e rmX1_howManyWaits s m args below meth c G A 12 4 [(0, rf h0), (1, .int x1), (2, .int x2), (3, .int x3)] μ (mmQ G A res.2 (some (.int res.1))) := by
  obtain ⟨S, hA, hr, hlocks⟩ := id E0
  intro h0 x1 x2 x3 μ hf H locs ls hR hS hl
  have hK : mmKN μ μ := mmKN.rf
  unfold bX1_howManyWaits_12 at hf
  refine lv_iload_n S.1 S.2.1 dX1_howManyWaits_12 rfl (lv_at hl 3 rfl) ?_
  refine mm_aload_n S dX1_howManyWaits_13 rfl (lv_at hl 0 rfl) ?_
  obtain ⟨g1, hf⟩ := gd hf
  refine mm_geti S hR fdX1_21 (hK.k g1) rfl dX1_howManyWaits_14 ?_
  refine lv_icmp_ge (tgt := 42) S.1 S.2.1 dX1_howManyWaits_17 (by decide) (fun c2 => ?_) (fun c2 => ?_)
  · have hf := it_t hf c2
    refine lv_iinc (v := (x2 + 1)) (lv' := [(2, .int (x2 + 1)), (0, rf h0), (1, .int x1), (3, .int x3)]) S.1 S.2.1 dX1_howManyWaits_42 hl (k := 2) rfl (by rfl) (by decide) rfl (fun ls hl => ?_)
    refine lv_goto (tgt := 4) S.1 S.2.1 dX1_howManyWaits_45 (by decide) ?_
    exact hkk4 h0 x1 (x2 + 1) μ hf _ _ _ hR hS (lv_sub hl [1, 2, 0] rfl)
  · have hf := it_f hf c2
    refine lv_iload_n S.1 S.2.1 dX1_howManyWaits_20 rfl (lv_at hl 1 rfl) ?_
    refine lv_iload_n S.1 S.2.1 dX1_howManyWaits_21 rfl (lv_at hl 3 rfl) ?_
    refine lv_ishr S.1 S.2.1 dX1_howManyWaits_22 ?_
    refine lv_iconst (v := 1) S.1 S.2.1 dX1_howManyWaits_23 (by decide) ?_
    refine lv_iand S.1 S.2.1 dX1_howManyWaits_24 ?_
    refine lv_if_eq (tgt := 36) S.1 S.2.1 dX1_howManyWaits_25 (by decide) (fun c3 => ?_) (fun c3 => ?_)
    · have hf := it_t hf c3
      refine lv_iinc (v := (x3 + 1)) (lv' := [(3, .int (x3 + 1)), (0, rf h0), (1, .int x1), (2, .int x2)]) S.1 S.2.1 dX1_howManyWaits_36 hl (k := 3) rfl (by rfl) (by decide) rfl (fun ls hl => ?_)
      refine lv_goto (tgt := 12) S.1 S.2.1 dX1_howManyWaits_39 (by decide) ?_
      exact hkk12 h0 x1 x2 (x3 + 1) μ hf _ _ _ hR hS (lv_sub hl [1, 2, 3, 0] rfl)
    · have hf := it_f hf c3
      refine lv_iload_n S.1 S.2.1 dX1_howManyWaits_28 rfl (lv_at hl 1 rfl) ?_
      refine mm_aload_n S dX1_howManyWaits_29 rfl (lv_at hl 0 rfl) ?_
      refine lv_iload_n S.1 S.2.1 dX1_howManyWaits_30 rfl (lv_at hl 3 rfl) ?_
      obtain ⟨y4, hy4, hf⟩ := bd hf
      refine mm_callVi S hR hS hA (As := [.int x3]) (rest := [.int x1]) cvX1_33 (hK.k g1) (kX1_nextOf_c l G A (hK.k g1) hy4) rfl rfl ⟨Nat.le_of_ble_eq_true rfl, Nat.le_of_ble_eq_true rfl⟩ rfl hl.1 rfl (lv_room (by simp [rf_cat, int_cat, long_cat])) dX1_howManyWaits_31 ⟨Nat.zero_le _, Nat.zero_le _⟩ (fun H locs hR hS => ?_)
      have hK : mmKN μ y4.2 := hK.tr (kX1_nextOf_kn hy4)
      refine lv_ior S.1 S.2.1 dX1_howManyWaits_34 ?_
      refine lv_istore_n (i := 1) (lv' := [(1, .int (x1 ||| y4.1)), (0, rf h0), (2, .int x2), (3, .int x3)]) S.1 S.2.1 dX1_howManyWaits_35 rfl hl (by decide) (by simp [rf_cat]) (fun ls hl => ?_)
      refine lv_iinc (v := (x3 + 1)) (lv' := [(3, .int (x3 + 1)), (1, .int (x1 ||| y4.1)), (0, rf h0), (2, .int x2)]) S.1 S.2.1 dX1_howManyWaits_36 hl (k := 3) rfl (by rfl) (by decide) rfl (fun ls hl => ?_)
      refine lv_goto (tgt := 12) S.1 S.2.1 dX1_howManyWaits_39 (by decide) ?_
      exact hkk12 h0 (x1 ||| y4.1) x2 (x3 + 1) y4.2 hf _ _ _ hR hS (lv_sub hl [2, 1, 3, 0] rfl)
theorem wlX1_howManyWaits_12 {p : Program} {l : Launch} {e : Env} {s : State} {m : MethodId} {args : Array Value} {below : List Frame} {meth : Method} {c : Code} {G : mmG} {A : Nat → Prop} {res : Int32 × MM} (E0 : mmEnv p m c cX1_howManyWaits 4 s args RX1 G A meth (some (.int))) (kk4 : Nat → Int32 → Int32 → MM → Option (Int32 × MM)) (hkk4 : ∀ (h0 : Nat) (x1 : Int32) (x2 : Int32) (μ : MM), kk4 h0 x1 x2 μ = some res → mmGoal p l e rmX1_howManyWaits s m args below meth c G A 4 4 [(0, rf h0), (1, .int x1), (2, .int x2)] μ (mmQ G A res.2 (some (.int res.1)))) : ∀ (n : Nat) (h0 : Nat) (x1 : Int32) (x2 : Int32) (x3 : Int32) (μ : MM), lX1_howManyWaits_12 kk4 n h0 x1 x2 x3 μ = some res → mmGoal p l e rmX1_howManyWaits s m args below meth c G A 12 4 [(0, rf h0), (1, .int x1), (2, .int x2), (3, .int x3)] μ (mmQ G A res.2 (some (.int res.1))) := by
  intro n
  induction n with
  | zero => intro h0 x1 x2 x3 μ hf; cases hf
  | succ n ih => intro h0 x1 x2 x3 μ hf; exact wbX1_howManyWaits_12 E0 kk4 hkk4 _ ih h0 x1 x2 x3 μ hf
set_option maxRecDepth 100000 in
set_option maxHeartbeats 4000000 in
theorem wbX1_howManyWaits_4 {p : Program} {l : Launch} {e : Env} {s : State} {m : MethodId} {args : Array Value} {below : List Frame} {meth : Method} {c : Code} {G : mmG} {A : Nat → Prop} {res : Int32 × MM} (E0 : mmEnv p m c cX1_howManyWaits 4 s args RX1 G A meth (some (.int))) (kk4 : Nat → Int32 → Int32 → MM → Option (Int32 × MM)) (hkk4 : ∀ (h0 : Nat) (x1 : Int32) (x2 : Int32) (μ : MM), kk4 h0 x1 x2 μ = some res → mmGoal p l e rmX1_howManyWaits s m args below meth c G A 4 4 [(0, rf h0), (1, .int x1), (2, .int x2)] μ (mmQ G A res.2 (some (.int res.1)))) : ∀ (h0 : Nat) (x1 : Int32) (x2 : Int32) (μ : MM), bX1_howManyWaits_4 kk4 h0 x1 x2 μ = some res → mmGoal p l e rmX1_howManyWaits s m args below meth c G A 4 4 [(0, rf h0), (1, .int x1), (2, .int x2)] μ (mmQ G A res.2 (some (.int res.1))) := by
  obtain ⟨S, hA, hr, hlocks⟩ := id E0
  intro h0 x1 x2 μ hf H locs ls hR hS hl
  have hK : mmKN μ μ := mmKN.rf
  unfold bX1_howManyWaits_4 at hf
  refine lv_iload_n S.1 S.2.1 dX1_howManyWaits_4 rfl (lv_at hl 2 rfl) ?_
  refine lv_bipush (v := 12) S.1 S.2.1 dX1_howManyWaits_5 (by decide) ?_
  refine lv_icmp_ge (tgt := 48) S.1 S.2.1 dX1_howManyWaits_7 (by decide) (fun c1 => ?_) (fun c1 => ?_)
  · have hf := it_t hf c1
    refine lv_iconst (v := 0) S.1 S.2.1 dX1_howManyWaits_48 (by decide) ?_
    refine lv_istore_n (i := 2) (lv' := [(2, .int 0), (0, rf h0), (1, .int x1)]) S.1 S.2.1 dX1_howManyWaits_49 rfl hl (by decide) rfl (fun ls hl => ?_)
    refine lv_iconst (v := 0) S.1 S.2.1 dX1_howManyWaits_50 (by decide) ?_
    refine lv_istore_n (i := 3) (lv' := [(3, .int 0), (2, .int 0), (0, rf h0), (1, .int x1)]) S.1 S.2.1 dX1_howManyWaits_51 rfl hl (by decide) rfl (fun ls hl => ?_)
    exact wlX1_howManyWaits_52 E0  FU h0 x1 0 0 μ hf _ _ _ hR hS (lv_sub hl [2, 3, 1, 0] rfl)
  · have hf := it_f hf c1
    refine lv_iconst (v := 0) S.1 S.2.1 dX1_howManyWaits_10 (by decide) ?_
    refine lv_istore_n (i := 3) (lv' := [(3, .int 0), (0, rf h0), (1, .int x1), (2, .int x2)]) S.1 S.2.1 dX1_howManyWaits_11 rfl hl (by decide) rfl (fun ls hl => ?_)
    exact wlX1_howManyWaits_12 E0 kk4 hkk4 FU h0 x1 x2 0 μ hf _ _ _ hR hS (lv_sub hl [1, 2, 3, 0] rfl)
theorem wlX1_howManyWaits_4 {p : Program} {l : Launch} {e : Env} {s : State} {m : MethodId} {args : Array Value} {below : List Frame} {meth : Method} {c : Code} {G : mmG} {A : Nat → Prop} {res : Int32 × MM} (E0 : mmEnv p m c cX1_howManyWaits 4 s args RX1 G A meth (some (.int)))  : ∀ (n : Nat) (h0 : Nat) (x1 : Int32) (x2 : Int32) (μ : MM), lX1_howManyWaits_4  n h0 x1 x2 μ = some res → mmGoal p l e rmX1_howManyWaits s m args below meth c G A 4 4 [(0, rf h0), (1, .int x1), (2, .int x2)] μ (mmQ G A res.2 (some (.int res.1))) := by
  intro n
  induction n with
  | zero => intro h0 x1 x2 μ hf; cases hf
  | succ n ih => intro h0 x1 x2 μ hf; exact wbX1_howManyWaits_4 E0  _ ih h0 x1 x2 μ hf
set_option maxRecDepth 100000 in
set_option maxHeartbeats 4000000 in
theorem kX1_howManyWaits_c (l : Launch) (G : mmG) (A : Nat → Prop) {μ : MM} {res : Int32 × MM} {h0 : Nat} (hk0 : mK μ h0 = 2) (hf : fX1_howManyWaits h0 μ = some res) : Met l yX1_howManyWaits [.code yX1_howManyWaits cX1_howManyWaits 4 (some (.int))] rmX1_howManyWaits (mmPc G A μ [rf h0]) (mmQ G A res.2 (some (.int res.1))) 0 0 A := by
  refine mm_ofW (by decide +kernel) (by simp [lg_sl, rf_cat, int_cat]) ?_
  intro p e s m below meth c ls S hR hA hS hr hlocks hl hnm
  have hl : lv_has ls 4 [(0, rf h0)] := by simpa [lv_args, rf_cat, int_cat] using hl
  have E0 : mmEnv p m c cX1_howManyWaits 4 s _ RX1 G A meth (some (.int)) := ⟨S, hA, hr, hlocks⟩
  have hK : mmKN μ μ := mmKN.rf
  unfold fX1_howManyWaits at hf
  refine lv_iconst (v := 1) S.1 S.2.1 dX1_howManyWaits_0 (by decide) ?_
  refine lv_istore_n (i := 1) (lv' := [(1, .int 1), (0, rf h0)]) S.1 S.2.1 dX1_howManyWaits_1 rfl hl (by decide) (by simp [rf_cat]) (fun ls hl => ?_)
  refine lv_iconst (v := 0) S.1 S.2.1 dX1_howManyWaits_2 (by decide) ?_
  refine lv_istore_n (i := 2) (lv' := [(2, .int 0), (1, .int 1), (0, rf h0)]) S.1 S.2.1 dX1_howManyWaits_3 rfl hl (by decide) rfl (fun ls hl => ?_)
  exact wlX1_howManyWaits_4 E0  FU h0 1 0 μ hf _ _ _ hR hS (lv_sub hl [2, 1, 0] rfl)
-- X0_has
def fX0_has (h0 : Nat) (x1 : Int32) (μ : MM) : Option (Int32 × MM) :=
  if x1 < 0 then (some (0, μ)) else (if (mI μ h0 2) ≤ x1 then (some (0, μ)) else (some (1, μ)))
set_option maxRecDepth 100000 in
set_option maxHeartbeats 4000000 in
theorem kX0_has_kn {μ : MM} {res : Int32 × MM} {h0 : Nat} {x1 : Int32} (hf : fX0_has h0 x1 μ = some res) : mmKN μ res.2 := by
  have hK : mmKN μ μ := mmKN.rf
  unfold fX0_has at hf
  rcases it_or hf with ⟨c1, hf⟩ | ⟨c1, hf⟩
  · skip
    obtain rfl := Option.some.inj hf
    exact hK
  · skip
    rcases it_or hf with ⟨c2, hf⟩ | ⟨c2, hf⟩
    · skip
      obtain rfl := Option.some.inj hf
      exact hK
    · skip
      obtain rfl := Option.some.inj hf
      exact hK
abbrev rmX0_has : Room := { frames := 0, cells := 0, slots := 0, locals := 0 }
set_option maxRecDepth 100000 in
set_option maxHeartbeats 4000000 in
theorem kX0_has_c (l : Launch) (G : mmG) (A : Nat → Prop) {μ : MM} {res : Int32 × MM} {h0 : Nat} {x1 : Int32} (hk0 : mK μ h0 = 1) (hf : fX0_has h0 x1 μ = some res) : Met l yX0_has [.code yX0_has cX0_has 2 (some (.boolean))] rmX0_has (mmPc G A μ [rf h0, .int x1]) (mmQ G A res.2 (some (.int res.1))) 0 0 A := by
  refine mm_ofW (by decide +kernel) (by simp [lg_sl, rf_cat, int_cat]) ?_
  intro p e s m below meth c ls S hR hA hS hr hlocks hl hnm
  have hl : lv_has ls 2 [(0, rf h0), (1, .int x1)] := by simpa [lv_args, rf_cat, int_cat] using hl
  have E0 : mmEnv p m c cX0_has 2 s _ RX0 G A meth (some (.boolean)) := ⟨S, hA, hr, hlocks⟩
  have hK : mmKN μ μ := mmKN.rf
  unfold fX0_has at hf
  refine lv_iload_n S.1 S.2.1 dX0_has_0 rfl (lv_at hl 1 rfl) ?_
  refine lv_if_lt (tgt := 16) S.1 S.2.1 dX0_has_1 (by decide) (fun c1 => ?_) (fun c1 => ?_)
  · have hf := it_t hf c1
    refine lv_iconst (v := 0) S.1 S.2.1 dX0_has_16 (by decide) ?_
    obtain rfl := Option.some.inj hf
    exact mm_zret S hR hS hr hlocks (Or.inl rfl) dX0_has_17
  · have hf := it_f hf c1
    refine lv_iload_n S.1 S.2.1 dX0_has_4 rfl (lv_at hl 1 rfl) ?_
    refine mm_aload_n S dX0_has_5 rfl (lv_at hl 0 rfl) ?_
    refine mm_geti S hR fdX0_22 (hK.k hk0) rfl dX0_has_6 ?_
    refine lv_icmp_ge (tgt := 16) S.1 S.2.1 dX0_has_9 (by decide) (fun c2 => ?_) (fun c2 => ?_)
    · have hf := it_t hf c2
      refine lv_iconst (v := 0) S.1 S.2.1 dX0_has_16 (by decide) ?_
      obtain rfl := Option.some.inj hf
      exact mm_zret S hR hS hr hlocks (Or.inl rfl) dX0_has_17
    · have hf := it_f hf c2
      refine lv_iconst (v := 1) S.1 S.2.1 dX0_has_12 (by decide) ?_
      refine lv_goto (tgt := 17) S.1 S.2.1 dX0_has_13 (by decide) ?_
      obtain rfl := Option.some.inj hf
      exact mm_zret S hR hS hr hlocks (Or.inr rfl) dX0_has_17
-- X0_at
def fX0_at (h0 : Nat) (x1 : Int32) (μ : MM) : Option (Nat × MM) :=
  if x1 < 0 then (some ((mP μ h0 1), μ)) else (if (8 : Int32) ≤ x1 then (some ((mP μ h0 1), μ)) else (if mK μ (mP μ h0 0) = 21 then if ¬ (x1 < 0 ∨ mN μ (mP μ h0 0) ≤ x1.toNatClampNeg) then some ((mP μ (mP μ h0 0) x1.toNatClampNeg), μ) else none else none))
set_option maxRecDepth 100000 in
set_option maxHeartbeats 4000000 in
theorem kX0_at_kn {μ : MM} {res : Nat × MM} {h0 : Nat} {x1 : Int32} (hf : fX0_at h0 x1 μ = some res) : mmKN μ res.2 := by
  have hK : mmKN μ μ := mmKN.rf
  unfold fX0_at at hf
  rcases it_or hf with ⟨c1, hf⟩ | ⟨c1, hf⟩
  · skip
    obtain rfl := Option.some.inj hf
    exact hK
  · skip
    rcases it_or hf with ⟨c2, hf⟩ | ⟨c2, hf⟩
    · skip
      obtain rfl := Option.some.inj hf
      exact hK
    · skip
      obtain ⟨g3, hf⟩ := gd hf
      obtain ⟨g4, hf⟩ := gd hf
      obtain rfl := Option.some.inj hf
      exact hK
abbrev rmX0_at : Room := { frames := 0, cells := 0, slots := 0, locals := 0 }
set_option maxRecDepth 100000 in
set_option maxHeartbeats 4000000 in
theorem kX0_at_c (l : Launch) (G : mmG) (A : Nat → Prop) {μ : MM} {res : Nat × MM} {h0 : Nat} {x1 : Int32} (hk0 : mK μ h0 = 1) (hf : fX0_at h0 x1 μ = some res) : Met l yX0_at [.code yX0_at cX0_at 2 (some (.object "YieldMoor$Body"))] rmX0_at (mmPc G A μ [rf h0, .int x1]) (mmQ G A res.2 (some (rf res.1))) 0 0 A := by
  refine mm_ofW (by decide +kernel) (by simp [lg_sl, rf_cat, int_cat]) ?_
  intro p e s m below meth c ls S hR hA hS hr hlocks hl hnm
  have hl : lv_has ls 2 [(0, rf h0), (1, .int x1)] := by simpa [lv_args, rf_cat, int_cat] using hl
  have E0 : mmEnv p m c cX0_at 2 s _ RX0 G A meth (some (.object "YieldMoor$Body")) := ⟨S, hA, hr, hlocks⟩
  have hK : mmKN μ μ := mmKN.rf
  unfold fX0_at at hf
  refine lv_iload_n S.1 S.2.1 dX0_at_0 rfl (lv_at hl 1 rfl) ?_
  refine lv_if_lt (tgt := 19) S.1 S.2.1 dX0_at_1 (by decide) (fun c1 => ?_) (fun c1 => ?_)
  · have hf := it_t hf c1
    refine mm_aload_n S dX0_at_19 rfl (lv_at hl 0 rfl) ?_
    refine mm_getp S hR fdX0_18 (hK.k hk0) rfl dX0_at_20 ?_
    obtain rfl := Option.some.inj hf
    exact mm_aret S hR hS hr hlocks dX0_at_23
  · have hf := it_f hf c1
    refine lv_iload_n S.1 S.2.1 dX0_at_4 rfl (lv_at hl 1 rfl) ?_
    refine lv_bipush (v := 8) S.1 S.2.1 dX0_at_5 (by decide) ?_
    refine lv_icmp_ge (tgt := 19) S.1 S.2.1 dX0_at_7 (by decide) (fun c2 => ?_) (fun c2 => ?_)
    · have hf := it_t hf c2
      refine mm_aload_n S dX0_at_19 rfl (lv_at hl 0 rfl) ?_
      refine mm_getp S hR fdX0_18 (hK.k hk0) rfl dX0_at_20 ?_
      obtain rfl := Option.some.inj hf
      exact mm_aret S hR hS hr hlocks dX0_at_23
    · have hf := it_f hf c2
      refine mm_aload_n S dX0_at_10 rfl (lv_at hl 0 rfl) ?_
      refine mm_getp S hR fdX0_11 (hK.k hk0) rfl dX0_at_11 ?_
      refine lv_iload_n S.1 S.2.1 dX0_at_14 rfl (lv_at hl 1 rfl) ?_
      obtain ⟨g3, hf⟩ := gd hf
      obtain ⟨g4, hf⟩ := gd hf
      refine mm_aald21 S hR (hK.k g3) g4 dX0_at_15 ?_
      refine lv_goto (tgt := 23) S.1 S.2.1 dX0_at_16 (by decide) ?_
      obtain rfl := Option.some.inj hf
      exact mm_aret S hR hS hr hlocks dX0_at_23
-- X0_addBody
def fX0_addBody (h0 : Nat) (μ : MM) : Option (Int32 × MM) :=
  st (sI μ h0 2 ((mI μ h0 2) + 1)) fun μ1 => some ((mI μ h0 2), μ1)
set_option maxRecDepth 100000 in
set_option maxHeartbeats 4000000 in
theorem kX0_addBody_kn {μ : MM} {res : Int32 × MM} {h0 : Nat} (hf : fX0_addBody h0 μ = some res) : mmKN μ res.2 := by
  have hK : mmKN μ μ := mmKN.rf
  unfold fX0_addBody at hf
  obtain ⟨μ1, e1, hf⟩ := stx hf
  have hK : mmKN μ μ1 := by rw [e1]; exact hK.sI
  obtain rfl := Option.some.inj hf
  exact hK
abbrev rmX0_addBody : Room := { frames := 0, cells := 0, slots := 0, locals := 0 }
set_option maxRecDepth 100000 in
set_option maxHeartbeats 4000000 in
theorem kX0_addBody_c (l : Launch) (G : mmG) (A : Nat → Prop) {μ : MM} {res : Int32 × MM} {h0 : Nat} (hk0 : mK μ h0 = 1) (hf : fX0_addBody h0 μ = some res) : Met l yX0_addBody [.code yX0_addBody cX0_addBody 2 (some (.int))] rmX0_addBody (mmPc G A μ [rf h0]) (mmQ G A res.2 (some (.int res.1))) 0 0 A := by
  refine mm_ofW (by decide +kernel) (by simp [lg_sl, rf_cat, int_cat]) ?_
  intro p e s m below meth c ls S hR hA hS hr hlocks hl hnm
  have hl : lv_has ls 2 [(0, rf h0)] := by simpa [lv_args, rf_cat, int_cat] using hl
  have E0 : mmEnv p m c cX0_addBody 2 s _ RX0 G A meth (some (.int)) := ⟨S, hA, hr, hlocks⟩
  have hK : mmKN μ μ := mmKN.rf
  unfold fX0_addBody at hf
  refine mm_aload_n S dX0_addBody_0 rfl (lv_at hl 0 rfl) ?_
  refine mm_geti S hR fdX0_22 (hK.k hk0) rfl dX0_addBody_1 ?_
  refine lv_istore_n (i := 1) (lv' := [(1, .int (mI μ h0 2)), (0, rf h0)]) S.1 S.2.1 dX0_addBody_4 rfl hl (by decide) (by simp [rf_cat]) (fun ls hl => ?_)
  refine mm_aload_n S dX0_addBody_5 rfl (lv_at hl 1 rfl) ?_
  refine lv_iload_n S.1 S.2.1 dX0_addBody_6 rfl (lv_at hl 0 rfl) ?_
  refine lv_iconst (v := 1) S.1 S.2.1 dX0_addBody_7 (by decide) ?_
  refine lv_iadd S.1 S.2.1 dX0_addBody_8 ?_
  refine mm_puti S hR hS fpX0_22 (hK.k hk0) rfl rfl rfl dX0_addBody_9 (fun H locs hR hS => ?_)
  obtain ⟨μ1, e1, hf⟩ := stx hf
  rw [← e1] at hR
  have hK : mmKN μ μ1 := by rw [e1]; exact hK.sI
  refine lv_iload_n S.1 S.2.1 dX0_addBody_12 rfl (lv_at hl 0 rfl) ?_
  obtain rfl := Option.some.inj hf
  exact mm_iret S hR hS hr hlocks dX0_addBody_13
