-- X3_toldOf
def fX3_toldOf (h0 : Nat) (h1 : Nat) (μ : MM) : Option (Int32 × MM) :=
  if mK μ h1 = 3 then if (mI μ h1 5) = (3 : Int32) then (some ((-20000), μ)) else (if (mI μ h1 5) = (4 : Int32) then (some (((-20000) - (mI μ h1 7)), μ)) else ((fX3_inmostOf h0 h1 μ).bind fun y4 => if mK μ y4.1 = 3 then some ((mI y4.2 y4.1 7), y4.2) else none)) else none
set_option maxRecDepth 100000 in
set_option maxHeartbeats 4000000 in
theorem kX3_toldOf_kn {μ : MM} {res : Int32 × MM} {h0 : Nat} {h1 : Nat} (hf : fX3_toldOf h0 h1 μ = some res) : mmKN μ res.2 := by
  have hK : mmKN μ μ := mmKN.rf
  unfold fX3_toldOf at hf
  obtain ⟨g1, hf⟩ := gd hf
  rcases it_or hf with ⟨c2, hf⟩ | ⟨c2, hf⟩
  · skip
    obtain rfl := Option.some.inj hf
    exact hK
  · skip
    rcases it_or hf with ⟨c3, hf⟩ | ⟨c3, hf⟩
    · skip
      obtain rfl := Option.some.inj hf
      exact hK
    · skip
      obtain ⟨y4, hy4, hf⟩ := bd hf
      have hK : mmKN μ y4.2 := hK.tr (kX3_inmostOf_kn hy4)
      obtain ⟨g5, hf⟩ := gd hf
      obtain rfl := Option.some.inj hf
      exact hK
abbrev rmX3_toldOf : Room := { frames := 2, cells := 0, slots := 0, locals := 44 }
set_option maxRecDepth 100000 in
set_option maxHeartbeats 4000000 in
theorem kX3_toldOf_c (l : Launch) (G : mmG) (A : Nat → Prop) {μ : MM} {res : Int32 × MM} {h0 : Nat} {h1 : Nat} (hk0 : mK μ h0 = 4) (hf : fX3_toldOf h0 h1 μ = some res) : Met l yX3_toldOf [.code yX3_toldOf cX3_toldOf 2 (some (.int))] rmX3_toldOf (mmPc G A μ [rf h0, rf h1]) (mmQ G A res.2 (some (.int res.1))) 0 0 A := by
  refine mm_ofW (by decide +kernel) (by simp [lg_sl, rf_cat, int_cat]) ?_
  intro p e s m below meth c ls S hR hA hS hr hlocks hl hnm
  have hl : lv_has ls 2 [(0, rf h0), (1, rf h1)] := by simpa [lv_args, rf_cat, int_cat] using hl
  have E0 : mmEnv p m c cX3_toldOf 2 s _ RX3 G A meth (some (.int)) := ⟨S, hA, hr, hlocks⟩
  have hK : mmKN μ μ := mmKN.rf
  unfold fX3_toldOf at hf
  refine mm_aload_n S dX3_toldOf_0 rfl (lv_at hl 1 rfl) ?_
  obtain ⟨g1, hf⟩ := gd hf
  refine mm_geti S hR fdX3_68 (hK.k g1) rfl dX3_toldOf_1 ?_
  refine lv_iconst (v := 3) S.1 S.2.1 dX3_toldOf_4 (by decide) ?_
  refine lv_icmp_ne (tgt := 12) S.1 S.2.1 dX3_toldOf_5 (by decide) (fun c2 => ?_) (fun c2 => ?_)
  · have hf := it_f hf c2
    refine mm_aload_n S dX3_toldOf_12 rfl (lv_at hl 1 rfl) ?_
    refine mm_geti S hR fdX3_68 (hK.k g1) rfl dX3_toldOf_13 ?_
    refine lv_iconst (v := 4) S.1 S.2.1 dX3_toldOf_16 (by decide) ?_
    refine lv_icmp_ne (tgt := 31) S.1 S.2.1 dX3_toldOf_17 (by decide) (fun c3 => ?_) (fun c3 => ?_)
    · have hf := it_f hf c3
      refine mm_aload_n S dX3_toldOf_31 rfl (lv_at hl 0 rfl) ?_
      refine mm_aload_n S dX3_toldOf_32 rfl (lv_at hl 1 rfl) ?_
      obtain ⟨y4, hy4, hf⟩ := bd hf
      refine mm_callVh S hR hS hA (As := [rf h1]) (rest := []) cvX3_107 (hK.k hk0) (kX3_inmostOf_c l G A (hK.k hk0) hy4) rfl rfl ⟨Nat.le_of_ble_eq_true rfl, Nat.le_of_ble_eq_true rfl⟩ rfl hl.1 rfl (lv_room (by simp [rf_cat, int_cat, long_cat])) dX3_toldOf_33 ⟨Nat.zero_le _, Nat.zero_le _⟩ (fun H locs hR hS => ?_)
      have hK : mmKN μ y4.2 := hK.tr (kX3_inmostOf_kn hy4)
      obtain ⟨g5, hf⟩ := gd hf
      refine mm_geti S hR fdX3_117 (hK.k g5) rfl dX3_toldOf_36 ?_
      obtain rfl := Option.some.inj hf
      exact mm_iret S hR hS hr hlocks dX3_toldOf_39
    · have hf := it_t hf c3
      refine lv_sipush (v := (-20000)) S.1 S.2.1 dX3_toldOf_20 (by decide) ?_
      refine mm_aload_n S dX3_toldOf_23 rfl (lv_at hl 1 rfl) ?_
      refine mm_geti S hR fdX3_117 (hK.k g1) rfl dX3_toldOf_24 ?_
      refine lv_isub S.1 S.2.1 dX3_toldOf_27 ?_
      refine lv_goto (tgt := 39) S.1 S.2.1 dX3_toldOf_28 (by decide) ?_
      obtain rfl := Option.some.inj hf
      exact mm_iret S hR hS hr hlocks dX3_toldOf_39
  · have hf := it_t hf c2
    refine lv_sipush (v := (-20000)) S.1 S.2.1 dX3_toldOf_8 (by decide) ?_
    obtain rfl := Option.some.inj hf
    exact mm_iret S hR hS hr hlocks dX3_toldOf_11
-- X3_resumeWith
def fX3_resumeWith (h0 : Nat) (x1 : Int32) (x2 : Int32) (μ : MM) : Option (Int32 × MM) :=
  (fX3_at h0 x1 μ).bind fun y1 => (fX3_inmostOf h0 y1.1 y1.2).bind fun y2 => (fX3_beginCall h0 (-1) y2.2).bind fun y3 => if mK μ y2.1 = 3 then if (mI y3 y2.1 5) = 0 then ((fX2_goOnAt y2.1 0 y3).bind fun y10 => (fX3_goOn h0 y1.1 y2.1 y10).bind fun y11 => (fX3_toldOf h0 y1.1 y11).bind fun y12 => some (y12.1, y12.2)) else (st (sI y3 y2.1 7 x2) fun μ6 => (fX2_goOnAt y2.1 ((mI μ6 y2.1 6) + 1) μ6).bind fun y7 => (fX3_goOn h0 y1.1 y2.1 y7).bind fun y8 => (fX3_toldOf h0 y1.1 y8).bind fun y9 => some (y9.1, y9.2)) else none
set_option maxRecDepth 100000 in
set_option maxHeartbeats 4000000 in
theorem kX3_resumeWith_kn {μ : MM} {res : Int32 × MM} {h0 : Nat} {x1 : Int32} {x2 : Int32} (hf : fX3_resumeWith h0 x1 x2 μ = some res) : mmKN μ res.2 := by
  have hK : mmKN μ μ := mmKN.rf
  unfold fX3_resumeWith at hf
  obtain ⟨y1, hy1, hf⟩ := bd hf
  have hK : mmKN μ y1.2 := hK.tr (kX3_at_kn hy1)
  obtain ⟨y2, hy2, hf⟩ := bd hf
  have hK : mmKN μ y2.2 := hK.tr (kX3_inmostOf_kn hy2)
  obtain ⟨y3, hy3, hf⟩ := bd hf
  have hK : mmKN μ y3 := hK.tr (kX3_beginCall_kn hy3)
  obtain ⟨g4, hf⟩ := gd hf
  rcases it_or hf with ⟨c5, hf⟩ | ⟨c5, hf⟩
  · skip
    obtain ⟨y10, hy10, hf⟩ := bd hf
    have hK : mmKN μ y10 := hK.tr (kX2_goOnAt_kn hy10)
    obtain ⟨y11, hy11, hf⟩ := bd hf
    have hK : mmKN μ y11 := hK.tr (kX3_goOn_kn hy11)
    obtain ⟨y12, hy12, hf⟩ := bd hf
    have hK : mmKN μ y12.2 := hK.tr (kX3_toldOf_kn hy12)
    obtain rfl := Option.some.inj hf
    exact hK
  · skip
    obtain ⟨μ6, e6, hf⟩ := stx hf
    have hK : mmKN μ μ6 := by rw [e6]; exact hK.sI
    obtain ⟨y7, hy7, hf⟩ := bd hf
    have hK : mmKN μ y7 := hK.tr (kX2_goOnAt_kn hy7)
    obtain ⟨y8, hy8, hf⟩ := bd hf
    have hK : mmKN μ y8 := hK.tr (kX3_goOn_kn hy8)
    obtain ⟨y9, hy9, hf⟩ := bd hf
    have hK : mmKN μ y9.2 := hK.tr (kX3_toldOf_kn hy9)
    obtain rfl := Option.some.inj hf
    exact hK
abbrev rmX3_resumeWith : Room := { frames := 5, cells := 0, slots := 0, locals := 120 }
set_option maxRecDepth 100000 in
set_option maxHeartbeats 4000000 in
theorem kX3_resumeWith_c (l : Launch) (G : mmG) (A : Nat → Prop) {μ : MM} {res : Int32 × MM} {h0 : Nat} {x1 : Int32} {x2 : Int32} (hk0 : mK μ h0 = 4) (hf : fX3_resumeWith h0 x1 x2 μ = some res) : Met l yX3_resumeWith [.code yX3_resumeWith cX3_resumeWith 5 (some (.int))] rmX3_resumeWith (mmPc G A μ [rf h0, .int x1, .int x2]) (mmQ G A res.2 (some (.int res.1))) 0 0 A := by
  refine mm_ofW (by decide +kernel) (by simp [lg_sl, rf_cat, int_cat]) ?_
  intro p e s m below meth c ls S hR hA hS hr hlocks hl hnm
  have hl : lv_has ls 5 [(0, rf h0), (1, .int x1), (2, .int x2)] := by simpa [lv_args, rf_cat, int_cat] using hl
  have E0 : mmEnv p m c cX3_resumeWith 5 s _ RX3 G A meth (some (.int)) := ⟨S, hA, hr, hlocks⟩
  have hK : mmKN μ μ := mmKN.rf
  unfold fX3_resumeWith at hf
  refine mm_aload_n S dX3_resumeWith_0 rfl (lv_at hl 0 rfl) ?_
  refine lv_iload_n S.1 S.2.1 dX3_resumeWith_1 rfl (lv_at hl 1 rfl) ?_
  obtain ⟨y1, hy1, hf⟩ := bd hf
  refine mm_callVh S hR hS hA (As := [.int x1]) (rest := []) cvX3_55 (hK.k hk0) (kX3_at_c l G A (hK.k hk0) hy1) rfl rfl ⟨Nat.le_of_ble_eq_true rfl, Nat.le_of_ble_eq_true rfl⟩ rfl hl.1 rfl (lv_room (by simp [rf_cat, int_cat, long_cat])) dX3_resumeWith_2 ⟨Nat.zero_le _, Nat.zero_le _⟩ (fun H locs hR hS => ?_)
  have hK : mmKN μ y1.2 := hK.tr (kX3_at_kn hy1)
  refine mm_astore_n (i := 3) (lv' := [(3, rf y1.1), (0, rf h0), (1, .int x1), (2, .int x2)]) S dX3_resumeWith_5 rfl hl (by decide) rfl (fun ls hl => ?_)
  refine mm_aload_n S dX3_resumeWith_6 rfl (lv_at hl 1 rfl) ?_
  refine mm_aload_n S dX3_resumeWith_7 rfl (lv_at hl 0 rfl) ?_
  obtain ⟨y2, hy2, hf⟩ := bd hf
  refine mm_callVh S hR hS hA (As := [rf y1.1]) (rest := []) cvX3_107 (hK.k hk0) (kX3_inmostOf_c l G A (hK.k hk0) hy2) rfl rfl ⟨Nat.le_of_ble_eq_true rfl, Nat.le_of_ble_eq_true rfl⟩ rfl hl.1 rfl (lv_room (by simp [rf_cat, int_cat, long_cat])) dX3_resumeWith_8 ⟨Nat.zero_le _, Nat.zero_le _⟩ (fun H locs hR hS => ?_)
  have hK : mmKN μ y2.2 := hK.tr (kX3_inmostOf_kn hy2)
  refine mm_astore (i := 4) (lv' := [(4, rf y2.1), (3, rf y1.1), (0, rf h0), (1, .int x1), (2, .int x2)]) S dX3_resumeWith_11 hl (by decide) (by simp [rf_cat]) (fun ls hl => ?_)
  refine mm_aload_n S dX3_resumeWith_13 rfl (lv_at hl 2 rfl) ?_
  refine lv_iconst (v := (-1)) S.1 S.2.1 dX3_resumeWith_14 (by decide) ?_
  obtain ⟨y3, hy3, hf⟩ := bd hf
  refine mm_callVv S hR hS hA (As := [.int (-1)]) (rest := []) cvX3_111 (hK.k hk0) (kX3_beginCall_c l G A (hK.k hk0) hy3) rfl rfl ⟨Nat.le_of_ble_eq_true rfl, Nat.le_of_ble_eq_true rfl⟩ rfl hl.1 rfl (lv_room (by simp [rf_cat, int_cat, long_cat])) dX3_resumeWith_15 ⟨Nat.zero_le _, Nat.zero_le _⟩ (fun H locs hR hS => ?_)
  have hK : mmKN μ y3 := hK.tr (kX3_beginCall_kn hy3)
  refine mm_aload S dX3_resumeWith_18 (lv_at hl 0 rfl) ?_
  obtain ⟨g4, hf⟩ := gd hf
  refine mm_geti S hR fdX3_68 (hK.k g4) rfl dX3_resumeWith_20 ?_
  refine lv_if_ne (tgt := 35) S.1 S.2.1 dX3_resumeWith_23 (by decide) (fun c5 => ?_) (fun c5 => ?_)
  · have hf := it_f hf c5
    refine mm_aload S dX3_resumeWith_35 (lv_at hl 0 rfl) ?_
    refine lv_iload_n S.1 S.2.1 dX3_resumeWith_37 rfl (lv_at hl 4 rfl) ?_
    refine mm_puti S hR hS fpX3_117 (hK.k g4) rfl rfl rfl dX3_resumeWith_38 (fun H locs hR hS => ?_)
    obtain ⟨μ6, e6, hf⟩ := stx hf
    rw [← e6] at hR
    have hK : mmKN μ μ6 := by rw [e6]; exact hK.sI
    refine mm_aload S dX3_resumeWith_41 (lv_at hl 0 rfl) ?_
    refine mm_aload S dX3_resumeWith_43 (lv_at hl 0 rfl) ?_
    refine mm_geti S hR fdX3_120 (hK.k g4) rfl dX3_resumeWith_45 ?_
    refine lv_iconst (v := 1) S.1 S.2.1 dX3_resumeWith_48 (by decide) ?_
    refine lv_iadd S.1 S.2.1 dX3_resumeWith_49 ?_
    obtain ⟨y7, hy7, hf⟩ := bd hf
    refine mm_callVv S hR hS hA (As := [.int ((mI μ6 y2.1 6) + 1)]) (rest := []) cvX3_114 (hK.k g4) (kX2_goOnAt_c l G A (hK.k g4) hy7) rfl rfl ⟨Nat.le_of_ble_eq_true rfl, Nat.le_of_ble_eq_true rfl⟩ rfl hl.1 rfl (lv_room (by simp [rf_cat, int_cat, long_cat])) dX3_resumeWith_50 ⟨Nat.zero_le _, Nat.zero_le _⟩ (fun H locs hR hS => ?_)
    have hK : mmKN μ y7 := hK.tr (kX2_goOnAt_kn hy7)
    refine mm_aload_n S dX3_resumeWith_53 rfl (lv_at hl 2 rfl) ?_
    refine mm_aload_n S dX3_resumeWith_54 rfl (lv_at hl 1 rfl) ?_
    refine mm_aload S dX3_resumeWith_55 (lv_at hl 0 rfl) ?_
    obtain ⟨y8, hy8, hf⟩ := bd hf
    refine mm_callVv S hR hS hA (As := [rf y1.1, rf y2.1]) (rest := []) cvX3_123 (hK.k hk0) (kX3_goOn_c l G A (hK.k hk0) hy8) rfl rfl ⟨Nat.le_of_ble_eq_true rfl, Nat.le_of_ble_eq_true rfl⟩ rfl hl.1 rfl (lv_room (by simp [rf_cat, int_cat, long_cat])) dX3_resumeWith_57 ⟨Nat.zero_le _, Nat.zero_le _⟩ (fun H locs hR hS => ?_)
    have hK : mmKN μ y8 := hK.tr (kX3_goOn_kn hy8)
    refine mm_aload_n S dX3_resumeWith_60 rfl (lv_at hl 2 rfl) ?_
    refine mm_aload_n S dX3_resumeWith_61 rfl (lv_at hl 1 rfl) ?_
    obtain ⟨y9, hy9, hf⟩ := bd hf
    refine mm_callVi S hR hS hA (As := [rf y1.1]) (rest := []) cvX3_127 (hK.k hk0) (kX3_toldOf_c l G A (hK.k hk0) hy9) rfl rfl ⟨Nat.le_of_ble_eq_true rfl, Nat.le_of_ble_eq_true rfl⟩ rfl hl.1 rfl (lv_room (by simp [rf_cat, int_cat, long_cat])) dX3_resumeWith_62 ⟨Nat.zero_le _, Nat.zero_le _⟩ (fun H locs hR hS => ?_)
    have hK : mmKN μ y9.2 := hK.tr (kX3_toldOf_kn hy9)
    obtain rfl := Option.some.inj hf
    exact mm_iret S hR hS hr hlocks dX3_resumeWith_65
  · have hf := it_t hf c5
    refine mm_aload S dX3_resumeWith_26 (lv_at hl 0 rfl) ?_
    refine lv_iconst (v := 0) S.1 S.2.1 dX3_resumeWith_28 (by decide) ?_
    obtain ⟨y10, hy10, hf⟩ := bd hf
    refine mm_callVv S hR hS hA (As := [.int 0]) (rest := []) cvX3_114 (hK.k g4) (kX2_goOnAt_c l G A (hK.k g4) hy10) rfl rfl ⟨Nat.le_of_ble_eq_true rfl, Nat.le_of_ble_eq_true rfl⟩ rfl hl.1 rfl (lv_room (by simp [rf_cat, int_cat, long_cat])) dX3_resumeWith_29 ⟨Nat.zero_le _, Nat.zero_le _⟩ (fun H locs hR hS => ?_)
    have hK : mmKN μ y10 := hK.tr (kX2_goOnAt_kn hy10)
    refine lv_goto (tgt := 53) S.1 S.2.1 dX3_resumeWith_32 (by decide) ?_
    refine mm_aload_n S dX3_resumeWith_53 rfl (lv_at hl 2 rfl) ?_
    refine mm_aload_n S dX3_resumeWith_54 rfl (lv_at hl 1 rfl) ?_
    refine mm_aload S dX3_resumeWith_55 (lv_at hl 0 rfl) ?_
    obtain ⟨y11, hy11, hf⟩ := bd hf
    refine mm_callVv S hR hS hA (As := [rf y1.1, rf y2.1]) (rest := []) cvX3_123 (hK.k hk0) (kX3_goOn_c l G A (hK.k hk0) hy11) rfl rfl ⟨Nat.le_of_ble_eq_true rfl, Nat.le_of_ble_eq_true rfl⟩ rfl hl.1 rfl (lv_room (by simp [rf_cat, int_cat, long_cat])) dX3_resumeWith_57 ⟨Nat.zero_le _, Nat.zero_le _⟩ (fun H locs hR hS => ?_)
    have hK : mmKN μ y11 := hK.tr (kX3_goOn_kn hy11)
    refine mm_aload_n S dX3_resumeWith_60 rfl (lv_at hl 2 rfl) ?_
    refine mm_aload_n S dX3_resumeWith_61 rfl (lv_at hl 1 rfl) ?_
    obtain ⟨y12, hy12, hf⟩ := bd hf
    refine mm_callVi S hR hS hA (As := [rf y1.1]) (rest := []) cvX3_127 (hK.k hk0) (kX3_toldOf_c l G A (hK.k hk0) hy12) rfl rfl ⟨Nat.le_of_ble_eq_true rfl, Nat.le_of_ble_eq_true rfl⟩ rfl hl.1 rfl (lv_room (by simp [rf_cat, int_cat, long_cat])) dX3_resumeWith_62 ⟨Nat.zero_le _, Nat.zero_le _⟩ (fun H locs hR hS => ?_)
    have hK : mmKN μ y12.2 := hK.tr (kX3_toldOf_kn hy12)
    obtain rfl := Option.some.inj hf
    exact mm_iret S hR hS hr hlocks dX3_resumeWith_65
-- X3_throwInto
def fX3_throwInto (h0 : Nat) (x1 : Int32) (x2 : Int32) (μ : MM) : Option (Int32 × MM) :=
  (fX3_at h0 x1 μ).bind fun y1 => (fX3_inmostOf h0 y1.1 y1.2).bind fun y2 => (fX3_beginCall h0 (-1) y2.2).bind fun y3 => if mK μ y2.1 = 3 then (fX2_leave y2.1 x2 y3).bind fun y4 => (fX3_goOn h0 y1.1 y2.1 y4).bind fun y6 => (fX3_toldOf h0 y1.1 y6).bind fun y7 => some (y7.1, y7.2) else none
set_option maxRecDepth 100000 in
set_option maxHeartbeats 4000000 in
theorem kX3_throwInto_kn {μ : MM} {res : Int32 × MM} {h0 : Nat} {x1 : Int32} {x2 : Int32} (hf : fX3_throwInto h0 x1 x2 μ = some res) : mmKN μ res.2 := by
  have hK : mmKN μ μ := mmKN.rf
  unfold fX3_throwInto at hf
  obtain ⟨y1, hy1, hf⟩ := bd hf
  have hK : mmKN μ y1.2 := hK.tr (kX3_at_kn hy1)
  obtain ⟨y2, hy2, hf⟩ := bd hf
  have hK : mmKN μ y2.2 := hK.tr (kX3_inmostOf_kn hy2)
  obtain ⟨y3, hy3, hf⟩ := bd hf
  have hK : mmKN μ y3 := hK.tr (kX3_beginCall_kn hy3)
  obtain ⟨g5, hf⟩ := gd hf
  obtain ⟨y4, hy4, hf⟩ := bd hf
  have hK : mmKN μ y4 := hK.tr (kX2_leave_kn hy4)
  obtain ⟨y6, hy6, hf⟩ := bd hf
  have hK : mmKN μ y6 := hK.tr (kX3_goOn_kn hy6)
  obtain ⟨y7, hy7, hf⟩ := bd hf
  have hK : mmKN μ y7.2 := hK.tr (kX3_toldOf_kn hy7)
  obtain rfl := Option.some.inj hf
  exact hK
abbrev rmX3_throwInto : Room := { frames := 5, cells := 0, slots := 0, locals := 120 }
set_option maxRecDepth 100000 in
set_option maxHeartbeats 4000000 in
theorem kX3_throwInto_c (l : Launch) (G : mmG) (A : Nat → Prop) {μ : MM} {res : Int32 × MM} {h0 : Nat} {x1 : Int32} {x2 : Int32} (hk0 : mK μ h0 = 4) (hf : fX3_throwInto h0 x1 x2 μ = some res) : Met l yX3_throwInto [.code yX3_throwInto cX3_throwInto 5 (some (.int))] rmX3_throwInto (mmPc G A μ [rf h0, .int x1, .int x2]) (mmQ G A res.2 (some (.int res.1))) 0 0 A := by
  refine mm_ofW (by decide +kernel) (by simp [lg_sl, rf_cat, int_cat]) ?_
  intro p e s m below meth c ls S hR hA hS hr hlocks hl hnm
  have hl : lv_has ls 5 [(0, rf h0), (1, .int x1), (2, .int x2)] := by simpa [lv_args, rf_cat, int_cat] using hl
  have E0 : mmEnv p m c cX3_throwInto 5 s _ RX3 G A meth (some (.int)) := ⟨S, hA, hr, hlocks⟩
  have hK : mmKN μ μ := mmKN.rf
  unfold fX3_throwInto at hf
  refine mm_aload_n S dX3_throwInto_0 rfl (lv_at hl 0 rfl) ?_
  refine lv_iload_n S.1 S.2.1 dX3_throwInto_1 rfl (lv_at hl 1 rfl) ?_
  obtain ⟨y1, hy1, hf⟩ := bd hf
  refine mm_callVh S hR hS hA (As := [.int x1]) (rest := []) cvX3_55 (hK.k hk0) (kX3_at_c l G A (hK.k hk0) hy1) rfl rfl ⟨Nat.le_of_ble_eq_true rfl, Nat.le_of_ble_eq_true rfl⟩ rfl hl.1 rfl (lv_room (by simp [rf_cat, int_cat, long_cat])) dX3_throwInto_2 ⟨Nat.zero_le _, Nat.zero_le _⟩ (fun H locs hR hS => ?_)
  have hK : mmKN μ y1.2 := hK.tr (kX3_at_kn hy1)
  refine mm_astore_n (i := 3) (lv' := [(3, rf y1.1), (0, rf h0), (1, .int x1), (2, .int x2)]) S dX3_throwInto_5 rfl hl (by decide) rfl (fun ls hl => ?_)
  refine mm_aload_n S dX3_throwInto_6 rfl (lv_at hl 1 rfl) ?_
  refine mm_aload_n S dX3_throwInto_7 rfl (lv_at hl 0 rfl) ?_
  obtain ⟨y2, hy2, hf⟩ := bd hf
  refine mm_callVh S hR hS hA (As := [rf y1.1]) (rest := []) cvX3_107 (hK.k hk0) (kX3_inmostOf_c l G A (hK.k hk0) hy2) rfl rfl ⟨Nat.le_of_ble_eq_true rfl, Nat.le_of_ble_eq_true rfl⟩ rfl hl.1 rfl (lv_room (by simp [rf_cat, int_cat, long_cat])) dX3_throwInto_8 ⟨Nat.zero_le _, Nat.zero_le _⟩ (fun H locs hR hS => ?_)
  have hK : mmKN μ y2.2 := hK.tr (kX3_inmostOf_kn hy2)
  refine mm_astore (i := 4) (lv' := [(4, rf y2.1), (3, rf y1.1), (0, rf h0), (1, .int x1), (2, .int x2)]) S dX3_throwInto_11 hl (by decide) (by simp [rf_cat]) (fun ls hl => ?_)
  refine mm_aload_n S dX3_throwInto_13 rfl (lv_at hl 2 rfl) ?_
  refine lv_iconst (v := (-1)) S.1 S.2.1 dX3_throwInto_14 (by decide) ?_
  obtain ⟨y3, hy3, hf⟩ := bd hf
  refine mm_callVv S hR hS hA (As := [.int (-1)]) (rest := []) cvX3_111 (hK.k hk0) (kX3_beginCall_c l G A (hK.k hk0) hy3) rfl rfl ⟨Nat.le_of_ble_eq_true rfl, Nat.le_of_ble_eq_true rfl⟩ rfl hl.1 rfl (lv_room (by simp [rf_cat, int_cat, long_cat])) dX3_throwInto_15 ⟨Nat.zero_le _, Nat.zero_le _⟩ (fun H locs hR hS => ?_)
  have hK : mmKN μ y3 := hK.tr (kX3_beginCall_kn hy3)
  refine mm_aload S dX3_throwInto_18 (lv_at hl 0 rfl) ?_
  refine lv_iload_n S.1 S.2.1 dX3_throwInto_20 rfl (lv_at hl 4 rfl) ?_
  obtain ⟨g5, hf⟩ := gd hf
  obtain ⟨y4, hy4, hf⟩ := bd hf
  refine mm_callVv S hR hS hA (As := [.int x2]) (rest := []) cvX3_131 (hK.k g5) (kX2_leave_c l G A (hK.k g5) hy4) rfl rfl ⟨Nat.le_of_ble_eq_true rfl, Nat.le_of_ble_eq_true rfl⟩ rfl hl.1 rfl (lv_room (by simp [rf_cat, int_cat, long_cat])) dX3_throwInto_21 ⟨Nat.zero_le _, Nat.zero_le _⟩ (fun H locs hR hS => ?_)
  have hK : mmKN μ y4 := hK.tr (kX2_leave_kn hy4)
  refine mm_aload_n S dX3_throwInto_24 rfl (lv_at hl 2 rfl) ?_
  refine mm_aload_n S dX3_throwInto_25 rfl (lv_at hl 1 rfl) ?_
  refine mm_aload S dX3_throwInto_26 (lv_at hl 0 rfl) ?_
  obtain ⟨y6, hy6, hf⟩ := bd hf
  refine mm_callVv S hR hS hA (As := [rf y1.1, rf y2.1]) (rest := []) cvX3_123 (hK.k hk0) (kX3_goOn_c l G A (hK.k hk0) hy6) rfl rfl ⟨Nat.le_of_ble_eq_true rfl, Nat.le_of_ble_eq_true rfl⟩ rfl hl.1 rfl (lv_room (by simp [rf_cat, int_cat, long_cat])) dX3_throwInto_28 ⟨Nat.zero_le _, Nat.zero_le _⟩ (fun H locs hR hS => ?_)
  have hK : mmKN μ y6 := hK.tr (kX3_goOn_kn hy6)
  refine mm_aload_n S dX3_throwInto_31 rfl (lv_at hl 2 rfl) ?_
  refine mm_aload_n S dX3_throwInto_32 rfl (lv_at hl 1 rfl) ?_
  obtain ⟨y7, hy7, hf⟩ := bd hf
  refine mm_callVi S hR hS hA (As := [rf y1.1]) (rest := []) cvX3_127 (hK.k hk0) (kX3_toldOf_c l G A (hK.k hk0) hy7) rfl rfl ⟨Nat.le_of_ble_eq_true rfl, Nat.le_of_ble_eq_true rfl⟩ rfl hl.1 rfl (lv_room (by simp [rf_cat, int_cat, long_cat])) dX3_throwInto_33 ⟨Nat.zero_le _, Nat.zero_le _⟩ (fun H locs hR hS => ?_)
  have hK : mmKN μ y7.2 := hK.tr (kX3_toldOf_kn hy7)
  obtain rfl := Option.some.inj hf
  exact mm_iret S hR hS hr hlocks dX3_throwInto_36
-- X3_endClose
def bX3_endClose_23  (h1 : Nat) (μ : MM) : Option (Int32 × MM) :=
  if mK μ h1 = 3 then if (mI μ h1 5) = (3 : Int32) then (some (0, μ)) else (if (mI μ h1 5) = (4 : Int32) then (some ((mI μ h1 7), μ)) else (some (8, μ))) else none
def fX3_endClose (h0 : Nat) (h1 : Nat) (μ : MM) : Option (Int32 × MM) :=
  if mK μ h1 = 3 then if (mI μ h1 5) = (4 : Int32) then (if (mI μ h1 7) = (10 : Int32) then ((fX2_end h1 3 0 μ).bind fun y4 => bX3_endClose_23  h1 y4) else (bX3_endClose_23  h1 μ)) else (bX3_endClose_23  h1 μ) else none
set_option maxRecDepth 100000 in
set_option maxHeartbeats 4000000 in
theorem knbX3_endClose_23  : ∀ (h1 : Nat) (μ : MM) (res : Int32 × MM), bX3_endClose_23  h1 μ = some res → mmKN μ res.2 := by
  intro h1 μ res hf
  have hK : mmKN μ μ := mmKN.rf
  unfold bX3_endClose_23 at hf
  obtain ⟨g1, hf⟩ := gd hf
  rcases it_or hf with ⟨c2, hf⟩ | ⟨c2, hf⟩
  · skip
    obtain rfl := Option.some.inj hf
    exact hK
  · skip
    rcases it_or hf with ⟨c3, hf⟩ | ⟨c3, hf⟩
    · skip
      obtain rfl := Option.some.inj hf
      exact hK
    · skip
      obtain rfl := Option.some.inj hf
      exact hK
set_option maxRecDepth 100000 in
set_option maxHeartbeats 4000000 in
theorem kX3_endClose_kn {μ : MM} {res : Int32 × MM} {h0 : Nat} {h1 : Nat} (hf : fX3_endClose h0 h1 μ = some res) : mmKN μ res.2 := by
  have hK : mmKN μ μ := mmKN.rf
  unfold fX3_endClose at hf
  obtain ⟨g1, hf⟩ := gd hf
  rcases it_or hf with ⟨c2, hf⟩ | ⟨c2, hf⟩
  · skip
    rcases it_or hf with ⟨c3, hf⟩ | ⟨c3, hf⟩
    · skip
      obtain ⟨y4, hy4, hf⟩ := bd hf
      have hK : mmKN μ y4 := hK.tr (kX2_end_kn hy4)
      exact hK.tr (knbX3_endClose_23  h1 y4 _ hf)
    · skip
      exact hK.tr (knbX3_endClose_23  h1 μ _ hf)
  · skip
    exact hK.tr (knbX3_endClose_23  h1 μ _ hf)
abbrev rmX3_endClose : Room := { frames := 1, cells := 0, slots := 0, locals := 22 }
set_option maxRecDepth 100000 in
set_option maxHeartbeats 4000000 in
theorem wbX3_endClose_23 {p : Program} {l : Launch} {e : Env} {s : State} {m : MethodId} {args : Array Value} {below : List Frame} {meth : Method} {c : Code} {G : mmG} {A : Nat → Prop} {res : Int32 × MM} (E0 : mmEnv p m c cX3_endClose 2 s args RX3 G A meth (some (.int)))  : ∀ (h1 : Nat) (μ : MM), bX3_endClose_23  h1 μ = some res → mmGoal p l e rmX3_endClose s m args below meth c G A 23 2 [(1, rf h1)] μ (mmQ G A res.2 (some (.int res.1))) := by
  obtain ⟨S, hA, hr, hlocks⟩ := id E0
  intro h1 μ hf H locs ls hR hS hl
  have hK : mmKN μ μ := mmKN.rf
  unfold bX3_endClose_23 at hf
  refine mm_aload_n S dX3_endClose_23 rfl (lv_at hl 0 rfl) ?_
  obtain ⟨g1, hf⟩ := gd hf
  refine mm_geti S hR fdX3_68 (hK.k g1) rfl dX3_endClose_24 ?_
  refine lv_iconst (v := 3) S.1 S.2.1 dX3_endClose_27 (by decide) ?_
  refine lv_icmp_ne (tgt := 33) S.1 S.2.1 dX3_endClose_28 (by decide) (fun c2 => ?_) (fun c2 => ?_)
  · have hf := it_f hf c2
    refine mm_aload_n S dX3_endClose_33 rfl (lv_at hl 0 rfl) ?_
    refine mm_geti S hR fdX3_68 (hK.k g1) rfl dX3_endClose_34 ?_
    refine lv_iconst (v := 4) S.1 S.2.1 dX3_endClose_37 (by decide) ?_
    refine lv_icmp_ne (tgt := 48) S.1 S.2.1 dX3_endClose_38 (by decide) (fun c3 => ?_) (fun c3 => ?_)
    · have hf := it_f hf c3
      refine lv_bipush (v := 8) S.1 S.2.1 dX3_endClose_48 (by decide) ?_
      obtain rfl := Option.some.inj hf
      exact mm_iret S hR hS hr hlocks dX3_endClose_50
    · have hf := it_t hf c3
      refine mm_aload_n S dX3_endClose_41 rfl (lv_at hl 0 rfl) ?_
      refine mm_geti S hR fdX3_117 (hK.k g1) rfl dX3_endClose_42 ?_
      refine lv_goto (tgt := 50) S.1 S.2.1 dX3_endClose_45 (by decide) ?_
      obtain rfl := Option.some.inj hf
      exact mm_iret S hR hS hr hlocks dX3_endClose_50
  · have hf := it_t hf c2
    refine lv_iconst (v := 0) S.1 S.2.1 dX3_endClose_31 (by decide) ?_
    obtain rfl := Option.some.inj hf
    exact mm_iret S hR hS hr hlocks dX3_endClose_32
set_option maxRecDepth 100000 in
set_option maxHeartbeats 4000000 in
theorem kX3_endClose_c (l : Launch) (G : mmG) (A : Nat → Prop) {μ : MM} {res : Int32 × MM} {h0 : Nat} {h1 : Nat} (hk0 : mK μ h0 = 4) (hf : fX3_endClose h0 h1 μ = some res) : Met l yX3_endClose [.code yX3_endClose cX3_endClose 2 (some (.int))] rmX3_endClose (mmPc G A μ [rf h0, rf h1]) (mmQ G A res.2 (some (.int res.1))) 0 0 A := by
  refine mm_ofW (by decide +kernel) (by simp [lg_sl, rf_cat, int_cat]) ?_
  intro p e s m below meth c ls S hR hA hS hr hlocks hl hnm
  have hl : lv_has ls 2 [(0, rf h0), (1, rf h1)] := by simpa [lv_args, rf_cat, int_cat] using hl
  have E0 : mmEnv p m c cX3_endClose 2 s _ RX3 G A meth (some (.int)) := ⟨S, hA, hr, hlocks⟩
  have hK : mmKN μ μ := mmKN.rf
  unfold fX3_endClose at hf
  refine mm_aload_n S dX3_endClose_0 rfl (lv_at hl 1 rfl) ?_
  obtain ⟨g1, hf⟩ := gd hf
  refine mm_geti S hR fdX3_68 (hK.k g1) rfl dX3_endClose_1 ?_
  refine lv_iconst (v := 4) S.1 S.2.1 dX3_endClose_4 (by decide) ?_
  refine lv_icmp_ne (tgt := 23) S.1 S.2.1 dX3_endClose_5 (by decide) (fun c2 => ?_) (fun c2 => ?_)
  · have hf := it_f hf c2
    exact wbX3_endClose_23 E0  h1 μ hf _ _ _ hR hS (lv_sub hl [1] rfl)
  · have hf := it_t hf c2
    refine mm_aload_n S dX3_endClose_8 rfl (lv_at hl 1 rfl) ?_
    refine mm_geti S hR fdX3_117 (hK.k g1) rfl dX3_endClose_9 ?_
    refine lv_bipush (v := 10) S.1 S.2.1 dX3_endClose_12 (by decide) ?_
    refine lv_icmp_ne (tgt := 23) S.1 S.2.1 dX3_endClose_14 (by decide) (fun c3 => ?_) (fun c3 => ?_)
    · have hf := it_f hf c3
      exact wbX3_endClose_23 E0  h1 μ hf _ _ _ hR hS (lv_sub hl [1] rfl)
    · have hf := it_t hf c3
      refine mm_aload_n S dX3_endClose_17 rfl (lv_at hl 1 rfl) ?_
      refine lv_iconst (v := 3) S.1 S.2.1 dX3_endClose_18 (by decide) ?_
      refine lv_iconst (v := 0) S.1 S.2.1 dX3_endClose_19 (by decide) ?_
      obtain ⟨y4, hy4, hf⟩ := bd hf
      refine mm_callVv S hR hS hA (As := [.int 3, .int 0]) (rest := []) cvX3_134 (hK.k g1) (kX2_end_c l G A (hK.k g1) hy4) rfl rfl ⟨Nat.le_of_ble_eq_true rfl, Nat.le_of_ble_eq_true rfl⟩ rfl hl.1 rfl (lv_room (by simp [rf_cat, int_cat, long_cat])) dX3_endClose_20 ⟨Nat.zero_le _, Nat.zero_le _⟩ (fun H locs hR hS => ?_)
      have hK : mmKN μ y4 := hK.tr (kX2_end_kn hy4)
      exact wbX3_endClose_23 E0  h1 y4 hf _ _ _ hR hS (lv_sub hl [1] rfl)
-- X3_closeAll
def bX3_closeAll_63 (kk63 : Nat → Nat → Nat → Int32 → Int32 → MM → Option (Int32 × MM)) (h0 : Nat) (h2 : Nat) (h3 : Nat) (x4 : Int32) (x5 : Int32) (μ : MM) : Option (Int32 × MM) :=
  if (24 : Int32) ≤ x5 then (some (x4, μ)) else (if h3 = h2 then (some (x4, μ)) else (if mK μ h3 = 3 then if mK μ h0 = 4 then (fX3_at h0 (mI μ h3 10) μ).bind fun y4 => (fX3_part h0 y4.1 h3 y4.2).bind fun y6 => if x4 = 0 then (if mK μ y4.1 = 3 then (fX2_leave y4.1 10 y6).bind fun y12 => (fX3_goOn h0 y4.1 y4.1 y12).bind fun y14 => (fX3_endClose h0 y4.1 y14).bind fun y15 => kk63 h0 h2 y4.1 y15.1 (x5 + 1) y15.2 else none) else (if mK μ y4.1 = 3 then (fX2_leave y4.1 x4 y6).bind fun y8 => (fX3_goOn h0 y4.1 y4.1 y8).bind fun y10 => (fX3_endClose h0 y4.1 y10).bind fun y11 => kk63 h0 h2 y4.1 y11.1 (x5 + 1) y11.2 else none) else none else none))
def lX3_closeAll_63  : Nat → Nat → Nat → Nat → Int32 → Int32 → MM → Option (Int32 × MM)
  | 0, _, _, _, _, _, _ => none
  | n + 1, h0, h2, h3, x4, x5, μ => bX3_closeAll_63  (fun h0 h2 h3 x4 x5 μ => lX3_closeAll_63  n h0 h2 h3 x4 x5 μ) h0 h2 h3 x4 x5 μ
def fX3_closeAll (h0 : Nat) (x1 : Int32) (μ : MM) : Option (Int32 × MM) :=
  (fX3_at h0 x1 μ).bind fun y1 => if mK μ y1.1 = 3 then (fX2_isOver y1.1 y1.2).bind fun y2 => if y2.1 = 0 then (if (mI y2.2 y1.1 5) = 0 then ((fX2_end y1.1 3 0 y2.2).bind fun y12 => some (0, y12)) else ((fX3_beginCall h0 (-1) y2.2).bind fun y6 => (fX3_inmostOf h0 y1.1 y6).bind fun y7 => if mK μ y7.1 = 3 then (fX2_leave y7.1 10 y7.2).bind fun y8 => (fX3_goOn h0 y7.1 y7.1 y8).bind fun y10 => (fX3_endClose h0 y7.1 y10).bind fun y11 => lX3_closeAll_63  FU h0 y1.1 y7.1 y11.1 0 y11.2 else none)) else (some (0, y2.2)) else none
set_option maxRecDepth 100000 in
set_option maxHeartbeats 4000000 in
theorem knbX3_closeAll_63 (kk63 : Nat → Nat → Nat → Int32 → Int32 → MM → Option (Int32 × MM)) (hkk63 : ∀ (h0 : Nat) (h2 : Nat) (h3 : Nat) (x4 : Int32) (x5 : Int32) (μ : MM) (res : Int32 × MM), kk63 h0 h2 h3 x4 x5 μ = some res → mmKN μ res.2) : ∀ (h0 : Nat) (h2 : Nat) (h3 : Nat) (x4 : Int32) (x5 : Int32) (μ : MM) (res : Int32 × MM), bX3_closeAll_63 kk63 h0 h2 h3 x4 x5 μ = some res → mmKN μ res.2 := by
  intro h0 h2 h3 x4 x5 μ res hf
  have hK : mmKN μ μ := mmKN.rf
  unfold bX3_closeAll_63 at hf
  rcases it_or hf with ⟨c1, hf⟩ | ⟨c1, hf⟩
  · skip
    obtain rfl := Option.some.inj hf
    exact hK
  · skip
    rcases it_or hf with ⟨c2, hf⟩ | ⟨c2, hf⟩
    · skip
      obtain rfl := Option.some.inj hf
      exact hK
    · skip
      obtain ⟨g3, hf⟩ := gd hf
      obtain ⟨g5, hf⟩ := gd hf
      obtain ⟨y4, hy4, hf⟩ := bd hf
      have hK : mmKN μ y4.2 := hK.tr (kX3_at_kn hy4)
      obtain ⟨y6, hy6, hf⟩ := bd hf
      have hK : mmKN μ y6 := hK.tr (kX3_part_kn hy6)
      rcases it_or hf with ⟨c7, hf⟩ | ⟨c7, hf⟩
      · skip
        obtain ⟨g13, hf⟩ := gd hf
        obtain ⟨y12, hy12, hf⟩ := bd hf
        have hK : mmKN μ y12 := hK.tr (kX2_leave_kn hy12)
        obtain ⟨y14, hy14, hf⟩ := bd hf
        have hK : mmKN μ y14 := hK.tr (kX3_goOn_kn hy14)
        obtain ⟨y15, hy15, hf⟩ := bd hf
        have hK : mmKN μ y15.2 := hK.tr (kX3_endClose_kn hy15)
        exact hK.tr (hkk63 h0 h2 y4.1 y15.1 (x5 + 1) y15.2 _ hf)
      · skip
        obtain ⟨g9, hf⟩ := gd hf
        obtain ⟨y8, hy8, hf⟩ := bd hf
        have hK : mmKN μ y8 := hK.tr (kX2_leave_kn hy8)
        obtain ⟨y10, hy10, hf⟩ := bd hf
        have hK : mmKN μ y10 := hK.tr (kX3_goOn_kn hy10)
        obtain ⟨y11, hy11, hf⟩ := bd hf
        have hK : mmKN μ y11.2 := hK.tr (kX3_endClose_kn hy11)
        exact hK.tr (hkk63 h0 h2 y4.1 y11.1 (x5 + 1) y11.2 _ hf)
theorem knlX3_closeAll_63  : ∀ (n : Nat) (h0 : Nat) (h2 : Nat) (h3 : Nat) (x4 : Int32) (x5 : Int32) (μ : MM) (res : Int32 × MM), lX3_closeAll_63  n h0 h2 h3 x4 x5 μ = some res → mmKN μ res.2 := by
  intro n
  induction n with
  | zero => intro h0 h2 h3 x4 x5 μ res hf; cases hf
  | succ n ih => intro h0 h2 h3 x4 x5 μ res hf; exact knbX3_closeAll_63  _ ih h0 h2 h3 x4 x5 μ res hf
set_option maxRecDepth 100000 in
set_option maxHeartbeats 4000000 in
theorem kX3_closeAll_kn {μ : MM} {res : Int32 × MM} {h0 : Nat} {x1 : Int32} (hf : fX3_closeAll h0 x1 μ = some res) : mmKN μ res.2 := by
  have hK : mmKN μ μ := mmKN.rf
  unfold fX3_closeAll at hf
  obtain ⟨y1, hy1, hf⟩ := bd hf
  have hK : mmKN μ y1.2 := hK.tr (kX3_at_kn hy1)
  obtain ⟨g3, hf⟩ := gd hf
  obtain ⟨y2, hy2, hf⟩ := bd hf
  have hK : mmKN μ y2.2 := hK.tr (kX2_isOver_kn hy2)
  rcases it_or hf with ⟨c4, hf⟩ | ⟨c4, hf⟩
  · skip
    rcases it_or hf with ⟨c5, hf⟩ | ⟨c5, hf⟩
    · skip
      obtain ⟨y12, hy12, hf⟩ := bd hf
      have hK : mmKN μ y12 := hK.tr (kX2_end_kn hy12)
      obtain rfl := Option.some.inj hf
      exact hK
    · skip
      obtain ⟨y6, hy6, hf⟩ := bd hf
      have hK : mmKN μ y6 := hK.tr (kX3_beginCall_kn hy6)
      obtain ⟨y7, hy7, hf⟩ := bd hf
      have hK : mmKN μ y7.2 := hK.tr (kX3_inmostOf_kn hy7)
      obtain ⟨g9, hf⟩ := gd hf
      obtain ⟨y8, hy8, hf⟩ := bd hf
      have hK : mmKN μ y8 := hK.tr (kX2_leave_kn hy8)
      obtain ⟨y10, hy10, hf⟩ := bd hf
      have hK : mmKN μ y10 := hK.tr (kX3_goOn_kn hy10)
      obtain ⟨y11, hy11, hf⟩ := bd hf
      have hK : mmKN μ y11.2 := hK.tr (kX3_endClose_kn hy11)
      exact hK.tr (knlX3_closeAll_63  FU h0 y1.1 y7.1 y11.1 0 y11.2 _ hf)
  · skip
    obtain rfl := Option.some.inj hf
    exact hK
abbrev rmX3_closeAll : Room := { frames := 5, cells := 0, slots := 0, locals := 120 }
set_option maxRecDepth 100000 in
set_option maxHeartbeats 4000000 in
theorem wbX3_closeAll_63 {p : Program} {l : Launch} {e : Env} {s : State} {m : MethodId} {args : Array Value} {below : List Frame} {meth : Method} {c : Code} {G : mmG} {A : Nat → Prop} {res : Int32 × MM} (E0 : mmEnv p m c cX3_closeAll 7 s args RX3 G A meth (some (.int))) (kk63 : Nat → Nat → Nat → Int32 → Int32 → MM → Option (Int32 × MM)) (hkk63 : ∀ (h0 : Nat) (h2 : Nat) (h3 : Nat) (x4 : Int32) (x5 : Int32) (μ : MM), kk63 h0 h2 h3 x4 x5 μ = some res → mmGoal p l e rmX3_closeAll s m args below meth c G A 63 7 [(0, rf h0), (2, rf h2), (3, rf h3), (4, .int x4), (5, .int x5)] μ (mmQ G A res.2 (some (.int res.1)))) : ∀ (h0 : Nat) (h2 : Nat) (h3 : Nat) (x4 : Int32) (x5 : Int32) (μ : MM), bX3_closeAll_63 kk63 h0 h2 h3 x4 x5 μ = some res → mmGoal p l e rmX3_closeAll s m args below meth c G A 63 7 [(0, rf h0), (2, rf h2), (3, rf h3), (4, .int x4), (5, .int x5)] μ (mmQ G A res.2 (some (.int res.1))) := by
  obtain ⟨S, hA, hr, hlocks⟩ := id E0
  intro h0 h2 h3 x4 x5 μ hf H locs ls hR hS hl
  have hK : mmKN μ μ := mmKN.rf
  unfold bX3_closeAll_63 at hf
  refine lv_iload S.1 S.2.1 dX3_closeAll_63 (lv_at hl 4 rfl) ?_
  refine lv_bipush (v := 24) S.1 S.2.1 dX3_closeAll_65 (by decide) ?_
  refine lv_icmp_ge (tgt := 134) S.1 S.2.1 dX3_closeAll_67 (by decide) (fun c1 => ?_) (fun c1 => ?_)
  · have hf := it_t hf c1
    refine lv_iload S.1 S.2.1 dX3_closeAll_134 (lv_at hl 3 rfl) ?_
    obtain rfl := Option.some.inj hf
    exact mm_iret S hR hS hr hlocks dX3_closeAll_136
  · have hf := it_f hf c1
    refine mm_aload_n S dX3_closeAll_70 rfl (lv_at hl 2 rfl) ?_
    refine mm_aload_n S dX3_closeAll_71 rfl (lv_at hl 1 rfl) ?_
    refine mm_acmp_eq (tgt := 134) S dX3_closeAll_72 (by decide) (fun c2 => ?_) (fun c2 => ?_)
    · have hf := it_t hf c2
      refine lv_iload S.1 S.2.1 dX3_closeAll_134 (lv_at hl 3 rfl) ?_
      obtain rfl := Option.some.inj hf
      exact mm_iret S hR hS hr hlocks dX3_closeAll_136
    · have hf := it_f hf c2
      refine mm_aload_n S dX3_closeAll_75 rfl (lv_at hl 0 rfl) ?_
      refine mm_aload_n S dX3_closeAll_76 rfl (lv_at hl 2 rfl) ?_
      obtain ⟨g3, hf⟩ := gd hf
      refine mm_geti S hR fdX3_141 (hK.k g3) rfl dX3_closeAll_77 ?_
      obtain ⟨g5, hf⟩ := gd hf
      obtain ⟨y4, hy4, hf⟩ := bd hf
      refine mm_callVh S hR hS hA (As := [.int (mI μ h3 10)]) (rest := []) cvX3_55 (hK.k g5) (kX3_at_c l G A (hK.k g5) hy4) rfl rfl ⟨Nat.le_of_ble_eq_true rfl, Nat.le_of_ble_eq_true rfl⟩ rfl hl.1 rfl (lv_room (by simp [rf_cat, int_cat, long_cat])) dX3_closeAll_80 ⟨Nat.zero_le _, Nat.zero_le _⟩ (fun H locs hR hS => ?_)
      have hK : mmKN μ y4.2 := hK.tr (kX3_at_kn hy4)
      refine mm_astore (i := 6) (lv' := [(6, rf y4.1), (0, rf h0), (2, rf h2), (3, rf h3), (4, .int x4), (5, .int x5)]) S dX3_closeAll_83 hl (by decide) rfl (fun ls hl => ?_)
      refine mm_aload_n S dX3_closeAll_85 rfl (lv_at hl 1 rfl) ?_
      refine mm_aload S dX3_closeAll_86 (lv_at hl 0 rfl) ?_
      refine mm_aload_n S dX3_closeAll_88 rfl (lv_at hl 3 rfl) ?_
      obtain ⟨y6, hy6, hf⟩ := bd hf
      refine mm_callVv S hR hS hA (As := [rf y4.1, rf h3]) (rest := []) cvX3_144 (hK.k g5) (kX3_part_c l G A (hK.k g5) hy6) rfl rfl ⟨Nat.le_of_ble_eq_true rfl, Nat.le_of_ble_eq_true rfl⟩ rfl hl.1 rfl (lv_room (by simp [rf_cat, int_cat, long_cat])) dX3_closeAll_89 ⟨Nat.zero_le _, Nat.zero_le _⟩ (fun H locs hR hS => ?_)
      have hK : mmKN μ y6 := hK.tr (kX3_part_kn hy6)
      refine mm_aload S dX3_closeAll_92 (lv_at hl 0 rfl) ?_
      refine lv_iload S.1 S.2.1 dX3_closeAll_94 (lv_at hl 4 rfl) ?_
      refine lv_if_ne (tgt := 104) S.1 S.2.1 dX3_closeAll_96 (by decide) (fun c7 => ?_) (fun c7 => ?_)
      · have hf := it_f hf c7
        refine lv_iload S.1 S.2.1 dX3_closeAll_104 (lv_at hl 4 rfl) ?_
        obtain ⟨g9, hf⟩ := gd hf
        obtain ⟨y8, hy8, hf⟩ := bd hf
        refine mm_callVv S hR hS hA (As := [.int x4]) (rest := []) cvX3_131 (hK.k g9) (kX2_leave_c l G A (hK.k g9) hy8) rfl rfl ⟨Nat.le_of_ble_eq_true rfl, Nat.le_of_ble_eq_true rfl⟩ rfl hl.1 rfl (lv_room (by simp [rf_cat, int_cat, long_cat])) dX3_closeAll_106 ⟨Nat.zero_le _, Nat.zero_le _⟩ (fun H locs hR hS => ?_)
        have hK : mmKN μ y8 := hK.tr (kX2_leave_kn hy8)
        refine mm_aload_n S dX3_closeAll_109 rfl (lv_at hl 1 rfl) ?_
        refine mm_aload S dX3_closeAll_110 (lv_at hl 0 rfl) ?_
        refine mm_aload S dX3_closeAll_112 (lv_at hl 0 rfl) ?_
        obtain ⟨y10, hy10, hf⟩ := bd hf
        refine mm_callVv S hR hS hA (As := [rf y4.1, rf y4.1]) (rest := []) cvX3_123 (hK.k g5) (kX3_goOn_c l G A (hK.k g5) hy10) rfl rfl ⟨Nat.le_of_ble_eq_true rfl, Nat.le_of_ble_eq_true rfl⟩ rfl hl.1 rfl (lv_room (by simp [rf_cat, int_cat, long_cat])) dX3_closeAll_114 ⟨Nat.zero_le _, Nat.zero_le _⟩ (fun H locs hR hS => ?_)
        have hK : mmKN μ y10 := hK.tr (kX3_goOn_kn hy10)
        refine mm_aload_n S dX3_closeAll_117 rfl (lv_at hl 1 rfl) ?_
        refine mm_aload S dX3_closeAll_118 (lv_at hl 0 rfl) ?_
        obtain ⟨y11, hy11, hf⟩ := bd hf
        refine mm_callVi S hR hS hA (As := [rf y4.1]) (rest := []) cvX3_138 (hK.k g5) (kX3_endClose_c l G A (hK.k g5) hy11) rfl rfl ⟨Nat.le_of_ble_eq_true rfl, Nat.le_of_ble_eq_true rfl⟩ rfl hl.1 rfl (lv_room (by simp [rf_cat, int_cat, long_cat])) dX3_closeAll_120 ⟨Nat.zero_le _, Nat.zero_le _⟩ (fun H locs hR hS => ?_)
        have hK : mmKN μ y11.2 := hK.tr (kX3_endClose_kn hy11)
        refine lv_istore (i := 4) (lv' := [(4, .int y11.1), (6, rf y4.1), (0, rf h0), (2, rf h2), (3, rf h3), (5, .int x5)]) S.1 S.2.1 dX3_closeAll_123 hl (by decide) (by simp [rf_cat]) (fun ls hl => ?_)
        refine mm_aload S dX3_closeAll_125 (lv_at hl 1 rfl) ?_
        refine mm_astore_n (i := 3) (lv' := [(3, rf y4.1), (4, .int y11.1), (6, rf y4.1), (0, rf h0), (2, rf h2), (5, .int x5)]) S dX3_closeAll_127 rfl hl (by decide) (by simp [rf_cat]) (fun ls hl => ?_)
        refine lv_iinc (v := (x5 + 1)) (lv' := [(5, .int (x5 + 1)), (3, rf y4.1), (4, .int y11.1), (6, rf y4.1), (0, rf h0), (2, rf h2)]) S.1 S.2.1 dX3_closeAll_128 hl (k := 5) rfl (by rfl) (by decide) rfl (fun ls hl => ?_)
        refine lv_goto (tgt := 63) S.1 S.2.1 dX3_closeAll_131 (by decide) ?_
        exact hkk63 h0 h2 y4.1 y11.1 (x5 + 1) y11.2 hf _ _ _ hR hS (lv_sub hl [4, 5, 1, 2, 0] rfl)
      · have hf := it_t hf c7
        refine lv_bipush (v := 10) S.1 S.2.1 dX3_closeAll_99 (by decide) ?_
        refine lv_goto (tgt := 106) S.1 S.2.1 dX3_closeAll_101 (by decide) ?_
        obtain ⟨g13, hf⟩ := gd hf
        obtain ⟨y12, hy12, hf⟩ := bd hf
        refine mm_callVv S hR hS hA (As := [.int 10]) (rest := []) cvX3_131 (hK.k g13) (kX2_leave_c l G A (hK.k g13) hy12) rfl rfl ⟨Nat.le_of_ble_eq_true rfl, Nat.le_of_ble_eq_true rfl⟩ rfl hl.1 rfl (lv_room (by simp [rf_cat, int_cat, long_cat])) dX3_closeAll_106 ⟨Nat.zero_le _, Nat.zero_le _⟩ (fun H locs hR hS => ?_)
        have hK : mmKN μ y12 := hK.tr (kX2_leave_kn hy12)
        refine mm_aload_n S dX3_closeAll_109 rfl (lv_at hl 1 rfl) ?_
        refine mm_aload S dX3_closeAll_110 (lv_at hl 0 rfl) ?_
        refine mm_aload S dX3_closeAll_112 (lv_at hl 0 rfl) ?_
        obtain ⟨y14, hy14, hf⟩ := bd hf
        refine mm_callVv S hR hS hA (As := [rf y4.1, rf y4.1]) (rest := []) cvX3_123 (hK.k g5) (kX3_goOn_c l G A (hK.k g5) hy14) rfl rfl ⟨Nat.le_of_ble_eq_true rfl, Nat.le_of_ble_eq_true rfl⟩ rfl hl.1 rfl (lv_room (by simp [rf_cat, int_cat, long_cat])) dX3_closeAll_114 ⟨Nat.zero_le _, Nat.zero_le _⟩ (fun H locs hR hS => ?_)
        have hK : mmKN μ y14 := hK.tr (kX3_goOn_kn hy14)
        refine mm_aload_n S dX3_closeAll_117 rfl (lv_at hl 1 rfl) ?_
        refine mm_aload S dX3_closeAll_118 (lv_at hl 0 rfl) ?_
        obtain ⟨y15, hy15, hf⟩ := bd hf
        refine mm_callVi S hR hS hA (As := [rf y4.1]) (rest := []) cvX3_138 (hK.k g5) (kX3_endClose_c l G A (hK.k g5) hy15) rfl rfl ⟨Nat.le_of_ble_eq_true rfl, Nat.le_of_ble_eq_true rfl⟩ rfl hl.1 rfl (lv_room (by simp [rf_cat, int_cat, long_cat])) dX3_closeAll_120 ⟨Nat.zero_le _, Nat.zero_le _⟩ (fun H locs hR hS => ?_)
        have hK : mmKN μ y15.2 := hK.tr (kX3_endClose_kn hy15)
        refine lv_istore (i := 4) (lv' := [(4, .int y15.1), (6, rf y4.1), (0, rf h0), (2, rf h2), (3, rf h3), (5, .int x5)]) S.1 S.2.1 dX3_closeAll_123 hl (by decide) (by simp [rf_cat]) (fun ls hl => ?_)
        refine mm_aload S dX3_closeAll_125 (lv_at hl 1 rfl) ?_
        refine mm_astore_n (i := 3) (lv' := [(3, rf y4.1), (4, .int y15.1), (6, rf y4.1), (0, rf h0), (2, rf h2), (5, .int x5)]) S dX3_closeAll_127 rfl hl (by decide) (by simp [rf_cat]) (fun ls hl => ?_)
        refine lv_iinc (v := (x5 + 1)) (lv' := [(5, .int (x5 + 1)), (3, rf y4.1), (4, .int y15.1), (6, rf y4.1), (0, rf h0), (2, rf h2)]) S.1 S.2.1 dX3_closeAll_128 hl (k := 5) rfl (by rfl) (by decide) rfl (fun ls hl => ?_)
        refine lv_goto (tgt := 63) S.1 S.2.1 dX3_closeAll_131 (by decide) ?_
        exact hkk63 h0 h2 y4.1 y15.1 (x5 + 1) y15.2 hf _ _ _ hR hS (lv_sub hl [4, 5, 1, 2, 0] rfl)
theorem wlX3_closeAll_63 {p : Program} {l : Launch} {e : Env} {s : State} {m : MethodId} {args : Array Value} {below : List Frame} {meth : Method} {c : Code} {G : mmG} {A : Nat → Prop} {res : Int32 × MM} (E0 : mmEnv p m c cX3_closeAll 7 s args RX3 G A meth (some (.int)))  : ∀ (n : Nat) (h0 : Nat) (h2 : Nat) (h3 : Nat) (x4 : Int32) (x5 : Int32) (μ : MM), lX3_closeAll_63  n h0 h2 h3 x4 x5 μ = some res → mmGoal p l e rmX3_closeAll s m args below meth c G A 63 7 [(0, rf h0), (2, rf h2), (3, rf h3), (4, .int x4), (5, .int x5)] μ (mmQ G A res.2 (some (.int res.1))) := by
  intro n
  induction n with
  | zero => intro h0 h2 h3 x4 x5 μ hf; cases hf
  | succ n ih => intro h0 h2 h3 x4 x5 μ hf; exact wbX3_closeAll_63 E0  _ ih h0 h2 h3 x4 x5 μ hf
set_option maxRecDepth 100000 in
set_option maxHeartbeats 4000000 in
theorem kX3_closeAll_c (l : Launch) (G : mmG) (A : Nat → Prop) {μ : MM} {res : Int32 × MM} {h0 : Nat} {x1 : Int32} (hk0 : mK μ h0 = 4) (hf : fX3_closeAll h0 x1 μ = some res) : Met l yX3_closeAll [.code yX3_closeAll cX3_closeAll 7 (some (.int))] rmX3_closeAll (mmPc G A μ [rf h0, .int x1]) (mmQ G A res.2 (some (.int res.1))) 0 0 A := by
  refine mm_ofW (by decide +kernel) (by simp [lg_sl, rf_cat, int_cat]) ?_
  intro p e s m below meth c ls S hR hA hS hr hlocks hl hnm
  have hl : lv_has ls 7 [(0, rf h0), (1, .int x1)] := by simpa [lv_args, rf_cat, int_cat] using hl
  have E0 : mmEnv p m c cX3_closeAll 7 s _ RX3 G A meth (some (.int)) := ⟨S, hA, hr, hlocks⟩
  have hK : mmKN μ μ := mmKN.rf
  unfold fX3_closeAll at hf
  refine mm_aload_n S dX3_closeAll_0 rfl (lv_at hl 0 rfl) ?_
  refine lv_iload_n S.1 S.2.1 dX3_closeAll_1 rfl (lv_at hl 1 rfl) ?_
  obtain ⟨y1, hy1, hf⟩ := bd hf
  refine mm_callVh S hR hS hA (As := [.int x1]) (rest := []) cvX3_55 (hK.k hk0) (kX3_at_c l G A (hK.k hk0) hy1) rfl rfl ⟨Nat.le_of_ble_eq_true rfl, Nat.le_of_ble_eq_true rfl⟩ rfl hl.1 rfl (lv_room (by simp [rf_cat, int_cat, long_cat])) dX3_closeAll_2 ⟨Nat.zero_le _, Nat.zero_le _⟩ (fun H locs hR hS => ?_)
  have hK : mmKN μ y1.2 := hK.tr (kX3_at_kn hy1)
  refine mm_astore_n (i := 2) (lv' := [(2, rf y1.1), (0, rf h0), (1, .int x1)]) S dX3_closeAll_5 rfl hl (by decide) rfl (fun ls hl => ?_)
  refine mm_aload_n S dX3_closeAll_6 rfl (lv_at hl 0 rfl) ?_
  obtain ⟨g3, hf⟩ := gd hf
  obtain ⟨y2, hy2, hf⟩ := bd hf
  refine mm_callVi S hR hS hA (As := []) (rest := []) cvX3_71 (hK.k g3) (kX2_isOver_c l G A (hK.k g3) hy2) rfl rfl ⟨Nat.le_of_ble_eq_true rfl, Nat.le_of_ble_eq_true rfl⟩ rfl hl.1 rfl (lv_room (by simp [rf_cat, int_cat, long_cat])) dX3_closeAll_7 ⟨Nat.zero_le _, Nat.zero_le _⟩ (fun H locs hR hS => ?_)
  have hK : mmKN μ y2.2 := hK.tr (kX2_isOver_kn hy2)
  refine lv_if_eq (tgt := 15) S.1 S.2.1 dX3_closeAll_10 (by decide) (fun c4 => ?_) (fun c4 => ?_)
  · have hf := it_t hf c4
    refine mm_aload_n S dX3_closeAll_15 rfl (lv_at hl 0 rfl) ?_
    refine mm_geti S hR fdX3_68 (hK.k g3) rfl dX3_closeAll_16 ?_
    refine lv_if_ne (tgt := 30) S.1 S.2.1 dX3_closeAll_19 (by decide) (fun c5 => ?_) (fun c5 => ?_)
    · have hf := it_f hf c5
      refine mm_aload_n S dX3_closeAll_30 rfl (lv_at hl 1 rfl) ?_
      refine lv_iconst (v := (-1)) S.1 S.2.1 dX3_closeAll_31 (by decide) ?_
      obtain ⟨y6, hy6, hf⟩ := bd hf
      refine mm_callVv S hR hS hA (As := [.int (-1)]) (rest := []) cvX3_111 (hK.k hk0) (kX3_beginCall_c l G A (hK.k hk0) hy6) rfl rfl ⟨Nat.le_of_ble_eq_true rfl, Nat.le_of_ble_eq_true rfl⟩ rfl hl.1 rfl (lv_room (by simp [rf_cat, int_cat, long_cat])) dX3_closeAll_32 ⟨Nat.zero_le _, Nat.zero_le _⟩ (fun H locs hR hS => ?_)
      have hK : mmKN μ y6 := hK.tr (kX3_beginCall_kn hy6)
      refine mm_aload_n S dX3_closeAll_35 rfl (lv_at hl 1 rfl) ?_
      refine mm_aload_n S dX3_closeAll_36 rfl (lv_at hl 0 rfl) ?_
      obtain ⟨y7, hy7, hf⟩ := bd hf
      refine mm_callVh S hR hS hA (As := [rf y1.1]) (rest := []) cvX3_107 (hK.k hk0) (kX3_inmostOf_c l G A (hK.k hk0) hy7) rfl rfl ⟨Nat.le_of_ble_eq_true rfl, Nat.le_of_ble_eq_true rfl⟩ rfl hl.1 rfl (lv_room (by simp [rf_cat, int_cat, long_cat])) dX3_closeAll_37 ⟨Nat.zero_le _, Nat.zero_le _⟩ (fun H locs hR hS => ?_)
      have hK : mmKN μ y7.2 := hK.tr (kX3_inmostOf_kn hy7)
      refine mm_astore_n (i := 3) (lv' := [(3, rf y7.1), (2, rf y1.1), (0, rf h0), (1, .int x1)]) S dX3_closeAll_40 rfl hl (by decide) (by simp [rf_cat]) (fun ls hl => ?_)
      refine mm_aload_n S dX3_closeAll_41 rfl (lv_at hl 0 rfl) ?_
      refine lv_bipush (v := 10) S.1 S.2.1 dX3_closeAll_42 (by decide) ?_
      obtain ⟨g9, hf⟩ := gd hf
      obtain ⟨y8, hy8, hf⟩ := bd hf
      refine mm_callVv S hR hS hA (As := [.int 10]) (rest := []) cvX3_131 (hK.k g9) (kX2_leave_c l G A (hK.k g9) hy8) rfl rfl ⟨Nat.le_of_ble_eq_true rfl, Nat.le_of_ble_eq_true rfl⟩ rfl hl.1 rfl (lv_room (by simp [rf_cat, int_cat, long_cat])) dX3_closeAll_44 ⟨Nat.zero_le _, Nat.zero_le _⟩ (fun H locs hR hS => ?_)
      have hK : mmKN μ y8 := hK.tr (kX2_leave_kn hy8)
      refine mm_aload_n S dX3_closeAll_47 rfl (lv_at hl 2 rfl) ?_
      refine mm_aload_n S dX3_closeAll_48 rfl (lv_at hl 0 rfl) ?_
      refine mm_aload_n S dX3_closeAll_49 rfl (lv_at hl 0 rfl) ?_
      obtain ⟨y10, hy10, hf⟩ := bd hf
      refine mm_callVv S hR hS hA (As := [rf y7.1, rf y7.1]) (rest := []) cvX3_123 (hK.k hk0) (kX3_goOn_c l G A (hK.k hk0) hy10) rfl rfl ⟨Nat.le_of_ble_eq_true rfl, Nat.le_of_ble_eq_true rfl⟩ rfl hl.1 rfl (lv_room (by simp [rf_cat, int_cat, long_cat])) dX3_closeAll_50 ⟨Nat.zero_le _, Nat.zero_le _⟩ (fun H locs hR hS => ?_)
      have hK : mmKN μ y10 := hK.tr (kX3_goOn_kn hy10)
      refine mm_aload_n S dX3_closeAll_53 rfl (lv_at hl 2 rfl) ?_
      refine mm_aload_n S dX3_closeAll_54 rfl (lv_at hl 0 rfl) ?_
      obtain ⟨y11, hy11, hf⟩ := bd hf
      refine mm_callVi S hR hS hA (As := [rf y7.1]) (rest := []) cvX3_138 (hK.k hk0) (kX3_endClose_c l G A (hK.k hk0) hy11) rfl rfl ⟨Nat.le_of_ble_eq_true rfl, Nat.le_of_ble_eq_true rfl⟩ rfl hl.1 rfl (lv_room (by simp [rf_cat, int_cat, long_cat])) dX3_closeAll_55 ⟨Nat.zero_le _, Nat.zero_le _⟩ (fun H locs hR hS => ?_)
      have hK : mmKN μ y11.2 := hK.tr (kX3_endClose_kn hy11)
      refine lv_istore (i := 4) (lv' := [(4, .int y11.1), (3, rf y7.1), (2, rf y1.1), (0, rf h0), (1, .int x1)]) S.1 S.2.1 dX3_closeAll_58 hl (by decide) (by simp [rf_cat]) (fun ls hl => ?_)
      refine lv_iconst (v := 0) S.1 S.2.1 dX3_closeAll_60 (by decide) ?_
      refine lv_istore (i := 5) (lv' := [(5, .int 0), (4, .int y11.1), (3, rf y7.1), (2, rf y1.1), (0, rf h0), (1, .int x1)]) S.1 S.2.1 dX3_closeAll_61 hl (by decide) rfl (fun ls hl => ?_)
      exact wlX3_closeAll_63 E0  FU h0 y1.1 y7.1 y11.1 0 y11.2 hf _ _ _ hR hS (lv_sub hl [4, 3, 2, 1, 0] rfl)
    · have hf := it_t hf c5
      refine mm_aload_n S dX3_closeAll_22 rfl (lv_at hl 0 rfl) ?_
      refine lv_iconst (v := 3) S.1 S.2.1 dX3_closeAll_23 (by decide) ?_
      refine lv_iconst (v := 0) S.1 S.2.1 dX3_closeAll_24 (by decide) ?_
      obtain ⟨y12, hy12, hf⟩ := bd hf
      refine mm_callVv S hR hS hA (As := [.int 3, .int 0]) (rest := []) cvX3_134 (hK.k g3) (kX2_end_c l G A (hK.k g3) hy12) rfl rfl ⟨Nat.le_of_ble_eq_true rfl, Nat.le_of_ble_eq_true rfl⟩ rfl hl.1 rfl (lv_room (by simp [rf_cat, int_cat, long_cat])) dX3_closeAll_25 ⟨Nat.zero_le _, Nat.zero_le _⟩ (fun H locs hR hS => ?_)
      have hK : mmKN μ y12 := hK.tr (kX2_end_kn hy12)
      refine lv_iconst (v := 0) S.1 S.2.1 dX3_closeAll_28 (by decide) ?_
      obtain rfl := Option.some.inj hf
      exact mm_iret S hR hS hr hlocks dX3_closeAll_29
  · have hf := it_f hf c4
    refine lv_iconst (v := 0) S.1 S.2.1 dX3_closeAll_13 (by decide) ?_
    obtain rfl := Option.some.inj hf
    exact mm_iret S hR hS hr hlocks dX3_closeAll_14
-- X3_askToCancel
def bX3_askToCancel_56  (h0 : Nat) (x1 : Int32) (h2 : Nat) (x3 : Int32) (μ : MM) : Option (Int32 × MM) :=
  if mK μ h0 = 4 then if mK μ (mP μ h0 4) = 5 then (fX4_placeOf (mP μ h0 4) x1 μ).bind fun y2 => (fX4_removeAt (mP μ h0 4) y2.1 y2.2).bind fun y4 => if mK μ h2 = 3 then st (sI y4 h2 12 (-1)) fun μ6 => st (sI μ6 h2 13 (-1)) fun μ7 => if mK μ (mP μ7 h0 3) = 5 then (fX4_add (mP μ7 h0 3) x1 μ7).bind fun y8 => if x3 = 0 ∨ x3 = 1 then some (x3, y8) else none else none else none else none else none
def fX3_askToCancel (h0 : Nat) (x1 : Int32) (μ : MM) : Option (Int32 × MM) :=
  (fX3_at h0 x1 μ).bind fun y1 => if mK μ y1.1 = 3 then (fX2_isOver y1.1 y1.2).bind fun y2 => if y2.1 = 0 then (if (mI y2.2 y1.1 15) = 0 then (st (sI y2.2 y1.1 15 1) fun μ10 => if (mI μ10 y1.1 14) = 0 then (if (mI μ10 y1.1 12) = ((-1) : Int32) then (if (mI μ10 y1.1 13) = ((-1) : Int32) then (some (1, μ10)) else (bX3_askToCancel_56  h0 x1 y1.1 1 μ10)) else (bX3_askToCancel_56  h0 x1 y1.1 1 μ10)) else (some (1, μ10))) else (st (sI y2.2 y1.1 15 1) fun μ6 => if (mI μ6 y1.1 14) = 0 then (if (mI μ6 y1.1 12) = ((-1) : Int32) then (if (mI μ6 y1.1 13) = ((-1) : Int32) then (some (0, μ6)) else (bX3_askToCancel_56  h0 x1 y1.1 0 μ6)) else (bX3_askToCancel_56  h0 x1 y1.1 0 μ6)) else (some (0, μ6)))) else (some (0, y2.2)) else none
set_option maxRecDepth 100000 in
set_option maxHeartbeats 4000000 in
theorem knbX3_askToCancel_56  : ∀ (h0 : Nat) (x1 : Int32) (h2 : Nat) (x3 : Int32) (μ : MM) (res : Int32 × MM), bX3_askToCancel_56  h0 x1 h2 x3 μ = some res → mmKN μ res.2 := by
  intro h0 x1 h2 x3 μ res hf
  have hK : mmKN μ μ := mmKN.rf
  unfold bX3_askToCancel_56 at hf
  obtain ⟨g1, hf⟩ := gd hf
  obtain ⟨g3, hf⟩ := gd hf
  obtain ⟨y2, hy2, hf⟩ := bd hf
  have hK : mmKN μ y2.2 := hK.tr (kX4_placeOf_kn hy2)
  obtain ⟨y4, hy4, hf⟩ := bd hf
  have hK : mmKN μ y4 := hK.tr (kX4_removeAt_kn hy4)
  obtain ⟨g5, hf⟩ := gd hf
  obtain ⟨μ6, e6, hf⟩ := stx hf
  have hK : mmKN μ μ6 := by rw [e6]; exact hK.sI
  obtain ⟨μ7, e7, hf⟩ := stx hf
  have hK : mmKN μ μ7 := by rw [e7]; exact hK.sI
  obtain ⟨g9, hf⟩ := gd hf
  obtain ⟨y8, hy8, hf⟩ := bd hf
  have hK : mmKN μ y8 := hK.tr (kX4_add_kn hy8)
  obtain ⟨g10, hf⟩ := gd hf
  obtain rfl := Option.some.inj hf
  exact hK
set_option maxRecDepth 100000 in
set_option maxHeartbeats 4000000 in
theorem kX3_askToCancel_kn {μ : MM} {res : Int32 × MM} {h0 : Nat} {x1 : Int32} (hf : fX3_askToCancel h0 x1 μ = some res) : mmKN μ res.2 := by
  have hK : mmKN μ μ := mmKN.rf
  unfold fX3_askToCancel at hf
  obtain ⟨y1, hy1, hf⟩ := bd hf
  have hK : mmKN μ y1.2 := hK.tr (kX3_at_kn hy1)
  obtain ⟨g3, hf⟩ := gd hf
  obtain ⟨y2, hy2, hf⟩ := bd hf
  have hK : mmKN μ y2.2 := hK.tr (kX2_isOver_kn hy2)
  rcases it_or hf with ⟨c4, hf⟩ | ⟨c4, hf⟩
  · skip
    rcases it_or hf with ⟨c5, hf⟩ | ⟨c5, hf⟩
    · skip
      obtain ⟨μ10, e10, hf⟩ := stx hf
      have hK : mmKN μ μ10 := by rw [e10]; exact hK.sI
      rcases it_or hf with ⟨c11, hf⟩ | ⟨c11, hf⟩
      · skip
        rcases it_or hf with ⟨c12, hf⟩ | ⟨c12, hf⟩
        · skip
          rcases it_or hf with ⟨c13, hf⟩ | ⟨c13, hf⟩
          · skip
            obtain rfl := Option.some.inj hf
            exact hK
          · skip
            exact hK.tr (knbX3_askToCancel_56  h0 x1 y1.1 1 μ10 _ hf)
        · skip
          exact hK.tr (knbX3_askToCancel_56  h0 x1 y1.1 1 μ10 _ hf)
      · skip
        obtain rfl := Option.some.inj hf
        exact hK
    · skip
      obtain ⟨μ6, e6, hf⟩ := stx hf
      have hK : mmKN μ μ6 := by rw [e6]; exact hK.sI
      rcases it_or hf with ⟨c7, hf⟩ | ⟨c7, hf⟩
      · skip
        rcases it_or hf with ⟨c8, hf⟩ | ⟨c8, hf⟩
        · skip
          rcases it_or hf with ⟨c9, hf⟩ | ⟨c9, hf⟩
          · skip
            obtain rfl := Option.some.inj hf
            exact hK
          · skip
            exact hK.tr (knbX3_askToCancel_56  h0 x1 y1.1 0 μ6 _ hf)
        · skip
          exact hK.tr (knbX3_askToCancel_56  h0 x1 y1.1 0 μ6 _ hf)
      · skip
        obtain rfl := Option.some.inj hf
        exact hK
  · skip
    obtain rfl := Option.some.inj hf
    exact hK
abbrev rmX3_askToCancel : Room := { frames := 2, cells := 0, slots := 0, locals := 43 }
set_option maxRecDepth 100000 in
set_option maxHeartbeats 4000000 in
theorem wbX3_askToCancel_56 {p : Program} {l : Launch} {e : Env} {s : State} {m : MethodId} {args : Array Value} {below : List Frame} {meth : Method} {c : Code} {G : mmG} {A : Nat → Prop} {res : Int32 × MM} (E0 : mmEnv p m c cX3_askToCancel 4 s args RX3 G A meth (some (.boolean)))  : ∀ (h0 : Nat) (x1 : Int32) (h2 : Nat) (x3 : Int32) (μ : MM), bX3_askToCancel_56  h0 x1 h2 x3 μ = some res → mmGoal p l e rmX3_askToCancel s m args below meth c G A 56 4 [(0, rf h0), (1, .int x1), (2, rf h2), (3, .int x3)] μ (mmQ G A res.2 (some (.int res.1))) := by
  obtain ⟨S, hA, hr, hlocks⟩ := id E0
  intro h0 x1 h2 x3 μ hf H locs ls hR hS hl
  have hK : mmKN μ μ := mmKN.rf
  unfold bX3_askToCancel_56 at hf
  refine mm_aload_n S dX3_askToCancel_56 rfl (lv_at hl 0 rfl) ?_
  obtain ⟨g1, hf⟩ := gd hf
  refine mm_getp S hR fdX3_31 (hK.k g1) rfl dX3_askToCancel_57 ?_
  refine mm_aload_n S dX3_askToCancel_60 rfl (lv_at hl 0 rfl) ?_
  refine mm_getp S hR fdX3_31 (hK.k g1) rfl dX3_askToCancel_61 ?_
  refine lv_iload_n S.1 S.2.1 dX3_askToCancel_64 rfl (lv_at hl 1 rfl) ?_
  obtain ⟨g3, hf⟩ := gd hf
  obtain ⟨y2, hy2, hf⟩ := bd hf
  refine mm_callVi S hR hS hA (As := [.int x1]) (rest := [rf (mP μ h0 4)]) cvX3_199 (hK.k g3) (kX4_placeOf_c l G A (hK.k g3) hy2) rfl rfl ⟨Nat.le_of_ble_eq_true rfl, Nat.le_of_ble_eq_true rfl⟩ rfl hl.1 rfl (lv_room (by simp [rf_cat, int_cat, long_cat])) dX3_askToCancel_65 ⟨Nat.zero_le _, Nat.zero_le _⟩ (fun H locs hR hS => ?_)
  have hK : mmKN μ y2.2 := hK.tr (kX4_placeOf_kn hy2)
  obtain ⟨y4, hy4, hf⟩ := bd hf
  refine mm_callVv S hR hS hA (As := [.int y2.1]) (rest := []) cvX3_147 (hK.k g3) (kX4_removeAt_c l G A (hK.k g3) hy4) rfl rfl ⟨Nat.le_of_ble_eq_true rfl, Nat.le_of_ble_eq_true rfl⟩ rfl hl.1 rfl (lv_room (by simp [rf_cat, int_cat, long_cat])) dX3_askToCancel_68 ⟨Nat.zero_le _, Nat.zero_le _⟩ (fun H locs hR hS => ?_)
  have hK : mmKN μ y4 := hK.tr (kX4_removeAt_kn hy4)
  refine mm_aload_n S dX3_askToCancel_71 rfl (lv_at hl 2 rfl) ?_
  refine lv_iconst (v := (-1)) S.1 S.2.1 dX3_askToCancel_72 (by decide) ?_
  obtain ⟨g5, hf⟩ := gd hf
  refine mm_puti S hR hS fpX3_196 (hK.k g5) rfl rfl rfl dX3_askToCancel_73 (fun H locs hR hS => ?_)
  obtain ⟨μ6, e6, hf⟩ := stx hf
  rw [← e6] at hR
  have hK : mmKN μ μ6 := by rw [e6]; exact hK.sI
  refine mm_aload_n S dX3_askToCancel_76 rfl (lv_at hl 2 rfl) ?_
  refine lv_iconst (v := (-1)) S.1 S.2.1 dX3_askToCancel_77 (by decide) ?_
  refine mm_puti S hR hS fpX3_82 (hK.k g5) rfl rfl rfl dX3_askToCancel_78 (fun H locs hR hS => ?_)
  obtain ⟨μ7, e7, hf⟩ := stx hf
  rw [← e7] at hR
  have hK : mmKN μ μ7 := by rw [e7]; exact hK.sI
  refine mm_aload_n S dX3_askToCancel_81 rfl (lv_at hl 0 rfl) ?_
  refine mm_getp S hR fdX3_27 (hK.k g1) rfl dX3_askToCancel_82 ?_
  refine lv_iload_n S.1 S.2.1 dX3_askToCancel_85 rfl (lv_at hl 1 rfl) ?_
  obtain ⟨g9, hf⟩ := gd hf
  obtain ⟨y8, hy8, hf⟩ := bd hf
  refine mm_callVv S hR hS hA (As := [.int x1]) (rest := []) cvX3_104 (hK.k g9) (kX4_add_c l G A (hK.k g9) hy8) rfl rfl ⟨Nat.le_of_ble_eq_true rfl, Nat.le_of_ble_eq_true rfl⟩ rfl hl.1 rfl (lv_room (by simp [rf_cat, int_cat, long_cat])) dX3_askToCancel_86 ⟨Nat.zero_le _, Nat.zero_le _⟩ (fun H locs hR hS => ?_)
  have hK : mmKN μ y8 := hK.tr (kX4_add_kn hy8)
  refine lv_iload_n S.1 S.2.1 dX3_askToCancel_89 rfl (lv_at hl 3 rfl) ?_
  obtain ⟨g10, hf⟩ := gd hf
  obtain rfl := Option.some.inj hf
  exact mm_zret S hR hS hr hlocks g10 dX3_askToCancel_90
set_option maxRecDepth 100000 in
set_option maxHeartbeats 4000000 in
theorem kX3_askToCancel_c (l : Launch) (G : mmG) (A : Nat → Prop) {μ : MM} {res : Int32 × MM} {h0 : Nat} {x1 : Int32} (hk0 : mK μ h0 = 4) (hf : fX3_askToCancel h0 x1 μ = some res) : Met l yX3_askToCancel [.code yX3_askToCancel cX3_askToCancel 4 (some (.boolean))] rmX3_askToCancel (mmPc G A μ [rf h0, .int x1]) (mmQ G A res.2 (some (.int res.1))) 0 0 A := by
  refine mm_ofW (by decide +kernel) (by simp [lg_sl, rf_cat, int_cat]) ?_
  intro p e s m below meth c ls S hR hA hS hr hlocks hl hnm
  have hl : lv_has ls 4 [(0, rf h0), (1, .int x1)] := by simpa [lv_args, rf_cat, int_cat] using hl
  have E0 : mmEnv p m c cX3_askToCancel 4 s _ RX3 G A meth (some (.boolean)) := ⟨S, hA, hr, hlocks⟩
  have hK : mmKN μ μ := mmKN.rf
  unfold fX3_askToCancel at hf
  refine mm_aload_n S dX3_askToCancel_0 rfl (lv_at hl 0 rfl) ?_
  refine lv_iload_n S.1 S.2.1 dX3_askToCancel_1 rfl (lv_at hl 1 rfl) ?_
  obtain ⟨y1, hy1, hf⟩ := bd hf
  refine mm_callVh S hR hS hA (As := [.int x1]) (rest := []) cvX3_55 (hK.k hk0) (kX3_at_c l G A (hK.k hk0) hy1) rfl rfl ⟨Nat.le_of_ble_eq_true rfl, Nat.le_of_ble_eq_true rfl⟩ rfl hl.1 rfl (lv_room (by simp [rf_cat, int_cat, long_cat])) dX3_askToCancel_2 ⟨Nat.zero_le _, Nat.zero_le _⟩ (fun H locs hR hS => ?_)
  have hK : mmKN μ y1.2 := hK.tr (kX3_at_kn hy1)
  refine mm_astore_n (i := 2) (lv' := [(2, rf y1.1), (0, rf h0), (1, .int x1)]) S dX3_askToCancel_5 rfl hl (by decide) rfl (fun ls hl => ?_)
  refine mm_aload_n S dX3_askToCancel_6 rfl (lv_at hl 0 rfl) ?_
  obtain ⟨g3, hf⟩ := gd hf
  obtain ⟨y2, hy2, hf⟩ := bd hf
  refine mm_callVi S hR hS hA (As := []) (rest := []) cvX3_71 (hK.k g3) (kX2_isOver_c l G A (hK.k g3) hy2) rfl rfl ⟨Nat.le_of_ble_eq_true rfl, Nat.le_of_ble_eq_true rfl⟩ rfl hl.1 rfl (lv_room (by simp [rf_cat, int_cat, long_cat])) dX3_askToCancel_7 ⟨Nat.zero_le _, Nat.zero_le _⟩ (fun H locs hR hS => ?_)
  have hK : mmKN μ y2.2 := hK.tr (kX2_isOver_kn hy2)
  refine lv_if_eq (tgt := 15) S.1 S.2.1 dX3_askToCancel_10 (by decide) (fun c4 => ?_) (fun c4 => ?_)
  · have hf := it_t hf c4
    refine mm_aload_n S dX3_askToCancel_15 rfl (lv_at hl 0 rfl) ?_
    refine mm_geti S hR fdX3_189 (hK.k g3) rfl dX3_askToCancel_16 ?_
    refine lv_if_ne (tgt := 26) S.1 S.2.1 dX3_askToCancel_19 (by decide) (fun c5 => ?_) (fun c5 => ?_)
    · have hf := it_f hf c5
      refine lv_iconst (v := 0) S.1 S.2.1 dX3_askToCancel_26 (by decide) ?_
      refine lv_istore_n (i := 3) (lv' := [(3, .int 0), (2, rf y1.1), (0, rf h0), (1, .int x1)]) S.1 S.2.1 dX3_askToCancel_27 rfl hl (by decide) (by simp [rf_cat]) (fun ls hl => ?_)
      refine mm_aload_n S dX3_askToCancel_28 rfl (lv_at hl 1 rfl) ?_
      refine lv_iconst (v := 1) S.1 S.2.1 dX3_askToCancel_29 (by decide) ?_
      refine mm_puti S hR hS fpX3_189 (hK.k g3) rfl rfl rfl dX3_askToCancel_30 (fun H locs hR hS => ?_)
      obtain ⟨μ6, e6, hf⟩ := stx hf
      rw [← e6] at hR
      have hK : mmKN μ μ6 := by rw [e6]; exact hK.sI
      refine mm_aload_n S dX3_askToCancel_33 rfl (lv_at hl 1 rfl) ?_
      refine mm_geti S hR fdX3_193 (hK.k g3) rfl dX3_askToCancel_34 ?_
      refine lv_if_ne (tgt := 89) S.1 S.2.1 dX3_askToCancel_37 (by decide) (fun c7 => ?_) (fun c7 => ?_)
      · have hf := it_f hf c7
        refine lv_iload_n S.1 S.2.1 dX3_askToCancel_89 rfl (lv_at hl 0 rfl) ?_
        obtain rfl := Option.some.inj hf
        exact mm_zret S hR hS hr hlocks (Or.inl rfl) dX3_askToCancel_90
      · have hf := it_t hf c7
        refine mm_aload_n S dX3_askToCancel_40 rfl (lv_at hl 1 rfl) ?_
        refine mm_geti S hR fdX3_196 (hK.k g3) rfl dX3_askToCancel_41 ?_
        refine lv_iconst (v := (-1)) S.1 S.2.1 dX3_askToCancel_44 (by decide) ?_
        refine lv_icmp_ne (tgt := 56) S.1 S.2.1 dX3_askToCancel_45 (by decide) (fun c8 => ?_) (fun c8 => ?_)
        · have hf := it_f hf c8
          exact wbX3_askToCancel_56 E0  h0 x1 y1.1 0 μ6 hf _ _ _ hR hS (lv_sub hl [2, 3, 1, 0] rfl)
        · have hf := it_t hf c8
          refine mm_aload_n S dX3_askToCancel_48 rfl (lv_at hl 1 rfl) ?_
          refine mm_geti S hR fdX3_82 (hK.k g3) rfl dX3_askToCancel_49 ?_
          refine lv_iconst (v := (-1)) S.1 S.2.1 dX3_askToCancel_52 (by decide) ?_
          refine lv_icmp_eq (tgt := 89) S.1 S.2.1 dX3_askToCancel_53 (by decide) (fun c9 => ?_) (fun c9 => ?_)
          · have hf := it_t hf c9
            refine lv_iload_n S.1 S.2.1 dX3_askToCancel_89 rfl (lv_at hl 0 rfl) ?_
            obtain rfl := Option.some.inj hf
            exact mm_zret S hR hS hr hlocks (Or.inl rfl) dX3_askToCancel_90
          · have hf := it_f hf c9
            exact wbX3_askToCancel_56 E0  h0 x1 y1.1 0 μ6 hf _ _ _ hR hS (lv_sub hl [2, 3, 1, 0] rfl)
    · have hf := it_t hf c5
      refine lv_iconst (v := 1) S.1 S.2.1 dX3_askToCancel_22 (by decide) ?_
      refine lv_goto (tgt := 27) S.1 S.2.1 dX3_askToCancel_23 (by decide) ?_
      refine lv_istore_n (i := 3) (lv' := [(3, .int 1), (2, rf y1.1), (0, rf h0), (1, .int x1)]) S.1 S.2.1 dX3_askToCancel_27 rfl hl (by decide) (by simp [rf_cat]) (fun ls hl => ?_)
      refine mm_aload_n S dX3_askToCancel_28 rfl (lv_at hl 1 rfl) ?_
      refine lv_iconst (v := 1) S.1 S.2.1 dX3_askToCancel_29 (by decide) ?_
      refine mm_puti S hR hS fpX3_189 (hK.k g3) rfl rfl rfl dX3_askToCancel_30 (fun H locs hR hS => ?_)
      obtain ⟨μ10, e10, hf⟩ := stx hf
      rw [← e10] at hR
      have hK : mmKN μ μ10 := by rw [e10]; exact hK.sI
      refine mm_aload_n S dX3_askToCancel_33 rfl (lv_at hl 1 rfl) ?_
      refine mm_geti S hR fdX3_193 (hK.k g3) rfl dX3_askToCancel_34 ?_
      refine lv_if_ne (tgt := 89) S.1 S.2.1 dX3_askToCancel_37 (by decide) (fun c11 => ?_) (fun c11 => ?_)
      · have hf := it_f hf c11
        refine lv_iload_n S.1 S.2.1 dX3_askToCancel_89 rfl (lv_at hl 0 rfl) ?_
        obtain rfl := Option.some.inj hf
        exact mm_zret S hR hS hr hlocks (Or.inr rfl) dX3_askToCancel_90
      · have hf := it_t hf c11
        refine mm_aload_n S dX3_askToCancel_40 rfl (lv_at hl 1 rfl) ?_
        refine mm_geti S hR fdX3_196 (hK.k g3) rfl dX3_askToCancel_41 ?_
        refine lv_iconst (v := (-1)) S.1 S.2.1 dX3_askToCancel_44 (by decide) ?_
        refine lv_icmp_ne (tgt := 56) S.1 S.2.1 dX3_askToCancel_45 (by decide) (fun c12 => ?_) (fun c12 => ?_)
        · have hf := it_f hf c12
          exact wbX3_askToCancel_56 E0  h0 x1 y1.1 1 μ10 hf _ _ _ hR hS (lv_sub hl [2, 3, 1, 0] rfl)
        · have hf := it_t hf c12
          refine mm_aload_n S dX3_askToCancel_48 rfl (lv_at hl 1 rfl) ?_
          refine mm_geti S hR fdX3_82 (hK.k g3) rfl dX3_askToCancel_49 ?_
          refine lv_iconst (v := (-1)) S.1 S.2.1 dX3_askToCancel_52 (by decide) ?_
          refine lv_icmp_eq (tgt := 89) S.1 S.2.1 dX3_askToCancel_53 (by decide) (fun c13 => ?_) (fun c13 => ?_)
          · have hf := it_t hf c13
            refine lv_iload_n S.1 S.2.1 dX3_askToCancel_89 rfl (lv_at hl 0 rfl) ?_
            obtain rfl := Option.some.inj hf
            exact mm_zret S hR hS hr hlocks (Or.inr rfl) dX3_askToCancel_90
          · have hf := it_f hf c13
            exact wbX3_askToCancel_56 E0  h0 x1 y1.1 1 μ10 hf _ _ _ hR hS (lv_sub hl [2, 3, 1, 0] rfl)
  · have hf := it_f hf c4
    refine lv_iconst (v := 0) S.1 S.2.1 dX3_askToCancel_13 (by decide) ?_
    obtain rfl := Option.some.inj hf
    exact mm_zret S hR hS hr hlocks (Or.inl rfl) dX3_askToCancel_14
-- X3_wake
def fX3_wake (h0 : Nat) (h1 : Nat) (μ : MM) : Option (Int32 × MM) :=
  if mK μ h1 = 3 then if mK μ (mP μ h0 0) = 1 then (fX0_at (mP μ h0 0) (mI μ h1 3) μ).bind fun y2 => if mK μ y2.1 = 2 then (fX1_kindAt y2.1 (mI y2.2 h1 6) y2.2).bind fun y4 => if y4.1 = (13 : Int32) then ((fX3_at h0 (mI y4.2 h1 7) y4.2).bind fun y9 => (fX3_takeOutcome h0 h1 y9.1 y9.2).bind fun y10 => some (y10.1, y10.2)) else (st (sI y4.2 h1 7 0) fun μ7 => (fX2_goOnAt h1 ((mI μ7 h1 6) + 1) μ7).bind fun y8 => some (0, y8)) else none else none else none
set_option maxRecDepth 100000 in
set_option maxHeartbeats 4000000 in
theorem kX3_wake_kn {μ : MM} {res : Int32 × MM} {h0 : Nat} {h1 : Nat} (hf : fX3_wake h0 h1 μ = some res) : mmKN μ res.2 := by
  have hK : mmKN μ μ := mmKN.rf
  unfold fX3_wake at hf
  obtain ⟨g1, hf⟩ := gd hf
  obtain ⟨g3, hf⟩ := gd hf
  obtain ⟨y2, hy2, hf⟩ := bd hf
  have hK : mmKN μ y2.2 := hK.tr (kX0_at_kn hy2)
  obtain ⟨g5, hf⟩ := gd hf
  obtain ⟨y4, hy4, hf⟩ := bd hf
  have hK : mmKN μ y4.2 := hK.tr (kX1_kindAt_kn hy4)
  rcases it_or hf with ⟨c6, hf⟩ | ⟨c6, hf⟩
  · skip
    obtain ⟨y9, hy9, hf⟩ := bd hf
    have hK : mmKN μ y9.2 := hK.tr (kX3_at_kn hy9)
    obtain ⟨y10, hy10, hf⟩ := bd hf
    have hK : mmKN μ y10.2 := hK.tr (kX3_takeOutcome_kn hy10)
    obtain rfl := Option.some.inj hf
    exact hK
  · skip
    obtain ⟨μ7, e7, hf⟩ := stx hf
    have hK : mmKN μ μ7 := by rw [e7]; exact hK.sI
    obtain ⟨y8, hy8, hf⟩ := bd hf
    have hK : mmKN μ y8 := hK.tr (kX2_goOnAt_kn hy8)
    obtain rfl := Option.some.inj hf
    exact hK
abbrev rmX3_wake : Room := { frames := 2, cells := 0, slots := 0, locals := 43 }
set_option maxRecDepth 100000 in
set_option maxHeartbeats 4000000 in
theorem kX3_wake_c (l : Launch) (G : mmG) (A : Nat → Prop) {μ : MM} {res : Int32 × MM} {h0 : Nat} {h1 : Nat} (hk0 : mK μ h0 = 4) (hf : fX3_wake h0 h1 μ = some res) : Met l yX3_wake [.code yX3_wake cX3_wake 2 (some (.int))] rmX3_wake (mmPc G A μ [rf h0, rf h1]) (mmQ G A res.2 (some (.int res.1))) 0 0 A := by
  refine mm_ofW (by decide +kernel) (by simp [lg_sl, rf_cat, int_cat]) ?_
  intro p e s m below meth c ls S hR hA hS hr hlocks hl hnm
  have hl : lv_has ls 2 [(0, rf h0), (1, rf h1)] := by simpa [lv_args, rf_cat, int_cat] using hl
  have E0 : mmEnv p m c cX3_wake 2 s _ RX3 G A meth (some (.int)) := ⟨S, hA, hr, hlocks⟩
  have hK : mmKN μ μ := mmKN.rf
  unfold fX3_wake at hf
  refine mm_aload_n S dX3_wake_0 rfl (lv_at hl 0 rfl) ?_
  refine mm_getp S hR fdX3_34 (hK.k hk0) rfl dX3_wake_1 ?_
  refine mm_aload_n S dX3_wake_4 rfl (lv_at hl 1 rfl) ?_
  obtain ⟨g1, hf⟩ := gd hf
  refine mm_geti S hR fdX3_65 (hK.k g1) rfl dX3_wake_5 ?_
  obtain ⟨g3, hf⟩ := gd hf
  obtain ⟨y2, hy2, hf⟩ := bd hf
  refine mm_callVh S hR hS hA (As := [.int (mI μ h1 3)]) (rest := []) cvX3_162 (hK.k g3) (kX0_at_c l G A (hK.k g3) hy2) rfl rfl ⟨Nat.le_of_ble_eq_true rfl, Nat.le_of_ble_eq_true rfl⟩ rfl hl.1 rfl (lv_room (by simp [rf_cat, int_cat, long_cat])) dX3_wake_8 ⟨Nat.zero_le _, Nat.zero_le _⟩ (fun H locs hR hS => ?_)
  have hK : mmKN μ y2.2 := hK.tr (kX0_at_kn hy2)
  refine mm_aload_n S dX3_wake_11 rfl (lv_at hl 1 rfl) ?_
  refine mm_geti S hR fdX3_120 (hK.k g1) rfl dX3_wake_12 ?_
  obtain ⟨g5, hf⟩ := gd hf
  obtain ⟨y4, hy4, hf⟩ := bd hf
  refine mm_callVi S hR hS hA (As := [.int (mI y2.2 h1 6)]) (rest := []) cvX3_165 (hK.k g5) (kX1_kindAt_c l G A (hK.k g5) hy4) rfl rfl ⟨Nat.le_of_ble_eq_true rfl, Nat.le_of_ble_eq_true rfl⟩ rfl hl.1 rfl (lv_room (by simp [rf_cat, int_cat, long_cat])) dX3_wake_15 ⟨Nat.zero_le _, Nat.zero_le _⟩ (fun H locs hR hS => ?_)
  have hK : mmKN μ y4.2 := hK.tr (kX1_kindAt_kn hy4)
  refine lv_bipush (v := 13) S.1 S.2.1 dX3_wake_18 (by decide) ?_
  refine lv_icmp_ne (tgt := 37) S.1 S.2.1 dX3_wake_20 (by decide) (fun c6 => ?_) (fun c6 => ?_)
  · have hf := it_f hf c6
    refine mm_aload_n S dX3_wake_37 rfl (lv_at hl 1 rfl) ?_
    refine lv_iconst (v := 0) S.1 S.2.1 dX3_wake_38 (by decide) ?_
    refine mm_puti S hR hS fpX3_117 (hK.k g1) rfl rfl rfl dX3_wake_39 (fun H locs hR hS => ?_)
    obtain ⟨μ7, e7, hf⟩ := stx hf
    rw [← e7] at hR
    have hK : mmKN μ μ7 := by rw [e7]; exact hK.sI
    refine mm_aload_n S dX3_wake_42 rfl (lv_at hl 1 rfl) ?_
    refine mm_aload_n S dX3_wake_43 rfl (lv_at hl 1 rfl) ?_
    refine mm_geti S hR fdX3_120 (hK.k g1) rfl dX3_wake_44 ?_
    refine lv_iconst (v := 1) S.1 S.2.1 dX3_wake_47 (by decide) ?_
    refine lv_iadd S.1 S.2.1 dX3_wake_48 ?_
    obtain ⟨y8, hy8, hf⟩ := bd hf
    refine mm_callVv S hR hS hA (As := [.int ((mI μ7 h1 6) + 1)]) (rest := []) cvX3_114 (hK.k g1) (kX2_goOnAt_c l G A (hK.k g1) hy8) rfl rfl ⟨Nat.le_of_ble_eq_true rfl, Nat.le_of_ble_eq_true rfl⟩ rfl hl.1 rfl (lv_room (by simp [rf_cat, int_cat, long_cat])) dX3_wake_49 ⟨Nat.zero_le _, Nat.zero_le _⟩ (fun H locs hR hS => ?_)
    have hK : mmKN μ y8 := hK.tr (kX2_goOnAt_kn hy8)
    refine lv_iconst (v := 0) S.1 S.2.1 dX3_wake_52 (by decide) ?_
    obtain rfl := Option.some.inj hf
    exact mm_iret S hR hS hr hlocks dX3_wake_53
  · have hf := it_t hf c6
    refine mm_aload_n S dX3_wake_23 rfl (lv_at hl 0 rfl) ?_
    refine mm_aload_n S dX3_wake_24 rfl (lv_at hl 1 rfl) ?_
    refine mm_aload_n S dX3_wake_25 rfl (lv_at hl 0 rfl) ?_
    refine mm_aload_n S dX3_wake_26 rfl (lv_at hl 1 rfl) ?_
    refine mm_geti S hR fdX3_117 (hK.k g1) rfl dX3_wake_27 ?_
    obtain ⟨y9, hy9, hf⟩ := bd hf
    refine mm_callVh S hR hS hA (As := [.int (mI y4.2 h1 7)]) (rest := [rf h1, rf h0]) cvX3_55 (hK.k hk0) (kX3_at_c l G A (hK.k hk0) hy9) rfl rfl ⟨Nat.le_of_ble_eq_true rfl, Nat.le_of_ble_eq_true rfl⟩ rfl hl.1 rfl (lv_room (by simp [rf_cat, int_cat, long_cat])) dX3_wake_30 ⟨Nat.zero_le _, Nat.zero_le _⟩ (fun H locs hR hS => ?_)
    have hK : mmKN μ y9.2 := hK.tr (kX3_at_kn hy9)
    obtain ⟨y10, hy10, hf⟩ := bd hf
    refine mm_callVi S hR hS hA (As := [rf h1, rf y9.1]) (rest := []) cvX3_170 (hK.k hk0) (kX3_takeOutcome_c l G A (hK.k hk0) hy10) rfl rfl ⟨Nat.le_of_ble_eq_true rfl, Nat.le_of_ble_eq_true rfl⟩ rfl hl.1 rfl (lv_room (by simp [rf_cat, int_cat, long_cat])) dX3_wake_33 ⟨Nat.zero_le _, Nat.zero_le _⟩ (fun H locs hR hS => ?_)
    have hK : mmKN μ y10.2 := hK.tr (kX3_takeOutcome_kn hy10)
    obtain rfl := Option.some.inj hf
    exact mm_iret S hR hS hr hlocks dX3_wake_36
-- X3_beginTurn
def fX3_beginTurn (h0 : Nat) (h1 : Nat) (μ : MM) : Option (MM) :=
  if mK μ h1 = 3 then if (mI μ h1 5) = 0 then ((fX2_goOnAt h1 0 μ).bind fun y10 => some y10) else ((fX3_takesCancel h0 μ).bind fun y3 => if y3.1 = 0 then ((fX3_wake h0 h1 y3.2).bind fun y5 => if y5.1 = 0 then (some y5.2) else ((fX2_leave h1 y5.1 y5.2).bind fun y7 => some y7)) else (if (9 : Int32) = 0 then (some y3.2) else ((fX2_leave h1 9 y3.2).bind fun y9 => some y9))) else none
set_option maxRecDepth 100000 in
set_option maxHeartbeats 4000000 in
theorem kX3_beginTurn_kn {μ : MM} {res : MM} {h0 : Nat} {h1 : Nat} (hf : fX3_beginTurn h0 h1 μ = some res) : mmKN μ res := by
  have hK : mmKN μ μ := mmKN.rf
  unfold fX3_beginTurn at hf
  obtain ⟨g1, hf⟩ := gd hf
  rcases it_or hf with ⟨c2, hf⟩ | ⟨c2, hf⟩
  · skip
    obtain ⟨y10, hy10, hf⟩ := bd hf
    have hK : mmKN μ y10 := hK.tr (kX2_goOnAt_kn hy10)
    obtain rfl := Option.some.inj hf
    exact hK
  · skip
    obtain ⟨y3, hy3, hf⟩ := bd hf
    have hK : mmKN μ y3.2 := hK.tr (kX3_takesCancel_kn hy3)
    rcases it_or hf with ⟨c4, hf⟩ | ⟨c4, hf⟩
    · skip
      obtain ⟨y5, hy5, hf⟩ := bd hf
      have hK : mmKN μ y5.2 := hK.tr (kX3_wake_kn hy5)
      rcases it_or hf with ⟨c6, hf⟩ | ⟨c6, hf⟩
      · skip
        obtain rfl := Option.some.inj hf
        exact hK
      · skip
        obtain ⟨y7, hy7, hf⟩ := bd hf
        have hK : mmKN μ y7 := hK.tr (kX2_leave_kn hy7)
        obtain rfl := Option.some.inj hf
        exact hK
    · skip
      rcases it_or hf with ⟨c8, hf⟩ | ⟨c8, hf⟩
      · skip
        obtain rfl := Option.some.inj hf
        exact hK
      · skip
        obtain ⟨y9, hy9, hf⟩ := bd hf
        have hK : mmKN μ y9 := hK.tr (kX2_leave_kn hy9)
        obtain rfl := Option.some.inj hf
        exact hK
abbrev rmX3_beginTurn : Room := { frames := 3, cells := 0, slots := 0, locals := 64 }
set_option maxRecDepth 100000 in
set_option maxHeartbeats 4000000 in
theorem kX3_beginTurn_c (l : Launch) (G : mmG) (A : Nat → Prop) {μ : MM} {res : MM} {h0 : Nat} {h1 : Nat} (hk0 : mK μ h0 = 4) (hf : fX3_beginTurn h0 h1 μ = some res) : Met l yX3_beginTurn [.code yX3_beginTurn cX3_beginTurn 3 none] rmX3_beginTurn (mmPc G A μ [rf h0, rf h1]) (mmQ G A res none) 0 0 A := by
  refine mm_ofW (by decide +kernel) (by simp [lg_sl, rf_cat, int_cat]) ?_
  intro p e s m below meth c ls S hR hA hS hr hlocks hl hnm
  have hl : lv_has ls 3 [(0, rf h0), (1, rf h1)] := by simpa [lv_args, rf_cat, int_cat] using hl
  have E0 : mmEnv p m c cX3_beginTurn 3 s _ RX3 G A meth none := ⟨S, hA, hr, hlocks⟩
  have hK : mmKN μ μ := mmKN.rf
  unfold fX3_beginTurn at hf
  refine mm_aload_n S dX3_beginTurn_0 rfl (lv_at hl 1 rfl) ?_
  obtain ⟨g1, hf⟩ := gd hf
  refine mm_geti S hR fdX3_68 (hK.k g1) rfl dX3_beginTurn_1 ?_
  refine lv_if_ne (tgt := 13) S.1 S.2.1 dX3_beginTurn_4 (by decide) (fun c2 => ?_) (fun c2 => ?_)
  · have hf := it_f hf c2
    refine mm_aload_n S dX3_beginTurn_13 rfl (lv_at hl 0 rfl) ?_
    obtain ⟨y3, hy3, hf⟩ := bd hf
    refine mm_callVi S hR hS hA (As := []) (rest := []) cvX3_156 (hK.k hk0) (kX3_takesCancel_c l G A (hK.k hk0) hy3) rfl rfl ⟨Nat.le_of_ble_eq_true rfl, Nat.le_of_ble_eq_true rfl⟩ rfl hl.1 rfl (lv_room (by simp [rf_cat, int_cat, long_cat])) dX3_beginTurn_14 ⟨Nat.zero_le _, Nat.zero_le _⟩ (fun H locs hR hS => ?_)
    have hK : mmKN μ y3.2 := hK.tr (kX3_takesCancel_kn hy3)
    refine lv_if_eq (tgt := 25) S.1 S.2.1 dX3_beginTurn_17 (by decide) (fun c4 => ?_) (fun c4 => ?_)
    · have hf := it_t hf c4
      refine mm_aload_n S dX3_beginTurn_25 rfl (lv_at hl 0 rfl) ?_
      refine mm_aload_n S dX3_beginTurn_26 rfl (lv_at hl 1 rfl) ?_
      obtain ⟨y5, hy5, hf⟩ := bd hf
      refine mm_callVi S hR hS hA (As := [rf h1]) (rest := []) cvX3_159 (hK.k hk0) (kX3_wake_c l G A (hK.k hk0) hy5) rfl rfl ⟨Nat.le_of_ble_eq_true rfl, Nat.le_of_ble_eq_true rfl⟩ rfl hl.1 rfl (lv_room (by simp [rf_cat, int_cat, long_cat])) dX3_beginTurn_27 ⟨Nat.zero_le _, Nat.zero_le _⟩ (fun H locs hR hS => ?_)
      have hK : mmKN μ y5.2 := hK.tr (kX3_wake_kn hy5)
      refine lv_istore_n (i := 2) (lv' := [(2, .int y5.1), (0, rf h0), (1, rf h1)]) S.1 S.2.1 dX3_beginTurn_30 rfl hl (by decide) (by simp [rf_cat]) (fun ls hl => ?_)
      refine lv_iload_n S.1 S.2.1 dX3_beginTurn_31 rfl (lv_at hl 0 rfl) ?_
      refine lv_if_eq (tgt := 40) S.1 S.2.1 dX3_beginTurn_32 (by decide) (fun c6 => ?_) (fun c6 => ?_)
      · have hf := it_t hf c6
        obtain rfl := Option.some.inj hf
        exact mm_vret S hR hS hr hlocks dX3_beginTurn_40
      · have hf := it_f hf c6
        refine mm_aload_n S dX3_beginTurn_35 rfl (lv_at hl 2 rfl) ?_
        refine lv_iload_n S.1 S.2.1 dX3_beginTurn_36 rfl (lv_at hl 0 rfl) ?_
        obtain ⟨y7, hy7, hf⟩ := bd hf
        refine mm_callVv S hR hS hA (As := [.int y5.1]) (rest := []) cvX3_131 (hK.k g1) (kX2_leave_c l G A (hK.k g1) hy7) rfl rfl ⟨Nat.le_of_ble_eq_true rfl, Nat.le_of_ble_eq_true rfl⟩ rfl hl.1 rfl (lv_room (by simp [rf_cat, int_cat, long_cat])) dX3_beginTurn_37 ⟨Nat.zero_le _, Nat.zero_le _⟩ (fun H locs hR hS => ?_)
        have hK : mmKN μ y7 := hK.tr (kX2_leave_kn hy7)
        obtain rfl := Option.some.inj hf
        exact mm_vret S hR hS hr hlocks dX3_beginTurn_40
    · have hf := it_f hf c4
      refine lv_bipush (v := 9) S.1 S.2.1 dX3_beginTurn_20 (by decide) ?_
      refine lv_goto (tgt := 30) S.1 S.2.1 dX3_beginTurn_22 (by decide) ?_
      refine lv_istore_n (i := 2) (lv' := [(2, .int 9), (0, rf h0), (1, rf h1)]) S.1 S.2.1 dX3_beginTurn_30 rfl hl (by decide) (by simp [rf_cat]) (fun ls hl => ?_)
      refine lv_iload_n S.1 S.2.1 dX3_beginTurn_31 rfl (lv_at hl 0 rfl) ?_
      refine lv_if_eq (tgt := 40) S.1 S.2.1 dX3_beginTurn_32 (by decide) (fun c8 => ?_) (fun c8 => ?_)
      · have hf := it_t hf c8
        obtain rfl := Option.some.inj hf
        exact mm_vret S hR hS hr hlocks dX3_beginTurn_40
      · have hf := it_f hf c8
        refine mm_aload_n S dX3_beginTurn_35 rfl (lv_at hl 2 rfl) ?_
        refine lv_iload_n S.1 S.2.1 dX3_beginTurn_36 rfl (lv_at hl 0 rfl) ?_
        obtain ⟨y9, hy9, hf⟩ := bd hf
        refine mm_callVv S hR hS hA (As := [.int 9]) (rest := []) cvX3_131 (hK.k g1) (kX2_leave_c l G A (hK.k g1) hy9) rfl rfl ⟨Nat.le_of_ble_eq_true rfl, Nat.le_of_ble_eq_true rfl⟩ rfl hl.1 rfl (lv_room (by simp [rf_cat, int_cat, long_cat])) dX3_beginTurn_37 ⟨Nat.zero_le _, Nat.zero_le _⟩ (fun H locs hR hS => ?_)
        have hK : mmKN μ y9 := hK.tr (kX2_leave_kn hy9)
        obtain rfl := Option.some.inj hf
        exact mm_vret S hR hS hr hlocks dX3_beginTurn_40
  · have hf := it_t hf c2
    refine mm_aload_n S dX3_beginTurn_7 rfl (lv_at hl 1 rfl) ?_
    refine lv_iconst (v := 0) S.1 S.2.1 dX3_beginTurn_8 (by decide) ?_
    obtain ⟨y10, hy10, hf⟩ := bd hf
    refine mm_callVv S hR hS hA (As := [.int 0]) (rest := []) cvX3_114 (hK.k g1) (kX2_goOnAt_c l G A (hK.k g1) hy10) rfl rfl ⟨Nat.le_of_ble_eq_true rfl, Nat.le_of_ble_eq_true rfl⟩ rfl hl.1 rfl (lv_room (by simp [rf_cat, int_cat, long_cat])) dX3_beginTurn_9 ⟨Nat.zero_le _, Nat.zero_le _⟩ (fun H locs hR hS => ?_)
    have hK : mmKN μ y10 := hK.tr (kX2_goOnAt_kn hy10)
    obtain rfl := Option.some.inj hf
    exact mm_vret S hR hS hr hlocks dX3_beginTurn_12
-- X3_tellOthers
def bX3_tellOthers_80 (kk80 : Nat → Nat → Int32 → MM → Option (MM)) (h0 : Nat) (h1 : Nat) (x3 : Int32) (μ : MM) : Option (MM) :=
  if mK μ h0 = 4 then if (mI μ h0 5) ≤ x3 then (some μ) else (if mK μ h1 = 3 then if (mI μ h1 5) = (4 : Int32) then ((fX3_has h0 x3 1 μ).bind fun y5 => if y5.1 = 0 then (kk80 h0 h1 (x3 + 1) y5.2) else ((fX3_at h0 x3 y5.2).bind fun y7 => if mK μ y7.1 = 3 then if (mI y7.2 y7.1 16) = (mI y7.2 h1 0) then ((fX3_askToCancel h0 x3 y7.2).bind fun y10 => kk80 h0 h1 (x3 + 1) y10.2) else (kk80 h0 h1 (x3 + 1) y7.2) else none)) else (some μ) else none) else none
def lX3_tellOthers_80  : Nat → Nat → Nat → Int32 → MM → Option (MM)
  | 0, _, _, _, _ => none
  | n + 1, h0, h1, x3, μ => bX3_tellOthers_80  (fun h0 h1 x3 μ => lX3_tellOthers_80  n h0 h1 x3 μ) h0 h1 x3 μ
def bX3_tellOthers_10 (kk10 : Nat → Nat → Int32 → Int32 → MM → Option (MM)) (h0 : Nat) (h1 : Nat) (x2 : Int32) (x3 : Int32) (μ : MM) : Option (MM) :=
  if x3 ≤ 0 then (lX3_tellOthers_80  FU h0 h1 0 μ) else (if mK μ h0 = 4 then if mK μ (mP μ h0 4) = 5 then (fX4_numberAt (mP μ h0 4) x2 μ).bind fun y3 => (fX3_at h0 y3.1 y3.2).bind fun y5 => if mK μ y5.1 = 3 then if mK μ h1 = 3 then if (mI y5.2 y5.1 13) = (mI y5.2 h1 0) then (if mK μ (mP y5.2 h0 4) = 5 then (fX4_removeAt (mP y5.2 h0 4) x2 y5.2).bind fun y9 => st (sI y9 y5.1 13 (-1)) fun μ11 => if mK μ (mP μ11 h0 3) = 5 then (fX4_add (mP μ11 h0 3) (mI μ11 y5.1 0) μ11).bind fun y12 => kk10 h0 h1 x2 (x3 + (-1)) y12 else none else none) else (kk10 h0 h1 (x2 + 1) (x3 + (-1)) y5.2) else none else none else none else none)
def lX3_tellOthers_10  : Nat → Nat → Nat → Int32 → Int32 → MM → Option (MM)
  | 0, _, _, _, _, _ => none
  | n + 1, h0, h1, x2, x3, μ => bX3_tellOthers_10  (fun h0 h1 x2 x3 μ => lX3_tellOthers_10  n h0 h1 x2 x3 μ) h0 h1 x2 x3 μ
def fX3_tellOthers (h0 : Nat) (h1 : Nat) (μ : MM) : Option (MM) :=
  if mK μ (mP μ h0 4) = 5 then lX3_tellOthers_10  FU h0 h1 0 (mI μ (mP μ h0 4) 1) μ else none
set_option maxRecDepth 100000 in
set_option maxHeartbeats 4000000 in
theorem knbX3_tellOthers_80 (kk80 : Nat → Nat → Int32 → MM → Option (MM)) (hkk80 : ∀ (h0 : Nat) (h1 : Nat) (x3 : Int32) (μ : MM) (res : MM), kk80 h0 h1 x3 μ = some res → mmKN μ res) : ∀ (h0 : Nat) (h1 : Nat) (x3 : Int32) (μ : MM) (res : MM), bX3_tellOthers_80 kk80 h0 h1 x3 μ = some res → mmKN μ res := by
  intro h0 h1 x3 μ res hf
  have hK : mmKN μ μ := mmKN.rf
  unfold bX3_tellOthers_80 at hf
  obtain ⟨g1, hf⟩ := gd hf
  rcases it_or hf with ⟨c2, hf⟩ | ⟨c2, hf⟩
  · skip
    obtain rfl := Option.some.inj hf
    exact hK
  · skip
    obtain ⟨g3, hf⟩ := gd hf
    rcases it_or hf with ⟨c4, hf⟩ | ⟨c4, hf⟩
    · skip
      obtain ⟨y5, hy5, hf⟩ := bd hf
      have hK : mmKN μ y5.2 := hK.tr (kX3_has_kn hy5)
      rcases it_or hf with ⟨c6, hf⟩ | ⟨c6, hf⟩
      · skip
        exact hK.tr (hkk80 h0 h1 (x3 + 1) y5.2 _ hf)
      · skip
        obtain ⟨y7, hy7, hf⟩ := bd hf
        have hK : mmKN μ y7.2 := hK.tr (kX3_at_kn hy7)
        obtain ⟨g8, hf⟩ := gd hf
        rcases it_or hf with ⟨c9, hf⟩ | ⟨c9, hf⟩
        · skip
          obtain ⟨y10, hy10, hf⟩ := bd hf
          have hK : mmKN μ y10.2 := hK.tr (kX3_askToCancel_kn hy10)
          exact hK.tr (hkk80 h0 h1 (x3 + 1) y10.2 _ hf)
        · skip
          exact hK.tr (hkk80 h0 h1 (x3 + 1) y7.2 _ hf)
    · skip
      obtain rfl := Option.some.inj hf
      exact hK
theorem knlX3_tellOthers_80  : ∀ (n : Nat) (h0 : Nat) (h1 : Nat) (x3 : Int32) (μ : MM) (res : MM), lX3_tellOthers_80  n h0 h1 x3 μ = some res → mmKN μ res := by
  intro n
  induction n with
  | zero => intro h0 h1 x3 μ res hf; cases hf
  | succ n ih => intro h0 h1 x3 μ res hf; exact knbX3_tellOthers_80  _ ih h0 h1 x3 μ res hf
set_option maxRecDepth 100000 in
set_option maxHeartbeats 4000000 in
theorem knbX3_tellOthers_10 (kk10 : Nat → Nat → Int32 → Int32 → MM → Option (MM)) (hkk10 : ∀ (h0 : Nat) (h1 : Nat) (x2 : Int32) (x3 : Int32) (μ : MM) (res : MM), kk10 h0 h1 x2 x3 μ = some res → mmKN μ res) : ∀ (h0 : Nat) (h1 : Nat) (x2 : Int32) (x3 : Int32) (μ : MM) (res : MM), bX3_tellOthers_10 kk10 h0 h1 x2 x3 μ = some res → mmKN μ res := by
  intro h0 h1 x2 x3 μ res hf
  have hK : mmKN μ μ := mmKN.rf
  unfold bX3_tellOthers_10 at hf
  rcases it_or hf with ⟨c1, hf⟩ | ⟨c1, hf⟩
  · skip
    exact hK.tr (knlX3_tellOthers_80  FU h0 h1 0 μ _ hf)
  · skip
    obtain ⟨g2, hf⟩ := gd hf
    obtain ⟨g4, hf⟩ := gd hf
    obtain ⟨y3, hy3, hf⟩ := bd hf
    have hK : mmKN μ y3.2 := hK.tr (kX4_numberAt_kn hy3)
    obtain ⟨y5, hy5, hf⟩ := bd hf
    have hK : mmKN μ y5.2 := hK.tr (kX3_at_kn hy5)
    obtain ⟨g6, hf⟩ := gd hf
    obtain ⟨g7, hf⟩ := gd hf
    rcases it_or hf with ⟨c8, hf⟩ | ⟨c8, hf⟩
    · skip
      obtain ⟨g10, hf⟩ := gd hf
      obtain ⟨y9, hy9, hf⟩ := bd hf
      have hK : mmKN μ y9 := hK.tr (kX4_removeAt_kn hy9)
      obtain ⟨μ11, e11, hf⟩ := stx hf
      have hK : mmKN μ μ11 := by rw [e11]; exact hK.sI
      obtain ⟨g13, hf⟩ := gd hf
      obtain ⟨y12, hy12, hf⟩ := bd hf
      have hK : mmKN μ y12 := hK.tr (kX4_add_kn hy12)
      exact hK.tr (hkk10 h0 h1 x2 (x3 + (-1)) y12 _ hf)
    · skip
      exact hK.tr (hkk10 h0 h1 (x2 + 1) (x3 + (-1)) y5.2 _ hf)
theorem knlX3_tellOthers_10  : ∀ (n : Nat) (h0 : Nat) (h1 : Nat) (x2 : Int32) (x3 : Int32) (μ : MM) (res : MM), lX3_tellOthers_10  n h0 h1 x2 x3 μ = some res → mmKN μ res := by
  intro n
  induction n with
  | zero => intro h0 h1 x2 x3 μ res hf; cases hf
  | succ n ih => intro h0 h1 x2 x3 μ res hf; exact knbX3_tellOthers_10  _ ih h0 h1 x2 x3 μ res hf
set_option maxRecDepth 100000 in
set_option maxHeartbeats 4000000 in
theorem kX3_tellOthers_kn {μ : MM} {res : MM} {h0 : Nat} {h1 : Nat} (hf : fX3_tellOthers h0 h1 μ = some res) : mmKN μ res := by
  have hK : mmKN μ μ := mmKN.rf
  unfold fX3_tellOthers at hf
  obtain ⟨g1, hf⟩ := gd hf
  exact hK.tr (knlX3_tellOthers_10  FU h0 h1 0 (mI μ (mP μ h0 4) 1) μ _ hf)
abbrev rmX3_tellOthers : Room := { frames := 3, cells := 0, slots := 0, locals := 66 }
set_option maxRecDepth 100000 in
set_option maxHeartbeats 4000000 in
theorem wbX3_tellOthers_80 {p : Program} {l : Launch} {e : Env} {s : State} {m : MethodId} {args : Array Value} {below : List Frame} {meth : Method} {c : Code} {G : mmG} {A : Nat → Prop} {res : MM} (E0 : mmEnv p m c cX3_tellOthers 5 s args RX3 G A meth none) (kk80 : Nat → Nat → Int32 → MM → Option (MM)) (hkk80 : ∀ (h0 : Nat) (h1 : Nat) (x3 : Int32) (μ : MM), kk80 h0 h1 x3 μ = some res → mmGoal p l e rmX3_tellOthers s m args below meth c G A 80 5 [(0, rf h0), (1, rf h1), (3, .int x3)] μ (mmQ G A res none)) : ∀ (h0 : Nat) (h1 : Nat) (x3 : Int32) (μ : MM), bX3_tellOthers_80 kk80 h0 h1 x3 μ = some res → mmGoal p l e rmX3_tellOthers s m args below meth c G A 80 5 [(0, rf h0), (1, rf h1), (3, .int x3)] μ (mmQ G A res none) := by
  obtain ⟨S, hA, hr, hlocks⟩ := id E0
  intro h0 h1 x3 μ hf H locs ls hR hS hl
  have hK : mmKN μ μ := mmKN.rf
  unfold bX3_tellOthers_80 at hf
  refine lv_iload_n S.1 S.2.1 dX3_tellOthers_80 rfl (lv_at hl 2 rfl) ?_
  refine mm_aload_n S dX3_tellOthers_81 rfl (lv_at hl 0 rfl) ?_
  obtain ⟨g1, hf⟩ := gd hf
  refine mm_geti S hR fdX3_41 (hK.k g1) rfl dX3_tellOthers_82 ?_
  refine lv_icmp_ge (tgt := 132) S.1 S.2.1 dX3_tellOthers_85 (by decide) (fun c2 => ?_) (fun c2 => ?_)
  · have hf := it_t hf c2
    obtain rfl := Option.some.inj hf
    exact mm_vret S hR hS hr hlocks dX3_tellOthers_132
  · have hf := it_f hf c2
    refine mm_aload_n S dX3_tellOthers_88 rfl (lv_at hl 1 rfl) ?_
    obtain ⟨g3, hf⟩ := gd hf
    refine mm_geti S hR fdX3_68 (hK.k g3) rfl dX3_tellOthers_89 ?_
    refine lv_iconst (v := 4) S.1 S.2.1 dX3_tellOthers_92 (by decide) ?_
    refine lv_icmp_ne (tgt := 132) S.1 S.2.1 dX3_tellOthers_93 (by decide) (fun c4 => ?_) (fun c4 => ?_)
    · have hf := it_f hf c4
      obtain rfl := Option.some.inj hf
      exact mm_vret S hR hS hr hlocks dX3_tellOthers_132
    · have hf := it_t hf c4
      refine mm_aload_n S dX3_tellOthers_96 rfl (lv_at hl 0 rfl) ?_
      refine lv_iload_n S.1 S.2.1 dX3_tellOthers_97 rfl (lv_at hl 2 rfl) ?_
      refine lv_iconst (v := 1) S.1 S.2.1 dX3_tellOthers_98 (by decide) ?_
      obtain ⟨y5, hy5, hf⟩ := bd hf
      refine mm_callVi S hR hS hA (As := [.int x3, .int 1]) (rest := []) cvX3_180 (hK.k g1) (kX3_has_c l G A (hK.k g1) hy5) rfl rfl ⟨Nat.le_of_ble_eq_true rfl, Nat.le_of_ble_eq_true rfl⟩ rfl hl.1 rfl (lv_room (by simp [rf_cat, int_cat, long_cat])) dX3_tellOthers_99 ⟨Nat.zero_le _, Nat.zero_le _⟩ (fun H locs hR hS => ?_)
      have hK : mmKN μ y5.2 := hK.tr (kX3_has_kn hy5)
      refine lv_if_eq (tgt := 126) S.1 S.2.1 dX3_tellOthers_102 (by decide) (fun c6 => ?_) (fun c6 => ?_)
      · have hf := it_t hf c6
        refine lv_iinc (v := (x3 + 1)) (lv' := [(3, .int (x3 + 1)), (0, rf h0), (1, rf h1)]) S.1 S.2.1 dX3_tellOthers_126 hl (k := 2) rfl (by rfl) (by decide) rfl (fun ls hl => ?_)
        refine lv_goto (tgt := 80) S.1 S.2.1 dX3_tellOthers_129 (by decide) ?_
        exact hkk80 h0 h1 (x3 + 1) y5.2 hf _ _ _ hR hS (lv_sub hl [1, 2, 0] rfl)
      · have hf := it_f hf c6
        refine mm_aload_n S dX3_tellOthers_105 rfl (lv_at hl 0 rfl) ?_
        refine lv_iload_n S.1 S.2.1 dX3_tellOthers_106 rfl (lv_at hl 2 rfl) ?_
        obtain ⟨y7, hy7, hf⟩ := bd hf
        refine mm_callVh S hR hS hA (As := [.int x3]) (rest := []) cvX3_55 (hK.k g1) (kX3_at_c l G A (hK.k g1) hy7) rfl rfl ⟨Nat.le_of_ble_eq_true rfl, Nat.le_of_ble_eq_true rfl⟩ rfl hl.1 rfl (lv_room (by simp [rf_cat, int_cat, long_cat])) dX3_tellOthers_107 ⟨Nat.zero_le _, Nat.zero_le _⟩ (fun H locs hR hS => ?_)
        have hK : mmKN μ y7.2 := hK.tr (kX3_at_kn hy7)
        obtain ⟨g8, hf⟩ := gd hf
        refine mm_geti S hR fdX3_183 (hK.k g8) rfl dX3_tellOthers_110 ?_
        refine mm_aload_n S dX3_tellOthers_113 rfl (lv_at hl 1 rfl) ?_
        refine mm_geti S hR fdX3_101 (hK.k g3) rfl dX3_tellOthers_114 ?_
        refine lv_icmp_ne (tgt := 126) S.1 S.2.1 dX3_tellOthers_117 (by decide) (fun c9 => ?_) (fun c9 => ?_)
        · have hf := it_f hf c9
          refine lv_iinc (v := (x3 + 1)) (lv' := [(3, .int (x3 + 1)), (0, rf h0), (1, rf h1)]) S.1 S.2.1 dX3_tellOthers_126 hl (k := 2) rfl (by rfl) (by decide) rfl (fun ls hl => ?_)
          refine lv_goto (tgt := 80) S.1 S.2.1 dX3_tellOthers_129 (by decide) ?_
          exact hkk80 h0 h1 (x3 + 1) y7.2 hf _ _ _ hR hS (lv_sub hl [1, 2, 0] rfl)
        · have hf := it_t hf c9
          refine mm_aload_n S dX3_tellOthers_120 rfl (lv_at hl 0 rfl) ?_
          refine lv_iload_n S.1 S.2.1 dX3_tellOthers_121 rfl (lv_at hl 2 rfl) ?_
          obtain ⟨y10, hy10, hf⟩ := bd hf
          refine mm_callVi S hR hS hA (As := [.int x3]) (rest := []) cvX3_186 (hK.k g1) (kX3_askToCancel_c l G A (hK.k g1) hy10) rfl rfl ⟨Nat.le_of_ble_eq_true rfl, Nat.le_of_ble_eq_true rfl⟩ rfl hl.1 rfl (lv_room (by simp [rf_cat, int_cat, long_cat])) dX3_tellOthers_122 ⟨Nat.zero_le _, Nat.zero_le _⟩ (fun H locs hR hS => ?_)
          have hK : mmKN μ y10.2 := hK.tr (kX3_askToCancel_kn hy10)
          refine lv_pop S.1 S.2.1 dX3_tellOthers_125 rfl ?_
          refine lv_iinc (v := (x3 + 1)) (lv' := [(3, .int (x3 + 1)), (0, rf h0), (1, rf h1)]) S.1 S.2.1 dX3_tellOthers_126 hl (k := 2) rfl (by rfl) (by decide) rfl (fun ls hl => ?_)
          refine lv_goto (tgt := 80) S.1 S.2.1 dX3_tellOthers_129 (by decide) ?_
          exact hkk80 h0 h1 (x3 + 1) y10.2 hf _ _ _ hR hS (lv_sub hl [1, 2, 0] rfl)
theorem wlX3_tellOthers_80 {p : Program} {l : Launch} {e : Env} {s : State} {m : MethodId} {args : Array Value} {below : List Frame} {meth : Method} {c : Code} {G : mmG} {A : Nat → Prop} {res : MM} (E0 : mmEnv p m c cX3_tellOthers 5 s args RX3 G A meth none)  : ∀ (n : Nat) (h0 : Nat) (h1 : Nat) (x3 : Int32) (μ : MM), lX3_tellOthers_80  n h0 h1 x3 μ = some res → mmGoal p l e rmX3_tellOthers s m args below meth c G A 80 5 [(0, rf h0), (1, rf h1), (3, .int x3)] μ (mmQ G A res none) := by
  intro n
  induction n with
  | zero => intro h0 h1 x3 μ hf; cases hf
  | succ n ih => intro h0 h1 x3 μ hf; exact wbX3_tellOthers_80 E0  _ ih h0 h1 x3 μ hf
set_option maxRecDepth 100000 in
set_option maxHeartbeats 4000000 in
theorem wbX3_tellOthers_10 {p : Program} {l : Launch} {e : Env} {s : State} {m : MethodId} {args : Array Value} {below : List Frame} {meth : Method} {c : Code} {G : mmG} {A : Nat → Prop} {res : MM} (E0 : mmEnv p m c cX3_tellOthers 5 s args RX3 G A meth none) (kk10 : Nat → Nat → Int32 → Int32 → MM → Option (MM)) (hkk10 : ∀ (h0 : Nat) (h1 : Nat) (x2 : Int32) (x3 : Int32) (μ : MM), kk10 h0 h1 x2 x3 μ = some res → mmGoal p l e rmX3_tellOthers s m args below meth c G A 10 5 [(0, rf h0), (1, rf h1), (2, .int x2), (3, .int x3)] μ (mmQ G A res none)) : ∀ (h0 : Nat) (h1 : Nat) (x2 : Int32) (x3 : Int32) (μ : MM), bX3_tellOthers_10 kk10 h0 h1 x2 x3 μ = some res → mmGoal p l e rmX3_tellOthers s m args below meth c G A 10 5 [(0, rf h0), (1, rf h1), (2, .int x2), (3, .int x3)] μ (mmQ G A res none) := by
  obtain ⟨S, hA, hr, hlocks⟩ := id E0
  intro h0 h1 x2 x3 μ hf H locs ls hR hS hl
  have hK : mmKN μ μ := mmKN.rf
  unfold bX3_tellOthers_10 at hf
  refine lv_iload_n S.1 S.2.1 dX3_tellOthers_10 rfl (lv_at hl 3 rfl) ?_
  refine lv_if_le (tgt := 78) S.1 S.2.1 dX3_tellOthers_11 (by decide) (fun c1 => ?_) (fun c1 => ?_)
  · have hf := it_t hf c1
    refine lv_iconst (v := 0) S.1 S.2.1 dX3_tellOthers_78 (by decide) ?_
    refine lv_istore_n (i := 3) (lv' := [(3, .int 0), (0, rf h0), (1, rf h1), (2, .int x2)]) S.1 S.2.1 dX3_tellOthers_79 rfl hl (by decide) rfl (fun ls hl => ?_)
    exact wlX3_tellOthers_80 E0  FU h0 h1 0 μ hf _ _ _ hR hS (lv_sub hl [1, 2, 0] rfl)
  · have hf := it_f hf c1
    refine mm_aload_n S dX3_tellOthers_14 rfl (lv_at hl 0 rfl) ?_
    refine mm_aload_n S dX3_tellOthers_15 rfl (lv_at hl 0 rfl) ?_
    obtain ⟨g2, hf⟩ := gd hf
    refine mm_getp S hR fdX3_31 (hK.k g2) rfl dX3_tellOthers_16 ?_
    refine lv_iload_n S.1 S.2.1 dX3_tellOthers_19 rfl (lv_at hl 2 rfl) ?_
    obtain ⟨g4, hf⟩ := gd hf
    obtain ⟨y3, hy3, hf⟩ := bd hf
    refine mm_callVi S hR hS hA (As := [.int x2]) (rest := [rf h0]) cvX3_78 (hK.k g4) (kX4_numberAt_c l G A (hK.k g4) hy3) rfl rfl ⟨Nat.le_of_ble_eq_true rfl, Nat.le_of_ble_eq_true rfl⟩ rfl hl.1 rfl (lv_room (by simp [rf_cat, int_cat, long_cat])) dX3_tellOthers_20 ⟨Nat.zero_le _, Nat.zero_le _⟩ (fun H locs hR hS => ?_)
    have hK : mmKN μ y3.2 := hK.tr (kX4_numberAt_kn hy3)
    obtain ⟨y5, hy5, hf⟩ := bd hf
    refine mm_callVh S hR hS hA (As := [.int y3.1]) (rest := []) cvX3_55 (hK.k g2) (kX3_at_c l G A (hK.k g2) hy5) rfl rfl ⟨Nat.le_of_ble_eq_true rfl, Nat.le_of_ble_eq_true rfl⟩ rfl hl.1 rfl (lv_room (by simp [rf_cat, int_cat, long_cat])) dX3_tellOthers_23 ⟨Nat.zero_le _, Nat.zero_le _⟩ (fun H locs hR hS => ?_)
    have hK : mmKN μ y5.2 := hK.tr (kX3_at_kn hy5)
    refine mm_astore (i := 4) (lv' := [(4, rf y5.1), (0, rf h0), (1, rf h1), (2, .int x2), (3, .int x3)]) S dX3_tellOthers_26 hl (by decide) rfl (fun ls hl => ?_)
    refine mm_aload S dX3_tellOthers_28 (lv_at hl 0 rfl) ?_
    obtain ⟨g6, hf⟩ := gd hf
    refine mm_geti S hR fdX3_82 (hK.k g6) rfl dX3_tellOthers_30 ?_
    refine mm_aload_n S dX3_tellOthers_33 rfl (lv_at hl 2 rfl) ?_
    obtain ⟨g7, hf⟩ := gd hf
    refine mm_geti S hR fdX3_101 (hK.k g7) rfl dX3_tellOthers_34 ?_
    refine lv_icmp_ne (tgt := 69) S.1 S.2.1 dX3_tellOthers_37 (by decide) (fun c8 => ?_) (fun c8 => ?_)
    · have hf := it_f hf c8
      refine lv_iinc (v := (x2 + 1)) (lv' := [(2, .int (x2 + 1)), (4, rf y5.1), (0, rf h0), (1, rf h1), (3, .int x3)]) S.1 S.2.1 dX3_tellOthers_69 hl (k := 3) rfl (by rfl) (by decide) (by simp [rf_cat]) (fun ls hl => ?_)
      refine lv_iinc (v := (x3 + (-1))) (lv' := [(3, .int (x3 + (-1))), (2, .int (x2 + 1)), (4, rf y5.1), (0, rf h0), (1, rf h1)]) S.1 S.2.1 dX3_tellOthers_72 hl (k := 4) rfl (by rfl) (by decide) rfl (fun ls hl => ?_)
      refine lv_goto (tgt := 10) S.1 S.2.1 dX3_tellOthers_75 (by decide) ?_
      exact hkk10 h0 h1 (x2 + 1) (x3 + (-1)) y5.2 hf _ _ _ hR hS (lv_sub hl [3, 4, 1, 0] rfl)
    · have hf := it_t hf c8
      refine mm_aload_n S dX3_tellOthers_40 rfl (lv_at hl 1 rfl) ?_
      refine mm_getp S hR fdX3_31 (hK.k g2) rfl dX3_tellOthers_41 ?_
      refine lv_iload_n S.1 S.2.1 dX3_tellOthers_44 rfl (lv_at hl 3 rfl) ?_
      obtain ⟨g10, hf⟩ := gd hf
      obtain ⟨y9, hy9, hf⟩ := bd hf
      refine mm_callVv S hR hS hA (As := [.int x2]) (rest := []) cvX3_147 (hK.k g10) (kX4_removeAt_c l G A (hK.k g10) hy9) rfl rfl ⟨Nat.le_of_ble_eq_true rfl, Nat.le_of_ble_eq_true rfl⟩ rfl hl.1 rfl (lv_room (by simp [rf_cat, int_cat, long_cat])) dX3_tellOthers_45 ⟨Nat.zero_le _, Nat.zero_le _⟩ (fun H locs hR hS => ?_)
      have hK : mmKN μ y9 := hK.tr (kX4_removeAt_kn hy9)
      refine mm_aload S dX3_tellOthers_48 (lv_at hl 0 rfl) ?_
      refine lv_iconst (v := (-1)) S.1 S.2.1 dX3_tellOthers_50 (by decide) ?_
      refine mm_puti S hR hS fpX3_82 (hK.k g6) rfl rfl rfl dX3_tellOthers_51 (fun H locs hR hS => ?_)
      obtain ⟨μ11, e11, hf⟩ := stx hf
      rw [← e11] at hR
      have hK : mmKN μ μ11 := by rw [e11]; exact hK.sI
      refine mm_aload_n S dX3_tellOthers_54 rfl (lv_at hl 1 rfl) ?_
      refine mm_getp S hR fdX3_27 (hK.k g2) rfl dX3_tellOthers_55 ?_
      refine mm_aload S dX3_tellOthers_58 (lv_at hl 0 rfl) ?_
      refine mm_geti S hR fdX3_101 (hK.k g6) rfl dX3_tellOthers_60 ?_
      obtain ⟨g13, hf⟩ := gd hf
      obtain ⟨y12, hy12, hf⟩ := bd hf
      refine mm_callVv S hR hS hA (As := [.int (mI μ11 y5.1 0)]) (rest := []) cvX3_104 (hK.k g13) (kX4_add_c l G A (hK.k g13) hy12) rfl rfl ⟨Nat.le_of_ble_eq_true rfl, Nat.le_of_ble_eq_true rfl⟩ rfl hl.1 rfl (lv_room (by simp [rf_cat, int_cat, long_cat])) dX3_tellOthers_63 ⟨Nat.zero_le _, Nat.zero_le _⟩ (fun H locs hR hS => ?_)
      have hK : mmKN μ y12 := hK.tr (kX4_add_kn hy12)
      refine lv_goto (tgt := 72) S.1 S.2.1 dX3_tellOthers_66 (by decide) ?_
      refine lv_iinc (v := (x3 + (-1))) (lv' := [(3, .int (x3 + (-1))), (4, rf y5.1), (0, rf h0), (1, rf h1), (2, .int x2)]) S.1 S.2.1 dX3_tellOthers_72 hl (k := 4) rfl (by rfl) (by decide) rfl (fun ls hl => ?_)
      refine lv_goto (tgt := 10) S.1 S.2.1 dX3_tellOthers_75 (by decide) ?_
      exact hkk10 h0 h1 x2 (x3 + (-1)) y12 hf _ _ _ hR hS (lv_sub hl [2, 3, 4, 0] rfl)
theorem wlX3_tellOthers_10 {p : Program} {l : Launch} {e : Env} {s : State} {m : MethodId} {args : Array Value} {below : List Frame} {meth : Method} {c : Code} {G : mmG} {A : Nat → Prop} {res : MM} (E0 : mmEnv p m c cX3_tellOthers 5 s args RX3 G A meth none)  : ∀ (n : Nat) (h0 : Nat) (h1 : Nat) (x2 : Int32) (x3 : Int32) (μ : MM), lX3_tellOthers_10  n h0 h1 x2 x3 μ = some res → mmGoal p l e rmX3_tellOthers s m args below meth c G A 10 5 [(0, rf h0), (1, rf h1), (2, .int x2), (3, .int x3)] μ (mmQ G A res none) := by
  intro n
  induction n with
  | zero => intro h0 h1 x2 x3 μ hf; cases hf
  | succ n ih => intro h0 h1 x2 x3 μ hf; exact wbX3_tellOthers_10 E0  _ ih h0 h1 x2 x3 μ hf
set_option maxRecDepth 100000 in
set_option maxHeartbeats 4000000 in
theorem kX3_tellOthers_c (l : Launch) (G : mmG) (A : Nat → Prop) {μ : MM} {res : MM} {h0 : Nat} {h1 : Nat} (hk0 : mK μ h0 = 4) (hf : fX3_tellOthers h0 h1 μ = some res) : Met l yX3_tellOthers [.code yX3_tellOthers cX3_tellOthers 5 none] rmX3_tellOthers (mmPc G A μ [rf h0, rf h1]) (mmQ G A res none) 0 0 A := by
  refine mm_ofW (by decide +kernel) (by simp [lg_sl, rf_cat, int_cat]) ?_
  intro p e s m below meth c ls S hR hA hS hr hlocks hl hnm
  have hl : lv_has ls 5 [(0, rf h0), (1, rf h1)] := by simpa [lv_args, rf_cat, int_cat] using hl
  have E0 : mmEnv p m c cX3_tellOthers 5 s _ RX3 G A meth none := ⟨S, hA, hr, hlocks⟩
  have hK : mmKN μ μ := mmKN.rf
  unfold fX3_tellOthers at hf
  refine lv_iconst (v := 0) S.1 S.2.1 dX3_tellOthers_0 (by decide) ?_
  refine lv_istore_n (i := 2) (lv' := [(2, .int 0), (0, rf h0), (1, rf h1)]) S.1 S.2.1 dX3_tellOthers_1 rfl hl (by decide) (by simp [rf_cat]) (fun ls hl => ?_)
  refine mm_aload_n S dX3_tellOthers_2 rfl (lv_at hl 1 rfl) ?_
  refine mm_getp S hR fdX3_31 (hK.k hk0) rfl dX3_tellOthers_3 ?_
  obtain ⟨g1, hf⟩ := gd hf
  refine mm_geti S hR fdX3_75 (hK.k g1) rfl dX3_tellOthers_6 ?_
  refine lv_istore_n (i := 3) (lv' := [(3, .int (mI μ (mP μ h0 4) 1)), (2, .int 0), (0, rf h0), (1, rf h1)]) S.1 S.2.1 dX3_tellOthers_9 rfl hl (by decide) rfl (fun ls hl => ?_)
  exact wlX3_tellOthers_10 E0  FU h0 h1 0 (mI μ (mP μ h0 4) 1) μ hf _ _ _ hR hS (lv_sub hl [2, 3, 1, 0] rfl)
-- X3_doTurns
def bX3_doTurns_2 (kk2 : Nat → Int32 → Int32 → MM → Option (Int32 × MM)) (h0 : Nat) (x1 : Int32) (x2 : Int32) (μ : MM) : Option (Int32 × MM) :=
  if x1 ≤ x2 then (some (x2, μ)) else (if mK μ h0 = 4 then if mK μ (mP μ h0 3) = 5 then if (mI μ (mP μ h0 3) 1) ≤ 0 then (some (x2, μ)) else ((fX4_numberAt (mP μ h0 3) 0 μ).bind fun y5 => (fX3_at h0 y5.1 y5.2).bind fun y6 => if mK μ (mP y6.2 h0 3) = 5 then (fX4_removeAt (mP y6.2 h0 3) 0 y6.2).bind fun y7 => st (sI y7 h0 7 ((mI y7 h0 7) + 1)) fun μ9 => if mK μ y6.1 = 3 then (fX3_beginCall h0 (mI μ9 y6.1 0) μ9).bind fun y11 => (fX3_inmostOf h0 y6.1 y11).bind fun y12 => (fX3_beginTurn h0 y12.1 y12.2).bind fun y13 => (fX3_goOn h0 y6.1 y12.1 y13).bind fun y14 => (fX2_isOver y6.1 y14).bind fun y15 => if y15.1 = 0 then (kk2 h0 x1 (x2 + 1) y15.2) else ((fX3_tellOthers h0 y6.1 y15.2).bind fun y17 => kk2 h0 x1 (x2 + 1) y17) else none else none) else none else none)
def lX3_doTurns_2  : Nat → Nat → Int32 → Int32 → MM → Option (Int32 × MM)
  | 0, _, _, _, _ => none
  | n + 1, h0, x1, x2, μ => bX3_doTurns_2  (fun h0 x1 x2 μ => lX3_doTurns_2  n h0 x1 x2 μ) h0 x1 x2 μ
def fX3_doTurns (h0 : Nat) (x1 : Int32) (μ : MM) : Option (Int32 × MM) :=
  lX3_doTurns_2  FU h0 x1 0 μ
set_option maxRecDepth 100000 in
set_option maxHeartbeats 4000000 in
theorem knbX3_doTurns_2 (kk2 : Nat → Int32 → Int32 → MM → Option (Int32 × MM)) (hkk2 : ∀ (h0 : Nat) (x1 : Int32) (x2 : Int32) (μ : MM) (res : Int32 × MM), kk2 h0 x1 x2 μ = some res → mmKN μ res.2) : ∀ (h0 : Nat) (x1 : Int32) (x2 : Int32) (μ : MM) (res : Int32 × MM), bX3_doTurns_2 kk2 h0 x1 x2 μ = some res → mmKN μ res.2 := by
  intro h0 x1 x2 μ res hf
  have hK : mmKN μ μ := mmKN.rf
  unfold bX3_doTurns_2 at hf
  rcases it_or hf with ⟨c1, hf⟩ | ⟨c1, hf⟩
  · skip
    obtain rfl := Option.some.inj hf
    exact hK
  · skip
    obtain ⟨g2, hf⟩ := gd hf
    obtain ⟨g3, hf⟩ := gd hf
    rcases it_or hf with ⟨c4, hf⟩ | ⟨c4, hf⟩
    · skip
      obtain rfl := Option.some.inj hf
      exact hK
    · skip
      obtain ⟨y5, hy5, hf⟩ := bd hf
      have hK : mmKN μ y5.2 := hK.tr (kX4_numberAt_kn hy5)
      obtain ⟨y6, hy6, hf⟩ := bd hf
      have hK : mmKN μ y6.2 := hK.tr (kX3_at_kn hy6)
      obtain ⟨g8, hf⟩ := gd hf
      obtain ⟨y7, hy7, hf⟩ := bd hf
      have hK : mmKN μ y7 := hK.tr (kX4_removeAt_kn hy7)
      obtain ⟨μ9, e9, hf⟩ := stx hf
      have hK : mmKN μ μ9 := by rw [e9]; exact hK.sI
      obtain ⟨g10, hf⟩ := gd hf
      obtain ⟨y11, hy11, hf⟩ := bd hf
      have hK : mmKN μ y11 := hK.tr (kX3_beginCall_kn hy11)
      obtain ⟨y12, hy12, hf⟩ := bd hf
      have hK : mmKN μ y12.2 := hK.tr (kX3_inmostOf_kn hy12)
      obtain ⟨y13, hy13, hf⟩ := bd hf
      have hK : mmKN μ y13 := hK.tr (kX3_beginTurn_kn hy13)
      obtain ⟨y14, hy14, hf⟩ := bd hf
      have hK : mmKN μ y14 := hK.tr (kX3_goOn_kn hy14)
      obtain ⟨y15, hy15, hf⟩ := bd hf
      have hK : mmKN μ y15.2 := hK.tr (kX2_isOver_kn hy15)
      rcases it_or hf with ⟨c16, hf⟩ | ⟨c16, hf⟩
      · skip
        exact hK.tr (hkk2 h0 x1 (x2 + 1) y15.2 _ hf)
      · skip
        obtain ⟨y17, hy17, hf⟩ := bd hf
        have hK : mmKN μ y17 := hK.tr (kX3_tellOthers_kn hy17)
        exact hK.tr (hkk2 h0 x1 (x2 + 1) y17 _ hf)
theorem knlX3_doTurns_2  : ∀ (n : Nat) (h0 : Nat) (x1 : Int32) (x2 : Int32) (μ : MM) (res : Int32 × MM), lX3_doTurns_2  n h0 x1 x2 μ = some res → mmKN μ res.2 := by
  intro n
  induction n with
  | zero => intro h0 x1 x2 μ res hf; cases hf
  | succ n ih => intro h0 x1 x2 μ res hf; exact knbX3_doTurns_2  _ ih h0 x1 x2 μ res hf
set_option maxRecDepth 100000 in
set_option maxHeartbeats 4000000 in
theorem kX3_doTurns_kn {μ : MM} {res : Int32 × MM} {h0 : Nat} {x1 : Int32} (hf : fX3_doTurns h0 x1 μ = some res) : mmKN μ res.2 := by
  have hK : mmKN μ μ := mmKN.rf
  unfold fX3_doTurns at hf
  exact hK.tr (knlX3_doTurns_2  FU h0 x1 0 μ _ hf)
abbrev rmX3_doTurns : Room := { frames := 5, cells := 0, slots := 0, locals := 120 }
set_option maxRecDepth 100000 in
set_option maxHeartbeats 4000000 in
theorem wbX3_doTurns_2 {p : Program} {l : Launch} {e : Env} {s : State} {m : MethodId} {args : Array Value} {below : List Frame} {meth : Method} {c : Code} {G : mmG} {A : Nat → Prop} {res : Int32 × MM} (E0 : mmEnv p m c cX3_doTurns 5 s args RX3 G A meth (some (.int))) (kk2 : Nat → Int32 → Int32 → MM → Option (Int32 × MM)) (hkk2 : ∀ (h0 : Nat) (x1 : Int32) (x2 : Int32) (μ : MM), kk2 h0 x1 x2 μ = some res → mmGoal p l e rmX3_doTurns s m args below meth c G A 2 5 [(0, rf h0), (1, .int x1), (2, .int x2)] μ (mmQ G A res.2 (some (.int res.1)))) : ∀ (h0 : Nat) (x1 : Int32) (x2 : Int32) (μ : MM), bX3_doTurns_2 kk2 h0 x1 x2 μ = some res → mmGoal p l e rmX3_doTurns s m args below meth c G A 2 5 [(0, rf h0), (1, .int x1), (2, .int x2)] μ (mmQ G A res.2 (some (.int res.1))) := by
  obtain ⟨S, hA, hr, hlocks⟩ := id E0
  intro h0 x1 x2 μ hf H locs ls hR hS hl
  have hK : mmKN μ μ := mmKN.rf
  unfold bX3_doTurns_2 at hf
  refine lv_iload_n S.1 S.2.1 dX3_doTurns_2 rfl (lv_at hl 2 rfl) ?_
  refine lv_iload_n S.1 S.2.1 dX3_doTurns_3 rfl (lv_at hl 1 rfl) ?_
  refine lv_icmp_ge (tgt := 94) S.1 S.2.1 dX3_doTurns_4 (by decide) (fun c1 => ?_) (fun c1 => ?_)
  · have hf := it_t hf c1
    refine lv_iload_n S.1 S.2.1 dX3_doTurns_94 rfl (lv_at hl 2 rfl) ?_
    obtain rfl := Option.some.inj hf
    exact mm_iret S hR hS hr hlocks dX3_doTurns_95
  · have hf := it_f hf c1
    refine mm_aload_n S dX3_doTurns_7 rfl (lv_at hl 0 rfl) ?_
    obtain ⟨g2, hf⟩ := gd hf
    refine mm_getp S hR fdX3_27 (hK.k g2) rfl dX3_doTurns_8 ?_
    obtain ⟨g3, hf⟩ := gd hf
    refine mm_geti S hR fdX3_75 (hK.k g3) rfl dX3_doTurns_11 ?_
    refine lv_if_le (tgt := 94) S.1 S.2.1 dX3_doTurns_14 (by decide) (fun c4 => ?_) (fun c4 => ?_)
    · have hf := it_t hf c4
      refine lv_iload_n S.1 S.2.1 dX3_doTurns_94 rfl (lv_at hl 2 rfl) ?_
      obtain rfl := Option.some.inj hf
      exact mm_iret S hR hS hr hlocks dX3_doTurns_95
    · have hf := it_f hf c4
      refine mm_aload_n S dX3_doTurns_17 rfl (lv_at hl 0 rfl) ?_
      refine mm_aload_n S dX3_doTurns_18 rfl (lv_at hl 0 rfl) ?_
      refine mm_getp S hR fdX3_27 (hK.k g2) rfl dX3_doTurns_19 ?_
      refine lv_iconst (v := 0) S.1 S.2.1 dX3_doTurns_22 (by decide) ?_
      obtain ⟨y5, hy5, hf⟩ := bd hf
      refine mm_callVi S hR hS hA (As := [.int 0]) (rest := [rf h0]) cvX3_78 (hK.k g3) (kX4_numberAt_c l G A (hK.k g3) hy5) rfl rfl ⟨Nat.le_of_ble_eq_true rfl, Nat.le_of_ble_eq_true rfl⟩ rfl hl.1 rfl (lv_room (by simp [rf_cat, int_cat, long_cat])) dX3_doTurns_23 ⟨Nat.zero_le _, Nat.zero_le _⟩ (fun H locs hR hS => ?_)
      have hK : mmKN μ y5.2 := hK.tr (kX4_numberAt_kn hy5)
      obtain ⟨y6, hy6, hf⟩ := bd hf
      refine mm_callVh S hR hS hA (As := [.int y5.1]) (rest := []) cvX3_55 (hK.k g2) (kX3_at_c l G A (hK.k g2) hy6) rfl rfl ⟨Nat.le_of_ble_eq_true rfl, Nat.le_of_ble_eq_true rfl⟩ rfl hl.1 rfl (lv_room (by simp [rf_cat, int_cat, long_cat])) dX3_doTurns_26 ⟨Nat.zero_le _, Nat.zero_le _⟩ (fun H locs hR hS => ?_)
      have hK : mmKN μ y6.2 := hK.tr (kX3_at_kn hy6)
      refine mm_astore_n (i := 3) (lv' := [(3, rf y6.1), (0, rf h0), (1, .int x1), (2, .int x2)]) S dX3_doTurns_29 rfl hl (by decide) rfl (fun ls hl => ?_)
      refine mm_aload_n S dX3_doTurns_30 rfl (lv_at hl 1 rfl) ?_
      refine mm_getp S hR fdX3_27 (hK.k g2) rfl dX3_doTurns_31 ?_
      refine lv_iconst (v := 0) S.1 S.2.1 dX3_doTurns_34 (by decide) ?_
      obtain ⟨g8, hf⟩ := gd hf
      obtain ⟨y7, hy7, hf⟩ := bd hf
      refine mm_callVv S hR hS hA (As := [.int 0]) (rest := []) cvX3_147 (hK.k g8) (kX4_removeAt_c l G A (hK.k g8) hy7) rfl rfl ⟨Nat.le_of_ble_eq_true rfl, Nat.le_of_ble_eq_true rfl⟩ rfl hl.1 rfl (lv_room (by simp [rf_cat, int_cat, long_cat])) dX3_doTurns_35 ⟨Nat.zero_le _, Nat.zero_le _⟩ (fun H locs hR hS => ?_)
      have hK : mmKN μ y7 := hK.tr (kX4_removeAt_kn hy7)
      refine mm_aload_n S dX3_doTurns_38 rfl (lv_at hl 1 rfl) ?_
      refine lv_dup S.1 S.2.1 dX3_doTurns_39 (rf_cat _) ?_
      refine mm_geti S hR fdX3_48 (hK.k g2) rfl dX3_doTurns_40 ?_
      refine lv_iconst (v := 1) S.1 S.2.1 dX3_doTurns_43 (by decide) ?_
      refine lv_iadd S.1 S.2.1 dX3_doTurns_44 ?_
      refine mm_puti S hR hS fpX3_48 (hK.k g2) rfl rfl rfl dX3_doTurns_45 (fun H locs hR hS => ?_)
      obtain ⟨μ9, e9, hf⟩ := stx hf
      rw [← e9] at hR
      have hK : mmKN μ μ9 := by rw [e9]; exact hK.sI
      refine mm_aload_n S dX3_doTurns_48 rfl (lv_at hl 1 rfl) ?_
      refine mm_aload_n S dX3_doTurns_49 rfl (lv_at hl 0 rfl) ?_
      obtain ⟨g10, hf⟩ := gd hf
      refine mm_geti S hR fdX3_101 (hK.k g10) rfl dX3_doTurns_50 ?_
      obtain ⟨y11, hy11, hf⟩ := bd hf
      refine mm_callVv S hR hS hA (As := [.int (mI μ9 y6.1 0)]) (rest := []) cvX3_111 (hK.k g2) (kX3_beginCall_c l G A (hK.k g2) hy11) rfl rfl ⟨Nat.le_of_ble_eq_true rfl, Nat.le_of_ble_eq_true rfl⟩ rfl hl.1 rfl (lv_room (by simp [rf_cat, int_cat, long_cat])) dX3_doTurns_53 ⟨Nat.zero_le _, Nat.zero_le _⟩ (fun H locs hR hS => ?_)
      have hK : mmKN μ y11 := hK.tr (kX3_beginCall_kn hy11)
      refine mm_aload_n S dX3_doTurns_56 rfl (lv_at hl 1 rfl) ?_
      refine mm_aload_n S dX3_doTurns_57 rfl (lv_at hl 0 rfl) ?_
      obtain ⟨y12, hy12, hf⟩ := bd hf
      refine mm_callVh S hR hS hA (As := [rf y6.1]) (rest := []) cvX3_107 (hK.k g2) (kX3_inmostOf_c l G A (hK.k g2) hy12) rfl rfl ⟨Nat.le_of_ble_eq_true rfl, Nat.le_of_ble_eq_true rfl⟩ rfl hl.1 rfl (lv_room (by simp [rf_cat, int_cat, long_cat])) dX3_doTurns_58 ⟨Nat.zero_le _, Nat.zero_le _⟩ (fun H locs hR hS => ?_)
      have hK : mmKN μ y12.2 := hK.tr (kX3_inmostOf_kn hy12)
      refine mm_astore (i := 4) (lv' := [(4, rf y12.1), (3, rf y6.1), (0, rf h0), (1, .int x1), (2, .int x2)]) S dX3_doTurns_61 hl (by decide) (by simp [rf_cat]) (fun ls hl => ?_)
      refine mm_aload_n S dX3_doTurns_63 rfl (lv_at hl 2 rfl) ?_
      refine mm_aload S dX3_doTurns_64 (lv_at hl 0 rfl) ?_
      obtain ⟨y13, hy13, hf⟩ := bd hf
      refine mm_callVv S hR hS hA (As := [rf y12.1]) (rest := []) cvX3_150 (hK.k g2) (kX3_beginTurn_c l G A (hK.k g2) hy13) rfl rfl ⟨Nat.le_of_ble_eq_true rfl, Nat.le_of_ble_eq_true rfl⟩ rfl hl.1 rfl (lv_room (by simp [rf_cat, int_cat, long_cat])) dX3_doTurns_66 ⟨Nat.zero_le _, Nat.zero_le _⟩ (fun H locs hR hS => ?_)
      have hK : mmKN μ y13 := hK.tr (kX3_beginTurn_kn hy13)
      refine mm_aload_n S dX3_doTurns_69 rfl (lv_at hl 2 rfl) ?_
      refine mm_aload_n S dX3_doTurns_70 rfl (lv_at hl 1 rfl) ?_
      refine mm_aload S dX3_doTurns_71 (lv_at hl 0 rfl) ?_
      obtain ⟨y14, hy14, hf⟩ := bd hf
      refine mm_callVv S hR hS hA (As := [rf y6.1, rf y12.1]) (rest := []) cvX3_123 (hK.k g2) (kX3_goOn_c l G A (hK.k g2) hy14) rfl rfl ⟨Nat.le_of_ble_eq_true rfl, Nat.le_of_ble_eq_true rfl⟩ rfl hl.1 rfl (lv_room (by simp [rf_cat, int_cat, long_cat])) dX3_doTurns_73 ⟨Nat.zero_le _, Nat.zero_le _⟩ (fun H locs hR hS => ?_)
      have hK : mmKN μ y14 := hK.tr (kX3_goOn_kn hy14)
      refine mm_aload_n S dX3_doTurns_76 rfl (lv_at hl 1 rfl) ?_
      obtain ⟨y15, hy15, hf⟩ := bd hf
      refine mm_callVi S hR hS hA (As := []) (rest := []) cvX3_71 (hK.k g10) (kX2_isOver_c l G A (hK.k g10) hy15) rfl rfl ⟨Nat.le_of_ble_eq_true rfl, Nat.le_of_ble_eq_true rfl⟩ rfl hl.1 rfl (lv_room (by simp [rf_cat, int_cat, long_cat])) dX3_doTurns_77 ⟨Nat.zero_le _, Nat.zero_le _⟩ (fun H locs hR hS => ?_)
      have hK : mmKN μ y15.2 := hK.tr (kX2_isOver_kn hy15)
      refine lv_if_eq (tgt := 88) S.1 S.2.1 dX3_doTurns_80 (by decide) (fun c16 => ?_) (fun c16 => ?_)
      · have hf := it_t hf c16
        refine lv_iinc (v := (x2 + 1)) (lv' := [(2, .int (x2 + 1)), (4, rf y12.1), (3, rf y6.1), (0, rf h0), (1, .int x1)]) S.1 S.2.1 dX3_doTurns_88 hl (k := 4) rfl (by rfl) (by decide) rfl (fun ls hl => ?_)
        refine lv_goto (tgt := 2) S.1 S.2.1 dX3_doTurns_91 (by decide) ?_
        exact hkk2 h0 x1 (x2 + 1) y15.2 hf _ _ _ hR hS (lv_sub hl [3, 4, 0] rfl)
      · have hf := it_f hf c16
        refine mm_aload_n S dX3_doTurns_83 rfl (lv_at hl 2 rfl) ?_
        refine mm_aload_n S dX3_doTurns_84 rfl (lv_at hl 1 rfl) ?_
        obtain ⟨y17, hy17, hf⟩ := bd hf
        refine mm_callVv S hR hS hA (As := [rf y6.1]) (rest := []) cvX3_153 (hK.k g2) (kX3_tellOthers_c l G A (hK.k g2) hy17) rfl rfl ⟨Nat.le_of_ble_eq_true rfl, Nat.le_of_ble_eq_true rfl⟩ rfl hl.1 rfl (lv_room (by simp [rf_cat, int_cat, long_cat])) dX3_doTurns_85 ⟨Nat.zero_le _, Nat.zero_le _⟩ (fun H locs hR hS => ?_)
        have hK : mmKN μ y17 := hK.tr (kX3_tellOthers_kn hy17)
        refine lv_iinc (v := (x2 + 1)) (lv' := [(2, .int (x2 + 1)), (4, rf y12.1), (3, rf y6.1), (0, rf h0), (1, .int x1)]) S.1 S.2.1 dX3_doTurns_88 hl (k := 4) rfl (by rfl) (by decide) rfl (fun ls hl => ?_)
        refine lv_goto (tgt := 2) S.1 S.2.1 dX3_doTurns_91 (by decide) ?_
        exact hkk2 h0 x1 (x2 + 1) y17 hf _ _ _ hR hS (lv_sub hl [3, 4, 0] rfl)
theorem wlX3_doTurns_2 {p : Program} {l : Launch} {e : Env} {s : State} {m : MethodId} {args : Array Value} {below : List Frame} {meth : Method} {c : Code} {G : mmG} {A : Nat → Prop} {res : Int32 × MM} (E0 : mmEnv p m c cX3_doTurns 5 s args RX3 G A meth (some (.int)))  : ∀ (n : Nat) (h0 : Nat) (x1 : Int32) (x2 : Int32) (μ : MM), lX3_doTurns_2  n h0 x1 x2 μ = some res → mmGoal p l e rmX3_doTurns s m args below meth c G A 2 5 [(0, rf h0), (1, .int x1), (2, .int x2)] μ (mmQ G A res.2 (some (.int res.1))) := by
  intro n
  induction n with
  | zero => intro h0 x1 x2 μ hf; cases hf
  | succ n ih => intro h0 x1 x2 μ hf; exact wbX3_doTurns_2 E0  _ ih h0 x1 x2 μ hf
set_option maxRecDepth 100000 in
set_option maxHeartbeats 4000000 in
theorem kX3_doTurns_c (l : Launch) (G : mmG) (A : Nat → Prop) {μ : MM} {res : Int32 × MM} {h0 : Nat} {x1 : Int32} (hk0 : mK μ h0 = 4) (hf : fX3_doTurns h0 x1 μ = some res) : Met l yX3_doTurns [.code yX3_doTurns cX3_doTurns 5 (some (.int))] rmX3_doTurns (mmPc G A μ [rf h0, .int x1]) (mmQ G A res.2 (some (.int res.1))) 0 0 A := by
  refine mm_ofW (by decide +kernel) (by simp [lg_sl, rf_cat, int_cat]) ?_
  intro p e s m below meth c ls S hR hA hS hr hlocks hl hnm
  have hl : lv_has ls 5 [(0, rf h0), (1, .int x1)] := by simpa [lv_args, rf_cat, int_cat] using hl
  have E0 : mmEnv p m c cX3_doTurns 5 s _ RX3 G A meth (some (.int)) := ⟨S, hA, hr, hlocks⟩
  have hK : mmKN μ μ := mmKN.rf
  unfold fX3_doTurns at hf
  refine lv_iconst (v := 0) S.1 S.2.1 dX3_doTurns_0 (by decide) ?_
  refine lv_istore_n (i := 2) (lv' := [(2, .int 0), (0, rf h0), (1, .int x1)]) S.1 S.2.1 dX3_doTurns_1 rfl hl (by decide) rfl (fun ls hl => ?_)
  exact wlX3_doTurns_2 E0  FU h0 x1 0 μ hf _ _ _ hR hS (lv_sub hl [1, 2, 0] rfl)
-- X3_oneTick
def bX3_oneTick_14 (kk14 : Nat → Int32 → Int32 → MM → Option (Int32 × MM)) (h0 : Nat) (x1 : Int32) (x2 : Int32) (μ : MM) : Option (Int32 × MM) :=
  if mK μ h0 = 4 then if (mI μ h0 5) ≤ x2 then (some (x1, μ)) else ((fX3_at h0 x2 μ).bind fun y3 => if mK μ y3.1 = 3 then if (mI y3.2 y3.1 4) = (1 : Int32) then (if (mI y3.2 y3.1 12) = (mI y3.2 h0 6) then (st (sI y3.2 y3.1 12 (-1)) fun μ7 => if mK μ (mP μ7 h0 3) = 5 then (fX4_add (mP μ7 h0 3) x2 μ7).bind fun y8 => kk14 h0 (x1 + 1) (x2 + 1) y8 else none) else (kk14 h0 x1 (x2 + 1) y3.2)) else (kk14 h0 x1 (x2 + 1) y3.2) else none) else none
def lX3_oneTick_14  : Nat → Nat → Int32 → Int32 → MM → Option (Int32 × MM)
  | 0, _, _, _, _ => none
  | n + 1, h0, x1, x2, μ => bX3_oneTick_14  (fun h0 x1 x2 μ => lX3_oneTick_14  n h0 x1 x2 μ) h0 x1 x2 μ
def fX3_oneTick (h0 : Nat) (μ : MM) : Option (Int32 × MM) :=
  st (sI μ h0 6 ((mI μ h0 6) + 1)) fun μ1 => lX3_oneTick_14  FU h0 0 0 μ1
set_option maxRecDepth 100000 in
set_option maxHeartbeats 4000000 in
theorem knbX3_oneTick_14 (kk14 : Nat → Int32 → Int32 → MM → Option (Int32 × MM)) (hkk14 : ∀ (h0 : Nat) (x1 : Int32) (x2 : Int32) (μ : MM) (res : Int32 × MM), kk14 h0 x1 x2 μ = some res → mmKN μ res.2) : ∀ (h0 : Nat) (x1 : Int32) (x2 : Int32) (μ : MM) (res : Int32 × MM), bX3_oneTick_14 kk14 h0 x1 x2 μ = some res → mmKN μ res.2 := by
  intro h0 x1 x2 μ res hf
  have hK : mmKN μ μ := mmKN.rf
  unfold bX3_oneTick_14 at hf
  obtain ⟨g1, hf⟩ := gd hf
  rcases it_or hf with ⟨c2, hf⟩ | ⟨c2, hf⟩
  · skip
    obtain rfl := Option.some.inj hf
    exact hK
  · skip
    obtain ⟨y3, hy3, hf⟩ := bd hf
    have hK : mmKN μ y3.2 := hK.tr (kX3_at_kn hy3)
    obtain ⟨g4, hf⟩ := gd hf
    rcases it_or hf with ⟨c5, hf⟩ | ⟨c5, hf⟩
    · skip
      rcases it_or hf with ⟨c6, hf⟩ | ⟨c6, hf⟩
      · skip
        obtain ⟨μ7, e7, hf⟩ := stx hf
        have hK : mmKN μ μ7 := by rw [e7]; exact hK.sI
        obtain ⟨g9, hf⟩ := gd hf
        obtain ⟨y8, hy8, hf⟩ := bd hf
        have hK : mmKN μ y8 := hK.tr (kX4_add_kn hy8)
        exact hK.tr (hkk14 h0 (x1 + 1) (x2 + 1) y8 _ hf)
      · skip
        exact hK.tr (hkk14 h0 x1 (x2 + 1) y3.2 _ hf)
    · skip
      exact hK.tr (hkk14 h0 x1 (x2 + 1) y3.2 _ hf)
theorem knlX3_oneTick_14  : ∀ (n : Nat) (h0 : Nat) (x1 : Int32) (x2 : Int32) (μ : MM) (res : Int32 × MM), lX3_oneTick_14  n h0 x1 x2 μ = some res → mmKN μ res.2 := by
  intro n
  induction n with
  | zero => intro h0 x1 x2 μ res hf; cases hf
  | succ n ih => intro h0 x1 x2 μ res hf; exact knbX3_oneTick_14  _ ih h0 x1 x2 μ res hf
set_option maxRecDepth 100000 in
set_option maxHeartbeats 4000000 in
theorem kX3_oneTick_kn {μ : MM} {res : Int32 × MM} {h0 : Nat} (hf : fX3_oneTick h0 μ = some res) : mmKN μ res.2 := by
  have hK : mmKN μ μ := mmKN.rf
  unfold fX3_oneTick at hf
  obtain ⟨μ1, e1, hf⟩ := stx hf
  have hK : mmKN μ μ1 := by rw [e1]; exact hK.sI
  exact hK.tr (knlX3_oneTick_14  FU h0 0 0 μ1 _ hf)
abbrev rmX3_oneTick : Room := { frames := 1, cells := 0, slots := 0, locals := 21 }
set_option maxRecDepth 100000 in
set_option maxHeartbeats 4000000 in
theorem wbX3_oneTick_14 {p : Program} {l : Launch} {e : Env} {s : State} {m : MethodId} {args : Array Value} {below : List Frame} {meth : Method} {c : Code} {G : mmG} {A : Nat → Prop} {res : Int32 × MM} (E0 : mmEnv p m c cX3_oneTick 4 s args RX3 G A meth (some (.int))) (kk14 : Nat → Int32 → Int32 → MM → Option (Int32 × MM)) (hkk14 : ∀ (h0 : Nat) (x1 : Int32) (x2 : Int32) (μ : MM), kk14 h0 x1 x2 μ = some res → mmGoal p l e rmX3_oneTick s m args below meth c G A 14 4 [(0, rf h0), (1, .int x1), (2, .int x2)] μ (mmQ G A res.2 (some (.int res.1)))) : ∀ (h0 : Nat) (x1 : Int32) (x2 : Int32) (μ : MM), bX3_oneTick_14 kk14 h0 x1 x2 μ = some res → mmGoal p l e rmX3_oneTick s m args below meth c G A 14 4 [(0, rf h0), (1, .int x1), (2, .int x2)] μ (mmQ G A res.2 (some (.int res.1))) := by
  obtain ⟨S, hA, hr, hlocks⟩ := id E0
  intro h0 x1 x2 μ hf H locs ls hR hS hl
  have hK : mmKN μ μ := mmKN.rf
  unfold bX3_oneTick_14 at hf
  refine lv_iload_n S.1 S.2.1 dX3_oneTick_14 rfl (lv_at hl 2 rfl) ?_
  refine mm_aload_n S dX3_oneTick_15 rfl (lv_at hl 0 rfl) ?_
  obtain ⟨g1, hf⟩ := gd hf
  refine mm_geti S hR fdX3_41 (hK.k g1) rfl dX3_oneTick_16 ?_
  refine lv_icmp_ge (tgt := 69) S.1 S.2.1 dX3_oneTick_19 (by decide) (fun c2 => ?_) (fun c2 => ?_)
  · have hf := it_t hf c2
    refine lv_iload_n S.1 S.2.1 dX3_oneTick_69 rfl (lv_at hl 1 rfl) ?_
    obtain rfl := Option.some.inj hf
    exact mm_iret S hR hS hr hlocks dX3_oneTick_70
  · have hf := it_f hf c2
    refine mm_aload_n S dX3_oneTick_22 rfl (lv_at hl 0 rfl) ?_
    refine lv_iload_n S.1 S.2.1 dX3_oneTick_23 rfl (lv_at hl 2 rfl) ?_
    obtain ⟨y3, hy3, hf⟩ := bd hf
    refine mm_callVh S hR hS hA (As := [.int x2]) (rest := []) cvX3_55 (hK.k g1) (kX3_at_c l G A (hK.k g1) hy3) rfl rfl ⟨Nat.le_of_ble_eq_true rfl, Nat.le_of_ble_eq_true rfl⟩ rfl hl.1 rfl (lv_room (by simp [rf_cat, int_cat, long_cat])) dX3_oneTick_24 ⟨Nat.zero_le _, Nat.zero_le _⟩ (fun H locs hR hS => ?_)
    have hK : mmKN μ y3.2 := hK.tr (kX3_at_kn hy3)
    refine mm_astore_n (i := 3) (lv' := [(3, rf y3.1), (0, rf h0), (1, .int x1), (2, .int x2)]) S dX3_oneTick_27 rfl hl (by decide) rfl (fun ls hl => ?_)
    refine mm_aload_n S dX3_oneTick_28 rfl (lv_at hl 0 rfl) ?_
    obtain ⟨g4, hf⟩ := gd hf
    refine mm_geti S hR fdX3_62 (hK.k g4) rfl dX3_oneTick_29 ?_
    refine lv_iconst (v := 1) S.1 S.2.1 dX3_oneTick_32 (by decide) ?_
    refine lv_icmp_ne (tgt := 63) S.1 S.2.1 dX3_oneTick_33 (by decide) (fun c5 => ?_) (fun c5 => ?_)
    · have hf := it_f hf c5
      refine lv_iinc (v := (x2 + 1)) (lv' := [(2, .int (x2 + 1)), (3, rf y3.1), (0, rf h0), (1, .int x1)]) S.1 S.2.1 dX3_oneTick_63 hl (k := 3) rfl (by rfl) (by decide) rfl (fun ls hl => ?_)
      refine lv_goto (tgt := 14) S.1 S.2.1 dX3_oneTick_66 (by decide) ?_
      exact hkk14 h0 x1 (x2 + 1) y3.2 hf _ _ _ hR hS (lv_sub hl [2, 3, 0] rfl)
    · have hf := it_t hf c5
      refine mm_aload_n S dX3_oneTick_36 rfl (lv_at hl 0 rfl) ?_
      refine mm_geti S hR fdX3_196 (hK.k g4) rfl dX3_oneTick_37 ?_
      refine mm_aload_n S dX3_oneTick_40 rfl (lv_at hl 1 rfl) ?_
      refine mm_geti S hR fdX3_45 (hK.k g1) rfl dX3_oneTick_41 ?_
      refine lv_icmp_ne (tgt := 63) S.1 S.2.1 dX3_oneTick_44 (by decide) (fun c6 => ?_) (fun c6 => ?_)
      · have hf := it_f hf c6
        refine lv_iinc (v := (x2 + 1)) (lv' := [(2, .int (x2 + 1)), (3, rf y3.1), (0, rf h0), (1, .int x1)]) S.1 S.2.1 dX3_oneTick_63 hl (k := 3) rfl (by rfl) (by decide) rfl (fun ls hl => ?_)
        refine lv_goto (tgt := 14) S.1 S.2.1 dX3_oneTick_66 (by decide) ?_
        exact hkk14 h0 x1 (x2 + 1) y3.2 hf _ _ _ hR hS (lv_sub hl [2, 3, 0] rfl)
      · have hf := it_t hf c6
        refine mm_aload_n S dX3_oneTick_47 rfl (lv_at hl 0 rfl) ?_
        refine lv_iconst (v := (-1)) S.1 S.2.1 dX3_oneTick_48 (by decide) ?_
        refine mm_puti S hR hS fpX3_196 (hK.k g4) rfl rfl rfl dX3_oneTick_49 (fun H locs hR hS => ?_)
        obtain ⟨μ7, e7, hf⟩ := stx hf
        rw [← e7] at hR
        have hK : mmKN μ μ7 := by rw [e7]; exact hK.sI
        refine mm_aload_n S dX3_oneTick_52 rfl (lv_at hl 1 rfl) ?_
        refine mm_getp S hR fdX3_27 (hK.k g1) rfl dX3_oneTick_53 ?_
        refine lv_iload_n S.1 S.2.1 dX3_oneTick_56 rfl (lv_at hl 3 rfl) ?_
        obtain ⟨g9, hf⟩ := gd hf
        obtain ⟨y8, hy8, hf⟩ := bd hf
        refine mm_callVv S hR hS hA (As := [.int x2]) (rest := []) cvX3_104 (hK.k g9) (kX4_add_c l G A (hK.k g9) hy8) rfl rfl ⟨Nat.le_of_ble_eq_true rfl, Nat.le_of_ble_eq_true rfl⟩ rfl hl.1 rfl (lv_room (by simp [rf_cat, int_cat, long_cat])) dX3_oneTick_57 ⟨Nat.zero_le _, Nat.zero_le _⟩ (fun H locs hR hS => ?_)
        have hK : mmKN μ y8 := hK.tr (kX4_add_kn hy8)
        refine lv_iinc (v := (x1 + 1)) (lv' := [(1, .int (x1 + 1)), (3, rf y3.1), (0, rf h0), (2, .int x2)]) S.1 S.2.1 dX3_oneTick_60 hl (k := 2) rfl (by rfl) (by decide) (by simp [rf_cat]) (fun ls hl => ?_)
        refine lv_iinc (v := (x2 + 1)) (lv' := [(2, .int (x2 + 1)), (1, .int (x1 + 1)), (3, rf y3.1), (0, rf h0)]) S.1 S.2.1 dX3_oneTick_63 hl (k := 3) rfl (by rfl) (by decide) rfl (fun ls hl => ?_)
        refine lv_goto (tgt := 14) S.1 S.2.1 dX3_oneTick_66 (by decide) ?_
        exact hkk14 h0 (x1 + 1) (x2 + 1) y8 hf _ _ _ hR hS (lv_sub hl [3, 1, 0] rfl)
theorem wlX3_oneTick_14 {p : Program} {l : Launch} {e : Env} {s : State} {m : MethodId} {args : Array Value} {below : List Frame} {meth : Method} {c : Code} {G : mmG} {A : Nat → Prop} {res : Int32 × MM} (E0 : mmEnv p m c cX3_oneTick 4 s args RX3 G A meth (some (.int)))  : ∀ (n : Nat) (h0 : Nat) (x1 : Int32) (x2 : Int32) (μ : MM), lX3_oneTick_14  n h0 x1 x2 μ = some res → mmGoal p l e rmX3_oneTick s m args below meth c G A 14 4 [(0, rf h0), (1, .int x1), (2, .int x2)] μ (mmQ G A res.2 (some (.int res.1))) := by
  intro n
  induction n with
  | zero => intro h0 x1 x2 μ hf; cases hf
  | succ n ih => intro h0 x1 x2 μ hf; exact wbX3_oneTick_14 E0  _ ih h0 x1 x2 μ hf
set_option maxRecDepth 100000 in
set_option maxHeartbeats 4000000 in
theorem kX3_oneTick_c (l : Launch) (G : mmG) (A : Nat → Prop) {μ : MM} {res : Int32 × MM} {h0 : Nat} (hk0 : mK μ h0 = 4) (hf : fX3_oneTick h0 μ = some res) : Met l yX3_oneTick [.code yX3_oneTick cX3_oneTick 4 (some (.int))] rmX3_oneTick (mmPc G A μ [rf h0]) (mmQ G A res.2 (some (.int res.1))) 0 0 A := by
  refine mm_ofW (by decide +kernel) (by simp [lg_sl, rf_cat, int_cat]) ?_
  intro p e s m below meth c ls S hR hA hS hr hlocks hl hnm
  have hl : lv_has ls 4 [(0, rf h0)] := by simpa [lv_args, rf_cat, int_cat] using hl
  have E0 : mmEnv p m c cX3_oneTick 4 s _ RX3 G A meth (some (.int)) := ⟨S, hA, hr, hlocks⟩
  have hK : mmKN μ μ := mmKN.rf
  unfold fX3_oneTick at hf
  refine mm_aload_n S dX3_oneTick_0 rfl (lv_at hl 0 rfl) ?_
  refine lv_dup S.1 S.2.1 dX3_oneTick_1 (rf_cat _) ?_
  refine mm_geti S hR fdX3_45 (hK.k hk0) rfl dX3_oneTick_2 ?_
  refine lv_iconst (v := 1) S.1 S.2.1 dX3_oneTick_5 (by decide) ?_
  refine lv_iadd S.1 S.2.1 dX3_oneTick_6 ?_
  refine mm_puti S hR hS fpX3_45 (hK.k hk0) rfl rfl rfl dX3_oneTick_7 (fun H locs hR hS => ?_)
  obtain ⟨μ1, e1, hf⟩ := stx hf
  rw [← e1] at hR
  have hK : mmKN μ μ1 := by rw [e1]; exact hK.sI
  refine lv_iconst (v := 0) S.1 S.2.1 dX3_oneTick_10 (by decide) ?_
  refine lv_istore_n (i := 1) (lv' := [(1, .int 0), (0, rf h0)]) S.1 S.2.1 dX3_oneTick_11 rfl hl (by decide) (by simp [rf_cat]) (fun ls hl => ?_)
  refine lv_iconst (v := 0) S.1 S.2.1 dX3_oneTick_12 (by decide) ?_
  refine lv_istore_n (i := 2) (lv' := [(2, .int 0), (1, .int 0), (0, rf h0)]) S.1 S.2.1 dX3_oneTick_13 rfl hl (by decide) rfl (fun ls hl => ?_)
  exact wlX3_oneTick_14 E0  FU h0 0 0 μ1 hf _ _ _ hR hS (lv_sub hl [2, 1, 0] rfl)
