-- X3_at
def fX3_at (h0 : Nat) (x1 : Int32) (μ : MM) : Option (Nat × MM) :=
  if x1 < 0 then (some ((mP μ h0 2), μ)) else (if (24 : Int32) ≤ x1 then (some ((mP μ h0 2), μ)) else (if mK μ (mP μ h0 1) = 22 then if ¬ (x1 < 0 ∨ mN μ (mP μ h0 1) ≤ x1.toNatClampNeg) then some ((mP μ (mP μ h0 1) x1.toNatClampNeg), μ) else none else none))
set_option maxRecDepth 100000 in
set_option maxHeartbeats 4000000 in
theorem kX3_at_kn {μ : MM} {res : Nat × MM} {h0 : Nat} {x1 : Int32} (hf : fX3_at h0 x1 μ = some res) : mmKN μ res.2 := by
  have hK : mmKN μ μ := mmKN.rf
  unfold fX3_at at hf
  rcases it_or hf with ⟨c1, hf⟩ | ⟨c1, hf⟩
  · skip
    obtain rfl := Option.some.inj hf
    exact hK
  · skip
    rcases it_or hf with ⟨c2, hf⟩ | ⟨c2, hf⟩
    · skip
      obtain rfl := Option.some.inj hf
      exact hK
    · skip
      obtain ⟨g3, hf⟩ := gd hf
      obtain ⟨g4, hf⟩ := gd hf
      obtain rfl := Option.some.inj hf
      exact hK
abbrev rmX3_at : Room := { frames := 0, cells := 0, slots := 0, locals := 0 }
set_option maxRecDepth 100000 in
set_option maxHeartbeats 4000000 in
theorem kX3_at_c (l : Launch) (G : mmG) (A : Nat → Prop) {μ : MM} {res : Nat × MM} {h0 : Nat} {x1 : Int32} (hk0 : mK μ h0 = 4) (hf : fX3_at h0 x1 μ = some res) : Met l yX3_at [.code yX3_at cX3_at 2 (some (.object "YieldMoor$Coroutine"))] rmX3_at (mmPc G A μ [rf h0, .int x1]) (mmQ G A res.2 (some (rf res.1))) 0 0 A := by
  refine mm_ofW (by decide +kernel) (by simp [lg_sl, rf_cat, int_cat]) ?_
  intro p e s m below meth c ls S hR hA hS hr hlocks hl hnm
  have hl : lv_has ls 2 [(0, rf h0), (1, .int x1)] := by simpa [lv_args, rf_cat, int_cat] using hl
  have E0 : mmEnv p m c cX3_at 2 s _ RX3 G A meth (some (.object "YieldMoor$Coroutine")) := ⟨S, hA, hr, hlocks⟩
  have hK : mmKN μ μ := mmKN.rf
  unfold fX3_at at hf
  refine lv_iload_n S.1 S.2.1 dX3_at_0 rfl (lv_at hl 1 rfl) ?_
  refine lv_if_lt (tgt := 19) S.1 S.2.1 dX3_at_1 (by decide) (fun c1 => ?_) (fun c1 => ?_)
  · have hf := it_t hf c1
    refine mm_aload_n S dX3_at_19 rfl (lv_at hl 0 rfl) ?_
    refine mm_getp S hR fdX3_20 (hK.k hk0) rfl dX3_at_20 ?_
    obtain rfl := Option.some.inj hf
    exact mm_aret S hR hS hr hlocks dX3_at_23
  · have hf := it_f hf c1
    refine lv_iload_n S.1 S.2.1 dX3_at_4 rfl (lv_at hl 1 rfl) ?_
    refine lv_bipush (v := 24) S.1 S.2.1 dX3_at_5 (by decide) ?_
    refine lv_icmp_ge (tgt := 19) S.1 S.2.1 dX3_at_7 (by decide) (fun c2 => ?_) (fun c2 => ?_)
    · have hf := it_t hf c2
      refine mm_aload_n S dX3_at_19 rfl (lv_at hl 0 rfl) ?_
      refine mm_getp S hR fdX3_20 (hK.k hk0) rfl dX3_at_20 ?_
      obtain rfl := Option.some.inj hf
      exact mm_aret S hR hS hr hlocks dX3_at_23
    · have hf := it_f hf c2
      refine mm_aload_n S dX3_at_10 rfl (lv_at hl 0 rfl) ?_
      refine mm_getp S hR fdX3_11 (hK.k hk0) rfl dX3_at_11 ?_
      refine lv_iload_n S.1 S.2.1 dX3_at_14 rfl (lv_at hl 1 rfl) ?_
      obtain ⟨g3, hf⟩ := gd hf
      obtain ⟨g4, hf⟩ := gd hf
      refine mm_aald22 S hR (hK.k g3) g4 dX3_at_15 ?_
      refine lv_goto (tgt := 23) S.1 S.2.1 dX3_at_16 (by decide) ?_
      obtain rfl := Option.some.inj hf
      exact mm_aret S hR hS hr hlocks dX3_at_23
-- X3_isMade
def fX3_isMade (h0 : Nat) (x1 : Int32) (μ : MM) : Option (Int32 × MM) :=
  if x1 < 0 then (some (0, μ)) else (if (mI μ h0 5) ≤ x1 then (some (0, μ)) else (some (1, μ)))
set_option maxRecDepth 100000 in
set_option maxHeartbeats 4000000 in
theorem kX3_isMade_kn {μ : MM} {res : Int32 × MM} {h0 : Nat} {x1 : Int32} (hf : fX3_isMade h0 x1 μ = some res) : mmKN μ res.2 := by
  have hK : mmKN μ μ := mmKN.rf
  unfold fX3_isMade at hf
  rcases it_or hf with ⟨c1, hf⟩ | ⟨c1, hf⟩
  · skip
    obtain rfl := Option.some.inj hf
    exact hK
  · skip
    rcases it_or hf with ⟨c2, hf⟩ | ⟨c2, hf⟩
    · skip
      obtain rfl := Option.some.inj hf
      exact hK
    · skip
      obtain rfl := Option.some.inj hf
      exact hK
abbrev rmX3_isMade : Room := { frames := 0, cells := 0, slots := 0, locals := 0 }
set_option maxRecDepth 100000 in
set_option maxHeartbeats 4000000 in
theorem kX3_isMade_c (l : Launch) (G : mmG) (A : Nat → Prop) {μ : MM} {res : Int32 × MM} {h0 : Nat} {x1 : Int32} (hk0 : mK μ h0 = 4) (hf : fX3_isMade h0 x1 μ = some res) : Met l yX3_isMade [.code yX3_isMade cX3_isMade 2 (some (.boolean))] rmX3_isMade (mmPc G A μ [rf h0, .int x1]) (mmQ G A res.2 (some (.int res.1))) 0 0 A := by
  refine mm_ofW (by decide +kernel) (by simp [lg_sl, rf_cat, int_cat]) ?_
  intro p e s m below meth c ls S hR hA hS hr hlocks hl hnm
  have hl : lv_has ls 2 [(0, rf h0), (1, .int x1)] := by simpa [lv_args, rf_cat, int_cat] using hl
  have E0 : mmEnv p m c cX3_isMade 2 s _ RX3 G A meth (some (.boolean)) := ⟨S, hA, hr, hlocks⟩
  have hK : mmKN μ μ := mmKN.rf
  unfold fX3_isMade at hf
  refine lv_iload_n S.1 S.2.1 dX3_isMade_0 rfl (lv_at hl 1 rfl) ?_
  refine lv_if_lt (tgt := 16) S.1 S.2.1 dX3_isMade_1 (by decide) (fun c1 => ?_) (fun c1 => ?_)
  · have hf := it_t hf c1
    refine lv_iconst (v := 0) S.1 S.2.1 dX3_isMade_16 (by decide) ?_
    obtain rfl := Option.some.inj hf
    exact mm_zret S hR hS hr hlocks (Or.inl rfl) dX3_isMade_17
  · have hf := it_f hf c1
    refine lv_iload_n S.1 S.2.1 dX3_isMade_4 rfl (lv_at hl 1 rfl) ?_
    refine mm_aload_n S dX3_isMade_5 rfl (lv_at hl 0 rfl) ?_
    refine mm_geti S hR fdX3_41 (hK.k hk0) rfl dX3_isMade_6 ?_
    refine lv_icmp_ge (tgt := 16) S.1 S.2.1 dX3_isMade_9 (by decide) (fun c2 => ?_) (fun c2 => ?_)
    · have hf := it_t hf c2
      refine lv_iconst (v := 0) S.1 S.2.1 dX3_isMade_16 (by decide) ?_
      obtain rfl := Option.some.inj hf
      exact mm_zret S hR hS hr hlocks (Or.inl rfl) dX3_isMade_17
    · have hf := it_f hf c2
      refine lv_iconst (v := 1) S.1 S.2.1 dX3_isMade_12 (by decide) ?_
      refine lv_goto (tgt := 17) S.1 S.2.1 dX3_isMade_13 (by decide) ?_
      obtain rfl := Option.some.inj hf
      exact mm_zret S hR hS hr hlocks (Or.inr rfl) dX3_isMade_17
-- X3_has
def fX3_has (h0 : Nat) (x1 : Int32) (x2 : Int32) (μ : MM) : Option (Int32 × MM) :=
  if x1 < 0 then (some (0, μ)) else (if (mI μ h0 5) ≤ x1 then (some (0, μ)) else ((fX3_at h0 x1 μ).bind fun y3 => if mK μ y3.1 = 3 then if (mI y3.2 y3.1 4) = x2 then (some (1, y3.2)) else (some (0, y3.2)) else none))
set_option maxRecDepth 100000 in
set_option maxHeartbeats 4000000 in
theorem kX3_has_kn {μ : MM} {res : Int32 × MM} {h0 : Nat} {x1 : Int32} {x2 : Int32} (hf : fX3_has h0 x1 x2 μ = some res) : mmKN μ res.2 := by
  have hK : mmKN μ μ := mmKN.rf
  unfold fX3_has at hf
  rcases it_or hf with ⟨c1, hf⟩ | ⟨c1, hf⟩
  · skip
    obtain rfl := Option.some.inj hf
    exact hK
  · skip
    rcases it_or hf with ⟨c2, hf⟩ | ⟨c2, hf⟩
    · skip
      obtain rfl := Option.some.inj hf
      exact hK
    · skip
      obtain ⟨y3, hy3, hf⟩ := bd hf
      have hK : mmKN μ y3.2 := hK.tr (kX3_at_kn hy3)
      obtain ⟨g4, hf⟩ := gd hf
      rcases it_or hf with ⟨c5, hf⟩ | ⟨c5, hf⟩
      · skip
        obtain rfl := Option.some.inj hf
        exact hK
      · skip
        obtain rfl := Option.some.inj hf
        exact hK
abbrev rmX3_has : Room := { frames := 1, cells := 0, slots := 0, locals := 21 }
set_option maxRecDepth 100000 in
set_option maxHeartbeats 4000000 in
theorem kX3_has_c (l : Launch) (G : mmG) (A : Nat → Prop) {μ : MM} {res : Int32 × MM} {h0 : Nat} {x1 : Int32} {x2 : Int32} (hk0 : mK μ h0 = 4) (hf : fX3_has h0 x1 x2 μ = some res) : Met l yX3_has [.code yX3_has cX3_has 3 (some (.boolean))] rmX3_has (mmPc G A μ [rf h0, .int x1, .int x2]) (mmQ G A res.2 (some (.int res.1))) 0 0 A := by
  refine mm_ofW (by decide +kernel) (by simp [lg_sl, rf_cat, int_cat]) ?_
  intro p e s m below meth c ls S hR hA hS hr hlocks hl hnm
  have hl : lv_has ls 3 [(0, rf h0), (1, .int x1), (2, .int x2)] := by simpa [lv_args, rf_cat, int_cat] using hl
  have E0 : mmEnv p m c cX3_has 3 s _ RX3 G A meth (some (.boolean)) := ⟨S, hA, hr, hlocks⟩
  have hK : mmKN μ μ := mmKN.rf
  unfold fX3_has at hf
  refine lv_iload_n S.1 S.2.1 dX3_has_0 rfl (lv_at hl 1 rfl) ?_
  refine lv_if_lt (tgt := 28) S.1 S.2.1 dX3_has_1 (by decide) (fun c1 => ?_) (fun c1 => ?_)
  · have hf := it_t hf c1
    refine lv_iconst (v := 0) S.1 S.2.1 dX3_has_28 (by decide) ?_
    obtain rfl := Option.some.inj hf
    exact mm_zret S hR hS hr hlocks (Or.inl rfl) dX3_has_29
  · have hf := it_f hf c1
    refine lv_iload_n S.1 S.2.1 dX3_has_4 rfl (lv_at hl 1 rfl) ?_
    refine mm_aload_n S dX3_has_5 rfl (lv_at hl 0 rfl) ?_
    refine mm_geti S hR fdX3_41 (hK.k hk0) rfl dX3_has_6 ?_
    refine lv_icmp_ge (tgt := 28) S.1 S.2.1 dX3_has_9 (by decide) (fun c2 => ?_) (fun c2 => ?_)
    · have hf := it_t hf c2
      refine lv_iconst (v := 0) S.1 S.2.1 dX3_has_28 (by decide) ?_
      obtain rfl := Option.some.inj hf
      exact mm_zret S hR hS hr hlocks (Or.inl rfl) dX3_has_29
    · have hf := it_f hf c2
      refine mm_aload_n S dX3_has_12 rfl (lv_at hl 0 rfl) ?_
      refine lv_iload_n S.1 S.2.1 dX3_has_13 rfl (lv_at hl 1 rfl) ?_
      obtain ⟨y3, hy3, hf⟩ := bd hf
      refine mm_callVh S hR hS hA (As := [.int x1]) (rest := []) cvX3_55 (hK.k hk0) (kX3_at_c l G A (hK.k hk0) hy3) rfl rfl ⟨Nat.le_of_ble_eq_true rfl, Nat.le_of_ble_eq_true rfl⟩ rfl hl.1 rfl (lv_room (by simp [rf_cat, int_cat, long_cat])) dX3_has_14 ⟨Nat.zero_le _, Nat.zero_le _⟩ (fun H locs hR hS => ?_)
      have hK : mmKN μ y3.2 := hK.tr (kX3_at_kn hy3)
      obtain ⟨g4, hf⟩ := gd hf
      refine mm_geti S hR fdX3_62 (hK.k g4) rfl dX3_has_17 ?_
      refine lv_iload_n S.1 S.2.1 dX3_has_20 rfl (lv_at hl 2 rfl) ?_
      refine lv_icmp_ne (tgt := 28) S.1 S.2.1 dX3_has_21 (by decide) (fun c5 => ?_) (fun c5 => ?_)
      · have hf := it_f hf c5
        refine lv_iconst (v := 0) S.1 S.2.1 dX3_has_28 (by decide) ?_
        obtain rfl := Option.some.inj hf
        exact mm_zret S hR hS hr hlocks (Or.inl rfl) dX3_has_29
      · have hf := it_t hf c5
        refine lv_iconst (v := 1) S.1 S.2.1 dX3_has_24 (by decide) ?_
        refine lv_goto (tgt := 29) S.1 S.2.1 dX3_has_25 (by decide) ?_
        obtain rfl := Option.some.inj hf
        exact mm_zret S hR hS hr hlocks (Or.inr rfl) dX3_has_29
-- X3_isFull
def fX3_isFull (h0 : Nat) (μ : MM) : Option (Int32 × MM) :=
  if (mI μ h0 5) < (24 : Int32) then (some (0, μ)) else (some (1, μ))
set_option maxRecDepth 100000 in
set_option maxHeartbeats 4000000 in
theorem kX3_isFull_kn {μ : MM} {res : Int32 × MM} {h0 : Nat} (hf : fX3_isFull h0 μ = some res) : mmKN μ res.2 := by
  have hK : mmKN μ μ := mmKN.rf
  unfold fX3_isFull at hf
  rcases it_or hf with ⟨c1, hf⟩ | ⟨c1, hf⟩
  · skip
    obtain rfl := Option.some.inj hf
    exact hK
  · skip
    obtain rfl := Option.some.inj hf
    exact hK
abbrev rmX3_isFull : Room := { frames := 0, cells := 0, slots := 0, locals := 0 }
set_option maxRecDepth 100000 in
set_option maxHeartbeats 4000000 in
theorem kX3_isFull_c (l : Launch) (G : mmG) (A : Nat → Prop) {μ : MM} {res : Int32 × MM} {h0 : Nat} (hk0 : mK μ h0 = 4) (hf : fX3_isFull h0 μ = some res) : Met l yX3_isFull [.code yX3_isFull cX3_isFull 1 (some (.boolean))] rmX3_isFull (mmPc G A μ [rf h0]) (mmQ G A res.2 (some (.int res.1))) 0 0 A := by
  refine mm_ofW (by decide +kernel) (by simp [lg_sl, rf_cat, int_cat]) ?_
  intro p e s m below meth c ls S hR hA hS hr hlocks hl hnm
  have hl : lv_has ls 1 [(0, rf h0)] := by simpa [lv_args, rf_cat, int_cat] using hl
  have E0 : mmEnv p m c cX3_isFull 1 s _ RX3 G A meth (some (.boolean)) := ⟨S, hA, hr, hlocks⟩
  have hK : mmKN μ μ := mmKN.rf
  unfold fX3_isFull at hf
  refine mm_aload_n S dX3_isFull_0 rfl (lv_at hl 0 rfl) ?_
  refine mm_geti S hR fdX3_41 (hK.k hk0) rfl dX3_isFull_1 ?_
  refine lv_bipush (v := 24) S.1 S.2.1 dX3_isFull_4 (by decide) ?_
  refine lv_icmp_lt (tgt := 13) S.1 S.2.1 dX3_isFull_6 (by decide) (fun c1 => ?_) (fun c1 => ?_)
  · have hf := it_t hf c1
    refine lv_iconst (v := 0) S.1 S.2.1 dX3_isFull_13 (by decide) ?_
    obtain rfl := Option.some.inj hf
    exact mm_zret S hR hS hr hlocks (Or.inl rfl) dX3_isFull_14
  · have hf := it_f hf c1
    refine lv_iconst (v := 1) S.1 S.2.1 dX3_isFull_9 (by decide) ?_
    refine lv_goto (tgt := 14) S.1 S.2.1 dX3_isFull_10 (by decide) ?_
    obtain rfl := Option.some.inj hf
    exact mm_zret S hR hS hr hlocks (Or.inr rfl) dX3_isFull_14
-- X3_howManyMadeOf
def bX3_howManyMadeOf_4 (kk4 : Nat → Int32 → Int32 → Int32 → MM → Option (Int32 × MM)) (h0 : Nat) (x1 : Int32) (x2 : Int32) (x3 : Int32) (μ : MM) : Option (Int32 × MM) :=
  if mK μ h0 = 4 then if (mI μ h0 5) ≤ x3 then (some (x2, μ)) else ((fX3_at h0 x3 μ).bind fun y3 => if mK μ y3.1 = 3 then if (mI y3.2 y3.1 3) = x1 then (kk4 h0 x1 (x2 + 1) (x3 + 1) y3.2) else (kk4 h0 x1 (x2 + 0) (x3 + 1) y3.2) else none) else none
def lX3_howManyMadeOf_4  : Nat → Nat → Int32 → Int32 → Int32 → MM → Option (Int32 × MM)
  | 0, _, _, _, _, _ => none
  | n + 1, h0, x1, x2, x3, μ => bX3_howManyMadeOf_4  (fun h0 x1 x2 x3 μ => lX3_howManyMadeOf_4  n h0 x1 x2 x3 μ) h0 x1 x2 x3 μ
def fX3_howManyMadeOf (h0 : Nat) (x1 : Int32) (μ : MM) : Option (Int32 × MM) :=
  lX3_howManyMadeOf_4  FU h0 x1 0 0 μ
set_option maxRecDepth 100000 in
set_option maxHeartbeats 4000000 in
theorem knbX3_howManyMadeOf_4 (kk4 : Nat → Int32 → Int32 → Int32 → MM → Option (Int32 × MM)) (hkk4 : ∀ (h0 : Nat) (x1 : Int32) (x2 : Int32) (x3 : Int32) (μ : MM) (res : Int32 × MM), kk4 h0 x1 x2 x3 μ = some res → mmKN μ res.2) : ∀ (h0 : Nat) (x1 : Int32) (x2 : Int32) (x3 : Int32) (μ : MM) (res : Int32 × MM), bX3_howManyMadeOf_4 kk4 h0 x1 x2 x3 μ = some res → mmKN μ res.2 := by
  intro h0 x1 x2 x3 μ res hf
  have hK : mmKN μ μ := mmKN.rf
  unfold bX3_howManyMadeOf_4 at hf
  obtain ⟨g1, hf⟩ := gd hf
  rcases it_or hf with ⟨c2, hf⟩ | ⟨c2, hf⟩
  · skip
    obtain rfl := Option.some.inj hf
    exact hK
  · skip
    obtain ⟨y3, hy3, hf⟩ := bd hf
    have hK : mmKN μ y3.2 := hK.tr (kX3_at_kn hy3)
    obtain ⟨g4, hf⟩ := gd hf
    rcases it_or hf with ⟨c5, hf⟩ | ⟨c5, hf⟩
    · skip
      exact hK.tr (hkk4 h0 x1 (x2 + 1) (x3 + 1) y3.2 _ hf)
    · skip
      exact hK.tr (hkk4 h0 x1 (x2 + 0) (x3 + 1) y3.2 _ hf)
theorem knlX3_howManyMadeOf_4  : ∀ (n : Nat) (h0 : Nat) (x1 : Int32) (x2 : Int32) (x3 : Int32) (μ : MM) (res : Int32 × MM), lX3_howManyMadeOf_4  n h0 x1 x2 x3 μ = some res → mmKN μ res.2 := by
  intro n
  induction n with
  | zero => intro h0 x1 x2 x3 μ res hf; cases hf
  | succ n ih => intro h0 x1 x2 x3 μ res hf; exact knbX3_howManyMadeOf_4  _ ih h0 x1 x2 x3 μ res hf
set_option maxRecDepth 100000 in
set_option maxHeartbeats 4000000 in
theorem kX3_howManyMadeOf_kn {μ : MM} {res : Int32 × MM} {h0 : Nat} {x1 : Int32} (hf : fX3_howManyMadeOf h0 x1 μ = some res) : mmKN μ res.2 := by
  have hK : mmKN μ μ := mmKN.rf
  unfold fX3_howManyMadeOf at hf
  exact hK.tr (knlX3_howManyMadeOf_4  FU h0 x1 0 0 μ _ hf)
abbrev rmX3_howManyMadeOf : Room := { frames := 1, cells := 0, slots := 0, locals := 21 }
set_option maxRecDepth 100000 in
set_option maxHeartbeats 4000000 in
theorem wbX3_howManyMadeOf_4 {p : Program} {l : Launch} {e : Env} {s : State} {m : MethodId} {args : Array Value} {below : List Frame} {meth : Method} {c : Code} {G : mmG} {A : Nat → Prop} {res : Int32 × MM} (E0 : mmEnv p m c cX3_howManyMadeOf 4 s args RX3 G A meth (some (.int))) (kk4 : Nat → Int32 → Int32 → Int32 → MM → Option (Int32 × MM)) (hkk4 : ∀ (h0 : Nat) (x1 : Int32) (x2 : Int32) (x3 : Int32) (μ : MM), kk4 h0 x1 x2 x3 μ = some res → mmGoal p l e rmX3_howManyMadeOf s m args below meth c G A 4 4 [(0, rf h0), (1, .int x1), (2, .int x2), (3, .int x3)] μ (mmQ G A res.2 (some (.int res.1)))) : ∀ (h0 : Nat) (x1 : Int32) (x2 : Int32) (x3 : Int32) (μ : MM), bX3_howManyMadeOf_4 kk4 h0 x1 x2 x3 μ = some res → mmGoal p l e rmX3_howManyMadeOf s m args below meth c G A 4 4 [(0, rf h0), (1, .int x1), (2, .int x2), (3, .int x3)] μ (mmQ G A res.2 (some (.int res.1))) := by
  obtain ⟨S, hA, hr, hlocks⟩ := id E0
  intro h0 x1 x2 x3 μ hf H locs ls hR hS hl
  have hK : mmKN μ μ := mmKN.rf
  unfold bX3_howManyMadeOf_4 at hf
  refine lv_iload_n S.1 S.2.1 dX3_howManyMadeOf_4 rfl (lv_at hl 3 rfl) ?_
  refine mm_aload_n S dX3_howManyMadeOf_5 rfl (lv_at hl 0 rfl) ?_
  obtain ⟨g1, hf⟩ := gd hf
  refine mm_geti S hR fdX3_41 (hK.k g1) rfl dX3_howManyMadeOf_6 ?_
  refine lv_icmp_ge (tgt := 38) S.1 S.2.1 dX3_howManyMadeOf_9 (by decide) (fun c2 => ?_) (fun c2 => ?_)
  · have hf := it_t hf c2
    refine lv_iload_n S.1 S.2.1 dX3_howManyMadeOf_38 rfl (lv_at hl 2 rfl) ?_
    obtain rfl := Option.some.inj hf
    exact mm_iret S hR hS hr hlocks dX3_howManyMadeOf_39
  · have hf := it_f hf c2
    refine lv_iload_n S.1 S.2.1 dX3_howManyMadeOf_12 rfl (lv_at hl 2 rfl) ?_
    refine mm_aload_n S dX3_howManyMadeOf_13 rfl (lv_at hl 0 rfl) ?_
    refine lv_iload_n S.1 S.2.1 dX3_howManyMadeOf_14 rfl (lv_at hl 3 rfl) ?_
    obtain ⟨y3, hy3, hf⟩ := bd hf
    refine mm_callVh S hR hS hA (As := [.int x3]) (rest := [.int x2]) cvX3_55 (hK.k g1) (kX3_at_c l G A (hK.k g1) hy3) rfl rfl ⟨Nat.le_of_ble_eq_true rfl, Nat.le_of_ble_eq_true rfl⟩ rfl hl.1 rfl (lv_room (by simp [rf_cat, int_cat, long_cat])) dX3_howManyMadeOf_15 ⟨Nat.zero_le _, Nat.zero_le _⟩ (fun H locs hR hS => ?_)
    have hK : mmKN μ y3.2 := hK.tr (kX3_at_kn hy3)
    obtain ⟨g4, hf⟩ := gd hf
    refine mm_geti S hR fdX3_65 (hK.k g4) rfl dX3_howManyMadeOf_18 ?_
    refine lv_iload_n S.1 S.2.1 dX3_howManyMadeOf_21 rfl (lv_at hl 1 rfl) ?_
    refine lv_icmp_ne (tgt := 29) S.1 S.2.1 dX3_howManyMadeOf_22 (by decide) (fun c5 => ?_) (fun c5 => ?_)
    · have hf := it_f hf c5
      refine lv_iconst (v := 0) S.1 S.2.1 dX3_howManyMadeOf_29 (by decide) ?_
      refine lv_iadd S.1 S.2.1 dX3_howManyMadeOf_30 ?_
      refine lv_istore_n (i := 2) (lv' := [(2, .int (x2 + 0)), (0, rf h0), (1, .int x1), (3, .int x3)]) S.1 S.2.1 dX3_howManyMadeOf_31 rfl hl (by decide) rfl (fun ls hl => ?_)
      refine lv_iinc (v := (x3 + 1)) (lv' := [(3, .int (x3 + 1)), (2, .int (x2 + 0)), (0, rf h0), (1, .int x1)]) S.1 S.2.1 dX3_howManyMadeOf_32 hl (k := 3) rfl (by rfl) (by decide) rfl (fun ls hl => ?_)
      refine lv_goto (tgt := 4) S.1 S.2.1 dX3_howManyMadeOf_35 (by decide) ?_
      exact hkk4 h0 x1 (x2 + 0) (x3 + 1) y3.2 hf _ _ _ hR hS (lv_sub hl [2, 3, 1, 0] rfl)
    · have hf := it_t hf c5
      refine lv_iconst (v := 1) S.1 S.2.1 dX3_howManyMadeOf_25 (by decide) ?_
      refine lv_goto (tgt := 30) S.1 S.2.1 dX3_howManyMadeOf_26 (by decide) ?_
      refine lv_iadd S.1 S.2.1 dX3_howManyMadeOf_30 ?_
      refine lv_istore_n (i := 2) (lv' := [(2, .int (x2 + 1)), (0, rf h0), (1, .int x1), (3, .int x3)]) S.1 S.2.1 dX3_howManyMadeOf_31 rfl hl (by decide) rfl (fun ls hl => ?_)
      refine lv_iinc (v := (x3 + 1)) (lv' := [(3, .int (x3 + 1)), (2, .int (x2 + 1)), (0, rf h0), (1, .int x1)]) S.1 S.2.1 dX3_howManyMadeOf_32 hl (k := 3) rfl (by rfl) (by decide) rfl (fun ls hl => ?_)
      refine lv_goto (tgt := 4) S.1 S.2.1 dX3_howManyMadeOf_35 (by decide) ?_
      exact hkk4 h0 x1 (x2 + 1) (x3 + 1) y3.2 hf _ _ _ hR hS (lv_sub hl [2, 3, 1, 0] rfl)
theorem wlX3_howManyMadeOf_4 {p : Program} {l : Launch} {e : Env} {s : State} {m : MethodId} {args : Array Value} {below : List Frame} {meth : Method} {c : Code} {G : mmG} {A : Nat → Prop} {res : Int32 × MM} (E0 : mmEnv p m c cX3_howManyMadeOf 4 s args RX3 G A meth (some (.int)))  : ∀ (n : Nat) (h0 : Nat) (x1 : Int32) (x2 : Int32) (x3 : Int32) (μ : MM), lX3_howManyMadeOf_4  n h0 x1 x2 x3 μ = some res → mmGoal p l e rmX3_howManyMadeOf s m args below meth c G A 4 4 [(0, rf h0), (1, .int x1), (2, .int x2), (3, .int x3)] μ (mmQ G A res.2 (some (.int res.1))) := by
  intro n
  induction n with
  | zero => intro h0 x1 x2 x3 μ hf; cases hf
  | succ n ih => intro h0 x1 x2 x3 μ hf; exact wbX3_howManyMadeOf_4 E0  _ ih h0 x1 x2 x3 μ hf
set_option maxRecDepth 100000 in
set_option maxHeartbeats 4000000 in
theorem kX3_howManyMadeOf_c (l : Launch) (G : mmG) (A : Nat → Prop) {μ : MM} {res : Int32 × MM} {h0 : Nat} {x1 : Int32} (hk0 : mK μ h0 = 4) (hf : fX3_howManyMadeOf h0 x1 μ = some res) : Met l yX3_howManyMadeOf [.code yX3_howManyMadeOf cX3_howManyMadeOf 4 (some (.int))] rmX3_howManyMadeOf (mmPc G A μ [rf h0, .int x1]) (mmQ G A res.2 (some (.int res.1))) 0 0 A := by
  refine mm_ofW (by decide +kernel) (by simp [lg_sl, rf_cat, int_cat]) ?_
  intro p e s m below meth c ls S hR hA hS hr hlocks hl hnm
  have hl : lv_has ls 4 [(0, rf h0), (1, .int x1)] := by simpa [lv_args, rf_cat, int_cat] using hl
  have E0 : mmEnv p m c cX3_howManyMadeOf 4 s _ RX3 G A meth (some (.int)) := ⟨S, hA, hr, hlocks⟩
  have hK : mmKN μ μ := mmKN.rf
  unfold fX3_howManyMadeOf at hf
  refine lv_iconst (v := 0) S.1 S.2.1 dX3_howManyMadeOf_0 (by decide) ?_
  refine lv_istore_n (i := 2) (lv' := [(2, .int 0), (0, rf h0), (1, .int x1)]) S.1 S.2.1 dX3_howManyMadeOf_1 rfl hl (by decide) rfl (fun ls hl => ?_)
  refine lv_iconst (v := 0) S.1 S.2.1 dX3_howManyMadeOf_2 (by decide) ?_
  refine lv_istore_n (i := 3) (lv' := [(3, .int 0), (2, .int 0), (0, rf h0), (1, .int x1)]) S.1 S.2.1 dX3_howManyMadeOf_3 rfl hl (by decide) rfl (fun ls hl => ?_)
  exact wlX3_howManyMadeOf_4 E0  FU h0 x1 0 0 μ hf _ _ _ hR hS (lv_sub hl [2, 3, 1, 0] rfl)
-- X3_howManyOfSort
def bX3_howManyOfSort_4 (kk4 : Nat → Int32 → Int32 → Int32 → MM → Option (Int32 × MM)) (h0 : Nat) (x1 : Int32) (x2 : Int32) (x3 : Int32) (μ : MM) : Option (Int32 × MM) :=
  if mK μ h0 = 4 then if (mI μ h0 5) ≤ x3 then (some (x2, μ)) else ((fX3_at h0 x3 μ).bind fun y3 => if mK μ y3.1 = 3 then if (mI y3.2 y3.1 4) = x1 then (kk4 h0 x1 (x2 + 1) (x3 + 1) y3.2) else (kk4 h0 x1 (x2 + 0) (x3 + 1) y3.2) else none) else none
def lX3_howManyOfSort_4  : Nat → Nat → Int32 → Int32 → Int32 → MM → Option (Int32 × MM)
  | 0, _, _, _, _, _ => none
  | n + 1, h0, x1, x2, x3, μ => bX3_howManyOfSort_4  (fun h0 x1 x2 x3 μ => lX3_howManyOfSort_4  n h0 x1 x2 x3 μ) h0 x1 x2 x3 μ
def fX3_howManyOfSort (h0 : Nat) (x1 : Int32) (μ : MM) : Option (Int32 × MM) :=
  lX3_howManyOfSort_4  FU h0 x1 0 0 μ
set_option maxRecDepth 100000 in
set_option maxHeartbeats 4000000 in
theorem knbX3_howManyOfSort_4 (kk4 : Nat → Int32 → Int32 → Int32 → MM → Option (Int32 × MM)) (hkk4 : ∀ (h0 : Nat) (x1 : Int32) (x2 : Int32) (x3 : Int32) (μ : MM) (res : Int32 × MM), kk4 h0 x1 x2 x3 μ = some res → mmKN μ res.2) : ∀ (h0 : Nat) (x1 : Int32) (x2 : Int32) (x3 : Int32) (μ : MM) (res : Int32 × MM), bX3_howManyOfSort_4 kk4 h0 x1 x2 x3 μ = some res → mmKN μ res.2 := by
  intro h0 x1 x2 x3 μ res hf
  have hK : mmKN μ μ := mmKN.rf
  unfold bX3_howManyOfSort_4 at hf
  obtain ⟨g1, hf⟩ := gd hf
  rcases it_or hf with ⟨c2, hf⟩ | ⟨c2, hf⟩
  · skip
    obtain rfl := Option.some.inj hf
    exact hK
  · skip
    obtain ⟨y3, hy3, hf⟩ := bd hf
    have hK : mmKN μ y3.2 := hK.tr (kX3_at_kn hy3)
    obtain ⟨g4, hf⟩ := gd hf
    rcases it_or hf with ⟨c5, hf⟩ | ⟨c5, hf⟩
    · skip
      exact hK.tr (hkk4 h0 x1 (x2 + 1) (x3 + 1) y3.2 _ hf)
    · skip
      exact hK.tr (hkk4 h0 x1 (x2 + 0) (x3 + 1) y3.2 _ hf)
theorem knlX3_howManyOfSort_4  : ∀ (n : Nat) (h0 : Nat) (x1 : Int32) (x2 : Int32) (x3 : Int32) (μ : MM) (res : Int32 × MM), lX3_howManyOfSort_4  n h0 x1 x2 x3 μ = some res → mmKN μ res.2 := by
  intro n
  induction n with
  | zero => intro h0 x1 x2 x3 μ res hf; cases hf
  | succ n ih => intro h0 x1 x2 x3 μ res hf; exact knbX3_howManyOfSort_4  _ ih h0 x1 x2 x3 μ res hf
set_option maxRecDepth 100000 in
set_option maxHeartbeats 4000000 in
theorem kX3_howManyOfSort_kn {μ : MM} {res : Int32 × MM} {h0 : Nat} {x1 : Int32} (hf : fX3_howManyOfSort h0 x1 μ = some res) : mmKN μ res.2 := by
  have hK : mmKN μ μ := mmKN.rf
  unfold fX3_howManyOfSort at hf
  exact hK.tr (knlX3_howManyOfSort_4  FU h0 x1 0 0 μ _ hf)
abbrev rmX3_howManyOfSort : Room := { frames := 1, cells := 0, slots := 0, locals := 21 }
set_option maxRecDepth 100000 in
set_option maxHeartbeats 4000000 in
theorem wbX3_howManyOfSort_4 {p : Program} {l : Launch} {e : Env} {s : State} {m : MethodId} {args : Array Value} {below : List Frame} {meth : Method} {c : Code} {G : mmG} {A : Nat → Prop} {res : Int32 × MM} (E0 : mmEnv p m c cX3_howManyOfSort 4 s args RX3 G A meth (some (.int))) (kk4 : Nat → Int32 → Int32 → Int32 → MM → Option (Int32 × MM)) (hkk4 : ∀ (h0 : Nat) (x1 : Int32) (x2 : Int32) (x3 : Int32) (μ : MM), kk4 h0 x1 x2 x3 μ = some res → mmGoal p l e rmX3_howManyOfSort s m args below meth c G A 4 4 [(0, rf h0), (1, .int x1), (2, .int x2), (3, .int x3)] μ (mmQ G A res.2 (some (.int res.1)))) : ∀ (h0 : Nat) (x1 : Int32) (x2 : Int32) (x3 : Int32) (μ : MM), bX3_howManyOfSort_4 kk4 h0 x1 x2 x3 μ = some res → mmGoal p l e rmX3_howManyOfSort s m args below meth c G A 4 4 [(0, rf h0), (1, .int x1), (2, .int x2), (3, .int x3)] μ (mmQ G A res.2 (some (.int res.1))) := by
  obtain ⟨S, hA, hr, hlocks⟩ := id E0
  intro h0 x1 x2 x3 μ hf H locs ls hR hS hl
  have hK : mmKN μ μ := mmKN.rf
  unfold bX3_howManyOfSort_4 at hf
  refine lv_iload_n S.1 S.2.1 dX3_howManyOfSort_4 rfl (lv_at hl 3 rfl) ?_
  refine mm_aload_n S dX3_howManyOfSort_5 rfl (lv_at hl 0 rfl) ?_
  obtain ⟨g1, hf⟩ := gd hf
  refine mm_geti S hR fdX3_41 (hK.k g1) rfl dX3_howManyOfSort_6 ?_
  refine lv_icmp_ge (tgt := 38) S.1 S.2.1 dX3_howManyOfSort_9 (by decide) (fun c2 => ?_) (fun c2 => ?_)
  · have hf := it_t hf c2
    refine lv_iload_n S.1 S.2.1 dX3_howManyOfSort_38 rfl (lv_at hl 2 rfl) ?_
    obtain rfl := Option.some.inj hf
    exact mm_iret S hR hS hr hlocks dX3_howManyOfSort_39
  · have hf := it_f hf c2
    refine lv_iload_n S.1 S.2.1 dX3_howManyOfSort_12 rfl (lv_at hl 2 rfl) ?_
    refine mm_aload_n S dX3_howManyOfSort_13 rfl (lv_at hl 0 rfl) ?_
    refine lv_iload_n S.1 S.2.1 dX3_howManyOfSort_14 rfl (lv_at hl 3 rfl) ?_
    obtain ⟨y3, hy3, hf⟩ := bd hf
    refine mm_callVh S hR hS hA (As := [.int x3]) (rest := [.int x2]) cvX3_55 (hK.k g1) (kX3_at_c l G A (hK.k g1) hy3) rfl rfl ⟨Nat.le_of_ble_eq_true rfl, Nat.le_of_ble_eq_true rfl⟩ rfl hl.1 rfl (lv_room (by simp [rf_cat, int_cat, long_cat])) dX3_howManyOfSort_15 ⟨Nat.zero_le _, Nat.zero_le _⟩ (fun H locs hR hS => ?_)
    have hK : mmKN μ y3.2 := hK.tr (kX3_at_kn hy3)
    obtain ⟨g4, hf⟩ := gd hf
    refine mm_geti S hR fdX3_62 (hK.k g4) rfl dX3_howManyOfSort_18 ?_
    refine lv_iload_n S.1 S.2.1 dX3_howManyOfSort_21 rfl (lv_at hl 1 rfl) ?_
    refine lv_icmp_ne (tgt := 29) S.1 S.2.1 dX3_howManyOfSort_22 (by decide) (fun c5 => ?_) (fun c5 => ?_)
    · have hf := it_f hf c5
      refine lv_iconst (v := 0) S.1 S.2.1 dX3_howManyOfSort_29 (by decide) ?_
      refine lv_iadd S.1 S.2.1 dX3_howManyOfSort_30 ?_
      refine lv_istore_n (i := 2) (lv' := [(2, .int (x2 + 0)), (0, rf h0), (1, .int x1), (3, .int x3)]) S.1 S.2.1 dX3_howManyOfSort_31 rfl hl (by decide) rfl (fun ls hl => ?_)
      refine lv_iinc (v := (x3 + 1)) (lv' := [(3, .int (x3 + 1)), (2, .int (x2 + 0)), (0, rf h0), (1, .int x1)]) S.1 S.2.1 dX3_howManyOfSort_32 hl (k := 3) rfl (by rfl) (by decide) rfl (fun ls hl => ?_)
      refine lv_goto (tgt := 4) S.1 S.2.1 dX3_howManyOfSort_35 (by decide) ?_
      exact hkk4 h0 x1 (x2 + 0) (x3 + 1) y3.2 hf _ _ _ hR hS (lv_sub hl [2, 3, 1, 0] rfl)
    · have hf := it_t hf c5
      refine lv_iconst (v := 1) S.1 S.2.1 dX3_howManyOfSort_25 (by decide) ?_
      refine lv_goto (tgt := 30) S.1 S.2.1 dX3_howManyOfSort_26 (by decide) ?_
      refine lv_iadd S.1 S.2.1 dX3_howManyOfSort_30 ?_
      refine lv_istore_n (i := 2) (lv' := [(2, .int (x2 + 1)), (0, rf h0), (1, .int x1), (3, .int x3)]) S.1 S.2.1 dX3_howManyOfSort_31 rfl hl (by decide) rfl (fun ls hl => ?_)
      refine lv_iinc (v := (x3 + 1)) (lv' := [(3, .int (x3 + 1)), (2, .int (x2 + 1)), (0, rf h0), (1, .int x1)]) S.1 S.2.1 dX3_howManyOfSort_32 hl (k := 3) rfl (by rfl) (by decide) rfl (fun ls hl => ?_)
      refine lv_goto (tgt := 4) S.1 S.2.1 dX3_howManyOfSort_35 (by decide) ?_
      exact hkk4 h0 x1 (x2 + 1) (x3 + 1) y3.2 hf _ _ _ hR hS (lv_sub hl [2, 3, 1, 0] rfl)
theorem wlX3_howManyOfSort_4 {p : Program} {l : Launch} {e : Env} {s : State} {m : MethodId} {args : Array Value} {below : List Frame} {meth : Method} {c : Code} {G : mmG} {A : Nat → Prop} {res : Int32 × MM} (E0 : mmEnv p m c cX3_howManyOfSort 4 s args RX3 G A meth (some (.int)))  : ∀ (n : Nat) (h0 : Nat) (x1 : Int32) (x2 : Int32) (x3 : Int32) (μ : MM), lX3_howManyOfSort_4  n h0 x1 x2 x3 μ = some res → mmGoal p l e rmX3_howManyOfSort s m args below meth c G A 4 4 [(0, rf h0), (1, .int x1), (2, .int x2), (3, .int x3)] μ (mmQ G A res.2 (some (.int res.1))) := by
  intro n
  induction n with
  | zero => intro h0 x1 x2 x3 μ hf; cases hf
  | succ n ih => intro h0 x1 x2 x3 μ hf; exact wbX3_howManyOfSort_4 E0  _ ih h0 x1 x2 x3 μ hf
set_option maxRecDepth 100000 in
set_option maxHeartbeats 4000000 in
theorem kX3_howManyOfSort_c (l : Launch) (G : mmG) (A : Nat → Prop) {μ : MM} {res : Int32 × MM} {h0 : Nat} {x1 : Int32} (hk0 : mK μ h0 = 4) (hf : fX3_howManyOfSort h0 x1 μ = some res) : Met l yX3_howManyOfSort [.code yX3_howManyOfSort cX3_howManyOfSort 4 (some (.int))] rmX3_howManyOfSort (mmPc G A μ [rf h0, .int x1]) (mmQ G A res.2 (some (.int res.1))) 0 0 A := by
  refine mm_ofW (by decide +kernel) (by simp [lg_sl, rf_cat, int_cat]) ?_
  intro p e s m below meth c ls S hR hA hS hr hlocks hl hnm
  have hl : lv_has ls 4 [(0, rf h0), (1, .int x1)] := by simpa [lv_args, rf_cat, int_cat] using hl
  have E0 : mmEnv p m c cX3_howManyOfSort 4 s _ RX3 G A meth (some (.int)) := ⟨S, hA, hr, hlocks⟩
  have hK : mmKN μ μ := mmKN.rf
  unfold fX3_howManyOfSort at hf
  refine lv_iconst (v := 0) S.1 S.2.1 dX3_howManyOfSort_0 (by decide) ?_
  refine lv_istore_n (i := 2) (lv' := [(2, .int 0), (0, rf h0), (1, .int x1)]) S.1 S.2.1 dX3_howManyOfSort_1 rfl hl (by decide) rfl (fun ls hl => ?_)
  refine lv_iconst (v := 0) S.1 S.2.1 dX3_howManyOfSort_2 (by decide) ?_
  refine lv_istore_n (i := 3) (lv' := [(3, .int 0), (2, .int 0), (0, rf h0), (1, .int x1)]) S.1 S.2.1 dX3_howManyOfSort_3 rfl hl (by decide) rfl (fun ls hl => ?_)
  exact wlX3_howManyOfSort_4 E0  FU h0 x1 0 0 μ hf _ _ _ hR hS (lv_sub hl [2, 3, 1, 0] rfl)
-- X3_howManyInState
def bX3_howManyInState_4 (kk4 : Nat → Int32 → Int32 → Int32 → MM → Option (Int32 × MM)) (h0 : Nat) (x1 : Int32) (x2 : Int32) (x3 : Int32) (μ : MM) : Option (Int32 × MM) :=
  if mK μ h0 = 4 then if (mI μ h0 5) ≤ x3 then (some (x2, μ)) else ((fX3_at h0 x3 μ).bind fun y3 => if mK μ y3.1 = 3 then if (mI y3.2 y3.1 5) = x1 then (kk4 h0 x1 (x2 + 1) (x3 + 1) y3.2) else (kk4 h0 x1 (x2 + 0) (x3 + 1) y3.2) else none) else none
def lX3_howManyInState_4  : Nat → Nat → Int32 → Int32 → Int32 → MM → Option (Int32 × MM)
  | 0, _, _, _, _, _ => none
  | n + 1, h0, x1, x2, x3, μ => bX3_howManyInState_4  (fun h0 x1 x2 x3 μ => lX3_howManyInState_4  n h0 x1 x2 x3 μ) h0 x1 x2 x3 μ
def fX3_howManyInState (h0 : Nat) (x1 : Int32) (μ : MM) : Option (Int32 × MM) :=
  lX3_howManyInState_4  FU h0 x1 0 0 μ
set_option maxRecDepth 100000 in
set_option maxHeartbeats 4000000 in
theorem knbX3_howManyInState_4 (kk4 : Nat → Int32 → Int32 → Int32 → MM → Option (Int32 × MM)) (hkk4 : ∀ (h0 : Nat) (x1 : Int32) (x2 : Int32) (x3 : Int32) (μ : MM) (res : Int32 × MM), kk4 h0 x1 x2 x3 μ = some res → mmKN μ res.2) : ∀ (h0 : Nat) (x1 : Int32) (x2 : Int32) (x3 : Int32) (μ : MM) (res : Int32 × MM), bX3_howManyInState_4 kk4 h0 x1 x2 x3 μ = some res → mmKN μ res.2 := by
  intro h0 x1 x2 x3 μ res hf
  have hK : mmKN μ μ := mmKN.rf
  unfold bX3_howManyInState_4 at hf
  obtain ⟨g1, hf⟩ := gd hf
  rcases it_or hf with ⟨c2, hf⟩ | ⟨c2, hf⟩
  · skip
    obtain rfl := Option.some.inj hf
    exact hK
  · skip
    obtain ⟨y3, hy3, hf⟩ := bd hf
    have hK : mmKN μ y3.2 := hK.tr (kX3_at_kn hy3)
    obtain ⟨g4, hf⟩ := gd hf
    rcases it_or hf with ⟨c5, hf⟩ | ⟨c5, hf⟩
    · skip
      exact hK.tr (hkk4 h0 x1 (x2 + 1) (x3 + 1) y3.2 _ hf)
    · skip
      exact hK.tr (hkk4 h0 x1 (x2 + 0) (x3 + 1) y3.2 _ hf)
theorem knlX3_howManyInState_4  : ∀ (n : Nat) (h0 : Nat) (x1 : Int32) (x2 : Int32) (x3 : Int32) (μ : MM) (res : Int32 × MM), lX3_howManyInState_4  n h0 x1 x2 x3 μ = some res → mmKN μ res.2 := by
  intro n
  induction n with
  | zero => intro h0 x1 x2 x3 μ res hf; cases hf
  | succ n ih => intro h0 x1 x2 x3 μ res hf; exact knbX3_howManyInState_4  _ ih h0 x1 x2 x3 μ res hf
set_option maxRecDepth 100000 in
set_option maxHeartbeats 4000000 in
theorem kX3_howManyInState_kn {μ : MM} {res : Int32 × MM} {h0 : Nat} {x1 : Int32} (hf : fX3_howManyInState h0 x1 μ = some res) : mmKN μ res.2 := by
  have hK : mmKN μ μ := mmKN.rf
  unfold fX3_howManyInState at hf
  exact hK.tr (knlX3_howManyInState_4  FU h0 x1 0 0 μ _ hf)
abbrev rmX3_howManyInState : Room := { frames := 1, cells := 0, slots := 0, locals := 21 }
set_option maxRecDepth 100000 in
set_option maxHeartbeats 4000000 in
theorem wbX3_howManyInState_4 {p : Program} {l : Launch} {e : Env} {s : State} {m : MethodId} {args : Array Value} {below : List Frame} {meth : Method} {c : Code} {G : mmG} {A : Nat → Prop} {res : Int32 × MM} (E0 : mmEnv p m c cX3_howManyInState 4 s args RX3 G A meth (some (.int))) (kk4 : Nat → Int32 → Int32 → Int32 → MM → Option (Int32 × MM)) (hkk4 : ∀ (h0 : Nat) (x1 : Int32) (x2 : Int32) (x3 : Int32) (μ : MM), kk4 h0 x1 x2 x3 μ = some res → mmGoal p l e rmX3_howManyInState s m args below meth c G A 4 4 [(0, rf h0), (1, .int x1), (2, .int x2), (3, .int x3)] μ (mmQ G A res.2 (some (.int res.1)))) : ∀ (h0 : Nat) (x1 : Int32) (x2 : Int32) (x3 : Int32) (μ : MM), bX3_howManyInState_4 kk4 h0 x1 x2 x3 μ = some res → mmGoal p l e rmX3_howManyInState s m args below meth c G A 4 4 [(0, rf h0), (1, .int x1), (2, .int x2), (3, .int x3)] μ (mmQ G A res.2 (some (.int res.1))) := by
  obtain ⟨S, hA, hr, hlocks⟩ := id E0
  intro h0 x1 x2 x3 μ hf H locs ls hR hS hl
  have hK : mmKN μ μ := mmKN.rf
  unfold bX3_howManyInState_4 at hf
  refine lv_iload_n S.1 S.2.1 dX3_howManyInState_4 rfl (lv_at hl 3 rfl) ?_
  refine mm_aload_n S dX3_howManyInState_5 rfl (lv_at hl 0 rfl) ?_
  obtain ⟨g1, hf⟩ := gd hf
  refine mm_geti S hR fdX3_41 (hK.k g1) rfl dX3_howManyInState_6 ?_
  refine lv_icmp_ge (tgt := 38) S.1 S.2.1 dX3_howManyInState_9 (by decide) (fun c2 => ?_) (fun c2 => ?_)
  · have hf := it_t hf c2
    refine lv_iload_n S.1 S.2.1 dX3_howManyInState_38 rfl (lv_at hl 2 rfl) ?_
    obtain rfl := Option.some.inj hf
    exact mm_iret S hR hS hr hlocks dX3_howManyInState_39
  · have hf := it_f hf c2
    refine lv_iload_n S.1 S.2.1 dX3_howManyInState_12 rfl (lv_at hl 2 rfl) ?_
    refine mm_aload_n S dX3_howManyInState_13 rfl (lv_at hl 0 rfl) ?_
    refine lv_iload_n S.1 S.2.1 dX3_howManyInState_14 rfl (lv_at hl 3 rfl) ?_
    obtain ⟨y3, hy3, hf⟩ := bd hf
    refine mm_callVh S hR hS hA (As := [.int x3]) (rest := [.int x2]) cvX3_55 (hK.k g1) (kX3_at_c l G A (hK.k g1) hy3) rfl rfl ⟨Nat.le_of_ble_eq_true rfl, Nat.le_of_ble_eq_true rfl⟩ rfl hl.1 rfl (lv_room (by simp [rf_cat, int_cat, long_cat])) dX3_howManyInState_15 ⟨Nat.zero_le _, Nat.zero_le _⟩ (fun H locs hR hS => ?_)
    have hK : mmKN μ y3.2 := hK.tr (kX3_at_kn hy3)
    obtain ⟨g4, hf⟩ := gd hf
    refine mm_geti S hR fdX3_68 (hK.k g4) rfl dX3_howManyInState_18 ?_
    refine lv_iload_n S.1 S.2.1 dX3_howManyInState_21 rfl (lv_at hl 1 rfl) ?_
    refine lv_icmp_ne (tgt := 29) S.1 S.2.1 dX3_howManyInState_22 (by decide) (fun c5 => ?_) (fun c5 => ?_)
    · have hf := it_f hf c5
      refine lv_iconst (v := 0) S.1 S.2.1 dX3_howManyInState_29 (by decide) ?_
      refine lv_iadd S.1 S.2.1 dX3_howManyInState_30 ?_
      refine lv_istore_n (i := 2) (lv' := [(2, .int (x2 + 0)), (0, rf h0), (1, .int x1), (3, .int x3)]) S.1 S.2.1 dX3_howManyInState_31 rfl hl (by decide) rfl (fun ls hl => ?_)
      refine lv_iinc (v := (x3 + 1)) (lv' := [(3, .int (x3 + 1)), (2, .int (x2 + 0)), (0, rf h0), (1, .int x1)]) S.1 S.2.1 dX3_howManyInState_32 hl (k := 3) rfl (by rfl) (by decide) rfl (fun ls hl => ?_)
      refine lv_goto (tgt := 4) S.1 S.2.1 dX3_howManyInState_35 (by decide) ?_
      exact hkk4 h0 x1 (x2 + 0) (x3 + 1) y3.2 hf _ _ _ hR hS (lv_sub hl [2, 3, 1, 0] rfl)
    · have hf := it_t hf c5
      refine lv_iconst (v := 1) S.1 S.2.1 dX3_howManyInState_25 (by decide) ?_
      refine lv_goto (tgt := 30) S.1 S.2.1 dX3_howManyInState_26 (by decide) ?_
      refine lv_iadd S.1 S.2.1 dX3_howManyInState_30 ?_
      refine lv_istore_n (i := 2) (lv' := [(2, .int (x2 + 1)), (0, rf h0), (1, .int x1), (3, .int x3)]) S.1 S.2.1 dX3_howManyInState_31 rfl hl (by decide) rfl (fun ls hl => ?_)
      refine lv_iinc (v := (x3 + 1)) (lv' := [(3, .int (x3 + 1)), (2, .int (x2 + 1)), (0, rf h0), (1, .int x1)]) S.1 S.2.1 dX3_howManyInState_32 hl (k := 3) rfl (by rfl) (by decide) rfl (fun ls hl => ?_)
      refine lv_goto (tgt := 4) S.1 S.2.1 dX3_howManyInState_35 (by decide) ?_
      exact hkk4 h0 x1 (x2 + 1) (x3 + 1) y3.2 hf _ _ _ hR hS (lv_sub hl [2, 3, 1, 0] rfl)
theorem wlX3_howManyInState_4 {p : Program} {l : Launch} {e : Env} {s : State} {m : MethodId} {args : Array Value} {below : List Frame} {meth : Method} {c : Code} {G : mmG} {A : Nat → Prop} {res : Int32 × MM} (E0 : mmEnv p m c cX3_howManyInState 4 s args RX3 G A meth (some (.int)))  : ∀ (n : Nat) (h0 : Nat) (x1 : Int32) (x2 : Int32) (x3 : Int32) (μ : MM), lX3_howManyInState_4  n h0 x1 x2 x3 μ = some res → mmGoal p l e rmX3_howManyInState s m args below meth c G A 4 4 [(0, rf h0), (1, .int x1), (2, .int x2), (3, .int x3)] μ (mmQ G A res.2 (some (.int res.1))) := by
  intro n
  induction n with
  | zero => intro h0 x1 x2 x3 μ hf; cases hf
  | succ n ih => intro h0 x1 x2 x3 μ hf; exact wbX3_howManyInState_4 E0  _ ih h0 x1 x2 x3 μ hf
set_option maxRecDepth 100000 in
set_option maxHeartbeats 4000000 in
theorem kX3_howManyInState_c (l : Launch) (G : mmG) (A : Nat → Prop) {μ : MM} {res : Int32 × MM} {h0 : Nat} {x1 : Int32} (hk0 : mK μ h0 = 4) (hf : fX3_howManyInState h0 x1 μ = some res) : Met l yX3_howManyInState [.code yX3_howManyInState cX3_howManyInState 4 (some (.int))] rmX3_howManyInState (mmPc G A μ [rf h0, .int x1]) (mmQ G A res.2 (some (.int res.1))) 0 0 A := by
  refine mm_ofW (by decide +kernel) (by simp [lg_sl, rf_cat, int_cat]) ?_
  intro p e s m below meth c ls S hR hA hS hr hlocks hl hnm
  have hl : lv_has ls 4 [(0, rf h0), (1, .int x1)] := by simpa [lv_args, rf_cat, int_cat] using hl
  have E0 : mmEnv p m c cX3_howManyInState 4 s _ RX3 G A meth (some (.int)) := ⟨S, hA, hr, hlocks⟩
  have hK : mmKN μ μ := mmKN.rf
  unfold fX3_howManyInState at hf
  refine lv_iconst (v := 0) S.1 S.2.1 dX3_howManyInState_0 (by decide) ?_
  refine lv_istore_n (i := 2) (lv' := [(2, .int 0), (0, rf h0), (1, .int x1)]) S.1 S.2.1 dX3_howManyInState_1 rfl hl (by decide) rfl (fun ls hl => ?_)
  refine lv_iconst (v := 0) S.1 S.2.1 dX3_howManyInState_2 (by decide) ?_
  refine lv_istore_n (i := 3) (lv' := [(3, .int 0), (2, .int 0), (0, rf h0), (1, .int x1)]) S.1 S.2.1 dX3_howManyInState_3 rfl hl (by decide) rfl (fun ls hl => ?_)
  exact wlX3_howManyInState_4 E0  FU h0 x1 0 0 μ hf _ _ _ hR hS (lv_sub hl [2, 3, 1, 0] rfl)
-- X3_howManyTasksOver
def bX3_howManyTasksOver_4 (kk4 : Nat → Int32 → Int32 → MM → Option (Int32 × MM)) (h0 : Nat) (x1 : Int32) (x2 : Int32) (μ : MM) : Option (Int32 × MM) :=
  if mK μ h0 = 4 then if (mI μ h0 5) ≤ x2 then (some (x1, μ)) else ((fX3_at h0 x2 μ).bind fun y3 => if mK μ y3.1 = 3 then if (mI y3.2 y3.1 4) = (1 : Int32) then ((fX3_at h0 x2 y3.2).bind fun y6 => if mK μ y6.1 = 3 then (fX2_isOver y6.1 y6.2).bind fun y7 => if y7.1 = 0 then (kk4 h0 (x1 + 0) (x2 + 1) y7.2) else (kk4 h0 (x1 + 1) (x2 + 1) y7.2) else none) else (kk4 h0 (x1 + 0) (x2 + 1) y3.2) else none) else none
def lX3_howManyTasksOver_4  : Nat → Nat → Int32 → Int32 → MM → Option (Int32 × MM)
  | 0, _, _, _, _ => none
  | n + 1, h0, x1, x2, μ => bX3_howManyTasksOver_4  (fun h0 x1 x2 μ => lX3_howManyTasksOver_4  n h0 x1 x2 μ) h0 x1 x2 μ
def fX3_howManyTasksOver (h0 : Nat) (μ : MM) : Option (Int32 × MM) :=
  lX3_howManyTasksOver_4  FU h0 0 0 μ
set_option maxRecDepth 100000 in
set_option maxHeartbeats 4000000 in
theorem knbX3_howManyTasksOver_4 (kk4 : Nat → Int32 → Int32 → MM → Option (Int32 × MM)) (hkk4 : ∀ (h0 : Nat) (x1 : Int32) (x2 : Int32) (μ : MM) (res : Int32 × MM), kk4 h0 x1 x2 μ = some res → mmKN μ res.2) : ∀ (h0 : Nat) (x1 : Int32) (x2 : Int32) (μ : MM) (res : Int32 × MM), bX3_howManyTasksOver_4 kk4 h0 x1 x2 μ = some res → mmKN μ res.2 := by
  intro h0 x1 x2 μ res hf
  have hK : mmKN μ μ := mmKN.rf
  unfold bX3_howManyTasksOver_4 at hf
  obtain ⟨g1, hf⟩ := gd hf
  rcases it_or hf with ⟨c2, hf⟩ | ⟨c2, hf⟩
  · skip
    obtain rfl := Option.some.inj hf
    exact hK
  · skip
    obtain ⟨y3, hy3, hf⟩ := bd hf
    have hK : mmKN μ y3.2 := hK.tr (kX3_at_kn hy3)
    obtain ⟨g4, hf⟩ := gd hf
    rcases it_or hf with ⟨c5, hf⟩ | ⟨c5, hf⟩
    · skip
      obtain ⟨y6, hy6, hf⟩ := bd hf
      have hK : mmKN μ y6.2 := hK.tr (kX3_at_kn hy6)
      obtain ⟨g8, hf⟩ := gd hf
      obtain ⟨y7, hy7, hf⟩ := bd hf
      have hK : mmKN μ y7.2 := hK.tr (kX2_isOver_kn hy7)
      rcases it_or hf with ⟨c9, hf⟩ | ⟨c9, hf⟩
      · skip
        exact hK.tr (hkk4 h0 (x1 + 0) (x2 + 1) y7.2 _ hf)
      · skip
        exact hK.tr (hkk4 h0 (x1 + 1) (x2 + 1) y7.2 _ hf)
    · skip
      exact hK.tr (hkk4 h0 (x1 + 0) (x2 + 1) y3.2 _ hf)
theorem knlX3_howManyTasksOver_4  : ∀ (n : Nat) (h0 : Nat) (x1 : Int32) (x2 : Int32) (μ : MM) (res : Int32 × MM), lX3_howManyTasksOver_4  n h0 x1 x2 μ = some res → mmKN μ res.2 := by
  intro n
  induction n with
  | zero => intro h0 x1 x2 μ res hf; cases hf
  | succ n ih => intro h0 x1 x2 μ res hf; exact knbX3_howManyTasksOver_4  _ ih h0 x1 x2 μ res hf
set_option maxRecDepth 100000 in
set_option maxHeartbeats 4000000 in
theorem kX3_howManyTasksOver_kn {μ : MM} {res : Int32 × MM} {h0 : Nat} (hf : fX3_howManyTasksOver h0 μ = some res) : mmKN μ res.2 := by
  have hK : mmKN μ μ := mmKN.rf
  unfold fX3_howManyTasksOver at hf
  exact hK.tr (knlX3_howManyTasksOver_4  FU h0 0 0 μ _ hf)
abbrev rmX3_howManyTasksOver : Room := { frames := 1, cells := 0, slots := 0, locals := 21 }
set_option maxRecDepth 100000 in
set_option maxHeartbeats 4000000 in
theorem wbX3_howManyTasksOver_4 {p : Program} {l : Launch} {e : Env} {s : State} {m : MethodId} {args : Array Value} {below : List Frame} {meth : Method} {c : Code} {G : mmG} {A : Nat → Prop} {res : Int32 × MM} (E0 : mmEnv p m c cX3_howManyTasksOver 3 s args RX3 G A meth (some (.int))) (kk4 : Nat → Int32 → Int32 → MM → Option (Int32 × MM)) (hkk4 : ∀ (h0 : Nat) (x1 : Int32) (x2 : Int32) (μ : MM), kk4 h0 x1 x2 μ = some res → mmGoal p l e rmX3_howManyTasksOver s m args below meth c G A 4 3 [(0, rf h0), (1, .int x1), (2, .int x2)] μ (mmQ G A res.2 (some (.int res.1)))) : ∀ (h0 : Nat) (x1 : Int32) (x2 : Int32) (μ : MM), bX3_howManyTasksOver_4 kk4 h0 x1 x2 μ = some res → mmGoal p l e rmX3_howManyTasksOver s m args below meth c G A 4 3 [(0, rf h0), (1, .int x1), (2, .int x2)] μ (mmQ G A res.2 (some (.int res.1))) := by
  obtain ⟨S, hA, hr, hlocks⟩ := id E0
  intro h0 x1 x2 μ hf H locs ls hR hS hl
  have hK : mmKN μ μ := mmKN.rf
  unfold bX3_howManyTasksOver_4 at hf
  refine lv_iload_n S.1 S.2.1 dX3_howManyTasksOver_4 rfl (lv_at hl 2 rfl) ?_
  refine mm_aload_n S dX3_howManyTasksOver_5 rfl (lv_at hl 0 rfl) ?_
  obtain ⟨g1, hf⟩ := gd hf
  refine mm_geti S hR fdX3_41 (hK.k g1) rfl dX3_howManyTasksOver_6 ?_
  refine lv_icmp_ge (tgt := 49) S.1 S.2.1 dX3_howManyTasksOver_9 (by decide) (fun c2 => ?_) (fun c2 => ?_)
  · have hf := it_t hf c2
    refine lv_iload_n S.1 S.2.1 dX3_howManyTasksOver_49 rfl (lv_at hl 1 rfl) ?_
    obtain rfl := Option.some.inj hf
    exact mm_iret S hR hS hr hlocks dX3_howManyTasksOver_50
  · have hf := it_f hf c2
    refine lv_iload_n S.1 S.2.1 dX3_howManyTasksOver_12 rfl (lv_at hl 1 rfl) ?_
    refine mm_aload_n S dX3_howManyTasksOver_13 rfl (lv_at hl 0 rfl) ?_
    refine lv_iload_n S.1 S.2.1 dX3_howManyTasksOver_14 rfl (lv_at hl 2 rfl) ?_
    obtain ⟨y3, hy3, hf⟩ := bd hf
    refine mm_callVh S hR hS hA (As := [.int x2]) (rest := [.int x1]) cvX3_55 (hK.k g1) (kX3_at_c l G A (hK.k g1) hy3) rfl rfl ⟨Nat.le_of_ble_eq_true rfl, Nat.le_of_ble_eq_true rfl⟩ rfl hl.1 rfl (lv_room (by simp [rf_cat, int_cat, long_cat])) dX3_howManyTasksOver_15 ⟨Nat.zero_le _, Nat.zero_le _⟩ (fun H locs hR hS => ?_)
    have hK : mmKN μ y3.2 := hK.tr (kX3_at_kn hy3)
    obtain ⟨g4, hf⟩ := gd hf
    refine mm_geti S hR fdX3_62 (hK.k g4) rfl dX3_howManyTasksOver_18 ?_
    refine lv_iconst (v := 1) S.1 S.2.1 dX3_howManyTasksOver_21 (by decide) ?_
    refine lv_icmp_ne (tgt := 40) S.1 S.2.1 dX3_howManyTasksOver_22 (by decide) (fun c5 => ?_) (fun c5 => ?_)
    · have hf := it_f hf c5
      refine lv_iconst (v := 0) S.1 S.2.1 dX3_howManyTasksOver_40 (by decide) ?_
      refine lv_iadd S.1 S.2.1 dX3_howManyTasksOver_41 ?_
      refine lv_istore_n (i := 1) (lv' := [(1, .int (x1 + 0)), (0, rf h0), (2, .int x2)]) S.1 S.2.1 dX3_howManyTasksOver_42 rfl hl (by decide) (by simp [rf_cat]) (fun ls hl => ?_)
      refine lv_iinc (v := (x2 + 1)) (lv' := [(2, .int (x2 + 1)), (1, .int (x1 + 0)), (0, rf h0)]) S.1 S.2.1 dX3_howManyTasksOver_43 hl (k := 2) rfl (by rfl) (by decide) rfl (fun ls hl => ?_)
      refine lv_goto (tgt := 4) S.1 S.2.1 dX3_howManyTasksOver_46 (by decide) ?_
      exact hkk4 h0 (x1 + 0) (x2 + 1) y3.2 hf _ _ _ hR hS (lv_sub hl [2, 1, 0] rfl)
    · have hf := it_t hf c5
      refine mm_aload_n S dX3_howManyTasksOver_25 rfl (lv_at hl 0 rfl) ?_
      refine lv_iload_n S.1 S.2.1 dX3_howManyTasksOver_26 rfl (lv_at hl 2 rfl) ?_
      obtain ⟨y6, hy6, hf⟩ := bd hf
      refine mm_callVh S hR hS hA (As := [.int x2]) (rest := [.int x1]) cvX3_55 (hK.k g1) (kX3_at_c l G A (hK.k g1) hy6) rfl rfl ⟨Nat.le_of_ble_eq_true rfl, Nat.le_of_ble_eq_true rfl⟩ rfl hl.1 rfl (lv_room (by simp [rf_cat, int_cat, long_cat])) dX3_howManyTasksOver_27 ⟨Nat.zero_le _, Nat.zero_le _⟩ (fun H locs hR hS => ?_)
      have hK : mmKN μ y6.2 := hK.tr (kX3_at_kn hy6)
      obtain ⟨g8, hf⟩ := gd hf
      obtain ⟨y7, hy7, hf⟩ := bd hf
      refine mm_callVi S hR hS hA (As := []) (rest := [.int x1]) cvX3_71 (hK.k g8) (kX2_isOver_c l G A (hK.k g8) hy7) rfl rfl ⟨Nat.le_of_ble_eq_true rfl, Nat.le_of_ble_eq_true rfl⟩ rfl hl.1 rfl (lv_room (by simp [rf_cat, int_cat, long_cat])) dX3_howManyTasksOver_30 ⟨Nat.zero_le _, Nat.zero_le _⟩ (fun H locs hR hS => ?_)
      have hK : mmKN μ y7.2 := hK.tr (kX2_isOver_kn hy7)
      refine lv_if_eq (tgt := 40) S.1 S.2.1 dX3_howManyTasksOver_33 (by decide) (fun c9 => ?_) (fun c9 => ?_)
      · have hf := it_t hf c9
        refine lv_iconst (v := 0) S.1 S.2.1 dX3_howManyTasksOver_40 (by decide) ?_
        refine lv_iadd S.1 S.2.1 dX3_howManyTasksOver_41 ?_
        refine lv_istore_n (i := 1) (lv' := [(1, .int (x1 + 0)), (0, rf h0), (2, .int x2)]) S.1 S.2.1 dX3_howManyTasksOver_42 rfl hl (by decide) (by simp [rf_cat]) (fun ls hl => ?_)
        refine lv_iinc (v := (x2 + 1)) (lv' := [(2, .int (x2 + 1)), (1, .int (x1 + 0)), (0, rf h0)]) S.1 S.2.1 dX3_howManyTasksOver_43 hl (k := 2) rfl (by rfl) (by decide) rfl (fun ls hl => ?_)
        refine lv_goto (tgt := 4) S.1 S.2.1 dX3_howManyTasksOver_46 (by decide) ?_
        exact hkk4 h0 (x1 + 0) (x2 + 1) y7.2 hf _ _ _ hR hS (lv_sub hl [2, 1, 0] rfl)
      · have hf := it_f hf c9
        refine lv_iconst (v := 1) S.1 S.2.1 dX3_howManyTasksOver_36 (by decide) ?_
        refine lv_goto (tgt := 41) S.1 S.2.1 dX3_howManyTasksOver_37 (by decide) ?_
        refine lv_iadd S.1 S.2.1 dX3_howManyTasksOver_41 ?_
        refine lv_istore_n (i := 1) (lv' := [(1, .int (x1 + 1)), (0, rf h0), (2, .int x2)]) S.1 S.2.1 dX3_howManyTasksOver_42 rfl hl (by decide) (by simp [rf_cat]) (fun ls hl => ?_)
        refine lv_iinc (v := (x2 + 1)) (lv' := [(2, .int (x2 + 1)), (1, .int (x1 + 1)), (0, rf h0)]) S.1 S.2.1 dX3_howManyTasksOver_43 hl (k := 2) rfl (by rfl) (by decide) rfl (fun ls hl => ?_)
        refine lv_goto (tgt := 4) S.1 S.2.1 dX3_howManyTasksOver_46 (by decide) ?_
        exact hkk4 h0 (x1 + 1) (x2 + 1) y7.2 hf _ _ _ hR hS (lv_sub hl [2, 1, 0] rfl)
theorem wlX3_howManyTasksOver_4 {p : Program} {l : Launch} {e : Env} {s : State} {m : MethodId} {args : Array Value} {below : List Frame} {meth : Method} {c : Code} {G : mmG} {A : Nat → Prop} {res : Int32 × MM} (E0 : mmEnv p m c cX3_howManyTasksOver 3 s args RX3 G A meth (some (.int)))  : ∀ (n : Nat) (h0 : Nat) (x1 : Int32) (x2 : Int32) (μ : MM), lX3_howManyTasksOver_4  n h0 x1 x2 μ = some res → mmGoal p l e rmX3_howManyTasksOver s m args below meth c G A 4 3 [(0, rf h0), (1, .int x1), (2, .int x2)] μ (mmQ G A res.2 (some (.int res.1))) := by
  intro n
  induction n with
  | zero => intro h0 x1 x2 μ hf; cases hf
  | succ n ih => intro h0 x1 x2 μ hf; exact wbX3_howManyTasksOver_4 E0  _ ih h0 x1 x2 μ hf
set_option maxRecDepth 100000 in
set_option maxHeartbeats 4000000 in
theorem kX3_howManyTasksOver_c (l : Launch) (G : mmG) (A : Nat → Prop) {μ : MM} {res : Int32 × MM} {h0 : Nat} (hk0 : mK μ h0 = 4) (hf : fX3_howManyTasksOver h0 μ = some res) : Met l yX3_howManyTasksOver [.code yX3_howManyTasksOver cX3_howManyTasksOver 3 (some (.int))] rmX3_howManyTasksOver (mmPc G A μ [rf h0]) (mmQ G A res.2 (some (.int res.1))) 0 0 A := by
  refine mm_ofW (by decide +kernel) (by simp [lg_sl, rf_cat, int_cat]) ?_
  intro p e s m below meth c ls S hR hA hS hr hlocks hl hnm
  have hl : lv_has ls 3 [(0, rf h0)] := by simpa [lv_args, rf_cat, int_cat] using hl
  have E0 : mmEnv p m c cX3_howManyTasksOver 3 s _ RX3 G A meth (some (.int)) := ⟨S, hA, hr, hlocks⟩
  have hK : mmKN μ μ := mmKN.rf
  unfold fX3_howManyTasksOver at hf
  refine lv_iconst (v := 0) S.1 S.2.1 dX3_howManyTasksOver_0 (by decide) ?_
  refine lv_istore_n (i := 1) (lv' := [(1, .int 0), (0, rf h0)]) S.1 S.2.1 dX3_howManyTasksOver_1 rfl hl (by decide) (by simp [rf_cat]) (fun ls hl => ?_)
  refine lv_iconst (v := 0) S.1 S.2.1 dX3_howManyTasksOver_2 (by decide) ?_
  refine lv_istore_n (i := 2) (lv' := [(2, .int 0), (1, .int 0), (0, rf h0)]) S.1 S.2.1 dX3_howManyTasksOver_3 rfl hl (by decide) rfl (fun ls hl => ?_)
  exact wlX3_howManyTasksOver_4 E0  FU h0 0 0 μ hf _ _ _ hR hS (lv_sub hl [2, 1, 0] rfl)
-- X3_howManyAwait
def bX3_howManyAwait_4 (kk4 : Nat → Int32 → Int32 → Int32 → MM → Option (Int32 × MM)) (h0 : Nat) (x1 : Int32) (x2 : Int32) (x3 : Int32) (μ : MM) : Option (Int32 × MM) :=
  if mK μ h0 = 4 then if mK μ (mP μ h0 4) = 5 then if (mI μ (mP μ h0 4) 1) ≤ x3 then (some (x2, μ)) else ((fX4_numberAt (mP μ h0 4) x3 μ).bind fun y4 => (fX3_at h0 y4.1 y4.2).bind fun y5 => if mK μ y5.1 = 3 then if (mI y5.2 y5.1 13) = x1 then (kk4 h0 x1 (x2 + 1) (x3 + 1) y5.2) else (kk4 h0 x1 (x2 + 0) (x3 + 1) y5.2) else none) else none else none
def lX3_howManyAwait_4  : Nat → Nat → Int32 → Int32 → Int32 → MM → Option (Int32 × MM)
  | 0, _, _, _, _, _ => none
  | n + 1, h0, x1, x2, x3, μ => bX3_howManyAwait_4  (fun h0 x1 x2 x3 μ => lX3_howManyAwait_4  n h0 x1 x2 x3 μ) h0 x1 x2 x3 μ
def fX3_howManyAwait (h0 : Nat) (x1 : Int32) (μ : MM) : Option (Int32 × MM) :=
  lX3_howManyAwait_4  FU h0 x1 0 0 μ
set_option maxRecDepth 100000 in
set_option maxHeartbeats 4000000 in
theorem knbX3_howManyAwait_4 (kk4 : Nat → Int32 → Int32 → Int32 → MM → Option (Int32 × MM)) (hkk4 : ∀ (h0 : Nat) (x1 : Int32) (x2 : Int32) (x3 : Int32) (μ : MM) (res : Int32 × MM), kk4 h0 x1 x2 x3 μ = some res → mmKN μ res.2) : ∀ (h0 : Nat) (x1 : Int32) (x2 : Int32) (x3 : Int32) (μ : MM) (res : Int32 × MM), bX3_howManyAwait_4 kk4 h0 x1 x2 x3 μ = some res → mmKN μ res.2 := by
  intro h0 x1 x2 x3 μ res hf
  have hK : mmKN μ μ := mmKN.rf
  unfold bX3_howManyAwait_4 at hf
  obtain ⟨g1, hf⟩ := gd hf
  obtain ⟨g2, hf⟩ := gd hf
  rcases it_or hf with ⟨c3, hf⟩ | ⟨c3, hf⟩
  · skip
    obtain rfl := Option.some.inj hf
    exact hK
  · skip
    obtain ⟨y4, hy4, hf⟩ := bd hf
    have hK : mmKN μ y4.2 := hK.tr (kX4_numberAt_kn hy4)
    obtain ⟨y5, hy5, hf⟩ := bd hf
    have hK : mmKN μ y5.2 := hK.tr (kX3_at_kn hy5)
    obtain ⟨g6, hf⟩ := gd hf
    rcases it_or hf with ⟨c7, hf⟩ | ⟨c7, hf⟩
    · skip
      exact hK.tr (hkk4 h0 x1 (x2 + 1) (x3 + 1) y5.2 _ hf)
    · skip
      exact hK.tr (hkk4 h0 x1 (x2 + 0) (x3 + 1) y5.2 _ hf)
theorem knlX3_howManyAwait_4  : ∀ (n : Nat) (h0 : Nat) (x1 : Int32) (x2 : Int32) (x3 : Int32) (μ : MM) (res : Int32 × MM), lX3_howManyAwait_4  n h0 x1 x2 x3 μ = some res → mmKN μ res.2 := by
  intro n
  induction n with
  | zero => intro h0 x1 x2 x3 μ res hf; cases hf
  | succ n ih => intro h0 x1 x2 x3 μ res hf; exact knbX3_howManyAwait_4  _ ih h0 x1 x2 x3 μ res hf
set_option maxRecDepth 100000 in
set_option maxHeartbeats 4000000 in
theorem kX3_howManyAwait_kn {μ : MM} {res : Int32 × MM} {h0 : Nat} {x1 : Int32} (hf : fX3_howManyAwait h0 x1 μ = some res) : mmKN μ res.2 := by
  have hK : mmKN μ μ := mmKN.rf
  unfold fX3_howManyAwait at hf
  exact hK.tr (knlX3_howManyAwait_4  FU h0 x1 0 0 μ _ hf)
abbrev rmX3_howManyAwait : Room := { frames := 1, cells := 0, slots := 0, locals := 21 }
set_option maxRecDepth 100000 in
set_option maxHeartbeats 4000000 in
theorem wbX3_howManyAwait_4 {p : Program} {l : Launch} {e : Env} {s : State} {m : MethodId} {args : Array Value} {below : List Frame} {meth : Method} {c : Code} {G : mmG} {A : Nat → Prop} {res : Int32 × MM} (E0 : mmEnv p m c cX3_howManyAwait 4 s args RX3 G A meth (some (.int))) (kk4 : Nat → Int32 → Int32 → Int32 → MM → Option (Int32 × MM)) (hkk4 : ∀ (h0 : Nat) (x1 : Int32) (x2 : Int32) (x3 : Int32) (μ : MM), kk4 h0 x1 x2 x3 μ = some res → mmGoal p l e rmX3_howManyAwait s m args below meth c G A 4 4 [(0, rf h0), (1, .int x1), (2, .int x2), (3, .int x3)] μ (mmQ G A res.2 (some (.int res.1)))) : ∀ (h0 : Nat) (x1 : Int32) (x2 : Int32) (x3 : Int32) (μ : MM), bX3_howManyAwait_4 kk4 h0 x1 x2 x3 μ = some res → mmGoal p l e rmX3_howManyAwait s m args below meth c G A 4 4 [(0, rf h0), (1, .int x1), (2, .int x2), (3, .int x3)] μ (mmQ G A res.2 (some (.int res.1))) := by
  obtain ⟨S, hA, hr, hlocks⟩ := id E0
  intro h0 x1 x2 x3 μ hf H locs ls hR hS hl
  have hK : mmKN μ μ := mmKN.rf
  unfold bX3_howManyAwait_4 at hf
  refine lv_iload_n S.1 S.2.1 dX3_howManyAwait_4 rfl (lv_at hl 3 rfl) ?_
  refine mm_aload_n S dX3_howManyAwait_5 rfl (lv_at hl 0 rfl) ?_
  obtain ⟨g1, hf⟩ := gd hf
  refine mm_getp S hR fdX3_31 (hK.k g1) rfl dX3_howManyAwait_6 ?_
  obtain ⟨g2, hf⟩ := gd hf
  refine mm_geti S hR fdX3_75 (hK.k g2) rfl dX3_howManyAwait_9 ?_
  refine lv_icmp_ge (tgt := 48) S.1 S.2.1 dX3_howManyAwait_12 (by decide) (fun c3 => ?_) (fun c3 => ?_)
  · have hf := it_t hf c3
    refine lv_iload_n S.1 S.2.1 dX3_howManyAwait_48 rfl (lv_at hl 2 rfl) ?_
    obtain rfl := Option.some.inj hf
    exact mm_iret S hR hS hr hlocks dX3_howManyAwait_49
  · have hf := it_f hf c3
    refine lv_iload_n S.1 S.2.1 dX3_howManyAwait_15 rfl (lv_at hl 2 rfl) ?_
    refine mm_aload_n S dX3_howManyAwait_16 rfl (lv_at hl 0 rfl) ?_
    refine mm_aload_n S dX3_howManyAwait_17 rfl (lv_at hl 0 rfl) ?_
    refine mm_getp S hR fdX3_31 (hK.k g1) rfl dX3_howManyAwait_18 ?_
    refine lv_iload_n S.1 S.2.1 dX3_howManyAwait_21 rfl (lv_at hl 3 rfl) ?_
    obtain ⟨y4, hy4, hf⟩ := bd hf
    refine mm_callVi S hR hS hA (As := [.int x3]) (rest := [rf h0, .int x2]) cvX3_78 (hK.k g2) (kX4_numberAt_c l G A (hK.k g2) hy4) rfl rfl ⟨Nat.le_of_ble_eq_true rfl, Nat.le_of_ble_eq_true rfl⟩ rfl hl.1 rfl (lv_room (by simp [rf_cat, int_cat, long_cat])) dX3_howManyAwait_22 ⟨Nat.zero_le _, Nat.zero_le _⟩ (fun H locs hR hS => ?_)
    have hK : mmKN μ y4.2 := hK.tr (kX4_numberAt_kn hy4)
    obtain ⟨y5, hy5, hf⟩ := bd hf
    refine mm_callVh S hR hS hA (As := [.int y4.1]) (rest := [.int x2]) cvX3_55 (hK.k g1) (kX3_at_c l G A (hK.k g1) hy5) rfl rfl ⟨Nat.le_of_ble_eq_true rfl, Nat.le_of_ble_eq_true rfl⟩ rfl hl.1 rfl (lv_room (by simp [rf_cat, int_cat, long_cat])) dX3_howManyAwait_25 ⟨Nat.zero_le _, Nat.zero_le _⟩ (fun H locs hR hS => ?_)
    have hK : mmKN μ y5.2 := hK.tr (kX3_at_kn hy5)
    obtain ⟨g6, hf⟩ := gd hf
    refine mm_geti S hR fdX3_82 (hK.k g6) rfl dX3_howManyAwait_28 ?_
    refine lv_iload_n S.1 S.2.1 dX3_howManyAwait_31 rfl (lv_at hl 1 rfl) ?_
    refine lv_icmp_ne (tgt := 39) S.1 S.2.1 dX3_howManyAwait_32 (by decide) (fun c7 => ?_) (fun c7 => ?_)
    · have hf := it_f hf c7
      refine lv_iconst (v := 0) S.1 S.2.1 dX3_howManyAwait_39 (by decide) ?_
      refine lv_iadd S.1 S.2.1 dX3_howManyAwait_40 ?_
      refine lv_istore_n (i := 2) (lv' := [(2, .int (x2 + 0)), (0, rf h0), (1, .int x1), (3, .int x3)]) S.1 S.2.1 dX3_howManyAwait_41 rfl hl (by decide) rfl (fun ls hl => ?_)
      refine lv_iinc (v := (x3 + 1)) (lv' := [(3, .int (x3 + 1)), (2, .int (x2 + 0)), (0, rf h0), (1, .int x1)]) S.1 S.2.1 dX3_howManyAwait_42 hl (k := 3) rfl (by rfl) (by decide) rfl (fun ls hl => ?_)
      refine lv_goto (tgt := 4) S.1 S.2.1 dX3_howManyAwait_45 (by decide) ?_
      exact hkk4 h0 x1 (x2 + 0) (x3 + 1) y5.2 hf _ _ _ hR hS (lv_sub hl [2, 3, 1, 0] rfl)
    · have hf := it_t hf c7
      refine lv_iconst (v := 1) S.1 S.2.1 dX3_howManyAwait_35 (by decide) ?_
      refine lv_goto (tgt := 40) S.1 S.2.1 dX3_howManyAwait_36 (by decide) ?_
      refine lv_iadd S.1 S.2.1 dX3_howManyAwait_40 ?_
      refine lv_istore_n (i := 2) (lv' := [(2, .int (x2 + 1)), (0, rf h0), (1, .int x1), (3, .int x3)]) S.1 S.2.1 dX3_howManyAwait_41 rfl hl (by decide) rfl (fun ls hl => ?_)
      refine lv_iinc (v := (x3 + 1)) (lv' := [(3, .int (x3 + 1)), (2, .int (x2 + 1)), (0, rf h0), (1, .int x1)]) S.1 S.2.1 dX3_howManyAwait_42 hl (k := 3) rfl (by rfl) (by decide) rfl (fun ls hl => ?_)
      refine lv_goto (tgt := 4) S.1 S.2.1 dX3_howManyAwait_45 (by decide) ?_
      exact hkk4 h0 x1 (x2 + 1) (x3 + 1) y5.2 hf _ _ _ hR hS (lv_sub hl [2, 3, 1, 0] rfl)
theorem wlX3_howManyAwait_4 {p : Program} {l : Launch} {e : Env} {s : State} {m : MethodId} {args : Array Value} {below : List Frame} {meth : Method} {c : Code} {G : mmG} {A : Nat → Prop} {res : Int32 × MM} (E0 : mmEnv p m c cX3_howManyAwait 4 s args RX3 G A meth (some (.int)))  : ∀ (n : Nat) (h0 : Nat) (x1 : Int32) (x2 : Int32) (x3 : Int32) (μ : MM), lX3_howManyAwait_4  n h0 x1 x2 x3 μ = some res → mmGoal p l e rmX3_howManyAwait s m args below meth c G A 4 4 [(0, rf h0), (1, .int x1), (2, .int x2), (3, .int x3)] μ (mmQ G A res.2 (some (.int res.1))) := by
  intro n
  induction n with
  | zero => intro h0 x1 x2 x3 μ hf; cases hf
  | succ n ih => intro h0 x1 x2 x3 μ hf; exact wbX3_howManyAwait_4 E0  _ ih h0 x1 x2 x3 μ hf
set_option maxRecDepth 100000 in
set_option maxHeartbeats 4000000 in
theorem kX3_howManyAwait_c (l : Launch) (G : mmG) (A : Nat → Prop) {μ : MM} {res : Int32 × MM} {h0 : Nat} {x1 : Int32} (hk0 : mK μ h0 = 4) (hf : fX3_howManyAwait h0 x1 μ = some res) : Met l yX3_howManyAwait [.code yX3_howManyAwait cX3_howManyAwait 4 (some (.int))] rmX3_howManyAwait (mmPc G A μ [rf h0, .int x1]) (mmQ G A res.2 (some (.int res.1))) 0 0 A := by
  refine mm_ofW (by decide +kernel) (by simp [lg_sl, rf_cat, int_cat]) ?_
  intro p e s m below meth c ls S hR hA hS hr hlocks hl hnm
  have hl : lv_has ls 4 [(0, rf h0), (1, .int x1)] := by simpa [lv_args, rf_cat, int_cat] using hl
  have E0 : mmEnv p m c cX3_howManyAwait 4 s _ RX3 G A meth (some (.int)) := ⟨S, hA, hr, hlocks⟩
  have hK : mmKN μ μ := mmKN.rf
  unfold fX3_howManyAwait at hf
  refine lv_iconst (v := 0) S.1 S.2.1 dX3_howManyAwait_0 (by decide) ?_
  refine lv_istore_n (i := 2) (lv' := [(2, .int 0), (0, rf h0), (1, .int x1)]) S.1 S.2.1 dX3_howManyAwait_1 rfl hl (by decide) rfl (fun ls hl => ?_)
  refine lv_iconst (v := 0) S.1 S.2.1 dX3_howManyAwait_2 (by decide) ?_
  refine lv_istore_n (i := 3) (lv' := [(3, .int 0), (2, .int 0), (0, rf h0), (1, .int x1)]) S.1 S.2.1 dX3_howManyAwait_3 rfl hl (by decide) rfl (fun ls hl => ?_)
  exact wlX3_howManyAwait_4 E0  FU h0 x1 0 0 μ hf _ _ _ hR hS (lv_sub hl [2, 3, 1, 0] rfl)
-- X3_linesDoneInAll
def bX3_linesDoneInAll_4 (kk4 : Nat → Int32 → Int32 → MM → Option (Int32 × MM)) (h0 : Nat) (x1 : Int32) (x2 : Int32) (μ : MM) : Option (Int32 × MM) :=
  if mK μ h0 = 4 then if (mI μ h0 5) ≤ x2 then (some (x1, μ)) else ((fX3_at h0 x2 μ).bind fun y3 => if mK μ y3.1 = 3 then kk4 h0 (x1 + (mI y3.2 y3.1 11)) (x2 + 1) y3.2 else none) else none
def lX3_linesDoneInAll_4  : Nat → Nat → Int32 → Int32 → MM → Option (Int32 × MM)
  | 0, _, _, _, _ => none
  | n + 1, h0, x1, x2, μ => bX3_linesDoneInAll_4  (fun h0 x1 x2 μ => lX3_linesDoneInAll_4  n h0 x1 x2 μ) h0 x1 x2 μ
def fX3_linesDoneInAll (h0 : Nat) (μ : MM) : Option (Int32 × MM) :=
  lX3_linesDoneInAll_4  FU h0 0 0 μ
set_option maxRecDepth 100000 in
set_option maxHeartbeats 4000000 in
theorem knbX3_linesDoneInAll_4 (kk4 : Nat → Int32 → Int32 → MM → Option (Int32 × MM)) (hkk4 : ∀ (h0 : Nat) (x1 : Int32) (x2 : Int32) (μ : MM) (res : Int32 × MM), kk4 h0 x1 x2 μ = some res → mmKN μ res.2) : ∀ (h0 : Nat) (x1 : Int32) (x2 : Int32) (μ : MM) (res : Int32 × MM), bX3_linesDoneInAll_4 kk4 h0 x1 x2 μ = some res → mmKN μ res.2 := by
  intro h0 x1 x2 μ res hf
  have hK : mmKN μ μ := mmKN.rf
  unfold bX3_linesDoneInAll_4 at hf
  obtain ⟨g1, hf⟩ := gd hf
  rcases it_or hf with ⟨c2, hf⟩ | ⟨c2, hf⟩
  · skip
    obtain rfl := Option.some.inj hf
    exact hK
  · skip
    obtain ⟨y3, hy3, hf⟩ := bd hf
    have hK : mmKN μ y3.2 := hK.tr (kX3_at_kn hy3)
    obtain ⟨g4, hf⟩ := gd hf
    exact hK.tr (hkk4 h0 (x1 + (mI y3.2 y3.1 11)) (x2 + 1) y3.2 _ hf)
theorem knlX3_linesDoneInAll_4  : ∀ (n : Nat) (h0 : Nat) (x1 : Int32) (x2 : Int32) (μ : MM) (res : Int32 × MM), lX3_linesDoneInAll_4  n h0 x1 x2 μ = some res → mmKN μ res.2 := by
  intro n
  induction n with
  | zero => intro h0 x1 x2 μ res hf; cases hf
  | succ n ih => intro h0 x1 x2 μ res hf; exact knbX3_linesDoneInAll_4  _ ih h0 x1 x2 μ res hf
set_option maxRecDepth 100000 in
set_option maxHeartbeats 4000000 in
theorem kX3_linesDoneInAll_kn {μ : MM} {res : Int32 × MM} {h0 : Nat} (hf : fX3_linesDoneInAll h0 μ = some res) : mmKN μ res.2 := by
  have hK : mmKN μ μ := mmKN.rf
  unfold fX3_linesDoneInAll at hf
  exact hK.tr (knlX3_linesDoneInAll_4  FU h0 0 0 μ _ hf)
abbrev rmX3_linesDoneInAll : Room := { frames := 1, cells := 0, slots := 0, locals := 21 }
set_option maxRecDepth 100000 in
set_option maxHeartbeats 4000000 in
theorem wbX3_linesDoneInAll_4 {p : Program} {l : Launch} {e : Env} {s : State} {m : MethodId} {args : Array Value} {below : List Frame} {meth : Method} {c : Code} {G : mmG} {A : Nat → Prop} {res : Int32 × MM} (E0 : mmEnv p m c cX3_linesDoneInAll 3 s args RX3 G A meth (some (.int))) (kk4 : Nat → Int32 → Int32 → MM → Option (Int32 × MM)) (hkk4 : ∀ (h0 : Nat) (x1 : Int32) (x2 : Int32) (μ : MM), kk4 h0 x1 x2 μ = some res → mmGoal p l e rmX3_linesDoneInAll s m args below meth c G A 4 3 [(0, rf h0), (1, .int x1), (2, .int x2)] μ (mmQ G A res.2 (some (.int res.1)))) : ∀ (h0 : Nat) (x1 : Int32) (x2 : Int32) (μ : MM), bX3_linesDoneInAll_4 kk4 h0 x1 x2 μ = some res → mmGoal p l e rmX3_linesDoneInAll s m args below meth c G A 4 3 [(0, rf h0), (1, .int x1), (2, .int x2)] μ (mmQ G A res.2 (some (.int res.1))) := by
  obtain ⟨S, hA, hr, hlocks⟩ := id E0
  intro h0 x1 x2 μ hf H locs ls hR hS hl
  have hK : mmKN μ μ := mmKN.rf
  unfold bX3_linesDoneInAll_4 at hf
  refine lv_iload_n S.1 S.2.1 dX3_linesDoneInAll_4 rfl (lv_at hl 2 rfl) ?_
  refine mm_aload_n S dX3_linesDoneInAll_5 rfl (lv_at hl 0 rfl) ?_
  obtain ⟨g1, hf⟩ := gd hf
  refine mm_geti S hR fdX3_41 (hK.k g1) rfl dX3_linesDoneInAll_6 ?_
  refine lv_icmp_ge (tgt := 29) S.1 S.2.1 dX3_linesDoneInAll_9 (by decide) (fun c2 => ?_) (fun c2 => ?_)
  · have hf := it_t hf c2
    refine lv_iload_n S.1 S.2.1 dX3_linesDoneInAll_29 rfl (lv_at hl 1 rfl) ?_
    obtain rfl := Option.some.inj hf
    exact mm_iret S hR hS hr hlocks dX3_linesDoneInAll_30
  · have hf := it_f hf c2
    refine lv_iload_n S.1 S.2.1 dX3_linesDoneInAll_12 rfl (lv_at hl 1 rfl) ?_
    refine mm_aload_n S dX3_linesDoneInAll_13 rfl (lv_at hl 0 rfl) ?_
    refine lv_iload_n S.1 S.2.1 dX3_linesDoneInAll_14 rfl (lv_at hl 2 rfl) ?_
    obtain ⟨y3, hy3, hf⟩ := bd hf
    refine mm_callVh S hR hS hA (As := [.int x2]) (rest := [.int x1]) cvX3_55 (hK.k g1) (kX3_at_c l G A (hK.k g1) hy3) rfl rfl ⟨Nat.le_of_ble_eq_true rfl, Nat.le_of_ble_eq_true rfl⟩ rfl hl.1 rfl (lv_room (by simp [rf_cat, int_cat, long_cat])) dX3_linesDoneInAll_15 ⟨Nat.zero_le _, Nat.zero_le _⟩ (fun H locs hR hS => ?_)
    have hK : mmKN μ y3.2 := hK.tr (kX3_at_kn hy3)
    obtain ⟨g4, hf⟩ := gd hf
    refine mm_geti S hR fdX3_85 (hK.k g4) rfl dX3_linesDoneInAll_18 ?_
    refine lv_iadd S.1 S.2.1 dX3_linesDoneInAll_21 ?_
    refine lv_istore_n (i := 1) (lv' := [(1, .int (x1 + (mI y3.2 y3.1 11))), (0, rf h0), (2, .int x2)]) S.1 S.2.1 dX3_linesDoneInAll_22 rfl hl (by decide) (by simp [rf_cat]) (fun ls hl => ?_)
    refine lv_iinc (v := (x2 + 1)) (lv' := [(2, .int (x2 + 1)), (1, .int (x1 + (mI y3.2 y3.1 11))), (0, rf h0)]) S.1 S.2.1 dX3_linesDoneInAll_23 hl (k := 2) rfl (by rfl) (by decide) rfl (fun ls hl => ?_)
    refine lv_goto (tgt := 4) S.1 S.2.1 dX3_linesDoneInAll_26 (by decide) ?_
    exact hkk4 h0 (x1 + (mI y3.2 y3.1 11)) (x2 + 1) y3.2 hf _ _ _ hR hS (lv_sub hl [2, 1, 0] rfl)
theorem wlX3_linesDoneInAll_4 {p : Program} {l : Launch} {e : Env} {s : State} {m : MethodId} {args : Array Value} {below : List Frame} {meth : Method} {c : Code} {G : mmG} {A : Nat → Prop} {res : Int32 × MM} (E0 : mmEnv p m c cX3_linesDoneInAll 3 s args RX3 G A meth (some (.int)))  : ∀ (n : Nat) (h0 : Nat) (x1 : Int32) (x2 : Int32) (μ : MM), lX3_linesDoneInAll_4  n h0 x1 x2 μ = some res → mmGoal p l e rmX3_linesDoneInAll s m args below meth c G A 4 3 [(0, rf h0), (1, .int x1), (2, .int x2)] μ (mmQ G A res.2 (some (.int res.1))) := by
  intro n
  induction n with
  | zero => intro h0 x1 x2 μ hf; cases hf
  | succ n ih => intro h0 x1 x2 μ hf; exact wbX3_linesDoneInAll_4 E0  _ ih h0 x1 x2 μ hf
set_option maxRecDepth 100000 in
set_option maxHeartbeats 4000000 in
theorem kX3_linesDoneInAll_c (l : Launch) (G : mmG) (A : Nat → Prop) {μ : MM} {res : Int32 × MM} {h0 : Nat} (hk0 : mK μ h0 = 4) (hf : fX3_linesDoneInAll h0 μ = some res) : Met l yX3_linesDoneInAll [.code yX3_linesDoneInAll cX3_linesDoneInAll 3 (some (.int))] rmX3_linesDoneInAll (mmPc G A μ [rf h0]) (mmQ G A res.2 (some (.int res.1))) 0 0 A := by
  refine mm_ofW (by decide +kernel) (by simp [lg_sl, rf_cat, int_cat]) ?_
  intro p e s m below meth c ls S hR hA hS hr hlocks hl hnm
  have hl : lv_has ls 3 [(0, rf h0)] := by simpa [lv_args, rf_cat, int_cat] using hl
  have E0 : mmEnv p m c cX3_linesDoneInAll 3 s _ RX3 G A meth (some (.int)) := ⟨S, hA, hr, hlocks⟩
  have hK : mmKN μ μ := mmKN.rf
  unfold fX3_linesDoneInAll at hf
  refine lv_iconst (v := 0) S.1 S.2.1 dX3_linesDoneInAll_0 (by decide) ?_
  refine lv_istore_n (i := 1) (lv' := [(1, .int 0), (0, rf h0)]) S.1 S.2.1 dX3_linesDoneInAll_1 rfl hl (by decide) (by simp [rf_cat]) (fun ls hl => ?_)
  refine lv_iconst (v := 0) S.1 S.2.1 dX3_linesDoneInAll_2 (by decide) ?_
  refine lv_istore_n (i := 2) (lv' := [(2, .int 0), (1, .int 0), (0, rf h0)]) S.1 S.2.1 dX3_linesDoneInAll_3 rfl hl (by decide) rfl (fun ls hl => ?_)
  exact wlX3_linesDoneInAll_4 E0  FU h0 0 0 μ hf _ _ _ hR hS (lv_sub hl [2, 1, 0] rfl)
-- X3_canMake
def fX3_canMake (h0 : Nat) (x1 : Int32) (μ : MM) : Option (Int32 × MM) :=
  if mK μ (mP μ h0 0) = 1 then (fX0_has (mP μ h0 0) x1 μ).bind fun y1 => if y1.1 = 0 then (some (0, y1.2)) else ((fX3_isFull h0 y1.2).bind fun y4 => if y4.1 = 0 then (some (1, y4.2)) else (some (0, y4.2))) else none
set_option maxRecDepth 100000 in
set_option maxHeartbeats 4000000 in
theorem kX3_canMake_kn {μ : MM} {res : Int32 × MM} {h0 : Nat} {x1 : Int32} (hf : fX3_canMake h0 x1 μ = some res) : mmKN μ res.2 := by
  have hK : mmKN μ μ := mmKN.rf
  unfold fX3_canMake at hf
  obtain ⟨g2, hf⟩ := gd hf
  obtain ⟨y1, hy1, hf⟩ := bd hf
  have hK : mmKN μ y1.2 := hK.tr (kX0_has_kn hy1)
  rcases it_or hf with ⟨c3, hf⟩ | ⟨c3, hf⟩
  · skip
    obtain rfl := Option.some.inj hf
    exact hK
  · skip
    obtain ⟨y4, hy4, hf⟩ := bd hf
    have hK : mmKN μ y4.2 := hK.tr (kX3_isFull_kn hy4)
    rcases it_or hf with ⟨c5, hf⟩ | ⟨c5, hf⟩
    · skip
      obtain rfl := Option.some.inj hf
      exact hK
    · skip
      obtain rfl := Option.some.inj hf
      exact hK
abbrev rmX3_canMake : Room := { frames := 1, cells := 0, slots := 0, locals := 21 }
set_option maxRecDepth 100000 in
set_option maxHeartbeats 4000000 in
theorem kX3_canMake_c (l : Launch) (G : mmG) (A : Nat → Prop) {μ : MM} {res : Int32 × MM} {h0 : Nat} {x1 : Int32} (hk0 : mK μ h0 = 4) (hf : fX3_canMake h0 x1 μ = some res) : Met l yX3_canMake [.code yX3_canMake cX3_canMake 2 (some (.boolean))] rmX3_canMake (mmPc G A μ [rf h0, .int x1]) (mmQ G A res.2 (some (.int res.1))) 0 0 A := by
  refine mm_ofW (by decide +kernel) (by simp [lg_sl, rf_cat, int_cat]) ?_
  intro p e s m below meth c ls S hR hA hS hr hlocks hl hnm
  have hl : lv_has ls 2 [(0, rf h0), (1, .int x1)] := by simpa [lv_args, rf_cat, int_cat] using hl
  have E0 : mmEnv p m c cX3_canMake 2 s _ RX3 G A meth (some (.boolean)) := ⟨S, hA, hr, hlocks⟩
  have hK : mmKN μ μ := mmKN.rf
  unfold fX3_canMake at hf
  refine mm_aload_n S dX3_canMake_0 rfl (lv_at hl 0 rfl) ?_
  refine mm_getp S hR fdX3_34 (hK.k hk0) rfl dX3_canMake_1 ?_
  refine lv_iload_n S.1 S.2.1 dX3_canMake_4 rfl (lv_at hl 1 rfl) ?_
  obtain ⟨g2, hf⟩ := gd hf
  obtain ⟨y1, hy1, hf⟩ := bd hf
  refine mm_callVi S hR hS hA (As := [.int x1]) (rest := []) cvX3_88 (hK.k g2) (kX0_has_c l G A (hK.k g2) hy1) rfl rfl ⟨Nat.le_of_ble_eq_true rfl, Nat.le_of_ble_eq_true rfl⟩ rfl hl.1 rfl (lv_room (by simp [rf_cat, int_cat, long_cat])) dX3_canMake_5 ⟨Nat.zero_le _, Nat.zero_le _⟩ (fun H locs hR hS => ?_)
  have hK : mmKN μ y1.2 := hK.tr (kX0_has_kn hy1)
  refine lv_if_eq (tgt := 22) S.1 S.2.1 dX3_canMake_8 (by decide) (fun c3 => ?_) (fun c3 => ?_)
  · have hf := it_t hf c3
    refine lv_iconst (v := 0) S.1 S.2.1 dX3_canMake_22 (by decide) ?_
    obtain rfl := Option.some.inj hf
    exact mm_zret S hR hS hr hlocks (Or.inl rfl) dX3_canMake_23
  · have hf := it_f hf c3
    refine mm_aload_n S dX3_canMake_11 rfl (lv_at hl 0 rfl) ?_
    obtain ⟨y4, hy4, hf⟩ := bd hf
    refine mm_callVi S hR hS hA (As := []) (rest := []) cvX3_94 (hK.k hk0) (kX3_isFull_c l G A (hK.k hk0) hy4) rfl rfl ⟨Nat.le_of_ble_eq_true rfl, Nat.le_of_ble_eq_true rfl⟩ rfl hl.1 rfl (lv_room (by simp [rf_cat, int_cat, long_cat])) dX3_canMake_12 ⟨Nat.zero_le _, Nat.zero_le _⟩ (fun H locs hR hS => ?_)
    have hK : mmKN μ y4.2 := hK.tr (kX3_isFull_kn hy4)
    refine lv_if_ne (tgt := 22) S.1 S.2.1 dX3_canMake_15 (by decide) (fun c5 => ?_) (fun c5 => ?_)
    · have hf := it_f hf c5
      refine lv_iconst (v := 0) S.1 S.2.1 dX3_canMake_22 (by decide) ?_
      obtain rfl := Option.some.inj hf
      exact mm_zret S hR hS hr hlocks (Or.inl rfl) dX3_canMake_23
    · have hf := it_t hf c5
      refine lv_iconst (v := 1) S.1 S.2.1 dX3_canMake_18 (by decide) ?_
      refine lv_goto (tgt := 23) S.1 S.2.1 dX3_canMake_19 (by decide) ?_
      obtain rfl := Option.some.inj hf
      exact mm_zret S hR hS hr hlocks (Or.inr rfl) dX3_canMake_23
-- X3_make
def fX3_make (h0 : Nat) (x1 : Int32) (x2 : Int32) (x3 : Int32) (μ : MM) : Option (Nat × MM) :=
  (fX3_at h0 (mI μ h0 5) μ).bind fun y1 => if mK μ y1.1 = 3 then (fX2_becomeNew y1.1 x1 x2 x3 y1.2).bind fun y2 => st (sI y2 h0 5 ((mI y2 h0 5) + 1)) fun μ4 => if x2 = (1 : Int32) then (if mK μ (mP μ4 h0 3) = 5 then (fX4_add (mP μ4 h0 3) (mI μ4 y1.1 0) μ4).bind fun y6 => some (y1.1, y6) else none) else (some (y1.1, μ4)) else none
set_option maxRecDepth 100000 in
set_option maxHeartbeats 4000000 in
theorem kX3_make_kn {μ : MM} {res : Nat × MM} {h0 : Nat} {x1 : Int32} {x2 : Int32} {x3 : Int32} (hf : fX3_make h0 x1 x2 x3 μ = some res) : mmKN μ res.2 := by
  have hK : mmKN μ μ := mmKN.rf
  unfold fX3_make at hf
  obtain ⟨y1, hy1, hf⟩ := bd hf
  have hK : mmKN μ y1.2 := hK.tr (kX3_at_kn hy1)
  obtain ⟨g3, hf⟩ := gd hf
  obtain ⟨y2, hy2, hf⟩ := bd hf
  have hK : mmKN μ y2 := hK.tr (kX2_becomeNew_kn hy2)
  obtain ⟨μ4, e4, hf⟩ := stx hf
  have hK : mmKN μ μ4 := by rw [e4]; exact hK.sI
  rcases it_or hf with ⟨c5, hf⟩ | ⟨c5, hf⟩
  · skip
    obtain ⟨g7, hf⟩ := gd hf
    obtain ⟨y6, hy6, hf⟩ := bd hf
    have hK : mmKN μ y6 := hK.tr (kX4_add_kn hy6)
    obtain rfl := Option.some.inj hf
    exact hK
  · skip
    obtain rfl := Option.some.inj hf
    exact hK
abbrev rmX3_make : Room := { frames := 1, cells := 0, slots := 0, locals := 24 }
set_option maxRecDepth 100000 in
set_option maxHeartbeats 4000000 in
theorem kX3_make_c (l : Launch) (G : mmG) (A : Nat → Prop) {μ : MM} {res : Nat × MM} {h0 : Nat} {x1 : Int32} {x2 : Int32} {x3 : Int32} (hk0 : mK μ h0 = 4) (hf : fX3_make h0 x1 x2 x3 μ = some res) : Met l yX3_make [.code yX3_make cX3_make 5 (some (.object "YieldMoor$Coroutine"))] rmX3_make (mmPc G A μ [rf h0, .int x1, .int x2, .int x3]) (mmQ G A res.2 (some (rf res.1))) 0 0 A := by
  refine mm_ofW (by decide +kernel) (by simp [lg_sl, rf_cat, int_cat]) ?_
  intro p e s m below meth c ls S hR hA hS hr hlocks hl hnm
  have hl : lv_has ls 5 [(0, rf h0), (1, .int x1), (2, .int x2), (3, .int x3)] := by simpa [lv_args, rf_cat, int_cat] using hl
  have E0 : mmEnv p m c cX3_make 5 s _ RX3 G A meth (some (.object "YieldMoor$Coroutine")) := ⟨S, hA, hr, hlocks⟩
  have hK : mmKN μ μ := mmKN.rf
  unfold fX3_make at hf
  refine mm_aload_n S dX3_make_0 rfl (lv_at hl 0 rfl) ?_
  refine mm_aload_n S dX3_make_1 rfl (lv_at hl 0 rfl) ?_
  refine mm_geti S hR fdX3_41 (hK.k hk0) rfl dX3_make_2 ?_
  obtain ⟨y1, hy1, hf⟩ := bd hf
  refine mm_callVh S hR hS hA (As := [.int (mI μ h0 5)]) (rest := []) cvX3_55 (hK.k hk0) (kX3_at_c l G A (hK.k hk0) hy1) rfl rfl ⟨Nat.le_of_ble_eq_true rfl, Nat.le_of_ble_eq_true rfl⟩ rfl hl.1 rfl (lv_room (by simp [rf_cat, int_cat, long_cat])) dX3_make_5 ⟨Nat.zero_le _, Nat.zero_le _⟩ (fun H locs hR hS => ?_)
  have hK : mmKN μ y1.2 := hK.tr (kX3_at_kn hy1)
  refine mm_astore (i := 4) (lv' := [(4, rf y1.1), (0, rf h0), (1, .int x1), (2, .int x2), (3, .int x3)]) S dX3_make_8 hl (by decide) rfl (fun ls hl => ?_)
  refine mm_aload S dX3_make_10 (lv_at hl 0 rfl) ?_
  refine lv_iload_n S.1 S.2.1 dX3_make_12 rfl (lv_at hl 2 rfl) ?_
  refine lv_iload_n S.1 S.2.1 dX3_make_13 rfl (lv_at hl 3 rfl) ?_
  refine lv_iload_n S.1 S.2.1 dX3_make_14 rfl (lv_at hl 4 rfl) ?_
  obtain ⟨g3, hf⟩ := gd hf
  obtain ⟨y2, hy2, hf⟩ := bd hf
  refine mm_callVv S hR hS hA (As := [.int x1, .int x2, .int x3]) (rest := []) cvX3_97 (hK.k g3) (kX2_becomeNew_c l G A (hK.k g3) hy2) rfl rfl ⟨Nat.le_of_ble_eq_true rfl, Nat.le_of_ble_eq_true rfl⟩ rfl hl.1 rfl (lv_room (by simp [rf_cat, int_cat, long_cat])) dX3_make_15 ⟨Nat.zero_le _, Nat.zero_le _⟩ (fun H locs hR hS => ?_)
  have hK : mmKN μ y2 := hK.tr (kX2_becomeNew_kn hy2)
  refine mm_aload_n S dX3_make_18 rfl (lv_at hl 1 rfl) ?_
  refine lv_dup S.1 S.2.1 dX3_make_19 (rf_cat _) ?_
  refine mm_geti S hR fdX3_41 (hK.k hk0) rfl dX3_make_20 ?_
  refine lv_iconst (v := 1) S.1 S.2.1 dX3_make_23 (by decide) ?_
  refine lv_iadd S.1 S.2.1 dX3_make_24 ?_
  refine mm_puti S hR hS fpX3_41 (hK.k hk0) rfl rfl rfl dX3_make_25 (fun H locs hR hS => ?_)
  obtain ⟨μ4, e4, hf⟩ := stx hf
  rw [← e4] at hR
  have hK : mmKN μ μ4 := by rw [e4]; exact hK.sI
  refine lv_iload_n S.1 S.2.1 dX3_make_28 rfl (lv_at hl 3 rfl) ?_
  refine lv_iconst (v := 1) S.1 S.2.1 dX3_make_29 (by decide) ?_
  refine lv_icmp_ne (tgt := 45) S.1 S.2.1 dX3_make_30 (by decide) (fun c5 => ?_) (fun c5 => ?_)
  · have hf := it_f hf c5
    refine mm_aload S dX3_make_45 (lv_at hl 0 rfl) ?_
    obtain rfl := Option.some.inj hf
    exact mm_aret S hR hS hr hlocks dX3_make_47
  · have hf := it_t hf c5
    refine mm_aload_n S dX3_make_33 rfl (lv_at hl 1 rfl) ?_
    refine mm_getp S hR fdX3_27 (hK.k hk0) rfl dX3_make_34 ?_
    refine mm_aload S dX3_make_37 (lv_at hl 0 rfl) ?_
    refine mm_geti S hR fdX3_101 (hK.k g3) rfl dX3_make_39 ?_
    obtain ⟨g7, hf⟩ := gd hf
    obtain ⟨y6, hy6, hf⟩ := bd hf
    refine mm_callVv S hR hS hA (As := [.int (mI μ4 y1.1 0)]) (rest := []) cvX3_104 (hK.k g7) (kX4_add_c l G A (hK.k g7) hy6) rfl rfl ⟨Nat.le_of_ble_eq_true rfl, Nat.le_of_ble_eq_true rfl⟩ rfl hl.1 rfl (lv_room (by simp [rf_cat, int_cat, long_cat])) dX3_make_42 ⟨Nat.zero_le _, Nat.zero_le _⟩ (fun H locs hR hS => ?_)
    have hK : mmKN μ y6 := hK.tr (kX4_add_kn hy6)
    refine mm_aload S dX3_make_45 (lv_at hl 0 rfl) ?_
    obtain rfl := Option.some.inj hf
    exact mm_aret S hR hS hr hlocks dX3_make_47
-- X3_copyFrom
def bX3_copyFrom_48 (kk48 : Nat → Nat → Int32 → MM → Option (MM)) (h0 : Nat) (h1 : Nat) (x2 : Int32) (μ : MM) : Option (MM) :=
  if mK μ h0 = 4 then if (mI μ h0 5) ≤ x2 then (some μ) else ((fX3_at h0 x2 μ).bind fun y3 => if mK μ h1 = 4 then (fX3_at h1 x2 y3.2).bind fun y4 => if mK μ y3.1 = 3 then (fX2_copyFrom y3.1 y4.1 y4.2).bind fun y6 => kk48 h0 h1 (x2 + 1) y6 else none else none) else none
def lX3_copyFrom_48  : Nat → Nat → Nat → Int32 → MM → Option (MM)
  | 0, _, _, _, _ => none
  | n + 1, h0, h1, x2, μ => bX3_copyFrom_48  (fun h0 h1 x2 μ => lX3_copyFrom_48  n h0 h1 x2 μ) h0 h1 x2 μ
def fX3_copyFrom (h0 : Nat) (h1 : Nat) (μ : MM) : Option (MM) :=
  if mK μ h1 = 4 then st (sI μ h0 5 (mI μ h1 5)) fun μ2 => st (sI μ2 h0 6 (mI μ2 h1 6)) fun μ3 => st (sI μ3 h0 7 (mI μ3 h1 7)) fun μ4 => if mK μ (mP μ4 h0 3) = 5 then (fX4_copyFrom (mP μ4 h0 3) (mP μ4 h1 3) μ4).bind fun y5 => if mK μ (mP y5 h0 4) = 5 then (fX4_copyFrom (mP y5 h0 4) (mP y5 h1 4) y5).bind fun y7 => lX3_copyFrom_48  FU h0 h1 0 y7 else none else none else none
set_option maxRecDepth 100000 in
set_option maxHeartbeats 4000000 in
theorem knbX3_copyFrom_48 (kk48 : Nat → Nat → Int32 → MM → Option (MM)) (hkk48 : ∀ (h0 : Nat) (h1 : Nat) (x2 : Int32) (μ : MM) (res : MM), kk48 h0 h1 x2 μ = some res → mmKN μ res) : ∀ (h0 : Nat) (h1 : Nat) (x2 : Int32) (μ : MM) (res : MM), bX3_copyFrom_48 kk48 h0 h1 x2 μ = some res → mmKN μ res := by
  intro h0 h1 x2 μ res hf
  have hK : mmKN μ μ := mmKN.rf
  unfold bX3_copyFrom_48 at hf
  obtain ⟨g1, hf⟩ := gd hf
  rcases it_or hf with ⟨c2, hf⟩ | ⟨c2, hf⟩
  · skip
    obtain rfl := Option.some.inj hf
    exact hK
  · skip
    obtain ⟨y3, hy3, hf⟩ := bd hf
    have hK : mmKN μ y3.2 := hK.tr (kX3_at_kn hy3)
    obtain ⟨g5, hf⟩ := gd hf
    obtain ⟨y4, hy4, hf⟩ := bd hf
    have hK : mmKN μ y4.2 := hK.tr (kX3_at_kn hy4)
    obtain ⟨g7, hf⟩ := gd hf
    obtain ⟨y6, hy6, hf⟩ := bd hf
    have hK : mmKN μ y6 := hK.tr (kX2_copyFrom_kn hy6)
    exact hK.tr (hkk48 h0 h1 (x2 + 1) y6 _ hf)
theorem knlX3_copyFrom_48  : ∀ (n : Nat) (h0 : Nat) (h1 : Nat) (x2 : Int32) (μ : MM) (res : MM), lX3_copyFrom_48  n h0 h1 x2 μ = some res → mmKN μ res := by
  intro n
  induction n with
  | zero => intro h0 h1 x2 μ res hf; cases hf
  | succ n ih => intro h0 h1 x2 μ res hf; exact knbX3_copyFrom_48  _ ih h0 h1 x2 μ res hf
set_option maxRecDepth 100000 in
set_option maxHeartbeats 4000000 in
theorem kX3_copyFrom_kn {μ : MM} {res : MM} {h0 : Nat} {h1 : Nat} (hf : fX3_copyFrom h0 h1 μ = some res) : mmKN μ res := by
  have hK : mmKN μ μ := mmKN.rf
  unfold fX3_copyFrom at hf
  obtain ⟨g1, hf⟩ := gd hf
  obtain ⟨μ2, e2, hf⟩ := stx hf
  have hK : mmKN μ μ2 := by rw [e2]; exact hK.sI
  obtain ⟨μ3, e3, hf⟩ := stx hf
  have hK : mmKN μ μ3 := by rw [e3]; exact hK.sI
  obtain ⟨μ4, e4, hf⟩ := stx hf
  have hK : mmKN μ μ4 := by rw [e4]; exact hK.sI
  obtain ⟨g6, hf⟩ := gd hf
  obtain ⟨y5, hy5, hf⟩ := bd hf
  have hK : mmKN μ y5 := hK.tr (kX4_copyFrom_kn hy5)
  obtain ⟨g8, hf⟩ := gd hf
  obtain ⟨y7, hy7, hf⟩ := bd hf
  have hK : mmKN μ y7 := hK.tr (kX4_copyFrom_kn hy7)
  exact hK.tr (knlX3_copyFrom_48  FU h0 h1 0 y7 _ hf)
abbrev rmX3_copyFrom : Room := { frames := 3, cells := 0, slots := 0, locals := 68 }
set_option maxRecDepth 100000 in
set_option maxHeartbeats 4000000 in
theorem wbX3_copyFrom_48 {p : Program} {l : Launch} {e : Env} {s : State} {m : MethodId} {args : Array Value} {below : List Frame} {meth : Method} {c : Code} {G : mmG} {A : Nat → Prop} {res : MM} (E0 : mmEnv p m c cX3_copyFrom 3 s args RX3 G A meth none) (kk48 : Nat → Nat → Int32 → MM → Option (MM)) (hkk48 : ∀ (h0 : Nat) (h1 : Nat) (x2 : Int32) (μ : MM), kk48 h0 h1 x2 μ = some res → mmGoal p l e rmX3_copyFrom s m args below meth c G A 48 3 [(0, rf h0), (1, rf h1), (2, .int x2)] μ (mmQ G A res none)) : ∀ (h0 : Nat) (h1 : Nat) (x2 : Int32) (μ : MM), bX3_copyFrom_48 kk48 h0 h1 x2 μ = some res → mmGoal p l e rmX3_copyFrom s m args below meth c G A 48 3 [(0, rf h0), (1, rf h1), (2, .int x2)] μ (mmQ G A res none) := by
  obtain ⟨S, hA, hr, hlocks⟩ := id E0
  intro h0 h1 x2 μ hf H locs ls hR hS hl
  have hK : mmKN μ μ := mmKN.rf
  unfold bX3_copyFrom_48 at hf
  refine lv_iload_n S.1 S.2.1 dX3_copyFrom_48 rfl (lv_at hl 2 rfl) ?_
  refine mm_aload_n S dX3_copyFrom_49 rfl (lv_at hl 0 rfl) ?_
  obtain ⟨g1, hf⟩ := gd hf
  refine mm_geti S hR fdX3_41 (hK.k g1) rfl dX3_copyFrom_50 ?_
  refine lv_icmp_ge (tgt := 75) S.1 S.2.1 dX3_copyFrom_53 (by decide) (fun c2 => ?_) (fun c2 => ?_)
  · have hf := it_t hf c2
    obtain rfl := Option.some.inj hf
    exact mm_vret S hR hS hr hlocks dX3_copyFrom_75
  · have hf := it_f hf c2
    refine mm_aload_n S dX3_copyFrom_56 rfl (lv_at hl 0 rfl) ?_
    refine lv_iload_n S.1 S.2.1 dX3_copyFrom_57 rfl (lv_at hl 2 rfl) ?_
    obtain ⟨y3, hy3, hf⟩ := bd hf
    refine mm_callVh S hR hS hA (As := [.int x2]) (rest := []) cvX3_55 (hK.k g1) (kX3_at_c l G A (hK.k g1) hy3) rfl rfl ⟨Nat.le_of_ble_eq_true rfl, Nat.le_of_ble_eq_true rfl⟩ rfl hl.1 rfl (lv_room (by simp [rf_cat, int_cat, long_cat])) dX3_copyFrom_58 ⟨Nat.zero_le _, Nat.zero_le _⟩ (fun H locs hR hS => ?_)
    have hK : mmKN μ y3.2 := hK.tr (kX3_at_kn hy3)
    refine mm_aload_n S dX3_copyFrom_61 rfl (lv_at hl 1 rfl) ?_
    refine lv_iload_n S.1 S.2.1 dX3_copyFrom_62 rfl (lv_at hl 2 rfl) ?_
    obtain ⟨g5, hf⟩ := gd hf
    obtain ⟨y4, hy4, hf⟩ := bd hf
    refine mm_callVh S hR hS hA (As := [.int x2]) (rest := [rf y3.1]) cvX3_55 (hK.k g5) (kX3_at_c l G A (hK.k g5) hy4) rfl rfl ⟨Nat.le_of_ble_eq_true rfl, Nat.le_of_ble_eq_true rfl⟩ rfl hl.1 rfl (lv_room (by simp [rf_cat, int_cat, long_cat])) dX3_copyFrom_63 ⟨Nat.zero_le _, Nat.zero_le _⟩ (fun H locs hR hS => ?_)
    have hK : mmKN μ y4.2 := hK.tr (kX3_at_kn hy4)
    obtain ⟨g7, hf⟩ := gd hf
    obtain ⟨y6, hy6, hf⟩ := bd hf
    refine mm_callVv S hR hS hA (As := [rf y4.1]) (rest := []) cvX3_59 (hK.k g7) (kX2_copyFrom_c l G A (hK.k g7) hy6) rfl rfl ⟨Nat.le_of_ble_eq_true rfl, Nat.le_of_ble_eq_true rfl⟩ rfl hl.1 rfl (lv_room (by simp [rf_cat, int_cat, long_cat])) dX3_copyFrom_66 ⟨Nat.zero_le _, Nat.zero_le _⟩ (fun H locs hR hS => ?_)
    have hK : mmKN μ y6 := hK.tr (kX2_copyFrom_kn hy6)
    refine lv_iinc (v := (x2 + 1)) (lv' := [(2, .int (x2 + 1)), (0, rf h0), (1, rf h1)]) S.1 S.2.1 dX3_copyFrom_69 hl (k := 2) rfl (by rfl) (by decide) (by simp [rf_cat]) (fun ls hl => ?_)
    refine lv_goto (tgt := 48) S.1 S.2.1 dX3_copyFrom_72 (by decide) ?_
    exact hkk48 h0 h1 (x2 + 1) y6 hf _ _ _ hR hS (lv_sub hl [1, 2, 0] rfl)
theorem wlX3_copyFrom_48 {p : Program} {l : Launch} {e : Env} {s : State} {m : MethodId} {args : Array Value} {below : List Frame} {meth : Method} {c : Code} {G : mmG} {A : Nat → Prop} {res : MM} (E0 : mmEnv p m c cX3_copyFrom 3 s args RX3 G A meth none)  : ∀ (n : Nat) (h0 : Nat) (h1 : Nat) (x2 : Int32) (μ : MM), lX3_copyFrom_48  n h0 h1 x2 μ = some res → mmGoal p l e rmX3_copyFrom s m args below meth c G A 48 3 [(0, rf h0), (1, rf h1), (2, .int x2)] μ (mmQ G A res none) := by
  intro n
  induction n with
  | zero => intro h0 h1 x2 μ hf; cases hf
  | succ n ih => intro h0 h1 x2 μ hf; exact wbX3_copyFrom_48 E0  _ ih h0 h1 x2 μ hf
set_option maxRecDepth 100000 in
set_option maxHeartbeats 4000000 in
theorem kX3_copyFrom_c (l : Launch) (G : mmG) (A : Nat → Prop) {μ : MM} {res : MM} {h0 : Nat} {h1 : Nat} (hk0 : mK μ h0 = 4) (hf : fX3_copyFrom h0 h1 μ = some res) : Met l yX3_copyFrom [.code yX3_copyFrom cX3_copyFrom 3 none] rmX3_copyFrom (mmPc G A μ [rf h0, rf h1]) (mmQ G A res none) 0 0 A := by
  refine mm_ofW (by decide +kernel) (by simp [lg_sl, rf_cat, int_cat]) ?_
  intro p e s m below meth c ls S hR hA hS hr hlocks hl hnm
  have hl : lv_has ls 3 [(0, rf h0), (1, rf h1)] := by simpa [lv_args, rf_cat, int_cat] using hl
  have E0 : mmEnv p m c cX3_copyFrom 3 s _ RX3 G A meth none := ⟨S, hA, hr, hlocks⟩
  have hK : mmKN μ μ := mmKN.rf
  unfold fX3_copyFrom at hf
  refine mm_aload_n S dX3_copyFrom_0 rfl (lv_at hl 0 rfl) ?_
  refine mm_aload_n S dX3_copyFrom_1 rfl (lv_at hl 1 rfl) ?_
  obtain ⟨g1, hf⟩ := gd hf
  refine mm_geti S hR fdX3_41 (hK.k g1) rfl dX3_copyFrom_2 ?_
  refine mm_puti S hR hS fpX3_41 (hK.k hk0) rfl rfl rfl dX3_copyFrom_5 (fun H locs hR hS => ?_)
  obtain ⟨μ2, e2, hf⟩ := stx hf
  rw [← e2] at hR
  have hK : mmKN μ μ2 := by rw [e2]; exact hK.sI
  refine mm_aload_n S dX3_copyFrom_8 rfl (lv_at hl 0 rfl) ?_
  refine mm_aload_n S dX3_copyFrom_9 rfl (lv_at hl 1 rfl) ?_
  refine mm_geti S hR fdX3_45 (hK.k g1) rfl dX3_copyFrom_10 ?_
  refine mm_puti S hR hS fpX3_45 (hK.k hk0) rfl rfl rfl dX3_copyFrom_13 (fun H locs hR hS => ?_)
  obtain ⟨μ3, e3, hf⟩ := stx hf
  rw [← e3] at hR
  have hK : mmKN μ μ3 := by rw [e3]; exact hK.sI
  refine mm_aload_n S dX3_copyFrom_16 rfl (lv_at hl 0 rfl) ?_
  refine mm_aload_n S dX3_copyFrom_17 rfl (lv_at hl 1 rfl) ?_
  refine mm_geti S hR fdX3_48 (hK.k g1) rfl dX3_copyFrom_18 ?_
  refine mm_puti S hR hS fpX3_48 (hK.k hk0) rfl rfl rfl dX3_copyFrom_21 (fun H locs hR hS => ?_)
  obtain ⟨μ4, e4, hf⟩ := stx hf
  rw [← e4] at hR
  have hK : mmKN μ μ4 := by rw [e4]; exact hK.sI
  refine mm_aload_n S dX3_copyFrom_24 rfl (lv_at hl 0 rfl) ?_
  refine mm_getp S hR fdX3_27 (hK.k hk0) rfl dX3_copyFrom_25 ?_
  refine mm_aload_n S dX3_copyFrom_28 rfl (lv_at hl 1 rfl) ?_
  refine mm_getp S hR fdX3_27 (hK.k g1) rfl dX3_copyFrom_29 ?_
  obtain ⟨g6, hf⟩ := gd hf
  obtain ⟨y5, hy5, hf⟩ := bd hf
  refine mm_callVv S hR hS hA (As := [rf (mP μ4 h1 3)]) (rest := []) cvX3_51 (hK.k g6) (kX4_copyFrom_c l G A (hK.k g6) hy5) rfl rfl ⟨Nat.le_of_ble_eq_true rfl, Nat.le_of_ble_eq_true rfl⟩ rfl hl.1 rfl (lv_room (by simp [rf_cat, int_cat, long_cat])) dX3_copyFrom_32 ⟨Nat.zero_le _, Nat.zero_le _⟩ (fun H locs hR hS => ?_)
  have hK : mmKN μ y5 := hK.tr (kX4_copyFrom_kn hy5)
  refine mm_aload_n S dX3_copyFrom_35 rfl (lv_at hl 0 rfl) ?_
  refine mm_getp S hR fdX3_31 (hK.k hk0) rfl dX3_copyFrom_36 ?_
  refine mm_aload_n S dX3_copyFrom_39 rfl (lv_at hl 1 rfl) ?_
  refine mm_getp S hR fdX3_31 (hK.k g1) rfl dX3_copyFrom_40 ?_
  obtain ⟨g8, hf⟩ := gd hf
  obtain ⟨y7, hy7, hf⟩ := bd hf
  refine mm_callVv S hR hS hA (As := [rf (mP y5 h1 4)]) (rest := []) cvX3_51 (hK.k g8) (kX4_copyFrom_c l G A (hK.k g8) hy7) rfl rfl ⟨Nat.le_of_ble_eq_true rfl, Nat.le_of_ble_eq_true rfl⟩ rfl hl.1 rfl (lv_room (by simp [rf_cat, int_cat, long_cat])) dX3_copyFrom_43 ⟨Nat.zero_le _, Nat.zero_le _⟩ (fun H locs hR hS => ?_)
  have hK : mmKN μ y7 := hK.tr (kX4_copyFrom_kn hy7)
  refine lv_iconst (v := 0) S.1 S.2.1 dX3_copyFrom_46 (by decide) ?_
  refine lv_istore_n (i := 2) (lv' := [(2, .int 0), (0, rf h0), (1, rf h1)]) S.1 S.2.1 dX3_copyFrom_47 rfl hl (by decide) (by simp [rf_cat]) (fun ls hl => ?_)
  exact wlX3_copyFrom_48 E0  FU h0 h1 0 y7 hf _ _ _ hR hS (lv_sub hl [1, 2, 0] rfl)
-- X3_beginCall
def fX3_beginCall (h0 : Nat) (x1 : Int32) (μ : MM) : Option (MM) :=
  st (sI μ h0 9 x1) fun μ1 => st (sI μ1 h0 10 0) fun μ2 => st (sI μ2 h0 11 0) fun μ3 => some μ3
set_option maxRecDepth 100000 in
set_option maxHeartbeats 4000000 in
theorem kX3_beginCall_kn {μ : MM} {res : MM} {h0 : Nat} {x1 : Int32} (hf : fX3_beginCall h0 x1 μ = some res) : mmKN μ res := by
  have hK : mmKN μ μ := mmKN.rf
  unfold fX3_beginCall at hf
  obtain ⟨μ1, e1, hf⟩ := stx hf
  have hK : mmKN μ μ1 := by rw [e1]; exact hK.sI
  obtain ⟨μ2, e2, hf⟩ := stx hf
  have hK : mmKN μ μ2 := by rw [e2]; exact hK.sI
  obtain ⟨μ3, e3, hf⟩ := stx hf
  have hK : mmKN μ μ3 := by rw [e3]; exact hK.sI
  obtain rfl := Option.some.inj hf
  exact hK
abbrev rmX3_beginCall : Room := { frames := 0, cells := 0, slots := 0, locals := 0 }
set_option maxRecDepth 100000 in
set_option maxHeartbeats 4000000 in
theorem kX3_beginCall_c (l : Launch) (G : mmG) (A : Nat → Prop) {μ : MM} {res : MM} {h0 : Nat} {x1 : Int32} (hk0 : mK μ h0 = 4) (hf : fX3_beginCall h0 x1 μ = some res) : Met l yX3_beginCall [.code yX3_beginCall cX3_beginCall 2 none] rmX3_beginCall (mmPc G A μ [rf h0, .int x1]) (mmQ G A res none) 0 0 A := by
  refine mm_ofW (by decide +kernel) (by simp [lg_sl, rf_cat, int_cat]) ?_
  intro p e s m below meth c ls S hR hA hS hr hlocks hl hnm
  have hl : lv_has ls 2 [(0, rf h0), (1, .int x1)] := by simpa [lv_args, rf_cat, int_cat] using hl
  have E0 : mmEnv p m c cX3_beginCall 2 s _ RX3 G A meth none := ⟨S, hA, hr, hlocks⟩
  have hK : mmKN μ μ := mmKN.rf
  unfold fX3_beginCall at hf
  refine mm_aload_n S dX3_beginCall_0 rfl (lv_at hl 0 rfl) ?_
  refine lv_iload_n S.1 S.2.1 dX3_beginCall_1 rfl (lv_at hl 1 rfl) ?_
  refine mm_puti S hR hS fpX3_202 (hK.k hk0) rfl rfl rfl dX3_beginCall_2 (fun H locs hR hS => ?_)
  obtain ⟨μ1, e1, hf⟩ := stx hf
  rw [← e1] at hR
  have hK : mmKN μ μ1 := by rw [e1]; exact hK.sI
  refine mm_aload_n S dX3_beginCall_5 rfl (lv_at hl 0 rfl) ?_
  refine lv_iconst (v := 0) S.1 S.2.1 dX3_beginCall_6 (by decide) ?_
  refine mm_puti S hR hS fpX3_205 (hK.k hk0) rfl rfl rfl dX3_beginCall_7 (fun H locs hR hS => ?_)
  obtain ⟨μ2, e2, hf⟩ := stx hf
  rw [← e2] at hR
  have hK : mmKN μ μ2 := by rw [e2]; exact hK.sI
  refine mm_aload_n S dX3_beginCall_10 rfl (lv_at hl 0 rfl) ?_
  refine lv_iconst (v := 0) S.1 S.2.1 dX3_beginCall_11 (by decide) ?_
  refine mm_puti S hR hS fpX3_208 (hK.k hk0) rfl rfl rfl dX3_beginCall_12 (fun H locs hR hS => ?_)
  obtain ⟨μ3, e3, hf⟩ := stx hf
  rw [← e3] at hR
  have hK : mmKN μ μ3 := by rw [e3]; exact hK.sI
  obtain rfl := Option.some.inj hf
  exact mm_vret S hR hS hr hlocks dX3_beginCall_15
-- X3_inmostOf
def bX3_inmostOf_4 (kk4 : Nat → Nat → Int32 → MM → Option (Nat × MM)) (h0 : Nat) (h2 : Nat) (x3 : Int32) (μ : MM) : Option (Nat × MM) :=
  if (24 : Int32) ≤ x3 then (some (h2, μ)) else (if mK μ h2 = 3 then if mK μ h0 = 4 then (fX3_isMade h0 (mI μ h2 9) μ).bind fun y3 => if y3.1 = 0 then (some (h2, y3.2)) else ((fX3_at h0 (mI y3.2 h2 9) y3.2).bind fun y6 => kk4 h0 y6.1 (x3 + 1) y6.2) else none else none)
def lX3_inmostOf_4  : Nat → Nat → Nat → Int32 → MM → Option (Nat × MM)
  | 0, _, _, _, _ => none
  | n + 1, h0, h2, x3, μ => bX3_inmostOf_4  (fun h0 h2 x3 μ => lX3_inmostOf_4  n h0 h2 x3 μ) h0 h2 x3 μ
def fX3_inmostOf (h0 : Nat) (h1 : Nat) (μ : MM) : Option (Nat × MM) :=
  lX3_inmostOf_4  FU h0 h1 0 μ
set_option maxRecDepth 100000 in
set_option maxHeartbeats 4000000 in
theorem knbX3_inmostOf_4 (kk4 : Nat → Nat → Int32 → MM → Option (Nat × MM)) (hkk4 : ∀ (h0 : Nat) (h2 : Nat) (x3 : Int32) (μ : MM) (res : Nat × MM), kk4 h0 h2 x3 μ = some res → mmKN μ res.2) : ∀ (h0 : Nat) (h2 : Nat) (x3 : Int32) (μ : MM) (res : Nat × MM), bX3_inmostOf_4 kk4 h0 h2 x3 μ = some res → mmKN μ res.2 := by
  intro h0 h2 x3 μ res hf
  have hK : mmKN μ μ := mmKN.rf
  unfold bX3_inmostOf_4 at hf
  rcases it_or hf with ⟨c1, hf⟩ | ⟨c1, hf⟩
  · skip
    obtain rfl := Option.some.inj hf
    exact hK
  · skip
    obtain ⟨g2, hf⟩ := gd hf
    obtain ⟨g4, hf⟩ := gd hf
    obtain ⟨y3, hy3, hf⟩ := bd hf
    have hK : mmKN μ y3.2 := hK.tr (kX3_isMade_kn hy3)
    rcases it_or hf with ⟨c5, hf⟩ | ⟨c5, hf⟩
    · skip
      obtain rfl := Option.some.inj hf
      exact hK
    · skip
      obtain ⟨y6, hy6, hf⟩ := bd hf
      have hK : mmKN μ y6.2 := hK.tr (kX3_at_kn hy6)
      exact hK.tr (hkk4 h0 y6.1 (x3 + 1) y6.2 _ hf)
theorem knlX3_inmostOf_4  : ∀ (n : Nat) (h0 : Nat) (h2 : Nat) (x3 : Int32) (μ : MM) (res : Nat × MM), lX3_inmostOf_4  n h0 h2 x3 μ = some res → mmKN μ res.2 := by
  intro n
  induction n with
  | zero => intro h0 h2 x3 μ res hf; cases hf
  | succ n ih => intro h0 h2 x3 μ res hf; exact knbX3_inmostOf_4  _ ih h0 h2 x3 μ res hf
set_option maxRecDepth 100000 in
set_option maxHeartbeats 4000000 in
theorem kX3_inmostOf_kn {μ : MM} {res : Nat × MM} {h0 : Nat} {h1 : Nat} (hf : fX3_inmostOf h0 h1 μ = some res) : mmKN μ res.2 := by
  have hK : mmKN μ μ := mmKN.rf
  unfold fX3_inmostOf at hf
  exact hK.tr (knlX3_inmostOf_4  FU h0 h1 0 μ _ hf)
abbrev rmX3_inmostOf : Room := { frames := 1, cells := 0, slots := 0, locals := 21 }
set_option maxRecDepth 100000 in
set_option maxHeartbeats 4000000 in
theorem wbX3_inmostOf_4 {p : Program} {l : Launch} {e : Env} {s : State} {m : MethodId} {args : Array Value} {below : List Frame} {meth : Method} {c : Code} {G : mmG} {A : Nat → Prop} {res : Nat × MM} (E0 : mmEnv p m c cX3_inmostOf 4 s args RX3 G A meth (some (.object "YieldMoor$Coroutine"))) (kk4 : Nat → Nat → Int32 → MM → Option (Nat × MM)) (hkk4 : ∀ (h0 : Nat) (h2 : Nat) (x3 : Int32) (μ : MM), kk4 h0 h2 x3 μ = some res → mmGoal p l e rmX3_inmostOf s m args below meth c G A 4 4 [(0, rf h0), (2, rf h2), (3, .int x3)] μ (mmQ G A res.2 (some (rf res.1)))) : ∀ (h0 : Nat) (h2 : Nat) (x3 : Int32) (μ : MM), bX3_inmostOf_4 kk4 h0 h2 x3 μ = some res → mmGoal p l e rmX3_inmostOf s m args below meth c G A 4 4 [(0, rf h0), (2, rf h2), (3, .int x3)] μ (mmQ G A res.2 (some (rf res.1))) := by
  obtain ⟨S, hA, hr, hlocks⟩ := id E0
  intro h0 h2 x3 μ hf H locs ls hR hS hl
  have hK : mmKN μ μ := mmKN.rf
  unfold bX3_inmostOf_4 at hf
  refine lv_iload_n S.1 S.2.1 dX3_inmostOf_4 rfl (lv_at hl 2 rfl) ?_
  refine lv_bipush (v := 24) S.1 S.2.1 dX3_inmostOf_5 (by decide) ?_
  refine lv_icmp_ge (tgt := 36) S.1 S.2.1 dX3_inmostOf_7 (by decide) (fun c1 => ?_) (fun c1 => ?_)
  · have hf := it_t hf c1
    refine mm_aload_n S dX3_inmostOf_36 rfl (lv_at hl 1 rfl) ?_
    obtain rfl := Option.some.inj hf
    exact mm_aret S hR hS hr hlocks dX3_inmostOf_37
  · have hf := it_f hf c1
    refine mm_aload_n S dX3_inmostOf_10 rfl (lv_at hl 0 rfl) ?_
    refine mm_aload_n S dX3_inmostOf_11 rfl (lv_at hl 1 rfl) ?_
    obtain ⟨g2, hf⟩ := gd hf
    refine mm_geti S hR fdX3_211 (hK.k g2) rfl dX3_inmostOf_12 ?_
    obtain ⟨g4, hf⟩ := gd hf
    obtain ⟨y3, hy3, hf⟩ := bd hf
    refine mm_callVi S hR hS hA (As := [.int (mI μ h2 9)]) (rest := []) cvX3_214 (hK.k g4) (kX3_isMade_c l G A (hK.k g4) hy3) rfl rfl ⟨Nat.le_of_ble_eq_true rfl, Nat.le_of_ble_eq_true rfl⟩ rfl hl.1 rfl (lv_room (by simp [rf_cat, int_cat, long_cat])) dX3_inmostOf_15 ⟨Nat.zero_le _, Nat.zero_le _⟩ (fun H locs hR hS => ?_)
    have hK : mmKN μ y3.2 := hK.tr (kX3_isMade_kn hy3)
    refine lv_if_eq (tgt := 36) S.1 S.2.1 dX3_inmostOf_18 (by decide) (fun c5 => ?_) (fun c5 => ?_)
    · have hf := it_t hf c5
      refine mm_aload_n S dX3_inmostOf_36 rfl (lv_at hl 1 rfl) ?_
      obtain rfl := Option.some.inj hf
      exact mm_aret S hR hS hr hlocks dX3_inmostOf_37
    · have hf := it_f hf c5
      refine mm_aload_n S dX3_inmostOf_21 rfl (lv_at hl 0 rfl) ?_
      refine mm_aload_n S dX3_inmostOf_22 rfl (lv_at hl 1 rfl) ?_
      refine mm_geti S hR fdX3_211 (hK.k g2) rfl dX3_inmostOf_23 ?_
      obtain ⟨y6, hy6, hf⟩ := bd hf
      refine mm_callVh S hR hS hA (As := [.int (mI y3.2 h2 9)]) (rest := []) cvX3_55 (hK.k g4) (kX3_at_c l G A (hK.k g4) hy6) rfl rfl ⟨Nat.le_of_ble_eq_true rfl, Nat.le_of_ble_eq_true rfl⟩ rfl hl.1 rfl (lv_room (by simp [rf_cat, int_cat, long_cat])) dX3_inmostOf_26 ⟨Nat.zero_le _, Nat.zero_le _⟩ (fun H locs hR hS => ?_)
      have hK : mmKN μ y6.2 := hK.tr (kX3_at_kn hy6)
      refine mm_astore_n (i := 2) (lv' := [(2, rf y6.1), (0, rf h0), (3, .int x3)]) S dX3_inmostOf_29 rfl hl (by decide) rfl (fun ls hl => ?_)
      refine lv_iinc (v := (x3 + 1)) (lv' := [(3, .int (x3 + 1)), (2, rf y6.1), (0, rf h0)]) S.1 S.2.1 dX3_inmostOf_30 hl (k := 2) rfl (by rfl) (by decide) (by simp [rf_cat]) (fun ls hl => ?_)
      refine lv_goto (tgt := 4) S.1 S.2.1 dX3_inmostOf_33 (by decide) ?_
      exact hkk4 h0 y6.1 (x3 + 1) y6.2 hf _ _ _ hR hS (lv_sub hl [2, 1, 0] rfl)
theorem wlX3_inmostOf_4 {p : Program} {l : Launch} {e : Env} {s : State} {m : MethodId} {args : Array Value} {below : List Frame} {meth : Method} {c : Code} {G : mmG} {A : Nat → Prop} {res : Nat × MM} (E0 : mmEnv p m c cX3_inmostOf 4 s args RX3 G A meth (some (.object "YieldMoor$Coroutine")))  : ∀ (n : Nat) (h0 : Nat) (h2 : Nat) (x3 : Int32) (μ : MM), lX3_inmostOf_4  n h0 h2 x3 μ = some res → mmGoal p l e rmX3_inmostOf s m args below meth c G A 4 4 [(0, rf h0), (2, rf h2), (3, .int x3)] μ (mmQ G A res.2 (some (rf res.1))) := by
  intro n
  induction n with
  | zero => intro h0 h2 x3 μ hf; cases hf
  | succ n ih => intro h0 h2 x3 μ hf; exact wbX3_inmostOf_4 E0  _ ih h0 h2 x3 μ hf
set_option maxRecDepth 100000 in
set_option maxHeartbeats 4000000 in
theorem kX3_inmostOf_c (l : Launch) (G : mmG) (A : Nat → Prop) {μ : MM} {res : Nat × MM} {h0 : Nat} {h1 : Nat} (hk0 : mK μ h0 = 4) (hf : fX3_inmostOf h0 h1 μ = some res) : Met l yX3_inmostOf [.code yX3_inmostOf cX3_inmostOf 4 (some (.object "YieldMoor$Coroutine"))] rmX3_inmostOf (mmPc G A μ [rf h0, rf h1]) (mmQ G A res.2 (some (rf res.1))) 0 0 A := by
  refine mm_ofW (by decide +kernel) (by simp [lg_sl, rf_cat, int_cat]) ?_
  intro p e s m below meth c ls S hR hA hS hr hlocks hl hnm
  have hl : lv_has ls 4 [(0, rf h0), (1, rf h1)] := by simpa [lv_args, rf_cat, int_cat] using hl
  have E0 : mmEnv p m c cX3_inmostOf 4 s _ RX3 G A meth (some (.object "YieldMoor$Coroutine")) := ⟨S, hA, hr, hlocks⟩
  have hK : mmKN μ μ := mmKN.rf
  unfold fX3_inmostOf at hf
  refine mm_aload_n S dX3_inmostOf_0 rfl (lv_at hl 1 rfl) ?_
  refine mm_astore_n (i := 2) (lv' := [(2, rf h1), (0, rf h0), (1, rf h1)]) S dX3_inmostOf_1 rfl hl (by decide) (by simp [rf_cat]) (fun ls hl => ?_)
  refine lv_iconst (v := 0) S.1 S.2.1 dX3_inmostOf_2 (by decide) ?_
  refine lv_istore_n (i := 3) (lv' := [(3, .int 0), (2, rf h1), (0, rf h0), (1, rf h1)]) S.1 S.2.1 dX3_inmostOf_3 rfl hl (by decide) (by simp [rf_cat]) (fun ls hl => ?_)
  exact wlX3_inmostOf_4 E0  FU h0 h1 0 μ hf _ _ _ hR hS (lv_sub hl [2, 1, 0] rfl)
-- X3_part
def fX3_part (h0 : Nat) (h1 : Nat) (h2 : Nat) (μ : MM) : Option (MM) :=
  if mK μ h1 = 3 then st (sI μ h1 9 (-1)) fun μ2 => if mK μ h2 = 3 then st (sI μ2 h2 10 (-1)) fun μ4 => some μ4 else none else none
set_option maxRecDepth 100000 in
set_option maxHeartbeats 4000000 in
theorem kX3_part_kn {μ : MM} {res : MM} {h0 : Nat} {h1 : Nat} {h2 : Nat} (hf : fX3_part h0 h1 h2 μ = some res) : mmKN μ res := by
  have hK : mmKN μ μ := mmKN.rf
  unfold fX3_part at hf
  obtain ⟨g1, hf⟩ := gd hf
  obtain ⟨μ2, e2, hf⟩ := stx hf
  have hK : mmKN μ μ2 := by rw [e2]; exact hK.sI
  obtain ⟨g3, hf⟩ := gd hf
  obtain ⟨μ4, e4, hf⟩ := stx hf
  have hK : mmKN μ μ4 := by rw [e4]; exact hK.sI
  obtain rfl := Option.some.inj hf
  exact hK
abbrev rmX3_part : Room := { frames := 0, cells := 0, slots := 0, locals := 0 }
set_option maxRecDepth 100000 in
set_option maxHeartbeats 4000000 in
theorem kX3_part_c (l : Launch) (G : mmG) (A : Nat → Prop) {μ : MM} {res : MM} {h0 : Nat} {h1 : Nat} {h2 : Nat} (hk0 : mK μ h0 = 4) (hf : fX3_part h0 h1 h2 μ = some res) : Met l yX3_part [.code yX3_part cX3_part 3 none] rmX3_part (mmPc G A μ [rf h0, rf h1, rf h2]) (mmQ G A res none) 0 0 A := by
  refine mm_ofW (by decide +kernel) (by simp [lg_sl, rf_cat, int_cat]) ?_
  intro p e s m below meth c ls S hR hA hS hr hlocks hl hnm
  have hl : lv_has ls 3 [(0, rf h0), (1, rf h1), (2, rf h2)] := by simpa [lv_args, rf_cat, int_cat] using hl
  have E0 : mmEnv p m c cX3_part 3 s _ RX3 G A meth none := ⟨S, hA, hr, hlocks⟩
  have hK : mmKN μ μ := mmKN.rf
  unfold fX3_part at hf
  refine mm_aload_n S dX3_part_0 rfl (lv_at hl 1 rfl) ?_
  refine lv_iconst (v := (-1)) S.1 S.2.1 dX3_part_1 (by decide) ?_
  obtain ⟨g1, hf⟩ := gd hf
  refine mm_puti S hR hS fpX3_211 (hK.k g1) rfl rfl rfl dX3_part_2 (fun H locs hR hS => ?_)
  obtain ⟨μ2, e2, hf⟩ := stx hf
  rw [← e2] at hR
  have hK : mmKN μ μ2 := by rw [e2]; exact hK.sI
  refine mm_aload_n S dX3_part_5 rfl (lv_at hl 2 rfl) ?_
  refine lv_iconst (v := (-1)) S.1 S.2.1 dX3_part_6 (by decide) ?_
  obtain ⟨g3, hf⟩ := gd hf
  refine mm_puti S hR hS fpX3_141 (hK.k g3) rfl rfl rfl dX3_part_7 (fun H locs hR hS => ?_)
  obtain ⟨μ4, e4, hf⟩ := stx hf
  rw [← e4] at hR
  have hK : mmKN μ μ4 := by rw [e4]; exact hK.sI
  obtain rfl := Option.some.inj hf
  exact mm_vret S hR hS hr hlocks dX3_part_10
-- X3_backToOuter
def fX3_backToOuter (h0 : Nat) (μ : MM) : Option (MM) :=
  if mK μ (mP μ h0 8) = 3 then (fX3_at h0 (mI μ (mP μ h0 8) 10) μ).bind fun y2 => (fX3_part h0 y2.1 (mP μ h0 8) y2.2).bind fun y3 => if (mI y3 (mP μ h0 8) 5) = (3 : Int32) then (if mK μ y2.1 = 3 then st (sI y3 y2.1 7 (mI y3 (mP μ h0 8) 7)) fun μ9 => (fX2_goOnAt y2.1 ((mI μ9 y2.1 6) + 1) μ9).bind fun y10 => st (sP y10 h0 8 y2.1) fun μ11 => some μ11 else none) else (if mK μ y2.1 = 3 then (fX2_leave y2.1 (mI y3 (mP μ h0 8) 7) y3).bind fun y5 => st (sP y5 h0 8 y2.1) fun μ7 => some μ7 else none) else none
set_option maxRecDepth 100000 in
set_option maxHeartbeats 4000000 in
theorem kX3_backToOuter_kn {μ : MM} {res : MM} {h0 : Nat} (hf : fX3_backToOuter h0 μ = some res) : mmKN μ res := by
  have hK : mmKN μ μ := mmKN.rf
  unfold fX3_backToOuter at hf
  obtain ⟨g1, hf⟩ := gd hf
  obtain ⟨y2, hy2, hf⟩ := bd hf
  have hK : mmKN μ y2.2 := hK.tr (kX3_at_kn hy2)
  obtain ⟨y3, hy3, hf⟩ := bd hf
  have hK : mmKN μ y3 := hK.tr (kX3_part_kn hy3)
  rcases it_or hf with ⟨c4, hf⟩ | ⟨c4, hf⟩
  · skip
    obtain ⟨g8, hf⟩ := gd hf
    obtain ⟨μ9, e9, hf⟩ := stx hf
    have hK : mmKN μ μ9 := by rw [e9]; exact hK.sI
    obtain ⟨y10, hy10, hf⟩ := bd hf
    have hK : mmKN μ y10 := hK.tr (kX2_goOnAt_kn hy10)
    obtain ⟨μ11, e11, hf⟩ := stx hf
    have hK : mmKN μ μ11 := by rw [e11]; exact hK.sP
    obtain rfl := Option.some.inj hf
    exact hK
  · skip
    obtain ⟨g6, hf⟩ := gd hf
    obtain ⟨y5, hy5, hf⟩ := bd hf
    have hK : mmKN μ y5 := hK.tr (kX2_leave_kn hy5)
    obtain ⟨μ7, e7, hf⟩ := stx hf
    have hK : mmKN μ μ7 := by rw [e7]; exact hK.sP
    obtain rfl := Option.some.inj hf
    exact hK
abbrev rmX3_backToOuter : Room := { frames := 2, cells := 0, slots := 0, locals := 46 }
set_option maxRecDepth 100000 in
set_option maxHeartbeats 4000000 in
theorem kX3_backToOuter_c (l : Launch) (G : mmG) (A : Nat → Prop) {μ : MM} {res : MM} {h0 : Nat} (hk0 : mK μ h0 = 4) (hf : fX3_backToOuter h0 μ = some res) : Met l yX3_backToOuter [.code yX3_backToOuter cX3_backToOuter 3 none] rmX3_backToOuter (mmPc G A μ [rf h0]) (mmQ G A res none) 0 0 A := by
  refine mm_ofW (by decide +kernel) (by simp [lg_sl, rf_cat, int_cat]) ?_
  intro p e s m below meth c ls S hR hA hS hr hlocks hl hnm
  have hl : lv_has ls 3 [(0, rf h0)] := by simpa [lv_args, rf_cat, int_cat] using hl
  have E0 : mmEnv p m c cX3_backToOuter 3 s _ RX3 G A meth none := ⟨S, hA, hr, hlocks⟩
  have hK : mmKN μ μ := mmKN.rf
  unfold fX3_backToOuter at hf
  refine mm_aload_n S dX3_backToOuter_0 rfl (lv_at hl 0 rfl) ?_
  refine mm_getp S hR fdX3_38 (hK.k hk0) rfl dX3_backToOuter_1 ?_
  refine mm_astore_n (i := 1) (lv' := [(1, rf (mP μ h0 8)), (0, rf h0)]) S dX3_backToOuter_4 rfl hl (by decide) (by simp [rf_cat]) (fun ls hl => ?_)
  refine mm_aload_n S dX3_backToOuter_5 rfl (lv_at hl 1 rfl) ?_
  refine mm_aload_n S dX3_backToOuter_6 rfl (lv_at hl 0 rfl) ?_
  obtain ⟨g1, hf⟩ := gd hf
  refine mm_geti S hR fdX3_141 (hK.k g1) rfl dX3_backToOuter_7 ?_
  obtain ⟨y2, hy2, hf⟩ := bd hf
  refine mm_callVh S hR hS hA (As := [.int (mI μ (mP μ h0 8) 10)]) (rest := []) cvX3_55 (hK.k hk0) (kX3_at_c l G A (hK.k hk0) hy2) rfl rfl ⟨Nat.le_of_ble_eq_true rfl, Nat.le_of_ble_eq_true rfl⟩ rfl hl.1 rfl (lv_room (by simp [rf_cat, int_cat, long_cat])) dX3_backToOuter_10 ⟨Nat.zero_le _, Nat.zero_le _⟩ (fun H locs hR hS => ?_)
  have hK : mmKN μ y2.2 := hK.tr (kX3_at_kn hy2)
  refine mm_astore_n (i := 2) (lv' := [(2, rf y2.1), (1, rf (mP μ h0 8)), (0, rf h0)]) S dX3_backToOuter_13 rfl hl (by decide) (by simp [rf_cat]) (fun ls hl => ?_)
  refine mm_aload_n S dX3_backToOuter_14 rfl (lv_at hl 2 rfl) ?_
  refine mm_aload_n S dX3_backToOuter_15 rfl (lv_at hl 0 rfl) ?_
  refine mm_aload_n S dX3_backToOuter_16 rfl (lv_at hl 1 rfl) ?_
  obtain ⟨y3, hy3, hf⟩ := bd hf
  refine mm_callVv S hR hS hA (As := [rf y2.1, rf (mP μ h0 8)]) (rest := []) cvX3_144 (hK.k hk0) (kX3_part_c l G A (hK.k hk0) hy3) rfl rfl ⟨Nat.le_of_ble_eq_true rfl, Nat.le_of_ble_eq_true rfl⟩ rfl hl.1 rfl (lv_room (by simp [rf_cat, int_cat, long_cat])) dX3_backToOuter_17 ⟨Nat.zero_le _, Nat.zero_le _⟩ (fun H locs hR hS => ?_)
  have hK : mmKN μ y3 := hK.tr (kX3_part_kn hy3)
  refine mm_aload_n S dX3_backToOuter_20 rfl (lv_at hl 1 rfl) ?_
  refine mm_geti S hR fdX3_68 (hK.k g1) rfl dX3_backToOuter_21 ?_
  refine lv_iconst (v := 3) S.1 S.2.1 dX3_backToOuter_24 (by decide) ?_
  refine lv_icmp_ne (tgt := 49) S.1 S.2.1 dX3_backToOuter_25 (by decide) (fun c4 => ?_) (fun c4 => ?_)
  · have hf := it_f hf c4
    refine mm_aload_n S dX3_backToOuter_49 rfl (lv_at hl 0 rfl) ?_
    refine mm_aload_n S dX3_backToOuter_50 rfl (lv_at hl 1 rfl) ?_
    refine mm_geti S hR fdX3_117 (hK.k g1) rfl dX3_backToOuter_51 ?_
    obtain ⟨g6, hf⟩ := gd hf
    obtain ⟨y5, hy5, hf⟩ := bd hf
    refine mm_callVv S hR hS hA (As := [.int (mI y3 (mP μ h0 8) 7)]) (rest := []) cvX3_131 (hK.k g6) (kX2_leave_c l G A (hK.k g6) hy5) rfl rfl ⟨Nat.le_of_ble_eq_true rfl, Nat.le_of_ble_eq_true rfl⟩ rfl hl.1 rfl (lv_room (by simp [rf_cat, int_cat, long_cat])) dX3_backToOuter_54 ⟨Nat.zero_le _, Nat.zero_le _⟩ (fun H locs hR hS => ?_)
    have hK : mmKN μ y5 := hK.tr (kX2_leave_kn hy5)
    refine mm_aload_n S dX3_backToOuter_57 rfl (lv_at hl 2 rfl) ?_
    refine mm_aload_n S dX3_backToOuter_58 rfl (lv_at hl 0 rfl) ?_
    refine mm_putp S hR hS fpX3_38 (hK.k hk0) rfl nr_ok fr_ok dX3_backToOuter_59 (fun H locs hR hS => ?_)
    obtain ⟨μ7, e7, hf⟩ := stx hf
    rw [← e7] at hR
    have hK : mmKN μ μ7 := by rw [e7]; exact hK.sP
    obtain rfl := Option.some.inj hf
    exact mm_vret S hR hS hr hlocks dX3_backToOuter_62
  · have hf := it_t hf c4
    refine mm_aload_n S dX3_backToOuter_28 rfl (lv_at hl 0 rfl) ?_
    refine mm_aload_n S dX3_backToOuter_29 rfl (lv_at hl 1 rfl) ?_
    refine mm_geti S hR fdX3_117 (hK.k g1) rfl dX3_backToOuter_30 ?_
    obtain ⟨g8, hf⟩ := gd hf
    refine mm_puti S hR hS fpX3_117 (hK.k g8) rfl rfl rfl dX3_backToOuter_33 (fun H locs hR hS => ?_)
    obtain ⟨μ9, e9, hf⟩ := stx hf
    rw [← e9] at hR
    have hK : mmKN μ μ9 := by rw [e9]; exact hK.sI
    refine mm_aload_n S dX3_backToOuter_36 rfl (lv_at hl 0 rfl) ?_
    refine mm_aload_n S dX3_backToOuter_37 rfl (lv_at hl 0 rfl) ?_
    refine mm_geti S hR fdX3_120 (hK.k g8) rfl dX3_backToOuter_38 ?_
    refine lv_iconst (v := 1) S.1 S.2.1 dX3_backToOuter_41 (by decide) ?_
    refine lv_iadd S.1 S.2.1 dX3_backToOuter_42 ?_
    obtain ⟨y10, hy10, hf⟩ := bd hf
    refine mm_callVv S hR hS hA (As := [.int ((mI μ9 y2.1 6) + 1)]) (rest := []) cvX3_114 (hK.k g8) (kX2_goOnAt_c l G A (hK.k g8) hy10) rfl rfl ⟨Nat.le_of_ble_eq_true rfl, Nat.le_of_ble_eq_true rfl⟩ rfl hl.1 rfl (lv_room (by simp [rf_cat, int_cat, long_cat])) dX3_backToOuter_43 ⟨Nat.zero_le _, Nat.zero_le _⟩ (fun H locs hR hS => ?_)
    have hK : mmKN μ y10 := hK.tr (kX2_goOnAt_kn hy10)
    refine lv_goto (tgt := 57) S.1 S.2.1 dX3_backToOuter_46 (by decide) ?_
    refine mm_aload_n S dX3_backToOuter_57 rfl (lv_at hl 2 rfl) ?_
    refine mm_aload_n S dX3_backToOuter_58 rfl (lv_at hl 0 rfl) ?_
    refine mm_putp S hR hS fpX3_38 (hK.k hk0) rfl nr_ok fr_ok dX3_backToOuter_59 (fun H locs hR hS => ?_)
    obtain ⟨μ11, e11, hf⟩ := stx hf
    rw [← e11] at hR
    have hK : mmKN μ μ11 := by rw [e11]; exact hK.sP
    obtain rfl := Option.some.inj hf
    exact mm_vret S hR hS hr hlocks dX3_backToOuter_62
-- X3_waitAt
def fX3_waitAt (h0 : Nat) (h1 : Nat) (μ : MM) : Option (MM) :=
  if mK μ h1 = 3 then st (sI μ h1 5 1) fun μ2 => st (sI μ2 h0 12 1) fun μ3 => some μ3 else none
set_option maxRecDepth 100000 in
set_option maxHeartbeats 4000000 in
theorem kX3_waitAt_kn {μ : MM} {res : MM} {h0 : Nat} {h1 : Nat} (hf : fX3_waitAt h0 h1 μ = some res) : mmKN μ res := by
  have hK : mmKN μ μ := mmKN.rf
  unfold fX3_waitAt at hf
  obtain ⟨g1, hf⟩ := gd hf
  obtain ⟨μ2, e2, hf⟩ := stx hf
  have hK : mmKN μ μ2 := by rw [e2]; exact hK.sI
  obtain ⟨μ3, e3, hf⟩ := stx hf
  have hK : mmKN μ μ3 := by rw [e3]; exact hK.sI
  obtain rfl := Option.some.inj hf
  exact hK
abbrev rmX3_waitAt : Room := { frames := 0, cells := 0, slots := 0, locals := 0 }
set_option maxRecDepth 100000 in
set_option maxHeartbeats 4000000 in
theorem kX3_waitAt_c (l : Launch) (G : mmG) (A : Nat → Prop) {μ : MM} {res : MM} {h0 : Nat} {h1 : Nat} (hk0 : mK μ h0 = 4) (hf : fX3_waitAt h0 h1 μ = some res) : Met l yX3_waitAt [.code yX3_waitAt cX3_waitAt 2 none] rmX3_waitAt (mmPc G A μ [rf h0, rf h1]) (mmQ G A res none) 0 0 A := by
  refine mm_ofW (by decide +kernel) (by simp [lg_sl, rf_cat, int_cat]) ?_
  intro p e s m below meth c ls S hR hA hS hr hlocks hl hnm
  have hl : lv_has ls 2 [(0, rf h0), (1, rf h1)] := by simpa [lv_args, rf_cat, int_cat] using hl
  have E0 : mmEnv p m c cX3_waitAt 2 s _ RX3 G A meth none := ⟨S, hA, hr, hlocks⟩
  have hK : mmKN μ μ := mmKN.rf
  unfold fX3_waitAt at hf
  refine mm_aload_n S dX3_waitAt_0 rfl (lv_at hl 1 rfl) ?_
  refine lv_iconst (v := 1) S.1 S.2.1 dX3_waitAt_1 (by decide) ?_
  obtain ⟨g1, hf⟩ := gd hf
  refine mm_puti S hR hS fpX3_68 (hK.k g1) rfl rfl rfl dX3_waitAt_2 (fun H locs hR hS => ?_)
  obtain ⟨μ2, e2, hf⟩ := stx hf
  rw [← e2] at hR
  have hK : mmKN μ μ2 := by rw [e2]; exact hK.sI
  refine mm_aload_n S dX3_waitAt_5 rfl (lv_at hl 0 rfl) ?_
  refine lv_iconst (v := 1) S.1 S.2.1 dX3_waitAt_6 (by decide) ?_
  refine mm_puti S hR hS fpX3_217 (hK.k hk0) rfl rfl rfl dX3_waitAt_7 (fun H locs hR hS => ?_)
  obtain ⟨μ3, e3, hf⟩ := stx hf
  rw [← e3] at hR
  have hK : mmKN μ μ3 := by rw [e3]; exact hK.sI
  obtain rfl := Option.some.inj hf
  exact mm_vret S hR hS hr hlocks dX3_waitAt_10
-- X3_takesCancel
def fX3_takesCancel (h0 : Nat) (μ : MM) : Option (Int32 × MM) :=
  (fX3_at h0 (mI μ h0 9) μ).bind fun y1 => if mK μ y1.1 = 3 then if (mI y1.2 y1.1 15) = 0 then (some (0, y1.2)) else (if (mI y1.2 y1.1 14) ≤ 0 then (st (sI y1.2 y1.1 15 0) fun μ5 => some (1, μ5)) else (some (0, y1.2))) else none
set_option maxRecDepth 100000 in
set_option maxHeartbeats 4000000 in
theorem kX3_takesCancel_kn {μ : MM} {res : Int32 × MM} {h0 : Nat} (hf : fX3_takesCancel h0 μ = some res) : mmKN μ res.2 := by
  have hK : mmKN μ μ := mmKN.rf
  unfold fX3_takesCancel at hf
  obtain ⟨y1, hy1, hf⟩ := bd hf
  have hK : mmKN μ y1.2 := hK.tr (kX3_at_kn hy1)
  obtain ⟨g2, hf⟩ := gd hf
  rcases it_or hf with ⟨c3, hf⟩ | ⟨c3, hf⟩
  · skip
    obtain rfl := Option.some.inj hf
    exact hK
  · skip
    rcases it_or hf with ⟨c4, hf⟩ | ⟨c4, hf⟩
    · skip
      obtain ⟨μ5, e5, hf⟩ := stx hf
      have hK : mmKN μ μ5 := by rw [e5]; exact hK.sI
      obtain rfl := Option.some.inj hf
      exact hK
    · skip
      obtain rfl := Option.some.inj hf
      exact hK
abbrev rmX3_takesCancel : Room := { frames := 1, cells := 0, slots := 0, locals := 21 }
set_option maxRecDepth 100000 in
set_option maxHeartbeats 4000000 in
theorem kX3_takesCancel_c (l : Launch) (G : mmG) (A : Nat → Prop) {μ : MM} {res : Int32 × MM} {h0 : Nat} (hk0 : mK μ h0 = 4) (hf : fX3_takesCancel h0 μ = some res) : Met l yX3_takesCancel [.code yX3_takesCancel cX3_takesCancel 2 (some (.boolean))] rmX3_takesCancel (mmPc G A μ [rf h0]) (mmQ G A res.2 (some (.int res.1))) 0 0 A := by
  refine mm_ofW (by decide +kernel) (by simp [lg_sl, rf_cat, int_cat]) ?_
  intro p e s m below meth c ls S hR hA hS hr hlocks hl hnm
  have hl : lv_has ls 2 [(0, rf h0)] := by simpa [lv_args, rf_cat, int_cat] using hl
  have E0 : mmEnv p m c cX3_takesCancel 2 s _ RX3 G A meth (some (.boolean)) := ⟨S, hA, hr, hlocks⟩
  have hK : mmKN μ μ := mmKN.rf
  unfold fX3_takesCancel at hf
  refine mm_aload_n S dX3_takesCancel_0 rfl (lv_at hl 0 rfl) ?_
  refine mm_aload_n S dX3_takesCancel_1 rfl (lv_at hl 0 rfl) ?_
  refine mm_geti S hR fdX3_202 (hK.k hk0) rfl dX3_takesCancel_2 ?_
  obtain ⟨y1, hy1, hf⟩ := bd hf
  refine mm_callVh S hR hS hA (As := [.int (mI μ h0 9)]) (rest := []) cvX3_55 (hK.k hk0) (kX3_at_c l G A (hK.k hk0) hy1) rfl rfl ⟨Nat.le_of_ble_eq_true rfl, Nat.le_of_ble_eq_true rfl⟩ rfl hl.1 rfl (lv_room (by simp [rf_cat, int_cat, long_cat])) dX3_takesCancel_5 ⟨Nat.zero_le _, Nat.zero_le _⟩ (fun H locs hR hS => ?_)
  have hK : mmKN μ y1.2 := hK.tr (kX3_at_kn hy1)
  refine mm_astore_n (i := 1) (lv' := [(1, rf y1.1), (0, rf h0)]) S dX3_takesCancel_8 rfl hl (by decide) (by simp [rf_cat]) (fun ls hl => ?_)
  refine mm_aload_n S dX3_takesCancel_9 rfl (lv_at hl 0 rfl) ?_
  obtain ⟨g2, hf⟩ := gd hf
  refine mm_geti S hR fdX3_189 (hK.k g2) rfl dX3_takesCancel_10 ?_
  refine lv_if_eq (tgt := 23) S.1 S.2.1 dX3_takesCancel_13 (by decide) (fun c3 => ?_) (fun c3 => ?_)
  · have hf := it_t hf c3
    refine lv_iconst (v := 0) S.1 S.2.1 dX3_takesCancel_23 (by decide) ?_
    obtain rfl := Option.some.inj hf
    exact mm_zret S hR hS hr hlocks (Or.inl rfl) dX3_takesCancel_24
  · have hf := it_f hf c3
    refine mm_aload_n S dX3_takesCancel_16 rfl (lv_at hl 0 rfl) ?_
    refine mm_geti S hR fdX3_193 (hK.k g2) rfl dX3_takesCancel_17 ?_
    refine lv_if_le (tgt := 25) S.1 S.2.1 dX3_takesCancel_20 (by decide) (fun c4 => ?_) (fun c4 => ?_)
    · have hf := it_t hf c4
      refine mm_aload_n S dX3_takesCancel_25 rfl (lv_at hl 0 rfl) ?_
      refine lv_iconst (v := 0) S.1 S.2.1 dX3_takesCancel_26 (by decide) ?_
      refine mm_puti S hR hS fpX3_189 (hK.k g2) rfl rfl rfl dX3_takesCancel_27 (fun H locs hR hS => ?_)
      obtain ⟨μ5, e5, hf⟩ := stx hf
      rw [← e5] at hR
      have hK : mmKN μ μ5 := by rw [e5]; exact hK.sI
      refine lv_iconst (v := 1) S.1 S.2.1 dX3_takesCancel_30 (by decide) ?_
      obtain rfl := Option.some.inj hf
      exact mm_zret S hR hS hr hlocks (Or.inr rfl) dX3_takesCancel_31
    · have hf := it_f hf c4
      refine lv_iconst (v := 0) S.1 S.2.1 dX3_takesCancel_23 (by decide) ?_
      obtain rfl := Option.some.inj hf
      exact mm_zret S hR hS hr hlocks (Or.inl rfl) dX3_takesCancel_24
-- X3_takeOutcome
def fX3_takeOutcome (h0 : Nat) (h1 : Nat) (h2 : Nat) (μ : MM) : Option (Int32 × MM) :=
  if mK μ h2 = 3 then if (mI μ h2 5) = (4 : Int32) then (some ((jmin (mI μ h2 7) 9), μ)) else (if mK μ h1 = 3 then st (sI μ h1 7 (mI μ h2 7)) fun μ4 => (fX2_goOnAt h1 ((mI μ4 h1 6) + 1) μ4).bind fun y5 => some (0, y5) else none) else none
set_option maxRecDepth 100000 in
set_option maxHeartbeats 4000000 in
theorem kX3_takeOutcome_kn {μ : MM} {res : Int32 × MM} {h0 : Nat} {h1 : Nat} {h2 : Nat} (hf : fX3_takeOutcome h0 h1 h2 μ = some res) : mmKN μ res.2 := by
  have hK : mmKN μ μ := mmKN.rf
  unfold fX3_takeOutcome at hf
  obtain ⟨g1, hf⟩ := gd hf
  rcases it_or hf with ⟨c2, hf⟩ | ⟨c2, hf⟩
  · skip
    obtain rfl := Option.some.inj hf
    exact hK
  · skip
    obtain ⟨g3, hf⟩ := gd hf
    obtain ⟨μ4, e4, hf⟩ := stx hf
    have hK : mmKN μ μ4 := by rw [e4]; exact hK.sI
    obtain ⟨y5, hy5, hf⟩ := bd hf
    have hK : mmKN μ y5 := hK.tr (kX2_goOnAt_kn hy5)
    obtain rfl := Option.some.inj hf
    exact hK
abbrev rmX3_takeOutcome : Room := { frames := 1, cells := 0, slots := 0, locals := 21 }
set_option maxRecDepth 100000 in
set_option maxHeartbeats 4000000 in
theorem kX3_takeOutcome_c (l : Launch) (G : mmG) (A : Nat → Prop) {μ : MM} {res : Int32 × MM} {h0 : Nat} {h1 : Nat} {h2 : Nat} (hk0 : mK μ h0 = 4) (hf : fX3_takeOutcome h0 h1 h2 μ = some res) : Met l yX3_takeOutcome [.code yX3_takeOutcome cX3_takeOutcome 3 (some (.int))] rmX3_takeOutcome (mmPc G A μ [rf h0, rf h1, rf h2]) (mmQ G A res.2 (some (.int res.1))) 0 0 A := by
  refine mm_ofW (by decide +kernel) (by simp [lg_sl, rf_cat, int_cat]) ?_
  intro p e s m below meth c ls S hR hA hS hr hlocks hl hnm
  have hl : lv_has ls 3 [(0, rf h0), (1, rf h1), (2, rf h2)] := by simpa [lv_args, rf_cat, int_cat] using hl
  have E0 : mmEnv p m c cX3_takeOutcome 3 s _ RX3 G A meth (some (.int)) := ⟨S, hA, hr, hlocks⟩
  have hK : mmKN μ μ := mmKN.rf
  unfold fX3_takeOutcome at hf
  refine mm_aload_n S dX3_takeOutcome_0 rfl (lv_at hl 2 rfl) ?_
  obtain ⟨g1, hf⟩ := gd hf
  refine mm_geti S hR fdX3_68 (hK.k g1) rfl dX3_takeOutcome_1 ?_
  refine lv_iconst (v := 4) S.1 S.2.1 dX3_takeOutcome_4 (by decide) ?_
  refine lv_icmp_ne (tgt := 18) S.1 S.2.1 dX3_takeOutcome_5 (by decide) (fun c2 => ?_) (fun c2 => ?_)
  · have hf := it_f hf c2
    refine mm_aload_n S dX3_takeOutcome_18 rfl (lv_at hl 1 rfl) ?_
    refine mm_aload_n S dX3_takeOutcome_19 rfl (lv_at hl 2 rfl) ?_
    refine mm_geti S hR fdX3_117 (hK.k g1) rfl dX3_takeOutcome_20 ?_
    obtain ⟨g3, hf⟩ := gd hf
    refine mm_puti S hR hS fpX3_117 (hK.k g3) rfl rfl rfl dX3_takeOutcome_23 (fun H locs hR hS => ?_)
    obtain ⟨μ4, e4, hf⟩ := stx hf
    rw [← e4] at hR
    have hK : mmKN μ μ4 := by rw [e4]; exact hK.sI
    refine mm_aload_n S dX3_takeOutcome_26 rfl (lv_at hl 1 rfl) ?_
    refine mm_aload_n S dX3_takeOutcome_27 rfl (lv_at hl 1 rfl) ?_
    refine mm_geti S hR fdX3_120 (hK.k g3) rfl dX3_takeOutcome_28 ?_
    refine lv_iconst (v := 1) S.1 S.2.1 dX3_takeOutcome_31 (by decide) ?_
    refine lv_iadd S.1 S.2.1 dX3_takeOutcome_32 ?_
    obtain ⟨y5, hy5, hf⟩ := bd hf
    refine mm_callVv S hR hS hA (As := [.int ((mI μ4 h1 6) + 1)]) (rest := []) cvX3_114 (hK.k g3) (kX2_goOnAt_c l G A (hK.k g3) hy5) rfl rfl ⟨Nat.le_of_ble_eq_true rfl, Nat.le_of_ble_eq_true rfl⟩ rfl hl.1 rfl (lv_room (by simp [rf_cat, int_cat, long_cat])) dX3_takeOutcome_33 ⟨Nat.zero_le _, Nat.zero_le _⟩ (fun H locs hR hS => ?_)
    have hK : mmKN μ y5 := hK.tr (kX2_goOnAt_kn hy5)
    refine lv_iconst (v := 0) S.1 S.2.1 dX3_takeOutcome_36 (by decide) ?_
    obtain rfl := Option.some.inj hf
    exact mm_iret S hR hS hr hlocks dX3_takeOutcome_37
  · have hf := it_t hf c2
    refine mm_aload_n S dX3_takeOutcome_8 rfl (lv_at hl 2 rfl) ?_
    refine mm_geti S hR fdX3_117 (hK.k g1) rfl dX3_takeOutcome_9 ?_
    refine lv_bipush (v := 9) S.1 S.2.1 dX3_takeOutcome_12 (by decide) ?_
    refine mm_min S mnX3_174 hl.1 (Nat.le_of_ble_eq_true rfl) (by simp [rf_cat, int_cat, long_cat]) ⟨Nat.zero_le _, Nat.zero_le _⟩ dX3_takeOutcome_14 ?_
    obtain rfl := Option.some.inj hf
    exact mm_iret S hR hS hr hlocks dX3_takeOutcome_17
-- X3_awaitsTheOwnOne
def bX3_awaitsTheOwnOne_4 (kk4 : Nat → Int32 → Int32 → MM → Option (Int32 × MM)) (h0 : Nat) (x2 : Int32) (x3 : Int32) (μ : MM) : Option (Int32 × MM) :=
  if (24 : Int32) ≤ x3 then (some (0, μ)) else (if x2 = ((-1) : Int32) then (some (0, μ)) else (if mK μ h0 = 4 then (fX3_at h0 x2 μ).bind fun y3 => if mK μ y3.1 = 3 then if (mI y3.2 y3.1 13) = (mI y3.2 h0 9) then (some (1, y3.2)) else (kk4 h0 (mI y3.2 y3.1 13) (x3 + 1) y3.2) else none else none))
def lX3_awaitsTheOwnOne_4  : Nat → Nat → Int32 → Int32 → MM → Option (Int32 × MM)
  | 0, _, _, _, _ => none
  | n + 1, h0, x2, x3, μ => bX3_awaitsTheOwnOne_4  (fun h0 x2 x3 μ => lX3_awaitsTheOwnOne_4  n h0 x2 x3 μ) h0 x2 x3 μ
def fX3_awaitsTheOwnOne (h0 : Nat) (x1 : Int32) (μ : MM) : Option (Int32 × MM) :=
  lX3_awaitsTheOwnOne_4  FU h0 x1 0 μ
set_option maxRecDepth 100000 in
set_option maxHeartbeats 4000000 in
theorem knbX3_awaitsTheOwnOne_4 (kk4 : Nat → Int32 → Int32 → MM → Option (Int32 × MM)) (hkk4 : ∀ (h0 : Nat) (x2 : Int32) (x3 : Int32) (μ : MM) (res : Int32 × MM), kk4 h0 x2 x3 μ = some res → mmKN μ res.2) : ∀ (h0 : Nat) (x2 : Int32) (x3 : Int32) (μ : MM) (res : Int32 × MM), bX3_awaitsTheOwnOne_4 kk4 h0 x2 x3 μ = some res → mmKN μ res.2 := by
  intro h0 x2 x3 μ res hf
  have hK : mmKN μ μ := mmKN.rf
  unfold bX3_awaitsTheOwnOne_4 at hf
  rcases it_or hf with ⟨c1, hf⟩ | ⟨c1, hf⟩
  · skip
    obtain rfl := Option.some.inj hf
    exact hK
  · skip
    rcases it_or hf with ⟨c2, hf⟩ | ⟨c2, hf⟩
    · skip
      obtain rfl := Option.some.inj hf
      exact hK
    · skip
      obtain ⟨g4, hf⟩ := gd hf
      obtain ⟨y3, hy3, hf⟩ := bd hf
      have hK : mmKN μ y3.2 := hK.tr (kX3_at_kn hy3)
      obtain ⟨g5, hf⟩ := gd hf
      rcases it_or hf with ⟨c6, hf⟩ | ⟨c6, hf⟩
      · skip
        obtain rfl := Option.some.inj hf
        exact hK
      · skip
        exact hK.tr (hkk4 h0 (mI y3.2 y3.1 13) (x3 + 1) y3.2 _ hf)
theorem knlX3_awaitsTheOwnOne_4  : ∀ (n : Nat) (h0 : Nat) (x2 : Int32) (x3 : Int32) (μ : MM) (res : Int32 × MM), lX3_awaitsTheOwnOne_4  n h0 x2 x3 μ = some res → mmKN μ res.2 := by
  intro n
  induction n with
  | zero => intro h0 x2 x3 μ res hf; cases hf
  | succ n ih => intro h0 x2 x3 μ res hf; exact knbX3_awaitsTheOwnOne_4  _ ih h0 x2 x3 μ res hf
set_option maxRecDepth 100000 in
set_option maxHeartbeats 4000000 in
theorem kX3_awaitsTheOwnOne_kn {μ : MM} {res : Int32 × MM} {h0 : Nat} {x1 : Int32} (hf : fX3_awaitsTheOwnOne h0 x1 μ = some res) : mmKN μ res.2 := by
  have hK : mmKN μ μ := mmKN.rf
  unfold fX3_awaitsTheOwnOne at hf
  exact hK.tr (knlX3_awaitsTheOwnOne_4  FU h0 x1 0 μ _ hf)
abbrev rmX3_awaitsTheOwnOne : Room := { frames := 1, cells := 0, slots := 0, locals := 21 }
set_option maxRecDepth 100000 in
set_option maxHeartbeats 4000000 in
theorem wbX3_awaitsTheOwnOne_4 {p : Program} {l : Launch} {e : Env} {s : State} {m : MethodId} {args : Array Value} {below : List Frame} {meth : Method} {c : Code} {G : mmG} {A : Nat → Prop} {res : Int32 × MM} (E0 : mmEnv p m c cX3_awaitsTheOwnOne 4 s args RX3 G A meth (some (.boolean))) (kk4 : Nat → Int32 → Int32 → MM → Option (Int32 × MM)) (hkk4 : ∀ (h0 : Nat) (x2 : Int32) (x3 : Int32) (μ : MM), kk4 h0 x2 x3 μ = some res → mmGoal p l e rmX3_awaitsTheOwnOne s m args below meth c G A 4 4 [(0, rf h0), (2, .int x2), (3, .int x3)] μ (mmQ G A res.2 (some (.int res.1)))) : ∀ (h0 : Nat) (x2 : Int32) (x3 : Int32) (μ : MM), bX3_awaitsTheOwnOne_4 kk4 h0 x2 x3 μ = some res → mmGoal p l e rmX3_awaitsTheOwnOne s m args below meth c G A 4 4 [(0, rf h0), (2, .int x2), (3, .int x3)] μ (mmQ G A res.2 (some (.int res.1))) := by
  obtain ⟨S, hA, hr, hlocks⟩ := id E0
  intro h0 x2 x3 μ hf H locs ls hR hS hl
  have hK : mmKN μ μ := mmKN.rf
  unfold bX3_awaitsTheOwnOne_4 at hf
  refine lv_iload_n S.1 S.2.1 dX3_awaitsTheOwnOne_4 rfl (lv_at hl 2 rfl) ?_
  refine lv_bipush (v := 24) S.1 S.2.1 dX3_awaitsTheOwnOne_5 (by decide) ?_
  refine lv_icmp_ge (tgt := 40) S.1 S.2.1 dX3_awaitsTheOwnOne_7 (by decide) (fun c1 => ?_) (fun c1 => ?_)
  · have hf := it_t hf c1
    refine lv_iconst (v := 0) S.1 S.2.1 dX3_awaitsTheOwnOne_40 (by decide) ?_
    obtain rfl := Option.some.inj hf
    exact mm_zret S hR hS hr hlocks (Or.inl rfl) dX3_awaitsTheOwnOne_41
  · have hf := it_f hf c1
    refine lv_iload_n S.1 S.2.1 dX3_awaitsTheOwnOne_10 rfl (lv_at hl 1 rfl) ?_
    refine lv_iconst (v := (-1)) S.1 S.2.1 dX3_awaitsTheOwnOne_11 (by decide) ?_
    refine lv_icmp_eq (tgt := 40) S.1 S.2.1 dX3_awaitsTheOwnOne_12 (by decide) (fun c2 => ?_) (fun c2 => ?_)
    · have hf := it_t hf c2
      refine lv_iconst (v := 0) S.1 S.2.1 dX3_awaitsTheOwnOne_40 (by decide) ?_
      obtain rfl := Option.some.inj hf
      exact mm_zret S hR hS hr hlocks (Or.inl rfl) dX3_awaitsTheOwnOne_41
    · have hf := it_f hf c2
      refine mm_aload_n S dX3_awaitsTheOwnOne_15 rfl (lv_at hl 0 rfl) ?_
      refine lv_iload_n S.1 S.2.1 dX3_awaitsTheOwnOne_16 rfl (lv_at hl 1 rfl) ?_
      obtain ⟨g4, hf⟩ := gd hf
      obtain ⟨y3, hy3, hf⟩ := bd hf
      refine mm_callVh S hR hS hA (As := [.int x2]) (rest := []) cvX3_55 (hK.k g4) (kX3_at_c l G A (hK.k g4) hy3) rfl rfl ⟨Nat.le_of_ble_eq_true rfl, Nat.le_of_ble_eq_true rfl⟩ rfl hl.1 rfl (lv_room (by simp [rf_cat, int_cat, long_cat])) dX3_awaitsTheOwnOne_17 ⟨Nat.zero_le _, Nat.zero_le _⟩ (fun H locs hR hS => ?_)
      have hK : mmKN μ y3.2 := hK.tr (kX3_at_kn hy3)
      obtain ⟨g5, hf⟩ := gd hf
      refine mm_geti S hR fdX3_82 (hK.k g5) rfl dX3_awaitsTheOwnOne_20 ?_
      refine lv_istore_n (i := 2) (lv' := [(2, .int (mI y3.2 y3.1 13)), (0, rf h0), (3, .int x3)]) S.1 S.2.1 dX3_awaitsTheOwnOne_23 rfl hl (by decide) rfl (fun ls hl => ?_)
      refine lv_iload_n S.1 S.2.1 dX3_awaitsTheOwnOne_24 rfl (lv_at hl 0 rfl) ?_
      refine mm_aload_n S dX3_awaitsTheOwnOne_25 rfl (lv_at hl 1 rfl) ?_
      refine mm_geti S hR fdX3_202 (hK.k g4) rfl dX3_awaitsTheOwnOne_26 ?_
      refine lv_icmp_ne (tgt := 34) S.1 S.2.1 dX3_awaitsTheOwnOne_29 (by decide) (fun c6 => ?_) (fun c6 => ?_)
      · have hf := it_f hf c6
        refine lv_iinc (v := (x3 + 1)) (lv' := [(3, .int (x3 + 1)), (2, .int (mI y3.2 y3.1 13)), (0, rf h0)]) S.1 S.2.1 dX3_awaitsTheOwnOne_34 hl (k := 2) rfl (by rfl) (by decide) rfl (fun ls hl => ?_)
        refine lv_goto (tgt := 4) S.1 S.2.1 dX3_awaitsTheOwnOne_37 (by decide) ?_
        exact hkk4 h0 (mI y3.2 y3.1 13) (x3 + 1) y3.2 hf _ _ _ hR hS (lv_sub hl [2, 1, 0] rfl)
      · have hf := it_t hf c6
        refine lv_iconst (v := 1) S.1 S.2.1 dX3_awaitsTheOwnOne_32 (by decide) ?_
        obtain rfl := Option.some.inj hf
        exact mm_zret S hR hS hr hlocks (Or.inr rfl) dX3_awaitsTheOwnOne_33
theorem wlX3_awaitsTheOwnOne_4 {p : Program} {l : Launch} {e : Env} {s : State} {m : MethodId} {args : Array Value} {below : List Frame} {meth : Method} {c : Code} {G : mmG} {A : Nat → Prop} {res : Int32 × MM} (E0 : mmEnv p m c cX3_awaitsTheOwnOne 4 s args RX3 G A meth (some (.boolean)))  : ∀ (n : Nat) (h0 : Nat) (x2 : Int32) (x3 : Int32) (μ : MM), lX3_awaitsTheOwnOne_4  n h0 x2 x3 μ = some res → mmGoal p l e rmX3_awaitsTheOwnOne s m args below meth c G A 4 4 [(0, rf h0), (2, .int x2), (3, .int x3)] μ (mmQ G A res.2 (some (.int res.1))) := by
  intro n
  induction n with
  | zero => intro h0 x2 x3 μ hf; cases hf
  | succ n ih => intro h0 x2 x3 μ hf; exact wbX3_awaitsTheOwnOne_4 E0  _ ih h0 x2 x3 μ hf
set_option maxRecDepth 100000 in
set_option maxHeartbeats 4000000 in
theorem kX3_awaitsTheOwnOne_c (l : Launch) (G : mmG) (A : Nat → Prop) {μ : MM} {res : Int32 × MM} {h0 : Nat} {x1 : Int32} (hk0 : mK μ h0 = 4) (hf : fX3_awaitsTheOwnOne h0 x1 μ = some res) : Met l yX3_awaitsTheOwnOne [.code yX3_awaitsTheOwnOne cX3_awaitsTheOwnOne 4 (some (.boolean))] rmX3_awaitsTheOwnOne (mmPc G A μ [rf h0, .int x1]) (mmQ G A res.2 (some (.int res.1))) 0 0 A := by
  refine mm_ofW (by decide +kernel) (by simp [lg_sl, rf_cat, int_cat]) ?_
  intro p e s m below meth c ls S hR hA hS hr hlocks hl hnm
  have hl : lv_has ls 4 [(0, rf h0), (1, .int x1)] := by simpa [lv_args, rf_cat, int_cat] using hl
  have E0 : mmEnv p m c cX3_awaitsTheOwnOne 4 s _ RX3 G A meth (some (.boolean)) := ⟨S, hA, hr, hlocks⟩
  have hK : mmKN μ μ := mmKN.rf
  unfold fX3_awaitsTheOwnOne at hf
  refine lv_iload_n S.1 S.2.1 dX3_awaitsTheOwnOne_0 rfl (lv_at hl 1 rfl) ?_
  refine lv_istore_n (i := 2) (lv' := [(2, .int x1), (0, rf h0), (1, .int x1)]) S.1 S.2.1 dX3_awaitsTheOwnOne_1 rfl hl (by decide) rfl (fun ls hl => ?_)
  refine lv_iconst (v := 0) S.1 S.2.1 dX3_awaitsTheOwnOne_2 (by decide) ?_
  refine lv_istore_n (i := 3) (lv' := [(3, .int 0), (2, .int x1), (0, rf h0), (1, .int x1)]) S.1 S.2.1 dX3_awaitsTheOwnOne_3 rfl hl (by decide) rfl (fun ls hl => ?_)
  exact wlX3_awaitsTheOwnOne_4 E0  FU h0 x1 0 μ hf _ _ _ hR hS (lv_sub hl [2, 1, 0] rfl)
-- X3_doYield
def fX3_doYield (h0 : Nat) (h1 : Nat) (μ : MM) : Option (Int32 × MM) :=
  if (mI μ h0 9) = ((-1) : Int32) then ((fX3_waitAt h0 h1 μ).bind fun y2 => some (0, y2)) else ((fX3_takesCancel h0 μ).bind fun y3 => if y3.1 = 0 then (if mK μ (mP y3.2 h0 3) = 5 then (fX4_add (mP y3.2 h0 3) (mI y3.2 h0 9) y3.2).bind fun y5 => (fX3_waitAt h0 h1 y5).bind fun y7 => some (0, y7) else none) else (some (9, y3.2)))
set_option maxRecDepth 100000 in
set_option maxHeartbeats 4000000 in
theorem kX3_doYield_kn {μ : MM} {res : Int32 × MM} {h0 : Nat} {h1 : Nat} (hf : fX3_doYield h0 h1 μ = some res) : mmKN μ res.2 := by
  have hK : mmKN μ μ := mmKN.rf
  unfold fX3_doYield at hf
  rcases it_or hf with ⟨c1, hf⟩ | ⟨c1, hf⟩
  · skip
    obtain ⟨y2, hy2, hf⟩ := bd hf
    have hK : mmKN μ y2 := hK.tr (kX3_waitAt_kn hy2)
    obtain rfl := Option.some.inj hf
    exact hK
  · skip
    obtain ⟨y3, hy3, hf⟩ := bd hf
    have hK : mmKN μ y3.2 := hK.tr (kX3_takesCancel_kn hy3)
    rcases it_or hf with ⟨c4, hf⟩ | ⟨c4, hf⟩
    · skip
      obtain ⟨g6, hf⟩ := gd hf
      obtain ⟨y5, hy5, hf⟩ := bd hf
      have hK : mmKN μ y5 := hK.tr (kX4_add_kn hy5)
      obtain ⟨y7, hy7, hf⟩ := bd hf
      have hK : mmKN μ y7 := hK.tr (kX3_waitAt_kn hy7)
      obtain rfl := Option.some.inj hf
      exact hK
    · skip
      obtain rfl := Option.some.inj hf
      exact hK
abbrev rmX3_doYield : Room := { frames := 2, cells := 0, slots := 0, locals := 42 }
set_option maxRecDepth 100000 in
set_option maxHeartbeats 4000000 in
theorem kX3_doYield_c (l : Launch) (G : mmG) (A : Nat → Prop) {μ : MM} {res : Int32 × MM} {h0 : Nat} {h1 : Nat} (hk0 : mK μ h0 = 4) (hf : fX3_doYield h0 h1 μ = some res) : Met l yX3_doYield [.code yX3_doYield cX3_doYield 2 (some (.int))] rmX3_doYield (mmPc G A μ [rf h0, rf h1]) (mmQ G A res.2 (some (.int res.1))) 0 0 A := by
  refine mm_ofW (by decide +kernel) (by simp [lg_sl, rf_cat, int_cat]) ?_
  intro p e s m below meth c ls S hR hA hS hr hlocks hl hnm
  have hl : lv_has ls 2 [(0, rf h0), (1, rf h1)] := by simpa [lv_args, rf_cat, int_cat] using hl
  have E0 : mmEnv p m c cX3_doYield 2 s _ RX3 G A meth (some (.int)) := ⟨S, hA, hr, hlocks⟩
  have hK : mmKN μ μ := mmKN.rf
  unfold fX3_doYield at hf
  refine mm_aload_n S dX3_doYield_0 rfl (lv_at hl 0 rfl) ?_
  refine mm_geti S hR fdX3_202 (hK.k hk0) rfl dX3_doYield_1 ?_
  refine lv_iconst (v := (-1)) S.1 S.2.1 dX3_doYield_4 (by decide) ?_
  refine lv_icmp_eq (tgt := 29) S.1 S.2.1 dX3_doYield_5 (by decide) (fun c1 => ?_) (fun c1 => ?_)
  · have hf := it_t hf c1
    refine mm_aload_n S dX3_doYield_29 rfl (lv_at hl 0 rfl) ?_
    refine mm_aload_n S dX3_doYield_30 rfl (lv_at hl 1 rfl) ?_
    obtain ⟨y2, hy2, hf⟩ := bd hf
    refine mm_callVv S hR hS hA (As := [rf h1]) (rest := []) cvX3_274 (hK.k hk0) (kX3_waitAt_c l G A (hK.k hk0) hy2) rfl rfl ⟨Nat.le_of_ble_eq_true rfl, Nat.le_of_ble_eq_true rfl⟩ rfl hl.1 rfl (lv_room (by simp [rf_cat, int_cat, long_cat])) dX3_doYield_31 ⟨Nat.zero_le _, Nat.zero_le _⟩ (fun H locs hR hS => ?_)
    have hK : mmKN μ y2 := hK.tr (kX3_waitAt_kn hy2)
    refine lv_iconst (v := 0) S.1 S.2.1 dX3_doYield_34 (by decide) ?_
    obtain rfl := Option.some.inj hf
    exact mm_iret S hR hS hr hlocks dX3_doYield_35
  · have hf := it_f hf c1
    refine mm_aload_n S dX3_doYield_8 rfl (lv_at hl 0 rfl) ?_
    obtain ⟨y3, hy3, hf⟩ := bd hf
    refine mm_callVi S hR hS hA (As := []) (rest := []) cvX3_156 (hK.k hk0) (kX3_takesCancel_c l G A (hK.k hk0) hy3) rfl rfl ⟨Nat.le_of_ble_eq_true rfl, Nat.le_of_ble_eq_true rfl⟩ rfl hl.1 rfl (lv_room (by simp [rf_cat, int_cat, long_cat])) dX3_doYield_9 ⟨Nat.zero_le _, Nat.zero_le _⟩ (fun H locs hR hS => ?_)
    have hK : mmKN μ y3.2 := hK.tr (kX3_takesCancel_kn hy3)
    refine lv_if_eq (tgt := 18) S.1 S.2.1 dX3_doYield_12 (by decide) (fun c4 => ?_) (fun c4 => ?_)
    · have hf := it_t hf c4
      refine mm_aload_n S dX3_doYield_18 rfl (lv_at hl 0 rfl) ?_
      refine mm_getp S hR fdX3_27 (hK.k hk0) rfl dX3_doYield_19 ?_
      refine mm_aload_n S dX3_doYield_22 rfl (lv_at hl 0 rfl) ?_
      refine mm_geti S hR fdX3_202 (hK.k hk0) rfl dX3_doYield_23 ?_
      obtain ⟨g6, hf⟩ := gd hf
      obtain ⟨y5, hy5, hf⟩ := bd hf
      refine mm_callVv S hR hS hA (As := [.int (mI y3.2 h0 9)]) (rest := []) cvX3_104 (hK.k g6) (kX4_add_c l G A (hK.k g6) hy5) rfl rfl ⟨Nat.le_of_ble_eq_true rfl, Nat.le_of_ble_eq_true rfl⟩ rfl hl.1 rfl (lv_room (by simp [rf_cat, int_cat, long_cat])) dX3_doYield_26 ⟨Nat.zero_le _, Nat.zero_le _⟩ (fun H locs hR hS => ?_)
      have hK : mmKN μ y5 := hK.tr (kX4_add_kn hy5)
      refine mm_aload_n S dX3_doYield_29 rfl (lv_at hl 0 rfl) ?_
      refine mm_aload_n S dX3_doYield_30 rfl (lv_at hl 1 rfl) ?_
      obtain ⟨y7, hy7, hf⟩ := bd hf
      refine mm_callVv S hR hS hA (As := [rf h1]) (rest := []) cvX3_274 (hK.k hk0) (kX3_waitAt_c l G A (hK.k hk0) hy7) rfl rfl ⟨Nat.le_of_ble_eq_true rfl, Nat.le_of_ble_eq_true rfl⟩ rfl hl.1 rfl (lv_room (by simp [rf_cat, int_cat, long_cat])) dX3_doYield_31 ⟨Nat.zero_le _, Nat.zero_le _⟩ (fun H locs hR hS => ?_)
      have hK : mmKN μ y7 := hK.tr (kX3_waitAt_kn hy7)
      refine lv_iconst (v := 0) S.1 S.2.1 dX3_doYield_34 (by decide) ?_
      obtain rfl := Option.some.inj hf
      exact mm_iret S hR hS hr hlocks dX3_doYield_35
    · have hf := it_f hf c4
      refine lv_bipush (v := 9) S.1 S.2.1 dX3_doYield_15 (by decide) ?_
      obtain rfl := Option.some.inj hf
      exact mm_iret S hR hS hr hlocks dX3_doYield_17
-- X3_doFrom
def fX3_doFrom (h0 : Nat) (h1 : Nat) (x2 : Int32) (μ : MM) : Option (Int32 × MM) :=
  (fX3_canMake h0 x2 μ).bind fun y1 => if y1.1 = 0 then (some (4, y1.2)) else ((fX3_make h0 x2 2 (-1) y1.2).bind fun y3 => if mK μ h1 = 3 then if mK μ y3.1 = 3 then st (sI y3.2 y3.1 10 (mI y3.2 h1 0)) fun μ6 => st (sI μ6 h1 9 (mI μ6 y3.1 0)) fun μ7 => st (sI μ7 h1 5 1) fun μ8 => (fX2_goOnAt y3.1 0 μ8).bind fun y9 => st (sP y9 h0 8 y3.1) fun μ10 => some (0, μ10) else none else none)
set_option maxRecDepth 100000 in
set_option maxHeartbeats 4000000 in
theorem kX3_doFrom_kn {μ : MM} {res : Int32 × MM} {h0 : Nat} {h1 : Nat} {x2 : Int32} (hf : fX3_doFrom h0 h1 x2 μ = some res) : mmKN μ res.2 := by
  have hK : mmKN μ μ := mmKN.rf
  unfold fX3_doFrom at hf
  obtain ⟨y1, hy1, hf⟩ := bd hf
  have hK : mmKN μ y1.2 := hK.tr (kX3_canMake_kn hy1)
  rcases it_or hf with ⟨c2, hf⟩ | ⟨c2, hf⟩
  · skip
    obtain rfl := Option.some.inj hf
    exact hK
  · skip
    obtain ⟨y3, hy3, hf⟩ := bd hf
    have hK : mmKN μ y3.2 := hK.tr (kX3_make_kn hy3)
    obtain ⟨g4, hf⟩ := gd hf
    obtain ⟨g5, hf⟩ := gd hf
    obtain ⟨μ6, e6, hf⟩ := stx hf
    have hK : mmKN μ μ6 := by rw [e6]; exact hK.sI
    obtain ⟨μ7, e7, hf⟩ := stx hf
    have hK : mmKN μ μ7 := by rw [e7]; exact hK.sI
    obtain ⟨μ8, e8, hf⟩ := stx hf
    have hK : mmKN μ μ8 := by rw [e8]; exact hK.sI
    obtain ⟨y9, hy9, hf⟩ := bd hf
    have hK : mmKN μ y9 := hK.tr (kX2_goOnAt_kn hy9)
    obtain ⟨μ10, e10, hf⟩ := stx hf
    have hK : mmKN μ μ10 := by rw [e10]; exact hK.sP
    obtain rfl := Option.some.inj hf
    exact hK
abbrev rmX3_doFrom : Room := { frames := 2, cells := 0, slots := 0, locals := 48 }
set_option maxRecDepth 100000 in
set_option maxHeartbeats 4000000 in
theorem kX3_doFrom_c (l : Launch) (G : mmG) (A : Nat → Prop) {μ : MM} {res : Int32 × MM} {h0 : Nat} {h1 : Nat} {x2 : Int32} (hk0 : mK μ h0 = 4) (hf : fX3_doFrom h0 h1 x2 μ = some res) : Met l yX3_doFrom [.code yX3_doFrom cX3_doFrom 4 (some (.int))] rmX3_doFrom (mmPc G A μ [rf h0, rf h1, .int x2]) (mmQ G A res.2 (some (.int res.1))) 0 0 A := by
  refine mm_ofW (by decide +kernel) (by simp [lg_sl, rf_cat, int_cat]) ?_
  intro p e s m below meth c ls S hR hA hS hr hlocks hl hnm
  have hl : lv_has ls 4 [(0, rf h0), (1, rf h1), (2, .int x2)] := by simpa [lv_args, rf_cat, int_cat] using hl
  have E0 : mmEnv p m c cX3_doFrom 4 s _ RX3 G A meth (some (.int)) := ⟨S, hA, hr, hlocks⟩
  have hK : mmKN μ μ := mmKN.rf
  unfold fX3_doFrom at hf
  refine mm_aload_n S dX3_doFrom_0 rfl (lv_at hl 0 rfl) ?_
  refine lv_iload_n S.1 S.2.1 dX3_doFrom_1 rfl (lv_at hl 2 rfl) ?_
  obtain ⟨y1, hy1, hf⟩ := bd hf
  refine mm_callVi S hR hS hA (As := [.int x2]) (rest := []) cvX3_277 (hK.k hk0) (kX3_canMake_c l G A (hK.k hk0) hy1) rfl rfl ⟨Nat.le_of_ble_eq_true rfl, Nat.le_of_ble_eq_true rfl⟩ rfl hl.1 rfl (lv_room (by simp [rf_cat, int_cat, long_cat])) dX3_doFrom_2 ⟨Nat.zero_le _, Nat.zero_le _⟩ (fun H locs hR hS => ?_)
  have hK : mmKN μ y1.2 := hK.tr (kX3_canMake_kn hy1)
  refine lv_if_ne (tgt := 10) S.1 S.2.1 dX3_doFrom_5 (by decide) (fun c2 => ?_) (fun c2 => ?_)
  · have hf := it_f hf c2
    refine mm_aload_n S dX3_doFrom_10 rfl (lv_at hl 0 rfl) ?_
    refine lv_iload_n S.1 S.2.1 dX3_doFrom_11 rfl (lv_at hl 2 rfl) ?_
    refine lv_iconst (v := 2) S.1 S.2.1 dX3_doFrom_12 (by decide) ?_
    refine lv_iconst (v := (-1)) S.1 S.2.1 dX3_doFrom_13 (by decide) ?_
    obtain ⟨y3, hy3, hf⟩ := bd hf
    refine mm_callVh S hR hS hA (As := [.int x2, .int 2, .int (-1)]) (rest := []) cvX3_280 (hK.k hk0) (kX3_make_c l G A (hK.k hk0) hy3) rfl rfl ⟨Nat.le_of_ble_eq_true rfl, Nat.le_of_ble_eq_true rfl⟩ rfl hl.1 rfl (lv_room (by simp [rf_cat, int_cat, long_cat])) dX3_doFrom_14 ⟨Nat.zero_le _, Nat.zero_le _⟩ (fun H locs hR hS => ?_)
    have hK : mmKN μ y3.2 := hK.tr (kX3_make_kn hy3)
    refine mm_astore_n (i := 3) (lv' := [(3, rf y3.1), (0, rf h0), (1, rf h1), (2, .int x2)]) S dX3_doFrom_17 rfl hl (by decide) rfl (fun ls hl => ?_)
    refine mm_aload_n S dX3_doFrom_18 rfl (lv_at hl 0 rfl) ?_
    refine mm_aload_n S dX3_doFrom_19 rfl (lv_at hl 2 rfl) ?_
    obtain ⟨g4, hf⟩ := gd hf
    refine mm_geti S hR fdX3_101 (hK.k g4) rfl dX3_doFrom_20 ?_
    obtain ⟨g5, hf⟩ := gd hf
    refine mm_puti S hR hS fpX3_141 (hK.k g5) rfl rfl rfl dX3_doFrom_23 (fun H locs hR hS => ?_)
    obtain ⟨μ6, e6, hf⟩ := stx hf
    rw [← e6] at hR
    have hK : mmKN μ μ6 := by rw [e6]; exact hK.sI
    refine mm_aload_n S dX3_doFrom_26 rfl (lv_at hl 2 rfl) ?_
    refine mm_aload_n S dX3_doFrom_27 rfl (lv_at hl 0 rfl) ?_
    refine mm_geti S hR fdX3_101 (hK.k g5) rfl dX3_doFrom_28 ?_
    refine mm_puti S hR hS fpX3_211 (hK.k g4) rfl rfl rfl dX3_doFrom_31 (fun H locs hR hS => ?_)
    obtain ⟨μ7, e7, hf⟩ := stx hf
    rw [← e7] at hR
    have hK : mmKN μ μ7 := by rw [e7]; exact hK.sI
    refine mm_aload_n S dX3_doFrom_34 rfl (lv_at hl 2 rfl) ?_
    refine lv_iconst (v := 1) S.1 S.2.1 dX3_doFrom_35 (by decide) ?_
    refine mm_puti S hR hS fpX3_68 (hK.k g4) rfl rfl rfl dX3_doFrom_36 (fun H locs hR hS => ?_)
    obtain ⟨μ8, e8, hf⟩ := stx hf
    rw [← e8] at hR
    have hK : mmKN μ μ8 := by rw [e8]; exact hK.sI
    refine mm_aload_n S dX3_doFrom_39 rfl (lv_at hl 0 rfl) ?_
    refine lv_iconst (v := 0) S.1 S.2.1 dX3_doFrom_40 (by decide) ?_
    obtain ⟨y9, hy9, hf⟩ := bd hf
    refine mm_callVv S hR hS hA (As := [.int 0]) (rest := []) cvX3_114 (hK.k g5) (kX2_goOnAt_c l G A (hK.k g5) hy9) rfl rfl ⟨Nat.le_of_ble_eq_true rfl, Nat.le_of_ble_eq_true rfl⟩ rfl hl.1 rfl (lv_room (by simp [rf_cat, int_cat, long_cat])) dX3_doFrom_41 ⟨Nat.zero_le _, Nat.zero_le _⟩ (fun H locs hR hS => ?_)
    have hK : mmKN μ y9 := hK.tr (kX2_goOnAt_kn hy9)
    refine mm_aload_n S dX3_doFrom_44 rfl (lv_at hl 1 rfl) ?_
    refine mm_aload_n S dX3_doFrom_45 rfl (lv_at hl 0 rfl) ?_
    refine mm_putp S hR hS fpX3_38 (hK.k hk0) rfl nr_ok fr_ok dX3_doFrom_46 (fun H locs hR hS => ?_)
    obtain ⟨μ10, e10, hf⟩ := stx hf
    rw [← e10] at hR
    have hK : mmKN μ μ10 := by rw [e10]; exact hK.sP
    refine lv_iconst (v := 0) S.1 S.2.1 dX3_doFrom_49 (by decide) ?_
    obtain rfl := Option.some.inj hf
    exact mm_iret S hR hS hr hlocks dX3_doFrom_50
  · have hf := it_t hf c2
    refine lv_iconst (v := 4) S.1 S.2.1 dX3_doFrom_8 (by decide) ?_
    obtain rfl := Option.some.inj hf
    exact mm_iret S hR hS hr hlocks dX3_doFrom_9
-- X3_doSleep
def fX3_doSleep (h0 : Nat) (h1 : Nat) (x2 : Int32) (μ : MM) : Option (Int32 × MM) :=
  if (mI μ h0 9) = ((-1) : Int32) then (some (3, μ)) else ((fX3_takesCancel h0 μ).bind fun y2 => if y2.1 = 0 then ((fX3_at h0 (mI y2.2 h0 9) y2.2).bind fun y4 => if mK μ y4.1 = 3 then st (sI y4.2 y4.1 12 ((mI y4.2 h0 6) + x2)) fun μ6 => (fX3_waitAt h0 h1 μ6).bind fun y7 => some (0, y7) else none) else (some (9, y2.2)))
set_option maxRecDepth 100000 in
set_option maxHeartbeats 4000000 in
theorem kX3_doSleep_kn {μ : MM} {res : Int32 × MM} {h0 : Nat} {h1 : Nat} {x2 : Int32} (hf : fX3_doSleep h0 h1 x2 μ = some res) : mmKN μ res.2 := by
  have hK : mmKN μ μ := mmKN.rf
  unfold fX3_doSleep at hf
  rcases it_or hf with ⟨c1, hf⟩ | ⟨c1, hf⟩
  · skip
    obtain rfl := Option.some.inj hf
    exact hK
  · skip
    obtain ⟨y2, hy2, hf⟩ := bd hf
    have hK : mmKN μ y2.2 := hK.tr (kX3_takesCancel_kn hy2)
    rcases it_or hf with ⟨c3, hf⟩ | ⟨c3, hf⟩
    · skip
      obtain ⟨y4, hy4, hf⟩ := bd hf
      have hK : mmKN μ y4.2 := hK.tr (kX3_at_kn hy4)
      obtain ⟨g5, hf⟩ := gd hf
      obtain ⟨μ6, e6, hf⟩ := stx hf
      have hK : mmKN μ μ6 := by rw [e6]; exact hK.sI
      obtain ⟨y7, hy7, hf⟩ := bd hf
      have hK : mmKN μ y7 := hK.tr (kX3_waitAt_kn hy7)
      obtain rfl := Option.some.inj hf
      exact hK
    · skip
      obtain rfl := Option.some.inj hf
      exact hK
abbrev rmX3_doSleep : Room := { frames := 2, cells := 0, slots := 0, locals := 42 }
set_option maxRecDepth 100000 in
set_option maxHeartbeats 4000000 in
theorem kX3_doSleep_c (l : Launch) (G : mmG) (A : Nat → Prop) {μ : MM} {res : Int32 × MM} {h0 : Nat} {h1 : Nat} {x2 : Int32} (hk0 : mK μ h0 = 4) (hf : fX3_doSleep h0 h1 x2 μ = some res) : Met l yX3_doSleep [.code yX3_doSleep cX3_doSleep 3 (some (.int))] rmX3_doSleep (mmPc G A μ [rf h0, rf h1, .int x2]) (mmQ G A res.2 (some (.int res.1))) 0 0 A := by
  refine mm_ofW (by decide +kernel) (by simp [lg_sl, rf_cat, int_cat]) ?_
  intro p e s m below meth c ls S hR hA hS hr hlocks hl hnm
  have hl : lv_has ls 3 [(0, rf h0), (1, rf h1), (2, .int x2)] := by simpa [lv_args, rf_cat, int_cat] using hl
  have E0 : mmEnv p m c cX3_doSleep 3 s _ RX3 G A meth (some (.int)) := ⟨S, hA, hr, hlocks⟩
  have hK : mmKN μ μ := mmKN.rf
  unfold fX3_doSleep at hf
  refine mm_aload_n S dX3_doSleep_0 rfl (lv_at hl 0 rfl) ?_
  refine mm_geti S hR fdX3_202 (hK.k hk0) rfl dX3_doSleep_1 ?_
  refine lv_iconst (v := (-1)) S.1 S.2.1 dX3_doSleep_4 (by decide) ?_
  refine lv_icmp_ne (tgt := 10) S.1 S.2.1 dX3_doSleep_5 (by decide) (fun c1 => ?_) (fun c1 => ?_)
  · have hf := it_f hf c1
    refine mm_aload_n S dX3_doSleep_10 rfl (lv_at hl 0 rfl) ?_
    obtain ⟨y2, hy2, hf⟩ := bd hf
    refine mm_callVi S hR hS hA (As := []) (rest := []) cvX3_156 (hK.k hk0) (kX3_takesCancel_c l G A (hK.k hk0) hy2) rfl rfl ⟨Nat.le_of_ble_eq_true rfl, Nat.le_of_ble_eq_true rfl⟩ rfl hl.1 rfl (lv_room (by simp [rf_cat, int_cat, long_cat])) dX3_doSleep_11 ⟨Nat.zero_le _, Nat.zero_le _⟩ (fun H locs hR hS => ?_)
    have hK : mmKN μ y2.2 := hK.tr (kX3_takesCancel_kn hy2)
    refine lv_if_eq (tgt := 20) S.1 S.2.1 dX3_doSleep_14 (by decide) (fun c3 => ?_) (fun c3 => ?_)
    · have hf := it_t hf c3
      refine mm_aload_n S dX3_doSleep_20 rfl (lv_at hl 0 rfl) ?_
      refine mm_aload_n S dX3_doSleep_21 rfl (lv_at hl 0 rfl) ?_
      refine mm_geti S hR fdX3_202 (hK.k hk0) rfl dX3_doSleep_22 ?_
      obtain ⟨y4, hy4, hf⟩ := bd hf
      refine mm_callVh S hR hS hA (As := [.int (mI y2.2 h0 9)]) (rest := []) cvX3_55 (hK.k hk0) (kX3_at_c l G A (hK.k hk0) hy4) rfl rfl ⟨Nat.le_of_ble_eq_true rfl, Nat.le_of_ble_eq_true rfl⟩ rfl hl.1 rfl (lv_room (by simp [rf_cat, int_cat, long_cat])) dX3_doSleep_25 ⟨Nat.zero_le _, Nat.zero_le _⟩ (fun H locs hR hS => ?_)
      have hK : mmKN μ y4.2 := hK.tr (kX3_at_kn hy4)
      refine mm_aload_n S dX3_doSleep_28 rfl (lv_at hl 0 rfl) ?_
      refine mm_geti S hR fdX3_45 (hK.k hk0) rfl dX3_doSleep_29 ?_
      refine lv_iload_n S.1 S.2.1 dX3_doSleep_32 rfl (lv_at hl 2 rfl) ?_
      refine lv_iadd S.1 S.2.1 dX3_doSleep_33 ?_
      obtain ⟨g5, hf⟩ := gd hf
      refine mm_puti S hR hS fpX3_196 (hK.k g5) rfl rfl rfl dX3_doSleep_34 (fun H locs hR hS => ?_)
      obtain ⟨μ6, e6, hf⟩ := stx hf
      rw [← e6] at hR
      have hK : mmKN μ μ6 := by rw [e6]; exact hK.sI
      refine mm_aload_n S dX3_doSleep_37 rfl (lv_at hl 0 rfl) ?_
      refine mm_aload_n S dX3_doSleep_38 rfl (lv_at hl 1 rfl) ?_
      obtain ⟨y7, hy7, hf⟩ := bd hf
      refine mm_callVv S hR hS hA (As := [rf h1]) (rest := []) cvX3_274 (hK.k hk0) (kX3_waitAt_c l G A (hK.k hk0) hy7) rfl rfl ⟨Nat.le_of_ble_eq_true rfl, Nat.le_of_ble_eq_true rfl⟩ rfl hl.1 rfl (lv_room (by simp [rf_cat, int_cat, long_cat])) dX3_doSleep_39 ⟨Nat.zero_le _, Nat.zero_le _⟩ (fun H locs hR hS => ?_)
      have hK : mmKN μ y7 := hK.tr (kX3_waitAt_kn hy7)
      refine lv_iconst (v := 0) S.1 S.2.1 dX3_doSleep_42 (by decide) ?_
      obtain rfl := Option.some.inj hf
      exact mm_iret S hR hS hr hlocks dX3_doSleep_43
    · have hf := it_f hf c3
      refine lv_bipush (v := 9) S.1 S.2.1 dX3_doSleep_17 (by decide) ?_
      obtain rfl := Option.some.inj hf
      exact mm_iret S hR hS hr hlocks dX3_doSleep_19
  · have hf := it_t hf c1
    refine lv_iconst (v := 3) S.1 S.2.1 dX3_doSleep_8 (by decide) ?_
    obtain rfl := Option.some.inj hf
    exact mm_iret S hR hS hr hlocks dX3_doSleep_9
-- X3_doAwait
def fX3_doAwait (h0 : Nat) (h1 : Nat) (μ : MM) : Option (Int32 × MM) :=
  if (mI μ h0 9) = ((-1) : Int32) then (some (3, μ)) else (if mK μ h1 = 3 then (fX3_has h0 (mI μ h1 7) 1 μ).bind fun y3 => if y3.1 = 0 then (some (6, y3.2)) else (if (mI μ h1 7) = (mI y3.2 h0 9) then (some (6, y3.2)) else ((fX3_at h0 (mI μ h1 7) y3.2).bind fun y6 => if mK μ y6.1 = 3 then (fX2_isOver y6.1 y6.2).bind fun y7 => if y7.1 = 0 then ((fX3_awaitsTheOwnOne h0 (mI μ h1 7) y7.2).bind fun y10 => if y10.1 = 0 then ((fX3_takesCancel h0 y10.2).bind fun y12 => if y12.1 = 0 then ((fX3_at h0 (mI y12.2 h0 9) y12.2).bind fun y14 => if mK μ y14.1 = 3 then st (sI y14.2 y14.1 13 (mI μ h1 7)) fun μ16 => if mK μ (mP μ16 h0 4) = 5 then (fX4_add (mP μ16 h0 4) (mI μ16 h0 9) μ16).bind fun y17 => (fX3_waitAt h0 h1 y17).bind fun y19 => some (0, y19) else none else none) else (some (9, y12.2))) else (some (2, y10.2))) else ((fX3_at h0 (mI μ h1 7) y7.2).bind fun y20 => (fX3_takeOutcome h0 h1 y20.1 y20.2).bind fun y21 => some (y21.1, y21.2)) else none)) else none)
set_option maxRecDepth 100000 in
set_option maxHeartbeats 4000000 in
theorem kX3_doAwait_kn {μ : MM} {res : Int32 × MM} {h0 : Nat} {h1 : Nat} (hf : fX3_doAwait h0 h1 μ = some res) : mmKN μ res.2 := by
  have hK : mmKN μ μ := mmKN.rf
  unfold fX3_doAwait at hf
  rcases it_or hf with ⟨c1, hf⟩ | ⟨c1, hf⟩
  · skip
    obtain rfl := Option.some.inj hf
    exact hK
  · skip
    obtain ⟨g2, hf⟩ := gd hf
    obtain ⟨y3, hy3, hf⟩ := bd hf
    have hK : mmKN μ y3.2 := hK.tr (kX3_has_kn hy3)
    rcases it_or hf with ⟨c4, hf⟩ | ⟨c4, hf⟩
    · skip
      obtain rfl := Option.some.inj hf
      exact hK
    · skip
      rcases it_or hf with ⟨c5, hf⟩ | ⟨c5, hf⟩
      · skip
        obtain rfl := Option.some.inj hf
        exact hK
      · skip
        obtain ⟨y6, hy6, hf⟩ := bd hf
        have hK : mmKN μ y6.2 := hK.tr (kX3_at_kn hy6)
        obtain ⟨g8, hf⟩ := gd hf
        obtain ⟨y7, hy7, hf⟩ := bd hf
        have hK : mmKN μ y7.2 := hK.tr (kX2_isOver_kn hy7)
        rcases it_or hf with ⟨c9, hf⟩ | ⟨c9, hf⟩
        · skip
          obtain ⟨y10, hy10, hf⟩ := bd hf
          have hK : mmKN μ y10.2 := hK.tr (kX3_awaitsTheOwnOne_kn hy10)
          rcases it_or hf with ⟨c11, hf⟩ | ⟨c11, hf⟩
          · skip
            obtain ⟨y12, hy12, hf⟩ := bd hf
            have hK : mmKN μ y12.2 := hK.tr (kX3_takesCancel_kn hy12)
            rcases it_or hf with ⟨c13, hf⟩ | ⟨c13, hf⟩
            · skip
              obtain ⟨y14, hy14, hf⟩ := bd hf
              have hK : mmKN μ y14.2 := hK.tr (kX3_at_kn hy14)
              obtain ⟨g15, hf⟩ := gd hf
              obtain ⟨μ16, e16, hf⟩ := stx hf
              have hK : mmKN μ μ16 := by rw [e16]; exact hK.sI
              obtain ⟨g18, hf⟩ := gd hf
              obtain ⟨y17, hy17, hf⟩ := bd hf
              have hK : mmKN μ y17 := hK.tr (kX4_add_kn hy17)
              obtain ⟨y19, hy19, hf⟩ := bd hf
              have hK : mmKN μ y19 := hK.tr (kX3_waitAt_kn hy19)
              obtain rfl := Option.some.inj hf
              exact hK
            · skip
              obtain rfl := Option.some.inj hf
              exact hK
          · skip
            obtain rfl := Option.some.inj hf
            exact hK
        · skip
          obtain ⟨y20, hy20, hf⟩ := bd hf
          have hK : mmKN μ y20.2 := hK.tr (kX3_at_kn hy20)
          obtain ⟨y21, hy21, hf⟩ := bd hf
          have hK : mmKN μ y21.2 := hK.tr (kX3_takeOutcome_kn hy21)
          obtain rfl := Option.some.inj hf
          exact hK
abbrev rmX3_doAwait : Room := { frames := 2, cells := 0, slots := 0, locals := 44 }
set_option maxRecDepth 100000 in
set_option maxHeartbeats 4000000 in
theorem kX3_doAwait_c (l : Launch) (G : mmG) (A : Nat → Prop) {μ : MM} {res : Int32 × MM} {h0 : Nat} {h1 : Nat} (hk0 : mK μ h0 = 4) (hf : fX3_doAwait h0 h1 μ = some res) : Met l yX3_doAwait [.code yX3_doAwait cX3_doAwait 3 (some (.int))] rmX3_doAwait (mmPc G A μ [rf h0, rf h1]) (mmQ G A res.2 (some (.int res.1))) 0 0 A := by
  refine mm_ofW (by decide +kernel) (by simp [lg_sl, rf_cat, int_cat]) ?_
  intro p e s m below meth c ls S hR hA hS hr hlocks hl hnm
  have hl : lv_has ls 3 [(0, rf h0), (1, rf h1)] := by simpa [lv_args, rf_cat, int_cat] using hl
  have E0 : mmEnv p m c cX3_doAwait 3 s _ RX3 G A meth (some (.int)) := ⟨S, hA, hr, hlocks⟩
  have hK : mmKN μ μ := mmKN.rf
  unfold fX3_doAwait at hf
  refine mm_aload_n S dX3_doAwait_0 rfl (lv_at hl 0 rfl) ?_
  refine mm_geti S hR fdX3_202 (hK.k hk0) rfl dX3_doAwait_1 ?_
  refine lv_iconst (v := (-1)) S.1 S.2.1 dX3_doAwait_4 (by decide) ?_
  refine lv_icmp_ne (tgt := 10) S.1 S.2.1 dX3_doAwait_5 (by decide) (fun c1 => ?_) (fun c1 => ?_)
  · have hf := it_f hf c1
    refine mm_aload_n S dX3_doAwait_10 rfl (lv_at hl 1 rfl) ?_
    obtain ⟨g2, hf⟩ := gd hf
    refine mm_geti S hR fdX3_117 (hK.k g2) rfl dX3_doAwait_11 ?_
    refine lv_istore_n (i := 2) (lv' := [(2, .int (mI μ h1 7)), (0, rf h0), (1, rf h1)]) S.1 S.2.1 dX3_doAwait_14 rfl hl (by decide) (by simp [rf_cat]) (fun ls hl => ?_)
    refine mm_aload_n S dX3_doAwait_15 rfl (lv_at hl 1 rfl) ?_
    refine lv_iload_n S.1 S.2.1 dX3_doAwait_16 rfl (lv_at hl 0 rfl) ?_
    refine lv_iconst (v := 1) S.1 S.2.1 dX3_doAwait_17 (by decide) ?_
    obtain ⟨y3, hy3, hf⟩ := bd hf
    refine mm_callVi S hR hS hA (As := [.int (mI μ h1 7), .int 1]) (rest := []) cvX3_180 (hK.k hk0) (kX3_has_c l G A (hK.k hk0) hy3) rfl rfl ⟨Nat.le_of_ble_eq_true rfl, Nat.le_of_ble_eq_true rfl⟩ rfl hl.1 rfl (lv_room (by simp [rf_cat, int_cat, long_cat])) dX3_doAwait_18 ⟨Nat.zero_le _, Nat.zero_le _⟩ (fun H locs hR hS => ?_)
    have hK : mmKN μ y3.2 := hK.tr (kX3_has_kn hy3)
    refine lv_if_eq (tgt := 32) S.1 S.2.1 dX3_doAwait_21 (by decide) (fun c4 => ?_) (fun c4 => ?_)
    · have hf := it_t hf c4
      refine lv_bipush (v := 6) S.1 S.2.1 dX3_doAwait_32 (by decide) ?_
      obtain rfl := Option.some.inj hf
      exact mm_iret S hR hS hr hlocks dX3_doAwait_34
    · have hf := it_f hf c4
      refine lv_iload_n S.1 S.2.1 dX3_doAwait_24 rfl (lv_at hl 0 rfl) ?_
      refine mm_aload_n S dX3_doAwait_25 rfl (lv_at hl 1 rfl) ?_
      refine mm_geti S hR fdX3_202 (hK.k hk0) rfl dX3_doAwait_26 ?_
      refine lv_icmp_ne (tgt := 35) S.1 S.2.1 dX3_doAwait_29 (by decide) (fun c5 => ?_) (fun c5 => ?_)
      · have hf := it_f hf c5
        refine mm_aload_n S dX3_doAwait_35 rfl (lv_at hl 1 rfl) ?_
        refine lv_iload_n S.1 S.2.1 dX3_doAwait_36 rfl (lv_at hl 0 rfl) ?_
        obtain ⟨y6, hy6, hf⟩ := bd hf
        refine mm_callVh S hR hS hA (As := [.int (mI μ h1 7)]) (rest := []) cvX3_55 (hK.k hk0) (kX3_at_c l G A (hK.k hk0) hy6) rfl rfl ⟨Nat.le_of_ble_eq_true rfl, Nat.le_of_ble_eq_true rfl⟩ rfl hl.1 rfl (lv_room (by simp [rf_cat, int_cat, long_cat])) dX3_doAwait_37 ⟨Nat.zero_le _, Nat.zero_le _⟩ (fun H locs hR hS => ?_)
        have hK : mmKN μ y6.2 := hK.tr (kX3_at_kn hy6)
        obtain ⟨g8, hf⟩ := gd hf
        obtain ⟨y7, hy7, hf⟩ := bd hf
        refine mm_callVi S hR hS hA (As := []) (rest := []) cvX3_71 (hK.k g8) (kX2_isOver_c l G A (hK.k g8) hy7) rfl rfl ⟨Nat.le_of_ble_eq_true rfl, Nat.le_of_ble_eq_true rfl⟩ rfl hl.1 rfl (lv_room (by simp [rf_cat, int_cat, long_cat])) dX3_doAwait_40 ⟨Nat.zero_le _, Nat.zero_le _⟩ (fun H locs hR hS => ?_)
        have hK : mmKN μ y7.2 := hK.tr (kX2_isOver_kn hy7)
        refine lv_if_eq (tgt := 57) S.1 S.2.1 dX3_doAwait_43 (by decide) (fun c9 => ?_) (fun c9 => ?_)
        · have hf := it_t hf c9
          refine mm_aload_n S dX3_doAwait_57 rfl (lv_at hl 1 rfl) ?_
          refine lv_iload_n S.1 S.2.1 dX3_doAwait_58 rfl (lv_at hl 0 rfl) ?_
          obtain ⟨y10, hy10, hf⟩ := bd hf
          refine mm_callVi S hR hS hA (As := [.int (mI μ h1 7)]) (rest := []) cvX3_284 (hK.k hk0) (kX3_awaitsTheOwnOne_c l G A (hK.k hk0) hy10) rfl rfl ⟨Nat.le_of_ble_eq_true rfl, Nat.le_of_ble_eq_true rfl⟩ rfl hl.1 rfl (lv_room (by simp [rf_cat, int_cat, long_cat])) dX3_doAwait_59 ⟨Nat.zero_le _, Nat.zero_le _⟩ (fun H locs hR hS => ?_)
          have hK : mmKN μ y10.2 := hK.tr (kX3_awaitsTheOwnOne_kn hy10)
          refine lv_if_eq (tgt := 67) S.1 S.2.1 dX3_doAwait_62 (by decide) (fun c11 => ?_) (fun c11 => ?_)
          · have hf := it_t hf c11
            refine mm_aload_n S dX3_doAwait_67 rfl (lv_at hl 1 rfl) ?_
            obtain ⟨y12, hy12, hf⟩ := bd hf
            refine mm_callVi S hR hS hA (As := []) (rest := []) cvX3_156 (hK.k hk0) (kX3_takesCancel_c l G A (hK.k hk0) hy12) rfl rfl ⟨Nat.le_of_ble_eq_true rfl, Nat.le_of_ble_eq_true rfl⟩ rfl hl.1 rfl (lv_room (by simp [rf_cat, int_cat, long_cat])) dX3_doAwait_68 ⟨Nat.zero_le _, Nat.zero_le _⟩ (fun H locs hR hS => ?_)
            have hK : mmKN μ y12.2 := hK.tr (kX3_takesCancel_kn hy12)
            refine lv_if_eq (tgt := 77) S.1 S.2.1 dX3_doAwait_71 (by decide) (fun c13 => ?_) (fun c13 => ?_)
            · have hf := it_t hf c13
              refine mm_aload_n S dX3_doAwait_77 rfl (lv_at hl 1 rfl) ?_
              refine mm_aload_n S dX3_doAwait_78 rfl (lv_at hl 1 rfl) ?_
              refine mm_geti S hR fdX3_202 (hK.k hk0) rfl dX3_doAwait_79 ?_
              obtain ⟨y14, hy14, hf⟩ := bd hf
              refine mm_callVh S hR hS hA (As := [.int (mI y12.2 h0 9)]) (rest := []) cvX3_55 (hK.k hk0) (kX3_at_c l G A (hK.k hk0) hy14) rfl rfl ⟨Nat.le_of_ble_eq_true rfl, Nat.le_of_ble_eq_true rfl⟩ rfl hl.1 rfl (lv_room (by simp [rf_cat, int_cat, long_cat])) dX3_doAwait_82 ⟨Nat.zero_le _, Nat.zero_le _⟩ (fun H locs hR hS => ?_)
              have hK : mmKN μ y14.2 := hK.tr (kX3_at_kn hy14)
              refine lv_iload_n S.1 S.2.1 dX3_doAwait_85 rfl (lv_at hl 0 rfl) ?_
              obtain ⟨g15, hf⟩ := gd hf
              refine mm_puti S hR hS fpX3_82 (hK.k g15) rfl rfl rfl dX3_doAwait_86 (fun H locs hR hS => ?_)
              obtain ⟨μ16, e16, hf⟩ := stx hf
              rw [← e16] at hR
              have hK : mmKN μ μ16 := by rw [e16]; exact hK.sI
              refine mm_aload_n S dX3_doAwait_89 rfl (lv_at hl 1 rfl) ?_
              refine mm_getp S hR fdX3_31 (hK.k hk0) rfl dX3_doAwait_90 ?_
              refine mm_aload_n S dX3_doAwait_93 rfl (lv_at hl 1 rfl) ?_
              refine mm_geti S hR fdX3_202 (hK.k hk0) rfl dX3_doAwait_94 ?_
              obtain ⟨g18, hf⟩ := gd hf
              obtain ⟨y17, hy17, hf⟩ := bd hf
              refine mm_callVv S hR hS hA (As := [.int (mI μ16 h0 9)]) (rest := []) cvX3_104 (hK.k g18) (kX4_add_c l G A (hK.k g18) hy17) rfl rfl ⟨Nat.le_of_ble_eq_true rfl, Nat.le_of_ble_eq_true rfl⟩ rfl hl.1 rfl (lv_room (by simp [rf_cat, int_cat, long_cat])) dX3_doAwait_97 ⟨Nat.zero_le _, Nat.zero_le _⟩ (fun H locs hR hS => ?_)
              have hK : mmKN μ y17 := hK.tr (kX4_add_kn hy17)
              refine mm_aload_n S dX3_doAwait_100 rfl (lv_at hl 1 rfl) ?_
              refine mm_aload_n S dX3_doAwait_101 rfl (lv_at hl 2 rfl) ?_
              obtain ⟨y19, hy19, hf⟩ := bd hf
              refine mm_callVv S hR hS hA (As := [rf h1]) (rest := []) cvX3_274 (hK.k hk0) (kX3_waitAt_c l G A (hK.k hk0) hy19) rfl rfl ⟨Nat.le_of_ble_eq_true rfl, Nat.le_of_ble_eq_true rfl⟩ rfl hl.1 rfl (lv_room (by simp [rf_cat, int_cat, long_cat])) dX3_doAwait_102 ⟨Nat.zero_le _, Nat.zero_le _⟩ (fun H locs hR hS => ?_)
              have hK : mmKN μ y19 := hK.tr (kX3_waitAt_kn hy19)
              refine lv_iconst (v := 0) S.1 S.2.1 dX3_doAwait_105 (by decide) ?_
              obtain rfl := Option.some.inj hf
              exact mm_iret S hR hS hr hlocks dX3_doAwait_106
            · have hf := it_f hf c13
              refine lv_bipush (v := 9) S.1 S.2.1 dX3_doAwait_74 (by decide) ?_
              obtain rfl := Option.some.inj hf
              exact mm_iret S hR hS hr hlocks dX3_doAwait_76
          · have hf := it_f hf c11
            refine lv_iconst (v := 2) S.1 S.2.1 dX3_doAwait_65 (by decide) ?_
            obtain rfl := Option.some.inj hf
            exact mm_iret S hR hS hr hlocks dX3_doAwait_66
        · have hf := it_f hf c9
          refine mm_aload_n S dX3_doAwait_46 rfl (lv_at hl 1 rfl) ?_
          refine mm_aload_n S dX3_doAwait_47 rfl (lv_at hl 2 rfl) ?_
          refine mm_aload_n S dX3_doAwait_48 rfl (lv_at hl 1 rfl) ?_
          refine lv_iload_n S.1 S.2.1 dX3_doAwait_49 rfl (lv_at hl 0 rfl) ?_
          obtain ⟨y20, hy20, hf⟩ := bd hf
          refine mm_callVh S hR hS hA (As := [.int (mI μ h1 7)]) (rest := [rf h1, rf h0]) cvX3_55 (hK.k hk0) (kX3_at_c l G A (hK.k hk0) hy20) rfl rfl ⟨Nat.le_of_ble_eq_true rfl, Nat.le_of_ble_eq_true rfl⟩ rfl hl.1 rfl (lv_room (by simp [rf_cat, int_cat, long_cat])) dX3_doAwait_50 ⟨Nat.zero_le _, Nat.zero_le _⟩ (fun H locs hR hS => ?_)
          have hK : mmKN μ y20.2 := hK.tr (kX3_at_kn hy20)
          obtain ⟨y21, hy21, hf⟩ := bd hf
          refine mm_callVi S hR hS hA (As := [rf h1, rf y20.1]) (rest := []) cvX3_170 (hK.k hk0) (kX3_takeOutcome_c l G A (hK.k hk0) hy21) rfl rfl ⟨Nat.le_of_ble_eq_true rfl, Nat.le_of_ble_eq_true rfl⟩ rfl hl.1 rfl (lv_room (by simp [rf_cat, int_cat, long_cat])) dX3_doAwait_53 ⟨Nat.zero_le _, Nat.zero_le _⟩ (fun H locs hR hS => ?_)
          have hK : mmKN μ y21.2 := hK.tr (kX3_takeOutcome_kn hy21)
          obtain rfl := Option.some.inj hf
          exact mm_iret S hR hS hr hlocks dX3_doAwait_56
      · have hf := it_t hf c5
        refine lv_bipush (v := 6) S.1 S.2.1 dX3_doAwait_32 (by decide) ?_
        obtain rfl := Option.some.inj hf
        exact mm_iret S hR hS hr hlocks dX3_doAwait_34
  · have hf := it_t hf c1
    refine lv_iconst (v := 3) S.1 S.2.1 dX3_doAwait_8 (by decide) ?_
    obtain rfl := Option.some.inj hf
    exact mm_iret S hR hS hr hlocks dX3_doAwait_9
-- X3_doSpawn
def fX3_doSpawn (h0 : Nat) (h1 : Nat) (x2 : Int32) (μ : MM) : Option (Int32 × MM) :=
  if (mI μ h0 9) = ((-1) : Int32) then (some (3, μ)) else ((fX3_canMake h0 x2 μ).bind fun y2 => if y2.1 = 0 then (some (4, y2.2)) else ((fX3_make h0 x2 1 (mI y2.2 h0 9) y2.2).bind fun y4 => if mK μ y4.1 = 3 then if mK μ h1 = 3 then st (sI y4.2 h1 7 (mI y4.2 y4.1 0)) fun μ7 => st (sI μ7 h1 6 ((mI μ7 h1 6) + 1)) fun μ8 => some (0, μ8) else none else none))
set_option maxRecDepth 100000 in
set_option maxHeartbeats 4000000 in
theorem kX3_doSpawn_kn {μ : MM} {res : Int32 × MM} {h0 : Nat} {h1 : Nat} {x2 : Int32} (hf : fX3_doSpawn h0 h1 x2 μ = some res) : mmKN μ res.2 := by
  have hK : mmKN μ μ := mmKN.rf
  unfold fX3_doSpawn at hf
  rcases it_or hf with ⟨c1, hf⟩ | ⟨c1, hf⟩
  · skip
    obtain rfl := Option.some.inj hf
    exact hK
  · skip
    obtain ⟨y2, hy2, hf⟩ := bd hf
    have hK : mmKN μ y2.2 := hK.tr (kX3_canMake_kn hy2)
    rcases it_or hf with ⟨c3, hf⟩ | ⟨c3, hf⟩
    · skip
      obtain rfl := Option.some.inj hf
      exact hK
    · skip
      obtain ⟨y4, hy4, hf⟩ := bd hf
      have hK : mmKN μ y4.2 := hK.tr (kX3_make_kn hy4)
      obtain ⟨g5, hf⟩ := gd hf
      obtain ⟨g6, hf⟩ := gd hf
      obtain ⟨μ7, e7, hf⟩ := stx hf
      have hK : mmKN μ μ7 := by rw [e7]; exact hK.sI
      obtain ⟨μ8, e8, hf⟩ := stx hf
      have hK : mmKN μ μ8 := by rw [e8]; exact hK.sI
      obtain rfl := Option.some.inj hf
      exact hK
abbrev rmX3_doSpawn : Room := { frames := 2, cells := 0, slots := 0, locals := 48 }
set_option maxRecDepth 100000 in
set_option maxHeartbeats 4000000 in
theorem kX3_doSpawn_c (l : Launch) (G : mmG) (A : Nat → Prop) {μ : MM} {res : Int32 × MM} {h0 : Nat} {h1 : Nat} {x2 : Int32} (hk0 : mK μ h0 = 4) (hf : fX3_doSpawn h0 h1 x2 μ = some res) : Met l yX3_doSpawn [.code yX3_doSpawn cX3_doSpawn 3 (some (.int))] rmX3_doSpawn (mmPc G A μ [rf h0, rf h1, .int x2]) (mmQ G A res.2 (some (.int res.1))) 0 0 A := by
  refine mm_ofW (by decide +kernel) (by simp [lg_sl, rf_cat, int_cat]) ?_
  intro p e s m below meth c ls S hR hA hS hr hlocks hl hnm
  have hl : lv_has ls 3 [(0, rf h0), (1, rf h1), (2, .int x2)] := by simpa [lv_args, rf_cat, int_cat] using hl
  have E0 : mmEnv p m c cX3_doSpawn 3 s _ RX3 G A meth (some (.int)) := ⟨S, hA, hr, hlocks⟩
  have hK : mmKN μ μ := mmKN.rf
  unfold fX3_doSpawn at hf
  refine mm_aload_n S dX3_doSpawn_0 rfl (lv_at hl 0 rfl) ?_
  refine mm_geti S hR fdX3_202 (hK.k hk0) rfl dX3_doSpawn_1 ?_
  refine lv_iconst (v := (-1)) S.1 S.2.1 dX3_doSpawn_4 (by decide) ?_
  refine lv_icmp_ne (tgt := 10) S.1 S.2.1 dX3_doSpawn_5 (by decide) (fun c1 => ?_) (fun c1 => ?_)
  · have hf := it_f hf c1
    refine mm_aload_n S dX3_doSpawn_10 rfl (lv_at hl 0 rfl) ?_
    refine lv_iload_n S.1 S.2.1 dX3_doSpawn_11 rfl (lv_at hl 2 rfl) ?_
    obtain ⟨y2, hy2, hf⟩ := bd hf
    refine mm_callVi S hR hS hA (As := [.int x2]) (rest := []) cvX3_277 (hK.k hk0) (kX3_canMake_c l G A (hK.k hk0) hy2) rfl rfl ⟨Nat.le_of_ble_eq_true rfl, Nat.le_of_ble_eq_true rfl⟩ rfl hl.1 rfl (lv_room (by simp [rf_cat, int_cat, long_cat])) dX3_doSpawn_12 ⟨Nat.zero_le _, Nat.zero_le _⟩ (fun H locs hR hS => ?_)
    have hK : mmKN μ y2.2 := hK.tr (kX3_canMake_kn hy2)
    refine lv_if_ne (tgt := 20) S.1 S.2.1 dX3_doSpawn_15 (by decide) (fun c3 => ?_) (fun c3 => ?_)
    · have hf := it_f hf c3
      refine mm_aload_n S dX3_doSpawn_20 rfl (lv_at hl 1 rfl) ?_
      refine mm_aload_n S dX3_doSpawn_21 rfl (lv_at hl 0 rfl) ?_
      refine lv_iload_n S.1 S.2.1 dX3_doSpawn_22 rfl (lv_at hl 2 rfl) ?_
      refine lv_iconst (v := 1) S.1 S.2.1 dX3_doSpawn_23 (by decide) ?_
      refine mm_aload_n S dX3_doSpawn_24 rfl (lv_at hl 0 rfl) ?_
      refine mm_geti S hR fdX3_202 (hK.k hk0) rfl dX3_doSpawn_25 ?_
      obtain ⟨y4, hy4, hf⟩ := bd hf
      refine mm_callVh S hR hS hA (As := [.int x2, .int 1, .int (mI y2.2 h0 9)]) (rest := [rf h1]) cvX3_280 (hK.k hk0) (kX3_make_c l G A (hK.k hk0) hy4) rfl rfl ⟨Nat.le_of_ble_eq_true rfl, Nat.le_of_ble_eq_true rfl⟩ rfl hl.1 rfl (lv_room (by simp [rf_cat, int_cat, long_cat])) dX3_doSpawn_28 ⟨Nat.zero_le _, Nat.zero_le _⟩ (fun H locs hR hS => ?_)
      have hK : mmKN μ y4.2 := hK.tr (kX3_make_kn hy4)
      obtain ⟨g5, hf⟩ := gd hf
      refine mm_geti S hR fdX3_101 (hK.k g5) rfl dX3_doSpawn_31 ?_
      obtain ⟨g6, hf⟩ := gd hf
      refine mm_puti S hR hS fpX3_117 (hK.k g6) rfl rfl rfl dX3_doSpawn_34 (fun H locs hR hS => ?_)
      obtain ⟨μ7, e7, hf⟩ := stx hf
      rw [← e7] at hR
      have hK : mmKN μ μ7 := by rw [e7]; exact hK.sI
      refine mm_aload_n S dX3_doSpawn_37 rfl (lv_at hl 1 rfl) ?_
      refine lv_dup S.1 S.2.1 dX3_doSpawn_38 (rf_cat _) ?_
      refine mm_geti S hR fdX3_120 (hK.k g6) rfl dX3_doSpawn_39 ?_
      refine lv_iconst (v := 1) S.1 S.2.1 dX3_doSpawn_42 (by decide) ?_
      refine lv_iadd S.1 S.2.1 dX3_doSpawn_43 ?_
      refine mm_puti S hR hS fpX3_120 (hK.k g6) rfl rfl rfl dX3_doSpawn_44 (fun H locs hR hS => ?_)
      obtain ⟨μ8, e8, hf⟩ := stx hf
      rw [← e8] at hR
      have hK : mmKN μ μ8 := by rw [e8]; exact hK.sI
      refine lv_iconst (v := 0) S.1 S.2.1 dX3_doSpawn_47 (by decide) ?_
      obtain rfl := Option.some.inj hf
      exact mm_iret S hR hS hr hlocks dX3_doSpawn_48
    · have hf := it_t hf c3
      refine lv_iconst (v := 4) S.1 S.2.1 dX3_doSpawn_18 (by decide) ?_
      obtain rfl := Option.some.inj hf
      exact mm_iret S hR hS hr hlocks dX3_doSpawn_19
  · have hf := it_t hf c1
    refine lv_iconst (v := 3) S.1 S.2.1 dX3_doSpawn_8 (by decide) ?_
    obtain rfl := Option.some.inj hf
    exact mm_iret S hR hS hr hlocks dX3_doSpawn_9
-- X3_doShield
def fX3_doShield (h0 : Nat) (h1 : Nat) (x2 : Int32) (μ : MM) : Option (Int32 × MM) :=
  if (mI μ h0 9) = ((-1) : Int32) then (if mK μ h1 = 3 then st (sI μ h1 6 ((mI μ h1 6) + 1)) fun μ3 => some (0, μ3) else none) else ((fX3_at h0 (mI μ h0 9) μ).bind fun y4 => if mK μ y4.1 = 3 then if x2 = (1 : Int32) then (st (sI y4.2 y4.1 14 (jmax 0 ((mI y4.2 y4.1 14) + 1))) fun μ10 => if mK μ h1 = 3 then st (sI μ10 h1 6 ((mI μ10 h1 6) + 1)) fun μ12 => some (0, μ12) else none) else (st (sI y4.2 y4.1 14 (jmax 0 ((mI y4.2 y4.1 14) + (-1)))) fun μ7 => if mK μ h1 = 3 then st (sI μ7 h1 6 ((mI μ7 h1 6) + 1)) fun μ9 => some (0, μ9) else none) else none)
set_option maxRecDepth 100000 in
set_option maxHeartbeats 4000000 in
theorem kX3_doShield_kn {μ : MM} {res : Int32 × MM} {h0 : Nat} {h1 : Nat} {x2 : Int32} (hf : fX3_doShield h0 h1 x2 μ = some res) : mmKN μ res.2 := by
  have hK : mmKN μ μ := mmKN.rf
  unfold fX3_doShield at hf
  rcases it_or hf with ⟨c1, hf⟩ | ⟨c1, hf⟩
  · skip
    obtain ⟨g2, hf⟩ := gd hf
    obtain ⟨μ3, e3, hf⟩ := stx hf
    have hK : mmKN μ μ3 := by rw [e3]; exact hK.sI
    obtain rfl := Option.some.inj hf
    exact hK
  · skip
    obtain ⟨y4, hy4, hf⟩ := bd hf
    have hK : mmKN μ y4.2 := hK.tr (kX3_at_kn hy4)
    obtain ⟨g5, hf⟩ := gd hf
    rcases it_or hf with ⟨c6, hf⟩ | ⟨c6, hf⟩
    · skip
      obtain ⟨μ10, e10, hf⟩ := stx hf
      have hK : mmKN μ μ10 := by rw [e10]; exact hK.sI
      obtain ⟨g11, hf⟩ := gd hf
      obtain ⟨μ12, e12, hf⟩ := stx hf
      have hK : mmKN μ μ12 := by rw [e12]; exact hK.sI
      obtain rfl := Option.some.inj hf
      exact hK
    · skip
      obtain ⟨μ7, e7, hf⟩ := stx hf
      have hK : mmKN μ μ7 := by rw [e7]; exact hK.sI
      obtain ⟨g8, hf⟩ := gd hf
      obtain ⟨μ9, e9, hf⟩ := stx hf
      have hK : mmKN μ μ9 := by rw [e9]; exact hK.sI
      obtain rfl := Option.some.inj hf
      exact hK
abbrev rmX3_doShield : Room := { frames := 1, cells := 0, slots := 0, locals := 21 }
set_option maxRecDepth 100000 in
set_option maxHeartbeats 4000000 in
theorem kX3_doShield_c (l : Launch) (G : mmG) (A : Nat → Prop) {μ : MM} {res : Int32 × MM} {h0 : Nat} {h1 : Nat} {x2 : Int32} (hk0 : mK μ h0 = 4) (hf : fX3_doShield h0 h1 x2 μ = some res) : Met l yX3_doShield [.code yX3_doShield cX3_doShield 4 (some (.int))] rmX3_doShield (mmPc G A μ [rf h0, rf h1, .int x2]) (mmQ G A res.2 (some (.int res.1))) 0 0 A := by
  refine mm_ofW (by decide +kernel) (by simp [lg_sl, rf_cat, int_cat]) ?_
  intro p e s m below meth c ls S hR hA hS hr hlocks hl hnm
  have hl : lv_has ls 4 [(0, rf h0), (1, rf h1), (2, .int x2)] := by simpa [lv_args, rf_cat, int_cat] using hl
  have E0 : mmEnv p m c cX3_doShield 4 s _ RX3 G A meth (some (.int)) := ⟨S, hA, hr, hlocks⟩
  have hK : mmKN μ μ := mmKN.rf
  unfold fX3_doShield at hf
  refine mm_aload_n S dX3_doShield_0 rfl (lv_at hl 0 rfl) ?_
  refine mm_geti S hR fdX3_202 (hK.k hk0) rfl dX3_doShield_1 ?_
  refine lv_iconst (v := (-1)) S.1 S.2.1 dX3_doShield_4 (by decide) ?_
  refine lv_icmp_eq (tgt := 40) S.1 S.2.1 dX3_doShield_5 (by decide) (fun c1 => ?_) (fun c1 => ?_)
  · have hf := it_t hf c1
    refine mm_aload_n S dX3_doShield_40 rfl (lv_at hl 1 rfl) ?_
    refine lv_dup S.1 S.2.1 dX3_doShield_41 (rf_cat _) ?_
    obtain ⟨g2, hf⟩ := gd hf
    refine mm_geti S hR fdX3_120 (hK.k g2) rfl dX3_doShield_42 ?_
    refine lv_iconst (v := 1) S.1 S.2.1 dX3_doShield_45 (by decide) ?_
    refine lv_iadd S.1 S.2.1 dX3_doShield_46 ?_
    refine mm_puti S hR hS fpX3_120 (hK.k g2) rfl rfl rfl dX3_doShield_47 (fun H locs hR hS => ?_)
    obtain ⟨μ3, e3, hf⟩ := stx hf
    rw [← e3] at hR
    have hK : mmKN μ μ3 := by rw [e3]; exact hK.sI
    refine lv_iconst (v := 0) S.1 S.2.1 dX3_doShield_50 (by decide) ?_
    obtain rfl := Option.some.inj hf
    exact mm_iret S hR hS hr hlocks dX3_doShield_51
  · have hf := it_f hf c1
    refine mm_aload_n S dX3_doShield_8 rfl (lv_at hl 0 rfl) ?_
    refine mm_aload_n S dX3_doShield_9 rfl (lv_at hl 0 rfl) ?_
    refine mm_geti S hR fdX3_202 (hK.k hk0) rfl dX3_doShield_10 ?_
    obtain ⟨y4, hy4, hf⟩ := bd hf
    refine mm_callVh S hR hS hA (As := [.int (mI μ h0 9)]) (rest := []) cvX3_55 (hK.k hk0) (kX3_at_c l G A (hK.k hk0) hy4) rfl rfl ⟨Nat.le_of_ble_eq_true rfl, Nat.le_of_ble_eq_true rfl⟩ rfl hl.1 rfl (lv_room (by simp [rf_cat, int_cat, long_cat])) dX3_doShield_13 ⟨Nat.zero_le _, Nat.zero_le _⟩ (fun H locs hR hS => ?_)
    have hK : mmKN μ y4.2 := hK.tr (kX3_at_kn hy4)
    refine mm_astore_n (i := 3) (lv' := [(3, rf y4.1), (0, rf h0), (1, rf h1), (2, .int x2)]) S dX3_doShield_16 rfl hl (by decide) rfl (fun ls hl => ?_)
    refine mm_aload_n S dX3_doShield_17 rfl (lv_at hl 0 rfl) ?_
    refine lv_iconst (v := 0) S.1 S.2.1 dX3_doShield_18 (by decide) ?_
    refine mm_aload_n S dX3_doShield_19 rfl (lv_at hl 0 rfl) ?_
    obtain ⟨g5, hf⟩ := gd hf
    refine mm_geti S hR fdX3_193 (hK.k g5) rfl dX3_doShield_20 ?_
    refine lv_iload_n S.1 S.2.1 dX3_doShield_23 rfl (lv_at hl 3 rfl) ?_
    refine lv_iconst (v := 1) S.1 S.2.1 dX3_doShield_24 (by decide) ?_
    refine lv_icmp_ne (tgt := 32) S.1 S.2.1 dX3_doShield_25 (by decide) (fun c6 => ?_) (fun c6 => ?_)
    · have hf := it_f hf c6
      refine lv_iconst (v := (-1)) S.1 S.2.1 dX3_doShield_32 (by decide) ?_
      refine lv_iadd S.1 S.2.1 dX3_doShield_33 ?_
      refine mm_max S mnX3_287 hl.1 (Nat.le_of_ble_eq_true rfl) (by simp [rf_cat, int_cat, long_cat]) ⟨Nat.zero_le _, Nat.zero_le _⟩ dX3_doShield_34 ?_
      refine mm_puti S hR hS fpX3_193 (hK.k g5) rfl rfl rfl dX3_doShield_37 (fun H locs hR hS => ?_)
      obtain ⟨μ7, e7, hf⟩ := stx hf
      rw [← e7] at hR
      have hK : mmKN μ μ7 := by rw [e7]; exact hK.sI
      refine mm_aload_n S dX3_doShield_40 rfl (lv_at hl 2 rfl) ?_
      refine lv_dup S.1 S.2.1 dX3_doShield_41 (rf_cat _) ?_
      obtain ⟨g8, hf⟩ := gd hf
      refine mm_geti S hR fdX3_120 (hK.k g8) rfl dX3_doShield_42 ?_
      refine lv_iconst (v := 1) S.1 S.2.1 dX3_doShield_45 (by decide) ?_
      refine lv_iadd S.1 S.2.1 dX3_doShield_46 ?_
      refine mm_puti S hR hS fpX3_120 (hK.k g8) rfl rfl rfl dX3_doShield_47 (fun H locs hR hS => ?_)
      obtain ⟨μ9, e9, hf⟩ := stx hf
      rw [← e9] at hR
      have hK : mmKN μ μ9 := by rw [e9]; exact hK.sI
      refine lv_iconst (v := 0) S.1 S.2.1 dX3_doShield_50 (by decide) ?_
      obtain rfl := Option.some.inj hf
      exact mm_iret S hR hS hr hlocks dX3_doShield_51
    · have hf := it_t hf c6
      refine lv_iconst (v := 1) S.1 S.2.1 dX3_doShield_28 (by decide) ?_
      refine lv_goto (tgt := 33) S.1 S.2.1 dX3_doShield_29 (by decide) ?_
      refine lv_iadd S.1 S.2.1 dX3_doShield_33 ?_
      refine mm_max S mnX3_287 hl.1 (Nat.le_of_ble_eq_true rfl) (by simp [rf_cat, int_cat, long_cat]) ⟨Nat.zero_le _, Nat.zero_le _⟩ dX3_doShield_34 ?_
      refine mm_puti S hR hS fpX3_193 (hK.k g5) rfl rfl rfl dX3_doShield_37 (fun H locs hR hS => ?_)
      obtain ⟨μ10, e10, hf⟩ := stx hf
      rw [← e10] at hR
      have hK : mmKN μ μ10 := by rw [e10]; exact hK.sI
      refine mm_aload_n S dX3_doShield_40 rfl (lv_at hl 2 rfl) ?_
      refine lv_dup S.1 S.2.1 dX3_doShield_41 (rf_cat _) ?_
      obtain ⟨g11, hf⟩ := gd hf
      refine mm_geti S hR fdX3_120 (hK.k g11) rfl dX3_doShield_42 ?_
      refine lv_iconst (v := 1) S.1 S.2.1 dX3_doShield_45 (by decide) ?_
      refine lv_iadd S.1 S.2.1 dX3_doShield_46 ?_
      refine mm_puti S hR hS fpX3_120 (hK.k g11) rfl rfl rfl dX3_doShield_47 (fun H locs hR hS => ?_)
      obtain ⟨μ12, e12, hf⟩ := stx hf
      rw [← e12] at hR
      have hK : mmKN μ μ12 := by rw [e12]; exact hK.sI
      refine lv_iconst (v := 0) S.1 S.2.1 dX3_doShield_50 (by decide) ?_
      obtain rfl := Option.some.inj hf
      exact mm_iret S hR hS hr hlocks dX3_doShield_51
-- X3_doLine
def fX3_doLine (h0 : Nat) (h1 : Nat) (h2 : Nat) (μ : MM) : Option (Int32 × MM) :=
  if mK μ h1 = 3 then if mK μ h2 = 2 then (fX1_kindAt h2 (mI μ h1 6) μ).bind fun y2 => (fX1_aAt h2 (mI y2.2 h1 6) y2.2).bind fun y4 => if y2.1 = 3 then ((fX3_doYield h0 h1 y4.2).bind fun y8 => some (y8.1, y8.2)) else (if y2.1 = 10 then ((fX3_doFrom h0 h1 y4.1 y4.2).bind fun y10 => some (y10.1, y10.2)) else (if y2.1 = 12 then ((fX3_doSleep h0 h1 y4.1 y4.2).bind fun y12 => some (y12.1, y12.2)) else (if y2.1 = 13 then ((fX3_doAwait h0 h1 y4.2).bind fun y14 => some (y14.1, y14.2)) else (if y2.1 = 14 then ((fX3_doSpawn h0 h1 y4.1 y4.2).bind fun y16 => some (y16.1, y16.2)) else (if y2.1 = 15 then ((fX3_doShield h0 h1 y4.1 y4.2).bind fun y18 => some (y18.1, y18.2)) else ((fX1_bAt h2 (mI y4.2 h1 6) y4.2).bind fun y5 => (fX2_doPlain h1 y2.1 y4.1 y5.1 y5.2).bind fun y6 => some (y6.1, y6.2))))))) else none else none
set_option maxRecDepth 100000 in
set_option maxHeartbeats 4000000 in
theorem kX3_doLine_kn {μ : MM} {res : Int32 × MM} {h0 : Nat} {h1 : Nat} {h2 : Nat} (hf : fX3_doLine h0 h1 h2 μ = some res) : mmKN μ res.2 := by
  have hK : mmKN μ μ := mmKN.rf
  unfold fX3_doLine at hf
  obtain ⟨g1, hf⟩ := gd hf
  obtain ⟨g3, hf⟩ := gd hf
  obtain ⟨y2, hy2, hf⟩ := bd hf
  have hK : mmKN μ y2.2 := hK.tr (kX1_kindAt_kn hy2)
  obtain ⟨y4, hy4, hf⟩ := bd hf
  have hK : mmKN μ y4.2 := hK.tr (kX1_aAt_kn hy4)
  rcases it_or hf with ⟨c7, hf⟩ | ⟨c7, hf⟩
  · skip
    obtain ⟨y8, hy8, hf⟩ := bd hf
    have hK : mmKN μ y8.2 := hK.tr (kX3_doYield_kn hy8)
    obtain rfl := Option.some.inj hf
    exact hK
  rcases it_or hf with ⟨c9, hf⟩ | ⟨c9, hf⟩
  · skip
    obtain ⟨y10, hy10, hf⟩ := bd hf
    have hK : mmKN μ y10.2 := hK.tr (kX3_doFrom_kn hy10)
    obtain rfl := Option.some.inj hf
    exact hK
  rcases it_or hf with ⟨c11, hf⟩ | ⟨c11, hf⟩
  · skip
    obtain ⟨y12, hy12, hf⟩ := bd hf
    have hK : mmKN μ y12.2 := hK.tr (kX3_doSleep_kn hy12)
    obtain rfl := Option.some.inj hf
    exact hK
  rcases it_or hf with ⟨c13, hf⟩ | ⟨c13, hf⟩
  · skip
    obtain ⟨y14, hy14, hf⟩ := bd hf
    have hK : mmKN μ y14.2 := hK.tr (kX3_doAwait_kn hy14)
    obtain rfl := Option.some.inj hf
    exact hK
  rcases it_or hf with ⟨c15, hf⟩ | ⟨c15, hf⟩
  · skip
    obtain ⟨y16, hy16, hf⟩ := bd hf
    have hK : mmKN μ y16.2 := hK.tr (kX3_doSpawn_kn hy16)
    obtain rfl := Option.some.inj hf
    exact hK
  rcases it_or hf with ⟨c17, hf⟩ | ⟨c17, hf⟩
  · skip
    obtain ⟨y18, hy18, hf⟩ := bd hf
    have hK : mmKN μ y18.2 := hK.tr (kX3_doShield_kn hy18)
    obtain rfl := Option.some.inj hf
    exact hK
  obtain ⟨y5, hy5, hf⟩ := bd hf
  have hK : mmKN μ y5.2 := hK.tr (kX1_bAt_kn hy5)
  obtain ⟨y6, hy6, hf⟩ := bd hf
  have hK : mmKN μ y6.2 := hK.tr (kX2_doPlain_kn hy6)
  obtain rfl := Option.some.inj hf
  exact hK
abbrev rmX3_doLine : Room := { frames := 3, cells := 0, slots := 0, locals := 71 }
set_option maxRecDepth 100000 in
set_option maxHeartbeats 4000000 in
theorem kX3_doLine_c (l : Launch) (G : mmG) (A : Nat → Prop) {μ : MM} {res : Int32 × MM} {h0 : Nat} {h1 : Nat} {h2 : Nat} (hk0 : mK μ h0 = 4) (hf : fX3_doLine h0 h1 h2 μ = some res) : Met l yX3_doLine [.code yX3_doLine cX3_doLine 5 (some (.int))] rmX3_doLine (mmPc G A μ [rf h0, rf h1, rf h2]) (mmQ G A res.2 (some (.int res.1))) 0 0 A := by
  refine mm_ofW (by decide +kernel) (by simp [lg_sl, rf_cat, int_cat]) ?_
  intro p e s m below meth c ls S hR hA hS hr hlocks hl hnm
  have hl : lv_has ls 5 [(0, rf h0), (1, rf h1), (2, rf h2)] := by simpa [lv_args, rf_cat, int_cat] using hl
  have E0 : mmEnv p m c cX3_doLine 5 s _ RX3 G A meth (some (.int)) := ⟨S, hA, hr, hlocks⟩
  have hK : mmKN μ μ := mmKN.rf
  unfold fX3_doLine at hf
  refine mm_aload_n S dX3_doLine_0 rfl (lv_at hl 2 rfl) ?_
  refine mm_aload_n S dX3_doLine_1 rfl (lv_at hl 1 rfl) ?_
  obtain ⟨g1, hf⟩ := gd hf
  refine mm_geti S hR fdX3_120 (hK.k g1) rfl dX3_doLine_2 ?_
  obtain ⟨g3, hf⟩ := gd hf
  obtain ⟨y2, hy2, hf⟩ := bd hf
  refine mm_callVi S hR hS hA (As := [.int (mI μ h1 6)]) (rest := []) cvX3_165 (hK.k g3) (kX1_kindAt_c l G A (hK.k g3) hy2) rfl rfl ⟨Nat.le_of_ble_eq_true rfl, Nat.le_of_ble_eq_true rfl⟩ rfl hl.1 rfl (lv_room (by simp [rf_cat, int_cat, long_cat])) dX3_doLine_5 ⟨Nat.zero_le _, Nat.zero_le _⟩ (fun H locs hR hS => ?_)
  have hK : mmKN μ y2.2 := hK.tr (kX1_kindAt_kn hy2)
  refine lv_istore_n (i := 3) (lv' := [(3, .int y2.1), (0, rf h0), (1, rf h1), (2, rf h2)]) S.1 S.2.1 dX3_doLine_8 rfl hl (by decide) (by simp [rf_cat]) (fun ls hl => ?_)
  refine mm_aload_n S dX3_doLine_9 rfl (lv_at hl 3 rfl) ?_
  refine mm_aload_n S dX3_doLine_10 rfl (lv_at hl 2 rfl) ?_
  refine mm_geti S hR fdX3_120 (hK.k g1) rfl dX3_doLine_11 ?_
  obtain ⟨y4, hy4, hf⟩ := bd hf
  refine mm_callVi S hR hS hA (As := [.int (mI y2.2 h1 6)]) (rest := []) cvX3_245 (hK.k g3) (kX1_aAt_c l G A (hK.k g3) hy4) rfl rfl ⟨Nat.le_of_ble_eq_true rfl, Nat.le_of_ble_eq_true rfl⟩ rfl hl.1 rfl (lv_room (by simp [rf_cat, int_cat, long_cat])) dX3_doLine_14 ⟨Nat.zero_le _, Nat.zero_le _⟩ (fun H locs hR hS => ?_)
  have hK : mmKN μ y4.2 := hK.tr (kX1_aAt_kn hy4)
  refine lv_istore (i := 4) (lv' := [(4, .int y4.1), (3, .int y2.1), (0, rf h0), (1, rf h1), (2, rf h2)]) S.1 S.2.1 dX3_doLine_17 hl (by decide) rfl (fun ls hl => ?_)
  refine lv_iload_n S.1 S.2.1 dX3_doLine_19 rfl (lv_at hl 1 rfl) ?_
  rcases it_or hf with ⟨c7, hf⟩ | ⟨c7, hf⟩
  · refine mm_swL (tgt := 88) (off := 68) S [3] dX3_doLine_20 (by simpa using c7) (by decide) (by decide) ?_
    refine mm_aload_n S dX3_doLine_88 rfl (lv_at hl 2 rfl) ?_
    refine mm_aload_n S dX3_doLine_89 rfl (lv_at hl 3 rfl) ?_
    obtain ⟨y8, hy8, hf⟩ := bd hf
    refine mm_callVi S hR hS hA (As := [rf h1]) (rest := []) cvX3_248 (hK.k hk0) (kX3_doYield_c l G A (hK.k hk0) hy8) rfl rfl ⟨Nat.le_of_ble_eq_true rfl, Nat.le_of_ble_eq_true rfl⟩ rfl hl.1 rfl (lv_room (by simp [rf_cat, int_cat, long_cat])) dX3_doLine_90 ⟨Nat.zero_le _, Nat.zero_le _⟩ (fun H locs hR hS => ?_)
    have hK : mmKN μ y8.2 := hK.tr (kX3_doYield_kn hy8)
    obtain rfl := Option.some.inj hf
    exact mm_iret S hR hS hr hlocks dX3_doLine_93
  rcases it_or hf with ⟨c9, hf⟩ | ⟨c9, hf⟩
  · refine mm_swL (tgt := 94) (off := 74) S [10] dX3_doLine_20 (by simpa using c9) (by decide) (by decide) ?_
    refine mm_aload_n S dX3_doLine_94 rfl (lv_at hl 2 rfl) ?_
    refine mm_aload_n S dX3_doLine_95 rfl (lv_at hl 3 rfl) ?_
    refine lv_iload S.1 S.2.1 dX3_doLine_96 (lv_at hl 0 rfl) ?_
    obtain ⟨y10, hy10, hf⟩ := bd hf
    refine mm_callVi S hR hS hA (As := [rf h1, .int y4.1]) (rest := []) cvX3_251 (hK.k hk0) (kX3_doFrom_c l G A (hK.k hk0) hy10) rfl rfl ⟨Nat.le_of_ble_eq_true rfl, Nat.le_of_ble_eq_true rfl⟩ rfl hl.1 rfl (lv_room (by simp [rf_cat, int_cat, long_cat])) dX3_doLine_98 ⟨Nat.zero_le _, Nat.zero_le _⟩ (fun H locs hR hS => ?_)
    have hK : mmKN μ y10.2 := hK.tr (kX3_doFrom_kn hy10)
    obtain rfl := Option.some.inj hf
    exact mm_iret S hR hS hr hlocks dX3_doLine_101
  rcases it_or hf with ⟨c11, hf⟩ | ⟨c11, hf⟩
  · refine mm_swL (tgt := 102) (off := 82) S [12] dX3_doLine_20 (by simpa using c11) (by decide) (by decide) ?_
    refine mm_aload_n S dX3_doLine_102 rfl (lv_at hl 2 rfl) ?_
    refine mm_aload_n S dX3_doLine_103 rfl (lv_at hl 3 rfl) ?_
    refine lv_iload S.1 S.2.1 dX3_doLine_104 (lv_at hl 0 rfl) ?_
    obtain ⟨y12, hy12, hf⟩ := bd hf
    refine mm_callVi S hR hS hA (As := [rf h1, .int y4.1]) (rest := []) cvX3_255 (hK.k hk0) (kX3_doSleep_c l G A (hK.k hk0) hy12) rfl rfl ⟨Nat.le_of_ble_eq_true rfl, Nat.le_of_ble_eq_true rfl⟩ rfl hl.1 rfl (lv_room (by simp [rf_cat, int_cat, long_cat])) dX3_doLine_106 ⟨Nat.zero_le _, Nat.zero_le _⟩ (fun H locs hR hS => ?_)
    have hK : mmKN μ y12.2 := hK.tr (kX3_doSleep_kn hy12)
    obtain rfl := Option.some.inj hf
    exact mm_iret S hR hS hr hlocks dX3_doLine_109
  rcases it_or hf with ⟨c13, hf⟩ | ⟨c13, hf⟩
  · refine mm_swL (tgt := 110) (off := 90) S [13] dX3_doLine_20 (by simpa using c13) (by decide) (by decide) ?_
    refine mm_aload_n S dX3_doLine_110 rfl (lv_at hl 2 rfl) ?_
    refine mm_aload_n S dX3_doLine_111 rfl (lv_at hl 3 rfl) ?_
    obtain ⟨y14, hy14, hf⟩ := bd hf
    refine mm_callVi S hR hS hA (As := [rf h1]) (rest := []) cvX3_258 (hK.k hk0) (kX3_doAwait_c l G A (hK.k hk0) hy14) rfl rfl ⟨Nat.le_of_ble_eq_true rfl, Nat.le_of_ble_eq_true rfl⟩ rfl hl.1 rfl (lv_room (by simp [rf_cat, int_cat, long_cat])) dX3_doLine_112 ⟨Nat.zero_le _, Nat.zero_le _⟩ (fun H locs hR hS => ?_)
    have hK : mmKN μ y14.2 := hK.tr (kX3_doAwait_kn hy14)
    obtain rfl := Option.some.inj hf
    exact mm_iret S hR hS hr hlocks dX3_doLine_115
  rcases it_or hf with ⟨c15, hf⟩ | ⟨c15, hf⟩
  · refine mm_swL (tgt := 116) (off := 96) S [14] dX3_doLine_20 (by simpa using c15) (by decide) (by decide) ?_
    refine mm_aload_n S dX3_doLine_116 rfl (lv_at hl 2 rfl) ?_
    refine mm_aload_n S dX3_doLine_117 rfl (lv_at hl 3 rfl) ?_
    refine lv_iload S.1 S.2.1 dX3_doLine_118 (lv_at hl 0 rfl) ?_
    obtain ⟨y16, hy16, hf⟩ := bd hf
    refine mm_callVi S hR hS hA (As := [rf h1, .int y4.1]) (rest := []) cvX3_261 (hK.k hk0) (kX3_doSpawn_c l G A (hK.k hk0) hy16) rfl rfl ⟨Nat.le_of_ble_eq_true rfl, Nat.le_of_ble_eq_true rfl⟩ rfl hl.1 rfl (lv_room (by simp [rf_cat, int_cat, long_cat])) dX3_doLine_120 ⟨Nat.zero_le _, Nat.zero_le _⟩ (fun H locs hR hS => ?_)
    have hK : mmKN μ y16.2 := hK.tr (kX3_doSpawn_kn hy16)
    obtain rfl := Option.some.inj hf
    exact mm_iret S hR hS hr hlocks dX3_doLine_123
  rcases it_or hf with ⟨c17, hf⟩ | ⟨c17, hf⟩
  · refine mm_swL (tgt := 124) (off := 104) S [15] dX3_doLine_20 (by simpa using c17) (by decide) (by decide) ?_
    refine mm_aload_n S dX3_doLine_124 rfl (lv_at hl 2 rfl) ?_
    refine mm_aload_n S dX3_doLine_125 rfl (lv_at hl 3 rfl) ?_
    refine lv_iload S.1 S.2.1 dX3_doLine_126 (lv_at hl 0 rfl) ?_
    obtain ⟨y18, hy18, hf⟩ := bd hf
    refine mm_callVi S hR hS hA (As := [rf h1, .int y4.1]) (rest := []) cvX3_264 (hK.k hk0) (kX3_doShield_c l G A (hK.k hk0) hy18) rfl rfl ⟨Nat.le_of_ble_eq_true rfl, Nat.le_of_ble_eq_true rfl⟩ rfl hl.1 rfl (lv_room (by simp [rf_cat, int_cat, long_cat])) dX3_doLine_128 ⟨Nat.zero_le _, Nat.zero_le _⟩ (fun H locs hR hS => ?_)
    have hK : mmKN μ y18.2 := hK.tr (kX3_doShield_kn hy18)
    obtain rfl := Option.some.inj hf
    exact mm_iret S hR hS hr hlocks dX3_doLine_131
  refine mm_swD (tgt := 132) S [3, 10, 12, 13, 14, 15] dX3_doLine_20 (by simp only [List.forall_mem_cons, List.not_mem_nil, false_imp_iff, implies_true, and_true]; (try simp only [not_or] at c7 c9 c11 c13 c15 c17); simp only [c7, c9, c11, c13, c15, c17, not_false_eq_true, and_self, and_true, true_and]) (by decide) (by decide) ?_
  refine mm_aload_n S dX3_doLine_132 rfl (lv_at hl 3 rfl) ?_
  refine lv_iload_n S.1 S.2.1 dX3_doLine_133 rfl (lv_at hl 1 rfl) ?_
  refine lv_iload S.1 S.2.1 dX3_doLine_134 (lv_at hl 0 rfl) ?_
  refine mm_aload_n S dX3_doLine_136 rfl (lv_at hl 4 rfl) ?_
  refine mm_aload_n S dX3_doLine_137 rfl (lv_at hl 3 rfl) ?_
  refine mm_geti S hR fdX3_120 (hK.k g1) rfl dX3_doLine_138 ?_
  obtain ⟨y5, hy5, hf⟩ := bd hf
  refine mm_callVi S hR hS hA (As := [.int (mI y4.2 h1 6)]) (rest := [.int y4.1, .int y2.1, rf h1]) cvX3_267 (hK.k g3) (kX1_bAt_c l G A (hK.k g3) hy5) rfl rfl ⟨Nat.le_of_ble_eq_true rfl, Nat.le_of_ble_eq_true rfl⟩ rfl hl.1 rfl (lv_room (by simp [rf_cat, int_cat, long_cat])) dX3_doLine_141 ⟨Nat.zero_le _, Nat.zero_le _⟩ (fun H locs hR hS => ?_)
  have hK : mmKN μ y5.2 := hK.tr (kX1_bAt_kn hy5)
  obtain ⟨y6, hy6, hf⟩ := bd hf
  refine mm_callVi S hR hS hA (As := [.int y2.1, .int y4.1, .int y5.1]) (rest := []) cvX3_270 (hK.k g1) (kX2_doPlain_c l G A (hK.k g1) hy6) rfl rfl ⟨Nat.le_of_ble_eq_true rfl, Nat.le_of_ble_eq_true rfl⟩ rfl hl.1 rfl (lv_room (by simp [rf_cat, int_cat, long_cat])) dX3_doLine_144 ⟨Nat.zero_le _, Nat.zero_le _⟩ (fun H locs hR hS => ?_)
  have hK : mmKN μ y6.2 := hK.tr (kX2_doPlain_kn hy6)
  obtain rfl := Option.some.inj hf
  exact mm_iret S hR hS hr hlocks dX3_doLine_147
-- X3_wayInstead
def bX3_wayInstead_51  (h0 : Nat) (h1 : Nat) (μ : MM) : Option (Int32 × MM) :=
  if mK μ h0 = 4 then if (mI μ h0 10) < (300 : Int32) then (st (sI μ h0 10 ((mI μ h0 10) + 1)) fun μ3 => if mK μ h1 = 3 then st (sI μ3 h1 11 ((mI μ3 h1 11) + 1)) fun μ5 => some (0, μ5) else none) else (if mK μ h1 = 3 then if mK μ (mP μ h1 2) = 6 then st (sI μ (mP μ h1 2) 2 0) fun μ8 => some (11, μ8) else none else none) else none
def fX3_wayInstead (h0 : Nat) (h1 : Nat) (μ : MM) : Option (Int32 × MM) :=
  if mK μ h1 = 3 then if mK μ (mP μ h0 0) = 1 then (fX0_at (mP μ h0 0) (mI μ h1 3) μ).bind fun y2 => if mK μ y2.1 = 2 then (fX1_hasLine y2.1 (mI y2.2 h1 6) y2.2).bind fun y4 => if y4.1 = 0 then ((fX2_beginReturn h1 y4.2).bind fun y10 => some (y10.1, y10.2)) else (if (mI y4.2 h0 10) < (200 : Int32) then (bX3_wayInstead_51  h0 h1 y4.2) else (if (mI y4.2 h0 11) = 0 then (st (sI y4.2 h0 11 1) fun μ9 => some (11, μ9)) else (bX3_wayInstead_51  h0 h1 y4.2))) else none else none else none
set_option maxRecDepth 100000 in
set_option maxHeartbeats 4000000 in
theorem knbX3_wayInstead_51  : ∀ (h0 : Nat) (h1 : Nat) (μ : MM) (res : Int32 × MM), bX3_wayInstead_51  h0 h1 μ = some res → mmKN μ res.2 := by
  intro h0 h1 μ res hf
  have hK : mmKN μ μ := mmKN.rf
  unfold bX3_wayInstead_51 at hf
  obtain ⟨g1, hf⟩ := gd hf
  rcases it_or hf with ⟨c2, hf⟩ | ⟨c2, hf⟩
  · skip
    obtain ⟨μ3, e3, hf⟩ := stx hf
    have hK : mmKN μ μ3 := by rw [e3]; exact hK.sI
    obtain ⟨g4, hf⟩ := gd hf
    obtain ⟨μ5, e5, hf⟩ := stx hf
    have hK : mmKN μ μ5 := by rw [e5]; exact hK.sI
    obtain rfl := Option.some.inj hf
    exact hK
  · skip
    obtain ⟨g6, hf⟩ := gd hf
    obtain ⟨g7, hf⟩ := gd hf
    obtain ⟨μ8, e8, hf⟩ := stx hf
    have hK : mmKN μ μ8 := by rw [e8]; exact hK.sI
    obtain rfl := Option.some.inj hf
    exact hK
set_option maxRecDepth 100000 in
set_option maxHeartbeats 4000000 in
theorem kX3_wayInstead_kn {μ : MM} {res : Int32 × MM} {h0 : Nat} {h1 : Nat} (hf : fX3_wayInstead h0 h1 μ = some res) : mmKN μ res.2 := by
  have hK : mmKN μ μ := mmKN.rf
  unfold fX3_wayInstead at hf
  obtain ⟨g1, hf⟩ := gd hf
  obtain ⟨g3, hf⟩ := gd hf
  obtain ⟨y2, hy2, hf⟩ := bd hf
  have hK : mmKN μ y2.2 := hK.tr (kX0_at_kn hy2)
  obtain ⟨g5, hf⟩ := gd hf
  obtain ⟨y4, hy4, hf⟩ := bd hf
  have hK : mmKN μ y4.2 := hK.tr (kX1_hasLine_kn hy4)
  rcases it_or hf with ⟨c6, hf⟩ | ⟨c6, hf⟩
  · skip
    obtain ⟨y10, hy10, hf⟩ := bd hf
    have hK : mmKN μ y10.2 := hK.tr (kX2_beginReturn_kn hy10)
    obtain rfl := Option.some.inj hf
    exact hK
  · skip
    rcases it_or hf with ⟨c7, hf⟩ | ⟨c7, hf⟩
    · skip
      exact hK.tr (knbX3_wayInstead_51  h0 h1 y4.2 _ hf)
    · skip
      rcases it_or hf with ⟨c8, hf⟩ | ⟨c8, hf⟩
      · skip
        obtain ⟨μ9, e9, hf⟩ := stx hf
        have hK : mmKN μ μ9 := by rw [e9]; exact hK.sI
        obtain rfl := Option.some.inj hf
        exact hK
      · skip
        exact hK.tr (knbX3_wayInstead_51  h0 h1 y4.2 _ hf)
abbrev rmX3_wayInstead : Room := { frames := 1, cells := 0, slots := 0, locals := 21 }
set_option maxRecDepth 100000 in
set_option maxHeartbeats 4000000 in
theorem wbX3_wayInstead_51 {p : Program} {l : Launch} {e : Env} {s : State} {m : MethodId} {args : Array Value} {below : List Frame} {meth : Method} {c : Code} {G : mmG} {A : Nat → Prop} {res : Int32 × MM} (E0 : mmEnv p m c cX3_wayInstead 2 s args RX3 G A meth (some (.int)))  : ∀ (h0 : Nat) (h1 : Nat) (μ : MM), bX3_wayInstead_51  h0 h1 μ = some res → mmGoal p l e rmX3_wayInstead s m args below meth c G A 51 2 [(0, rf h0), (1, rf h1)] μ (mmQ G A res.2 (some (.int res.1))) := by
  obtain ⟨S, hA, hr, hlocks⟩ := id E0
  intro h0 h1 μ hf H locs ls hR hS hl
  have hK : mmKN μ μ := mmKN.rf
  unfold bX3_wayInstead_51 at hf
  refine mm_aload_n S dX3_wayInstead_51 rfl (lv_at hl 0 rfl) ?_
  obtain ⟨g1, hf⟩ := gd hf
  refine mm_geti S hR fdX3_205 (hK.k g1) rfl dX3_wayInstead_52 ?_
  refine lv_sipush (v := 300) S.1 S.2.1 dX3_wayInstead_55 (by decide) ?_
  refine lv_icmp_lt (tgt := 72) S.1 S.2.1 dX3_wayInstead_58 (by decide) (fun c2 => ?_) (fun c2 => ?_)
  · have hf := it_t hf c2
    refine mm_aload_n S dX3_wayInstead_72 rfl (lv_at hl 0 rfl) ?_
    refine lv_dup S.1 S.2.1 dX3_wayInstead_73 (rf_cat _) ?_
    refine mm_geti S hR fdX3_205 (hK.k g1) rfl dX3_wayInstead_74 ?_
    refine lv_iconst (v := 1) S.1 S.2.1 dX3_wayInstead_77 (by decide) ?_
    refine lv_iadd S.1 S.2.1 dX3_wayInstead_78 ?_
    refine mm_puti S hR hS fpX3_205 (hK.k g1) rfl rfl rfl dX3_wayInstead_79 (fun H locs hR hS => ?_)
    obtain ⟨μ3, e3, hf⟩ := stx hf
    rw [← e3] at hR
    have hK : mmKN μ μ3 := by rw [e3]; exact hK.sI
    refine mm_aload_n S dX3_wayInstead_82 rfl (lv_at hl 1 rfl) ?_
    refine lv_dup S.1 S.2.1 dX3_wayInstead_83 (rf_cat _) ?_
    obtain ⟨g4, hf⟩ := gd hf
    refine mm_geti S hR fdX3_85 (hK.k g4) rfl dX3_wayInstead_84 ?_
    refine lv_iconst (v := 1) S.1 S.2.1 dX3_wayInstead_87 (by decide) ?_
    refine lv_iadd S.1 S.2.1 dX3_wayInstead_88 ?_
    refine mm_puti S hR hS fpX3_85 (hK.k g4) rfl rfl rfl dX3_wayInstead_89 (fun H locs hR hS => ?_)
    obtain ⟨μ5, e5, hf⟩ := stx hf
    rw [← e5] at hR
    have hK : mmKN μ μ5 := by rw [e5]; exact hK.sI
    refine lv_iconst (v := 0) S.1 S.2.1 dX3_wayInstead_92 (by decide) ?_
    obtain rfl := Option.some.inj hf
    exact mm_iret S hR hS hr hlocks dX3_wayInstead_93
  · have hf := it_f hf c2
    refine mm_aload_n S dX3_wayInstead_61 rfl (lv_at hl 1 rfl) ?_
    obtain ⟨g6, hf⟩ := gd hf
    refine mm_getp S hR fdX3_238 (hK.k g6) rfl dX3_wayInstead_62 ?_
    refine lv_iconst (v := 0) S.1 S.2.1 dX3_wayInstead_65 (by decide) ?_
    obtain ⟨g7, hf⟩ := gd hf
    refine mm_puti S hR hS fpX3_242 (hK.k g7) rfl rfl rfl dX3_wayInstead_66 (fun H locs hR hS => ?_)
    obtain ⟨μ8, e8, hf⟩ := stx hf
    rw [← e8] at hR
    have hK : mmKN μ μ8 := by rw [e8]; exact hK.sI
    refine lv_bipush (v := 11) S.1 S.2.1 dX3_wayInstead_69 (by decide) ?_
    obtain rfl := Option.some.inj hf
    exact mm_iret S hR hS hr hlocks dX3_wayInstead_71
set_option maxRecDepth 100000 in
set_option maxHeartbeats 4000000 in
theorem kX3_wayInstead_c (l : Launch) (G : mmG) (A : Nat → Prop) {μ : MM} {res : Int32 × MM} {h0 : Nat} {h1 : Nat} (hk0 : mK μ h0 = 4) (hf : fX3_wayInstead h0 h1 μ = some res) : Met l yX3_wayInstead [.code yX3_wayInstead cX3_wayInstead 2 (some (.int))] rmX3_wayInstead (mmPc G A μ [rf h0, rf h1]) (mmQ G A res.2 (some (.int res.1))) 0 0 A := by
  refine mm_ofW (by decide +kernel) (by simp [lg_sl, rf_cat, int_cat]) ?_
  intro p e s m below meth c ls S hR hA hS hr hlocks hl hnm
  have hl : lv_has ls 2 [(0, rf h0), (1, rf h1)] := by simpa [lv_args, rf_cat, int_cat] using hl
  have E0 : mmEnv p m c cX3_wayInstead 2 s _ RX3 G A meth (some (.int)) := ⟨S, hA, hr, hlocks⟩
  have hK : mmKN μ μ := mmKN.rf
  unfold fX3_wayInstead at hf
  refine mm_aload_n S dX3_wayInstead_0 rfl (lv_at hl 0 rfl) ?_
  refine mm_getp S hR fdX3_34 (hK.k hk0) rfl dX3_wayInstead_1 ?_
  refine mm_aload_n S dX3_wayInstead_4 rfl (lv_at hl 1 rfl) ?_
  obtain ⟨g1, hf⟩ := gd hf
  refine mm_geti S hR fdX3_65 (hK.k g1) rfl dX3_wayInstead_5 ?_
  obtain ⟨g3, hf⟩ := gd hf
  obtain ⟨y2, hy2, hf⟩ := bd hf
  refine mm_callVh S hR hS hA (As := [.int (mI μ h1 3)]) (rest := []) cvX3_162 (hK.k g3) (kX0_at_c l G A (hK.k g3) hy2) rfl rfl ⟨Nat.le_of_ble_eq_true rfl, Nat.le_of_ble_eq_true rfl⟩ rfl hl.1 rfl (lv_room (by simp [rf_cat, int_cat, long_cat])) dX3_wayInstead_8 ⟨Nat.zero_le _, Nat.zero_le _⟩ (fun H locs hR hS => ?_)
  have hK : mmKN μ y2.2 := hK.tr (kX0_at_kn hy2)
  refine mm_aload_n S dX3_wayInstead_11 rfl (lv_at hl 1 rfl) ?_
  refine mm_geti S hR fdX3_120 (hK.k g1) rfl dX3_wayInstead_12 ?_
  obtain ⟨g5, hf⟩ := gd hf
  obtain ⟨y4, hy4, hf⟩ := bd hf
  refine mm_callVi S hR hS hA (As := [.int (mI y2.2 h1 6)]) (rest := []) cvX3_231 (hK.k g5) (kX1_hasLine_c l G A (hK.k g5) hy4) rfl rfl ⟨Nat.le_of_ble_eq_true rfl, Nat.le_of_ble_eq_true rfl⟩ rfl hl.1 rfl (lv_room (by simp [rf_cat, int_cat, long_cat])) dX3_wayInstead_15 ⟨Nat.zero_le _, Nat.zero_le _⟩ (fun H locs hR hS => ?_)
  have hK : mmKN μ y4.2 := hK.tr (kX1_hasLine_kn hy4)
  refine lv_if_ne (tgt := 26) S.1 S.2.1 dX3_wayInstead_18 (by decide) (fun c6 => ?_) (fun c6 => ?_)
  · have hf := it_f hf c6
    refine mm_aload_n S dX3_wayInstead_26 rfl (lv_at hl 0 rfl) ?_
    refine mm_geti S hR fdX3_205 (hK.k hk0) rfl dX3_wayInstead_27 ?_
    refine lv_sipush (v := 200) S.1 S.2.1 dX3_wayInstead_30 (by decide) ?_
    refine lv_icmp_lt (tgt := 51) S.1 S.2.1 dX3_wayInstead_33 (by decide) (fun c7 => ?_) (fun c7 => ?_)
    · have hf := it_t hf c7
      exact wbX3_wayInstead_51 E0  h0 h1 y4.2 hf _ _ _ hR hS (lv_sub hl [0, 1] rfl)
    · have hf := it_f hf c7
      refine mm_aload_n S dX3_wayInstead_36 rfl (lv_at hl 0 rfl) ?_
      refine mm_geti S hR fdX3_208 (hK.k hk0) rfl dX3_wayInstead_37 ?_
      refine lv_if_ne (tgt := 51) S.1 S.2.1 dX3_wayInstead_40 (by decide) (fun c8 => ?_) (fun c8 => ?_)
      · have hf := it_f hf c8
        exact wbX3_wayInstead_51 E0  h0 h1 y4.2 hf _ _ _ hR hS (lv_sub hl [0, 1] rfl)
      · have hf := it_t hf c8
        refine mm_aload_n S dX3_wayInstead_43 rfl (lv_at hl 0 rfl) ?_
        refine lv_iconst (v := 1) S.1 S.2.1 dX3_wayInstead_44 (by decide) ?_
        refine mm_puti S hR hS fpX3_208 (hK.k hk0) rfl rfl rfl dX3_wayInstead_45 (fun H locs hR hS => ?_)
        obtain ⟨μ9, e9, hf⟩ := stx hf
        rw [← e9] at hR
        have hK : mmKN μ μ9 := by rw [e9]; exact hK.sI
        refine lv_bipush (v := 11) S.1 S.2.1 dX3_wayInstead_48 (by decide) ?_
        obtain rfl := Option.some.inj hf
        exact mm_iret S hR hS hr hlocks dX3_wayInstead_50
  · have hf := it_t hf c6
    refine mm_aload_n S dX3_wayInstead_21 rfl (lv_at hl 1 rfl) ?_
    obtain ⟨y10, hy10, hf⟩ := bd hf
    refine mm_callVi S hR hS hA (As := []) (rest := []) cvX3_234 (hK.k g1) (kX2_beginReturn_c l G A (hK.k g1) hy10) rfl rfl ⟨Nat.le_of_ble_eq_true rfl, Nat.le_of_ble_eq_true rfl⟩ rfl hl.1 rfl (lv_room (by simp [rf_cat, int_cat, long_cat])) dX3_wayInstead_22 ⟨Nat.zero_le _, Nat.zero_le _⟩ (fun H locs hR hS => ?_)
    have hK : mmKN μ y10.2 := hK.tr (kX2_beginReturn_kn hy10)
    obtain rfl := Option.some.inj hf
    exact mm_iret S hR hS hr hlocks dX3_wayInstead_25
-- X3_goOn
def bX3_goOn_12 (kk12 : Nat → Nat → Int32 → MM → Option (MM)) (h0 : Nat) (h1 : Nat) (x3 : Int32) (μ : MM) : Option (MM) :=
  if (1000000 : Int32) ≤ x3 then (some μ) else (if mK μ h0 = 4 then if (mI μ h0 12) = 0 then (if mK μ h1 = 3 then (fX2_isOver h1 μ).bind fun y4 => if y4.1 = 0 then (if mK μ (mP y4.2 h0 8) = 3 then (fX2_isOver (mP y4.2 h0 8) y4.2).bind fun y7 => if y7.1 = 0 then ((fX3_wayInstead h0 (mP y4.2 h0 8) y7.2).bind fun y10 => if y10.1 = 0 then (if mK μ (mP y10.2 h0 0) = 1 then (fX0_at (mP y10.2 h0 0) (mI y10.2 (mP y4.2 h0 8) 3) y10.2).bind fun y14 => (fX3_doLine h0 (mP y4.2 h0 8) y14.1 y14.2).bind fun y16 => if y16.1 = 0 then (kk12 h0 h1 (x3 + 1) y16.2) else ((fX2_leave (mP y4.2 h0 8) y16.1 y16.2).bind fun y18 => kk12 h0 h1 (x3 + 1) y18) else none) else (if y10.1 = 0 then (kk12 h0 h1 (x3 + 1) y10.2) else ((fX2_leave (mP y4.2 h0 8) y10.1 y10.2).bind fun y13 => kk12 h0 h1 (x3 + 1) y13))) else ((fX3_backToOuter h0 y7.2).bind fun y19 => kk12 h0 h1 (x3 + 1) y19) else none) else (some y4.2) else none) else (some μ) else none)
def lX3_goOn_12  : Nat → Nat → Nat → Int32 → MM → Option (MM)
  | 0, _, _, _, _ => none
  | n + 1, h0, h1, x3, μ => bX3_goOn_12  (fun h0 h1 x3 μ => lX3_goOn_12  n h0 h1 x3 μ) h0 h1 x3 μ
def fX3_goOn (h0 : Nat) (h1 : Nat) (h2 : Nat) (μ : MM) : Option (MM) :=
  st (sP μ h0 8 h2) fun μ1 => st (sI μ1 h0 12 0) fun μ2 => lX3_goOn_12  FU h0 h1 0 μ2
set_option maxRecDepth 100000 in
set_option maxHeartbeats 4000000 in
theorem knbX3_goOn_12 (kk12 : Nat → Nat → Int32 → MM → Option (MM)) (hkk12 : ∀ (h0 : Nat) (h1 : Nat) (x3 : Int32) (μ : MM) (res : MM), kk12 h0 h1 x3 μ = some res → mmKN μ res) : ∀ (h0 : Nat) (h1 : Nat) (x3 : Int32) (μ : MM) (res : MM), bX3_goOn_12 kk12 h0 h1 x3 μ = some res → mmKN μ res := by
  intro h0 h1 x3 μ res hf
  have hK : mmKN μ μ := mmKN.rf
  unfold bX3_goOn_12 at hf
  rcases it_or hf with ⟨c1, hf⟩ | ⟨c1, hf⟩
  · skip
    obtain rfl := Option.some.inj hf
    exact hK
  · skip
    obtain ⟨g2, hf⟩ := gd hf
    rcases it_or hf with ⟨c3, hf⟩ | ⟨c3, hf⟩
    · skip
      obtain ⟨g5, hf⟩ := gd hf
      obtain ⟨y4, hy4, hf⟩ := bd hf
      have hK : mmKN μ y4.2 := hK.tr (kX2_isOver_kn hy4)
      rcases it_or hf with ⟨c6, hf⟩ | ⟨c6, hf⟩
      · skip
        obtain ⟨g8, hf⟩ := gd hf
        obtain ⟨y7, hy7, hf⟩ := bd hf
        have hK : mmKN μ y7.2 := hK.tr (kX2_isOver_kn hy7)
        rcases it_or hf with ⟨c9, hf⟩ | ⟨c9, hf⟩
        · skip
          obtain ⟨y10, hy10, hf⟩ := bd hf
          have hK : mmKN μ y10.2 := hK.tr (kX3_wayInstead_kn hy10)
          rcases it_or hf with ⟨c11, hf⟩ | ⟨c11, hf⟩
          · skip
            obtain ⟨g15, hf⟩ := gd hf
            obtain ⟨y14, hy14, hf⟩ := bd hf
            have hK : mmKN μ y14.2 := hK.tr (kX0_at_kn hy14)
            obtain ⟨y16, hy16, hf⟩ := bd hf
            have hK : mmKN μ y16.2 := hK.tr (kX3_doLine_kn hy16)
            rcases it_or hf with ⟨c17, hf⟩ | ⟨c17, hf⟩
            · skip
              exact hK.tr (hkk12 h0 h1 (x3 + 1) y16.2 _ hf)
            · skip
              obtain ⟨y18, hy18, hf⟩ := bd hf
              have hK : mmKN μ y18 := hK.tr (kX2_leave_kn hy18)
              exact hK.tr (hkk12 h0 h1 (x3 + 1) y18 _ hf)
          · skip
            rcases it_or hf with ⟨c12, hf⟩ | ⟨c12, hf⟩
            · skip
              exact hK.tr (hkk12 h0 h1 (x3 + 1) y10.2 _ hf)
            · skip
              obtain ⟨y13, hy13, hf⟩ := bd hf
              have hK : mmKN μ y13 := hK.tr (kX2_leave_kn hy13)
              exact hK.tr (hkk12 h0 h1 (x3 + 1) y13 _ hf)
        · skip
          obtain ⟨y19, hy19, hf⟩ := bd hf
          have hK : mmKN μ y19 := hK.tr (kX3_backToOuter_kn hy19)
          exact hK.tr (hkk12 h0 h1 (x3 + 1) y19 _ hf)
      · skip
        obtain rfl := Option.some.inj hf
        exact hK
    · skip
      obtain rfl := Option.some.inj hf
      exact hK
theorem knlX3_goOn_12  : ∀ (n : Nat) (h0 : Nat) (h1 : Nat) (x3 : Int32) (μ : MM) (res : MM), lX3_goOn_12  n h0 h1 x3 μ = some res → mmKN μ res := by
  intro n
  induction n with
  | zero => intro h0 h1 x3 μ res hf; cases hf
  | succ n ih => intro h0 h1 x3 μ res hf; exact knbX3_goOn_12  _ ih h0 h1 x3 μ res hf
set_option maxRecDepth 100000 in
set_option maxHeartbeats 4000000 in
theorem kX3_goOn_kn {μ : MM} {res : MM} {h0 : Nat} {h1 : Nat} {h2 : Nat} (hf : fX3_goOn h0 h1 h2 μ = some res) : mmKN μ res := by
  have hK : mmKN μ μ := mmKN.rf
  unfold fX3_goOn at hf
  obtain ⟨μ1, e1, hf⟩ := stx hf
  have hK : mmKN μ μ1 := by rw [e1]; exact hK.sP
  obtain ⟨μ2, e2, hf⟩ := stx hf
  have hK : mmKN μ μ2 := by rw [e2]; exact hK.sI
  exact hK.tr (knlX3_goOn_12  FU h0 h1 0 μ2 _ hf)
abbrev rmX3_goOn : Room := { frames := 4, cells := 0, slots := 0, locals := 95 }
set_option maxRecDepth 100000 in
set_option maxHeartbeats 4000000 in
theorem wbX3_goOn_12 {p : Program} {l : Launch} {e : Env} {s : State} {m : MethodId} {args : Array Value} {below : List Frame} {meth : Method} {c : Code} {G : mmG} {A : Nat → Prop} {res : MM} (E0 : mmEnv p m c cX3_goOn 6 s args RX3 G A meth none) (kk12 : Nat → Nat → Int32 → MM → Option (MM)) (hkk12 : ∀ (h0 : Nat) (h1 : Nat) (x3 : Int32) (μ : MM), kk12 h0 h1 x3 μ = some res → mmGoal p l e rmX3_goOn s m args below meth c G A 12 6 [(0, rf h0), (1, rf h1), (3, .int x3)] μ (mmQ G A res none)) : ∀ (h0 : Nat) (h1 : Nat) (x3 : Int32) (μ : MM), bX3_goOn_12 kk12 h0 h1 x3 μ = some res → mmGoal p l e rmX3_goOn s m args below meth c G A 12 6 [(0, rf h0), (1, rf h1), (3, .int x3)] μ (mmQ G A res none) := by
  obtain ⟨S, hA, hr, hlocks⟩ := id E0
  intro h0 h1 x3 μ hf H locs ls hR hS hl
  have hK : mmKN μ μ := mmKN.rf
  unfold bX3_goOn_12 at hf
  refine lv_iload_n S.1 S.2.1 dX3_goOn_12 rfl (lv_at hl 2 rfl) ?_
  refine lv_ldc (v := 1000000) S.1 S.2.1 S.2.2.2.1 (S.2.2.2.2.1 _ kcX3_220) dX3_goOn_13 ?_
  refine lv_icmp_ge (tgt := 104) S.1 S.2.1 dX3_goOn_15 (by decide) (fun c1 => ?_) (fun c1 => ?_)
  · have hf := it_t hf c1
    obtain rfl := Option.some.inj hf
    exact mm_vret S hR hS hr hlocks dX3_goOn_104
  · have hf := it_f hf c1
    refine mm_aload_n S dX3_goOn_18 rfl (lv_at hl 0 rfl) ?_
    obtain ⟨g2, hf⟩ := gd hf
    refine mm_geti S hR fdX3_217 (hK.k g2) rfl dX3_goOn_19 ?_
    refine lv_if_ne (tgt := 104) S.1 S.2.1 dX3_goOn_22 (by decide) (fun c3 => ?_) (fun c3 => ?_)
    · have hf := it_f hf c3
      obtain rfl := Option.some.inj hf
      exact mm_vret S hR hS hr hlocks dX3_goOn_104
    · have hf := it_t hf c3
      refine mm_aload_n S dX3_goOn_25 rfl (lv_at hl 1 rfl) ?_
      obtain ⟨g5, hf⟩ := gd hf
      obtain ⟨y4, hy4, hf⟩ := bd hf
      refine mm_callVi S hR hS hA (As := []) (rest := []) cvX3_71 (hK.k g5) (kX2_isOver_c l G A (hK.k g5) hy4) rfl rfl ⟨Nat.le_of_ble_eq_true rfl, Nat.le_of_ble_eq_true rfl⟩ rfl hl.1 rfl (lv_room (by simp [rf_cat, int_cat, long_cat])) dX3_goOn_26 ⟨Nat.zero_le _, Nat.zero_le _⟩ (fun H locs hR hS => ?_)
      have hK : mmKN μ y4.2 := hK.tr (kX2_isOver_kn hy4)
      refine lv_if_ne (tgt := 104) S.1 S.2.1 dX3_goOn_29 (by decide) (fun c6 => ?_) (fun c6 => ?_)
      · have hf := it_f hf c6
        obtain rfl := Option.some.inj hf
        exact mm_vret S hR hS hr hlocks dX3_goOn_104
      · have hf := it_t hf c6
        refine mm_aload_n S dX3_goOn_32 rfl (lv_at hl 0 rfl) ?_
        refine mm_getp S hR fdX3_38 (hK.k g2) rfl dX3_goOn_33 ?_
        refine mm_astore (i := 4) (lv' := [(4, rf (mP y4.2 h0 8)), (0, rf h0), (1, rf h1), (3, .int x3)]) S dX3_goOn_36 hl (by decide) rfl (fun ls hl => ?_)
        refine mm_aload S dX3_goOn_38 (lv_at hl 0 rfl) ?_
        obtain ⟨g8, hf⟩ := gd hf
        obtain ⟨y7, hy7, hf⟩ := bd hf
        refine mm_callVi S hR hS hA (As := []) (rest := []) cvX3_71 (hK.k g8) (kX2_isOver_c l G A (hK.k g8) hy7) rfl rfl ⟨Nat.le_of_ble_eq_true rfl, Nat.le_of_ble_eq_true rfl⟩ rfl hl.1 rfl (lv_room (by simp [rf_cat, int_cat, long_cat])) dX3_goOn_40 ⟨Nat.zero_le _, Nat.zero_le _⟩ (fun H locs hR hS => ?_)
        have hK : mmKN μ y7.2 := hK.tr (kX2_isOver_kn hy7)
        refine lv_if_eq (tgt := 53) S.1 S.2.1 dX3_goOn_43 (by decide) (fun c9 => ?_) (fun c9 => ?_)
        · have hf := it_t hf c9
          refine mm_aload_n S dX3_goOn_53 rfl (lv_at hl 1 rfl) ?_
          refine mm_aload S dX3_goOn_54 (lv_at hl 0 rfl) ?_
          obtain ⟨y10, hy10, hf⟩ := bd hf
          refine mm_callVi S hR hS hA (As := [rf (mP y4.2 h0 8)]) (rest := []) cvX3_224 (hK.k g2) (kX3_wayInstead_c l G A (hK.k g2) hy10) rfl rfl ⟨Nat.le_of_ble_eq_true rfl, Nat.le_of_ble_eq_true rfl⟩ rfl hl.1 rfl (lv_room (by simp [rf_cat, int_cat, long_cat])) dX3_goOn_56 ⟨Nat.zero_le _, Nat.zero_le _⟩ (fun H locs hR hS => ?_)
          have hK : mmKN μ y10.2 := hK.tr (kX3_wayInstead_kn hy10)
          refine lv_istore (i := 5) (lv' := [(5, .int y10.1), (4, rf (mP y4.2 h0 8)), (0, rf h0), (1, rf h1), (3, .int x3)]) S.1 S.2.1 dX3_goOn_59 hl (by decide) (by simp [rf_cat]) (fun ls hl => ?_)
          refine lv_iload S.1 S.2.1 dX3_goOn_61 (lv_at hl 0 rfl) ?_
          refine lv_if_ne (tgt := 86) S.1 S.2.1 dX3_goOn_63 (by decide) (fun c11 => ?_) (fun c11 => ?_)
          · have hf := it_f hf c11
            refine lv_iload S.1 S.2.1 dX3_goOn_86 (lv_at hl 0 rfl) ?_
            refine lv_if_eq (tgt := 98) S.1 S.2.1 dX3_goOn_88 (by decide) (fun c12 => ?_) (fun c12 => ?_)
            · have hf := it_t hf c12
              refine lv_iinc (v := (x3 + 1)) (lv' := [(3, .int (x3 + 1)), (5, .int y10.1), (4, rf (mP y4.2 h0 8)), (0, rf h0), (1, rf h1)]) S.1 S.2.1 dX3_goOn_98 hl (k := 4) rfl (by rfl) (by decide) rfl (fun ls hl => ?_)
              refine lv_goto (tgt := 12) S.1 S.2.1 dX3_goOn_101 (by decide) ?_
              exact hkk12 h0 h1 (x3 + 1) y10.2 hf _ _ _ hR hS (lv_sub hl [3, 4, 0] rfl)
            · have hf := it_f hf c12
              refine mm_aload S dX3_goOn_91 (lv_at hl 1 rfl) ?_
              refine lv_iload S.1 S.2.1 dX3_goOn_93 (lv_at hl 0 rfl) ?_
              obtain ⟨y13, hy13, hf⟩ := bd hf
              refine mm_callVv S hR hS hA (As := [.int y10.1]) (rest := []) cvX3_131 (hK.k g8) (kX2_leave_c l G A (hK.k g8) hy13) rfl rfl ⟨Nat.le_of_ble_eq_true rfl, Nat.le_of_ble_eq_true rfl⟩ rfl hl.1 rfl (lv_room (by simp [rf_cat, int_cat, long_cat])) dX3_goOn_95 ⟨Nat.zero_le _, Nat.zero_le _⟩ (fun H locs hR hS => ?_)
              have hK : mmKN μ y13 := hK.tr (kX2_leave_kn hy13)
              refine lv_iinc (v := (x3 + 1)) (lv' := [(3, .int (x3 + 1)), (5, .int y10.1), (4, rf (mP y4.2 h0 8)), (0, rf h0), (1, rf h1)]) S.1 S.2.1 dX3_goOn_98 hl (k := 4) rfl (by rfl) (by decide) rfl (fun ls hl => ?_)
              refine lv_goto (tgt := 12) S.1 S.2.1 dX3_goOn_101 (by decide) ?_
              exact hkk12 h0 h1 (x3 + 1) y13 hf _ _ _ hR hS (lv_sub hl [3, 4, 0] rfl)
          · have hf := it_t hf c11
            refine mm_aload_n S dX3_goOn_66 rfl (lv_at hl 2 rfl) ?_
            refine mm_aload S dX3_goOn_67 (lv_at hl 1 rfl) ?_
            refine mm_aload_n S dX3_goOn_69 rfl (lv_at hl 2 rfl) ?_
            refine mm_getp S hR fdX3_34 (hK.k g2) rfl dX3_goOn_70 ?_
            refine mm_aload S dX3_goOn_73 (lv_at hl 1 rfl) ?_
            refine mm_geti S hR fdX3_65 (hK.k g8) rfl dX3_goOn_75 ?_
            obtain ⟨g15, hf⟩ := gd hf
            obtain ⟨y14, hy14, hf⟩ := bd hf
            refine mm_callVh S hR hS hA (As := [.int (mI y10.2 (mP y4.2 h0 8) 3)]) (rest := [rf (mP y4.2 h0 8), rf h0]) cvX3_162 (hK.k g15) (kX0_at_c l G A (hK.k g15) hy14) rfl rfl ⟨Nat.le_of_ble_eq_true rfl, Nat.le_of_ble_eq_true rfl⟩ rfl hl.1 rfl (lv_room (by simp [rf_cat, int_cat, long_cat])) dX3_goOn_78 ⟨Nat.zero_le _, Nat.zero_le _⟩ (fun H locs hR hS => ?_)
            have hK : mmKN μ y14.2 := hK.tr (kX0_at_kn hy14)
            obtain ⟨y16, hy16, hf⟩ := bd hf
            refine mm_callVi S hR hS hA (As := [rf (mP y4.2 h0 8), rf y14.1]) (rest := []) cvX3_227 (hK.k g2) (kX3_doLine_c l G A (hK.k g2) hy16) rfl rfl ⟨Nat.le_of_ble_eq_true rfl, Nat.le_of_ble_eq_true rfl⟩ rfl hl.1 rfl (lv_room (by simp [rf_cat, int_cat, long_cat])) dX3_goOn_81 ⟨Nat.zero_le _, Nat.zero_le _⟩ (fun H locs hR hS => ?_)
            have hK : mmKN μ y16.2 := hK.tr (kX3_doLine_kn hy16)
            refine lv_istore (i := 5) (lv' := [(5, .int y16.1), (4, rf (mP y4.2 h0 8)), (0, rf h0), (1, rf h1), (3, .int x3)]) S.1 S.2.1 dX3_goOn_84 hl (by decide) (by simp [rf_cat]) (fun ls hl => ?_)
            refine lv_iload S.1 S.2.1 dX3_goOn_86 (lv_at hl 0 rfl) ?_
            refine lv_if_eq (tgt := 98) S.1 S.2.1 dX3_goOn_88 (by decide) (fun c17 => ?_) (fun c17 => ?_)
            · have hf := it_t hf c17
              refine lv_iinc (v := (x3 + 1)) (lv' := [(3, .int (x3 + 1)), (5, .int y16.1), (4, rf (mP y4.2 h0 8)), (0, rf h0), (1, rf h1)]) S.1 S.2.1 dX3_goOn_98 hl (k := 4) rfl (by rfl) (by decide) rfl (fun ls hl => ?_)
              refine lv_goto (tgt := 12) S.1 S.2.1 dX3_goOn_101 (by decide) ?_
              exact hkk12 h0 h1 (x3 + 1) y16.2 hf _ _ _ hR hS (lv_sub hl [3, 4, 0] rfl)
            · have hf := it_f hf c17
              refine mm_aload S dX3_goOn_91 (lv_at hl 1 rfl) ?_
              refine lv_iload S.1 S.2.1 dX3_goOn_93 (lv_at hl 0 rfl) ?_
              obtain ⟨y18, hy18, hf⟩ := bd hf
              refine mm_callVv S hR hS hA (As := [.int y16.1]) (rest := []) cvX3_131 (hK.k g8) (kX2_leave_c l G A (hK.k g8) hy18) rfl rfl ⟨Nat.le_of_ble_eq_true rfl, Nat.le_of_ble_eq_true rfl⟩ rfl hl.1 rfl (lv_room (by simp [rf_cat, int_cat, long_cat])) dX3_goOn_95 ⟨Nat.zero_le _, Nat.zero_le _⟩ (fun H locs hR hS => ?_)
              have hK : mmKN μ y18 := hK.tr (kX2_leave_kn hy18)
              refine lv_iinc (v := (x3 + 1)) (lv' := [(3, .int (x3 + 1)), (5, .int y16.1), (4, rf (mP y4.2 h0 8)), (0, rf h0), (1, rf h1)]) S.1 S.2.1 dX3_goOn_98 hl (k := 4) rfl (by rfl) (by decide) rfl (fun ls hl => ?_)
              refine lv_goto (tgt := 12) S.1 S.2.1 dX3_goOn_101 (by decide) ?_
              exact hkk12 h0 h1 (x3 + 1) y18 hf _ _ _ hR hS (lv_sub hl [3, 4, 0] rfl)
        · have hf := it_f hf c9
          refine mm_aload_n S dX3_goOn_46 rfl (lv_at hl 1 rfl) ?_
          obtain ⟨y19, hy19, hf⟩ := bd hf
          refine mm_callVv S hR hS hA (As := []) (rest := []) cvX3_221 (hK.k g2) (kX3_backToOuter_c l G A (hK.k g2) hy19) rfl rfl ⟨Nat.le_of_ble_eq_true rfl, Nat.le_of_ble_eq_true rfl⟩ rfl hl.1 rfl (lv_room (by simp [rf_cat, int_cat, long_cat])) dX3_goOn_47 ⟨Nat.zero_le _, Nat.zero_le _⟩ (fun H locs hR hS => ?_)
          have hK : mmKN μ y19 := hK.tr (kX3_backToOuter_kn hy19)
          refine lv_goto (tgt := 98) S.1 S.2.1 dX3_goOn_50 (by decide) ?_
          refine lv_iinc (v := (x3 + 1)) (lv' := [(3, .int (x3 + 1)), (4, rf (mP y4.2 h0 8)), (0, rf h0), (1, rf h1)]) S.1 S.2.1 dX3_goOn_98 hl (k := 3) rfl (by rfl) (by decide) rfl (fun ls hl => ?_)
          refine lv_goto (tgt := 12) S.1 S.2.1 dX3_goOn_101 (by decide) ?_
          exact hkk12 h0 h1 (x3 + 1) y19 hf _ _ _ hR hS (lv_sub hl [2, 3, 0] rfl)
theorem wlX3_goOn_12 {p : Program} {l : Launch} {e : Env} {s : State} {m : MethodId} {args : Array Value} {below : List Frame} {meth : Method} {c : Code} {G : mmG} {A : Nat → Prop} {res : MM} (E0 : mmEnv p m c cX3_goOn 6 s args RX3 G A meth none)  : ∀ (n : Nat) (h0 : Nat) (h1 : Nat) (x3 : Int32) (μ : MM), lX3_goOn_12  n h0 h1 x3 μ = some res → mmGoal p l e rmX3_goOn s m args below meth c G A 12 6 [(0, rf h0), (1, rf h1), (3, .int x3)] μ (mmQ G A res none) := by
  intro n
  induction n with
  | zero => intro h0 h1 x3 μ hf; cases hf
  | succ n ih => intro h0 h1 x3 μ hf; exact wbX3_goOn_12 E0  _ ih h0 h1 x3 μ hf
set_option maxRecDepth 100000 in
set_option maxHeartbeats 4000000 in
theorem kX3_goOn_c (l : Launch) (G : mmG) (A : Nat → Prop) {μ : MM} {res : MM} {h0 : Nat} {h1 : Nat} {h2 : Nat} (hk0 : mK μ h0 = 4) (hf : fX3_goOn h0 h1 h2 μ = some res) : Met l yX3_goOn [.code yX3_goOn cX3_goOn 6 none] rmX3_goOn (mmPc G A μ [rf h0, rf h1, rf h2]) (mmQ G A res none) 0 0 A := by
  refine mm_ofW (by decide +kernel) (by simp [lg_sl, rf_cat, int_cat]) ?_
  intro p e s m below meth c ls S hR hA hS hr hlocks hl hnm
  have hl : lv_has ls 6 [(0, rf h0), (1, rf h1), (2, rf h2)] := by simpa [lv_args, rf_cat, int_cat] using hl
  have E0 : mmEnv p m c cX3_goOn 6 s _ RX3 G A meth none := ⟨S, hA, hr, hlocks⟩
  have hK : mmKN μ μ := mmKN.rf
  unfold fX3_goOn at hf
  refine mm_aload_n S dX3_goOn_0 rfl (lv_at hl 0 rfl) ?_
  refine mm_aload_n S dX3_goOn_1 rfl (lv_at hl 2 rfl) ?_
  refine mm_putp S hR hS fpX3_38 (hK.k hk0) rfl nr_ok fr_ok dX3_goOn_2 (fun H locs hR hS => ?_)
  obtain ⟨μ1, e1, hf⟩ := stx hf
  rw [← e1] at hR
  have hK : mmKN μ μ1 := by rw [e1]; exact hK.sP
  refine mm_aload_n S dX3_goOn_5 rfl (lv_at hl 0 rfl) ?_
  refine lv_iconst (v := 0) S.1 S.2.1 dX3_goOn_6 (by decide) ?_
  refine mm_puti S hR hS fpX3_217 (hK.k hk0) rfl rfl rfl dX3_goOn_7 (fun H locs hR hS => ?_)
  obtain ⟨μ2, e2, hf⟩ := stx hf
  rw [← e2] at hR
  have hK : mmKN μ μ2 := by rw [e2]; exact hK.sI
  refine lv_iconst (v := 0) S.1 S.2.1 dX3_goOn_10 (by decide) ?_
  refine lv_istore_n (i := 3) (lv' := [(3, .int 0), (0, rf h0), (1, rf h1), (2, rf h2)]) S.1 S.2.1 dX3_goOn_11 rfl hl (by decide) (by simp [rf_cat]) (fun ls hl => ?_)
  exact wlX3_goOn_12 E0  FU h0 h1 0 μ2 hf _ _ _ hR hS (lv_sub hl [1, 2, 0] rfl)
