-- X6_within
def fX6_within (x0 : Int32) (x1 : Int32) (x2 : Int32) (μ : MM) : Option (Int32 × MM) :=
  if x0 < x1 then (some (0, μ)) else (if x2 < x0 then (some (0, μ)) else (some (1, μ)))
set_option maxRecDepth 100000 in
set_option maxHeartbeats 4000000 in
theorem kX6_within_kn {μ : MM} {res : Int32 × MM} {x0 : Int32} {x1 : Int32} {x2 : Int32} (hf : fX6_within x0 x1 x2 μ = some res) : mmKN μ res.2 := by
  have hK : mmKN μ μ := mmKN.rf
  unfold fX6_within at hf
  rcases it_or hf with ⟨c1, hf⟩ | ⟨c1, hf⟩
  · skip
    obtain rfl := Option.some.inj hf
    exact hK
  · skip
    rcases it_or hf with ⟨c2, hf⟩ | ⟨c2, hf⟩
    · skip
      obtain rfl := Option.some.inj hf
      exact hK
    · skip
      obtain rfl := Option.some.inj hf
      exact hK
abbrev rmX6_within : Room := { frames := 0, cells := 0, slots := 0, locals := 0 }
set_option maxRecDepth 100000 in
set_option maxHeartbeats 4000000 in
theorem kX6_within_c (l : Launch) (G : mmG) (A : Nat → Prop) {μ : MM} {res : Int32 × MM} {x0 : Int32} {x1 : Int32} {x2 : Int32} (hf : fX6_within x0 x1 x2 μ = some res) : Met l yX6_within [.code yX6_within cX6_within 3 (some (.boolean))] rmX6_within (mmPc G A μ [.int x0, .int x1, .int x2]) (mmQ G A res.2 (some (.int res.1))) 0 0 A := by
  refine mm_ofW (by decide +kernel) (by simp [lg_sl, rf_cat, int_cat]) ?_
  intro p e s m below meth c ls S hR hA hS hr hlocks hl hnm
  have hl : lv_has ls 3 [(0, .int x0), (1, .int x1), (2, .int x2)] := by simpa [lv_args, rf_cat, int_cat] using hl
  have E0 : mmEnv p m c cX6_within 3 s _ RX6 G A meth (some (.boolean)) := ⟨S, hA, hr, hlocks⟩
  have hK : mmKN μ μ := mmKN.rf
  unfold fX6_within at hf
  refine lv_iload_n S.1 S.2.1 dX6_within_0 rfl (lv_at hl 0 rfl) ?_
  refine lv_iload_n S.1 S.2.1 dX6_within_1 rfl (lv_at hl 1 rfl) ?_
  refine lv_icmp_lt (tgt := 14) S.1 S.2.1 dX6_within_2 (by decide) (fun c1 => ?_) (fun c1 => ?_)
  · have hf := it_t hf c1
    refine lv_iconst (v := 0) S.1 S.2.1 dX6_within_14 (by decide) ?_
    obtain rfl := Option.some.inj hf
    exact mm_zret S hR hS hr hlocks (Or.inl rfl) dX6_within_15
  · have hf := it_f hf c1
    refine lv_iload_n S.1 S.2.1 dX6_within_5 rfl (lv_at hl 0 rfl) ?_
    refine lv_iload_n S.1 S.2.1 dX6_within_6 rfl (lv_at hl 2 rfl) ?_
    refine lv_icmp_gt (tgt := 14) S.1 S.2.1 dX6_within_7 (by decide) (fun c2 => ?_) (fun c2 => ?_)
    · have hf := it_t hf c2
      refine lv_iconst (v := 0) S.1 S.2.1 dX6_within_14 (by decide) ?_
      obtain rfl := Option.some.inj hf
      exact mm_zret S hR hS hr hlocks (Or.inl rfl) dX6_within_15
    · have hf := it_f hf c2
      refine lv_iconst (v := 1) S.1 S.2.1 dX6_within_10 (by decide) ?_
      refine lv_goto (tgt := 15) S.1 S.2.1 dX6_within_11 (by decide) ?_
      obtain rfl := Option.some.inj hf
      exact mm_zret S hR hS hr hlocks (Or.inr rfl) dX6_within_15
-- X4_numberAt
def fX4_numberAt (h0 : Nat) (x1 : Int32) (μ : MM) : Option (Int32 × MM) :=
  if x1 < 0 then (some ((-1), μ)) else (if (mI μ h0 1) ≤ x1 then (some ((-1), μ)) else (if mK μ (mP μ h0 0) = 20 then if ¬ (x1 < 0 ∨ mN μ (mP μ h0 0) ≤ x1.toNatClampNeg) then some ((mI μ (mP μ h0 0) x1.toNatClampNeg), μ) else none else none))
set_option maxRecDepth 100000 in
set_option maxHeartbeats 4000000 in
theorem kX4_numberAt_kn {μ : MM} {res : Int32 × MM} {h0 : Nat} {x1 : Int32} (hf : fX4_numberAt h0 x1 μ = some res) : mmKN μ res.2 := by
  have hK : mmKN μ μ := mmKN.rf
  unfold fX4_numberAt at hf
  rcases it_or hf with ⟨c1, hf⟩ | ⟨c1, hf⟩
  · skip
    obtain rfl := Option.some.inj hf
    exact hK
  · skip
    rcases it_or hf with ⟨c2, hf⟩ | ⟨c2, hf⟩
    · skip
      obtain rfl := Option.some.inj hf
      exact hK
    · skip
      obtain ⟨g3, hf⟩ := gd hf
      obtain ⟨g4, hf⟩ := gd hf
      obtain rfl := Option.some.inj hf
      exact hK
abbrev rmX4_numberAt : Room := { frames := 0, cells := 0, slots := 0, locals := 0 }
set_option maxRecDepth 100000 in
set_option maxHeartbeats 4000000 in
theorem kX4_numberAt_c (l : Launch) (G : mmG) (A : Nat → Prop) {μ : MM} {res : Int32 × MM} {h0 : Nat} {x1 : Int32} (hk0 : mK μ h0 = 5) (hf : fX4_numberAt h0 x1 μ = some res) : Met l yX4_numberAt [.code yX4_numberAt cX4_numberAt 2 (some (.int))] rmX4_numberAt (mmPc G A μ [rf h0, .int x1]) (mmQ G A res.2 (some (.int res.1))) 0 0 A := by
  refine mm_ofW (by decide +kernel) (by simp [lg_sl, rf_cat, int_cat]) ?_
  intro p e s m below meth c ls S hR hA hS hr hlocks hl hnm
  have hl : lv_has ls 2 [(0, rf h0), (1, .int x1)] := by simpa [lv_args, rf_cat, int_cat] using hl
  have E0 : mmEnv p m c cX4_numberAt 2 s _ RX4 G A meth (some (.int)) := ⟨S, hA, hr, hlocks⟩
  have hK : mmKN μ μ := mmKN.rf
  unfold fX4_numberAt at hf
  refine lv_iload_n S.1 S.2.1 dX4_numberAt_0 rfl (lv_at hl 1 rfl) ?_
  refine lv_if_lt (tgt := 21) S.1 S.2.1 dX4_numberAt_1 (by decide) (fun c1 => ?_) (fun c1 => ?_)
  · have hf := it_t hf c1
    refine lv_iconst (v := (-1)) S.1 S.2.1 dX4_numberAt_21 (by decide) ?_
    obtain rfl := Option.some.inj hf
    exact mm_iret S hR hS hr hlocks dX4_numberAt_22
  · have hf := it_f hf c1
    refine lv_iload_n S.1 S.2.1 dX4_numberAt_4 rfl (lv_at hl 1 rfl) ?_
    refine mm_aload_n S dX4_numberAt_5 rfl (lv_at hl 0 rfl) ?_
    refine mm_geti S hR fdX4_15 (hK.k hk0) rfl dX4_numberAt_6 ?_
    refine lv_icmp_ge (tgt := 21) S.1 S.2.1 dX4_numberAt_9 (by decide) (fun c2 => ?_) (fun c2 => ?_)
    · have hf := it_t hf c2
      refine lv_iconst (v := (-1)) S.1 S.2.1 dX4_numberAt_21 (by decide) ?_
      obtain rfl := Option.some.inj hf
      exact mm_iret S hR hS hr hlocks dX4_numberAt_22
    · have hf := it_f hf c2
      refine mm_aload_n S dX4_numberAt_12 rfl (lv_at hl 0 rfl) ?_
      refine mm_getp S hR fdX4_9 (hK.k hk0) rfl dX4_numberAt_13 ?_
      refine lv_iload_n S.1 S.2.1 dX4_numberAt_16 rfl (lv_at hl 1 rfl) ?_
      obtain ⟨g3, hf⟩ := gd hf
      obtain ⟨g4, hf⟩ := gd hf
      refine mm_iald S hR (hK.k g3) g4 dX4_numberAt_17 ?_
      refine lv_goto (tgt := 22) S.1 S.2.1 dX4_numberAt_18 (by decide) ?_
      obtain rfl := Option.some.inj hf
      exact mm_iret S hR hS hr hlocks dX4_numberAt_22
-- X4_placeOf
def bX4_placeOf_2 (kk2 : Nat → Int32 → Int32 → MM → Option (Int32 × MM)) (h0 : Nat) (x1 : Int32) (x2 : Int32) (μ : MM) : Option (Int32 × MM) :=
  if mK μ h0 = 5 then if (mI μ h0 1) ≤ x2 then (some ((-1), μ)) else ((fX4_numberAt h0 x2 μ).bind fun y3 => if y3.1 = x1 then (some (x2, y3.2)) else (kk2 h0 x1 (x2 + 1) y3.2)) else none
def lX4_placeOf_2  : Nat → Nat → Int32 → Int32 → MM → Option (Int32 × MM)
  | 0, _, _, _, _ => none
  | n + 1, h0, x1, x2, μ => bX4_placeOf_2  (fun h0 x1 x2 μ => lX4_placeOf_2  n h0 x1 x2 μ) h0 x1 x2 μ
def fX4_placeOf (h0 : Nat) (x1 : Int32) (μ : MM) : Option (Int32 × MM) :=
  lX4_placeOf_2  FU h0 x1 0 μ
set_option maxRecDepth 100000 in
set_option maxHeartbeats 4000000 in
theorem knbX4_placeOf_2 (kk2 : Nat → Int32 → Int32 → MM → Option (Int32 × MM)) (hkk2 : ∀ (h0 : Nat) (x1 : Int32) (x2 : Int32) (μ : MM) (res : Int32 × MM), kk2 h0 x1 x2 μ = some res → mmKN μ res.2) : ∀ (h0 : Nat) (x1 : Int32) (x2 : Int32) (μ : MM) (res : Int32 × MM), bX4_placeOf_2 kk2 h0 x1 x2 μ = some res → mmKN μ res.2 := by
  intro h0 x1 x2 μ res hf
  have hK : mmKN μ μ := mmKN.rf
  unfold bX4_placeOf_2 at hf
  obtain ⟨g1, hf⟩ := gd hf
  rcases it_or hf with ⟨c2, hf⟩ | ⟨c2, hf⟩
  · skip
    obtain rfl := Option.some.inj hf
    exact hK
  · skip
    obtain ⟨y3, hy3, hf⟩ := bd hf
    have hK : mmKN μ y3.2 := hK.tr (kX4_numberAt_kn hy3)
    rcases it_or hf with ⟨c4, hf⟩ | ⟨c4, hf⟩
    · skip
      obtain rfl := Option.some.inj hf
      exact hK
    · skip
      exact hK.tr (hkk2 h0 x1 (x2 + 1) y3.2 _ hf)
theorem knlX4_placeOf_2  : ∀ (n : Nat) (h0 : Nat) (x1 : Int32) (x2 : Int32) (μ : MM) (res : Int32 × MM), lX4_placeOf_2  n h0 x1 x2 μ = some res → mmKN μ res.2 := by
  intro n
  induction n with
  | zero => intro h0 x1 x2 μ res hf; cases hf
  | succ n ih => intro h0 x1 x2 μ res hf; exact knbX4_placeOf_2  _ ih h0 x1 x2 μ res hf
set_option maxRecDepth 100000 in
set_option maxHeartbeats 4000000 in
theorem kX4_placeOf_kn {μ : MM} {res : Int32 × MM} {h0 : Nat} {x1 : Int32} (hf : fX4_placeOf h0 x1 μ = some res) : mmKN μ res.2 := by
  have hK : mmKN μ μ := mmKN.rf
  unfold fX4_placeOf at hf
  exact hK.tr (knlX4_placeOf_2  FU h0 x1 0 μ _ hf)
abbrev rmX4_placeOf : Room := { frames := 1, cells := 0, slots := 0, locals := 21 }
set_option maxRecDepth 100000 in
set_option maxHeartbeats 4000000 in
theorem wbX4_placeOf_2 {p : Program} {l : Launch} {e : Env} {s : State} {m : MethodId} {args : Array Value} {below : List Frame} {meth : Method} {c : Code} {G : mmG} {A : Nat → Prop} {res : Int32 × MM} (E0 : mmEnv p m c cX4_placeOf 3 s args RX4 G A meth (some (.int))) (kk2 : Nat → Int32 → Int32 → MM → Option (Int32 × MM)) (hkk2 : ∀ (h0 : Nat) (x1 : Int32) (x2 : Int32) (μ : MM), kk2 h0 x1 x2 μ = some res → mmGoal p l e rmX4_placeOf s m args below meth c G A 2 3 [(0, rf h0), (1, .int x1), (2, .int x2)] μ (mmQ G A res.2 (some (.int res.1)))) : ∀ (h0 : Nat) (x1 : Int32) (x2 : Int32) (μ : MM), bX4_placeOf_2 kk2 h0 x1 x2 μ = some res → mmGoal p l e rmX4_placeOf s m args below meth c G A 2 3 [(0, rf h0), (1, .int x1), (2, .int x2)] μ (mmQ G A res.2 (some (.int res.1))) := by
  obtain ⟨S, hA, hr, hlocks⟩ := id E0
  intro h0 x1 x2 μ hf H locs ls hR hS hl
  have hK : mmKN μ μ := mmKN.rf
  unfold bX4_placeOf_2 at hf
  refine lv_iload_n S.1 S.2.1 dX4_placeOf_2 rfl (lv_at hl 2 rfl) ?_
  refine mm_aload_n S dX4_placeOf_3 rfl (lv_at hl 0 rfl) ?_
  obtain ⟨g1, hf⟩ := gd hf
  refine mm_geti S hR fdX4_15 (hK.k g1) rfl dX4_placeOf_4 ?_
  refine lv_icmp_ge (tgt := 27) S.1 S.2.1 dX4_placeOf_7 (by decide) (fun c2 => ?_) (fun c2 => ?_)
  · have hf := it_t hf c2
    refine lv_iconst (v := (-1)) S.1 S.2.1 dX4_placeOf_27 (by decide) ?_
    obtain rfl := Option.some.inj hf
    exact mm_iret S hR hS hr hlocks dX4_placeOf_28
  · have hf := it_f hf c2
    refine mm_aload_n S dX4_placeOf_10 rfl (lv_at hl 0 rfl) ?_
    refine lv_iload_n S.1 S.2.1 dX4_placeOf_11 rfl (lv_at hl 2 rfl) ?_
    obtain ⟨y3, hy3, hf⟩ := bd hf
    refine mm_callVi S hR hS hA (As := [.int x2]) (rest := []) cvX4_19 (hK.k g1) (kX4_numberAt_c l G A (hK.k g1) hy3) rfl rfl ⟨Nat.le_of_ble_eq_true rfl, Nat.le_of_ble_eq_true rfl⟩ rfl hl.1 rfl (lv_room (by simp [rf_cat, int_cat, long_cat])) dX4_placeOf_12 ⟨Nat.zero_le _, Nat.zero_le _⟩ (fun H locs hR hS => ?_)
    have hK : mmKN μ y3.2 := hK.tr (kX4_numberAt_kn hy3)
    refine lv_iload_n S.1 S.2.1 dX4_placeOf_15 rfl (lv_at hl 1 rfl) ?_
    refine lv_icmp_ne (tgt := 21) S.1 S.2.1 dX4_placeOf_16 (by decide) (fun c4 => ?_) (fun c4 => ?_)
    · have hf := it_f hf c4
      refine lv_iinc (v := (x2 + 1)) (lv' := [(2, .int (x2 + 1)), (0, rf h0), (1, .int x1)]) S.1 S.2.1 dX4_placeOf_21 hl (k := 2) rfl (by rfl) (by decide) rfl (fun ls hl => ?_)
      refine lv_goto (tgt := 2) S.1 S.2.1 dX4_placeOf_24 (by decide) ?_
      exact hkk2 h0 x1 (x2 + 1) y3.2 hf _ _ _ hR hS (lv_sub hl [1, 2, 0] rfl)
    · have hf := it_t hf c4
      refine lv_iload_n S.1 S.2.1 dX4_placeOf_19 rfl (lv_at hl 2 rfl) ?_
      obtain rfl := Option.some.inj hf
      exact mm_iret S hR hS hr hlocks dX4_placeOf_20
theorem wlX4_placeOf_2 {p : Program} {l : Launch} {e : Env} {s : State} {m : MethodId} {args : Array Value} {below : List Frame} {meth : Method} {c : Code} {G : mmG} {A : Nat → Prop} {res : Int32 × MM} (E0 : mmEnv p m c cX4_placeOf 3 s args RX4 G A meth (some (.int)))  : ∀ (n : Nat) (h0 : Nat) (x1 : Int32) (x2 : Int32) (μ : MM), lX4_placeOf_2  n h0 x1 x2 μ = some res → mmGoal p l e rmX4_placeOf s m args below meth c G A 2 3 [(0, rf h0), (1, .int x1), (2, .int x2)] μ (mmQ G A res.2 (some (.int res.1))) := by
  intro n
  induction n with
  | zero => intro h0 x1 x2 μ hf; cases hf
  | succ n ih => intro h0 x1 x2 μ hf; exact wbX4_placeOf_2 E0  _ ih h0 x1 x2 μ hf
set_option maxRecDepth 100000 in
set_option maxHeartbeats 4000000 in
theorem kX4_placeOf_c (l : Launch) (G : mmG) (A : Nat → Prop) {μ : MM} {res : Int32 × MM} {h0 : Nat} {x1 : Int32} (hk0 : mK μ h0 = 5) (hf : fX4_placeOf h0 x1 μ = some res) : Met l yX4_placeOf [.code yX4_placeOf cX4_placeOf 3 (some (.int))] rmX4_placeOf (mmPc G A μ [rf h0, .int x1]) (mmQ G A res.2 (some (.int res.1))) 0 0 A := by
  refine mm_ofW (by decide +kernel) (by simp [lg_sl, rf_cat, int_cat]) ?_
  intro p e s m below meth c ls S hR hA hS hr hlocks hl hnm
  have hl : lv_has ls 3 [(0, rf h0), (1, .int x1)] := by simpa [lv_args, rf_cat, int_cat] using hl
  have E0 : mmEnv p m c cX4_placeOf 3 s _ RX4 G A meth (some (.int)) := ⟨S, hA, hr, hlocks⟩
  have hK : mmKN μ μ := mmKN.rf
  unfold fX4_placeOf at hf
  refine lv_iconst (v := 0) S.1 S.2.1 dX4_placeOf_0 (by decide) ?_
  refine lv_istore_n (i := 2) (lv' := [(2, .int 0), (0, rf h0), (1, .int x1)]) S.1 S.2.1 dX4_placeOf_1 rfl hl (by decide) rfl (fun ls hl => ?_)
  exact wlX4_placeOf_2 E0  FU h0 x1 0 μ hf _ _ _ hR hS (lv_sub hl [1, 2, 0] rfl)
-- X4_add
def fX4_add (h0 : Nat) (x1 : Int32) (μ : MM) : Option (MM) :=
  if (mI μ h0 1) < 0 then (some μ) else (if (24 : Int32) ≤ (mI μ h0 1) then (some μ) else (if mK μ (mP μ h0 0) = 20 then if ¬ ((mI μ h0 1) < 0 ∨ mN μ (mP μ h0 0) ≤ (mI μ h0 1).toNatClampNeg) then st (sI μ (mP μ h0 0) (mI μ h0 1).toNatClampNeg x1) fun μ5 => st (sI μ5 h0 1 ((mI μ5 h0 1) + 1)) fun μ6 => some μ6 else none else none))
set_option maxRecDepth 100000 in
set_option maxHeartbeats 4000000 in
theorem kX4_add_kn {μ : MM} {res : MM} {h0 : Nat} {x1 : Int32} (hf : fX4_add h0 x1 μ = some res) : mmKN μ res := by
  have hK : mmKN μ μ := mmKN.rf
  unfold fX4_add at hf
  rcases it_or hf with ⟨c1, hf⟩ | ⟨c1, hf⟩
  · skip
    obtain rfl := Option.some.inj hf
    exact hK
  · skip
    rcases it_or hf with ⟨c2, hf⟩ | ⟨c2, hf⟩
    · skip
      obtain rfl := Option.some.inj hf
      exact hK
    · skip
      obtain ⟨g3, hf⟩ := gd hf
      obtain ⟨g4, hf⟩ := gd hf
      obtain ⟨μ5, e5, hf⟩ := stx hf
      have hK : mmKN μ μ5 := by rw [e5]; exact hK.sI
      obtain ⟨μ6, e6, hf⟩ := stx hf
      have hK : mmKN μ μ6 := by rw [e6]; exact hK.sI
      obtain rfl := Option.some.inj hf
      exact hK
abbrev rmX4_add : Room := { frames := 0, cells := 0, slots := 0, locals := 0 }
set_option maxRecDepth 100000 in
set_option maxHeartbeats 4000000 in
theorem kX4_add_c (l : Launch) (G : mmG) (A : Nat → Prop) {μ : MM} {res : MM} {h0 : Nat} {x1 : Int32} (hk0 : mK μ h0 = 5) (hf : fX4_add h0 x1 μ = some res) : Met l yX4_add [.code yX4_add cX4_add 2 none] rmX4_add (mmPc G A μ [rf h0, .int x1]) (mmQ G A res none) 0 0 A := by
  refine mm_ofW (by decide +kernel) (by simp [lg_sl, rf_cat, int_cat]) ?_
  intro p e s m below meth c ls S hR hA hS hr hlocks hl hnm
  have hl : lv_has ls 2 [(0, rf h0), (1, .int x1)] := by simpa [lv_args, rf_cat, int_cat] using hl
  have E0 : mmEnv p m c cX4_add 2 s _ RX4 G A meth none := ⟨S, hA, hr, hlocks⟩
  have hK : mmKN μ μ := mmKN.rf
  unfold fX4_add at hf
  refine mm_aload_n S dX4_add_0 rfl (lv_at hl 0 rfl) ?_
  refine mm_geti S hR fdX4_15 (hK.k hk0) rfl dX4_add_1 ?_
  refine lv_if_lt (tgt := 36) S.1 S.2.1 dX4_add_4 (by decide) (fun c1 => ?_) (fun c1 => ?_)
  · have hf := it_t hf c1
    obtain rfl := Option.some.inj hf
    exact mm_vret S hR hS hr hlocks dX4_add_36
  · have hf := it_f hf c1
    refine mm_aload_n S dX4_add_7 rfl (lv_at hl 0 rfl) ?_
    refine mm_geti S hR fdX4_15 (hK.k hk0) rfl dX4_add_8 ?_
    refine lv_bipush (v := 24) S.1 S.2.1 dX4_add_11 (by decide) ?_
    refine lv_icmp_ge (tgt := 36) S.1 S.2.1 dX4_add_13 (by decide) (fun c2 => ?_) (fun c2 => ?_)
    · have hf := it_t hf c2
      obtain rfl := Option.some.inj hf
      exact mm_vret S hR hS hr hlocks dX4_add_36
    · have hf := it_f hf c2
      refine mm_aload_n S dX4_add_16 rfl (lv_at hl 0 rfl) ?_
      refine mm_getp S hR fdX4_9 (hK.k hk0) rfl dX4_add_17 ?_
      refine mm_aload_n S dX4_add_20 rfl (lv_at hl 0 rfl) ?_
      refine mm_geti S hR fdX4_15 (hK.k hk0) rfl dX4_add_21 ?_
      refine lv_iload_n S.1 S.2.1 dX4_add_24 rfl (lv_at hl 1 rfl) ?_
      obtain ⟨g3, hf⟩ := gd hf
      obtain ⟨g4, hf⟩ := gd hf
      refine mm_iast S hR hS (hK.k g3) g4 dX4_add_25 (fun H locs hR hS => ?_)
      obtain ⟨μ5, e5, hf⟩ := stx hf
      rw [← e5] at hR
      have hK : mmKN μ μ5 := by rw [e5]; exact hK.sI
      refine mm_aload_n S dX4_add_26 rfl (lv_at hl 0 rfl) ?_
      refine lv_dup S.1 S.2.1 dX4_add_27 (rf_cat _) ?_
      refine mm_geti S hR fdX4_15 (hK.k hk0) rfl dX4_add_28 ?_
      refine lv_iconst (v := 1) S.1 S.2.1 dX4_add_31 (by decide) ?_
      refine lv_iadd S.1 S.2.1 dX4_add_32 ?_
      refine mm_puti S hR hS fpX4_15 (hK.k hk0) rfl rfl rfl dX4_add_33 (fun H locs hR hS => ?_)
      obtain ⟨μ6, e6, hf⟩ := stx hf
      rw [← e6] at hR
      have hK : mmKN μ μ6 := by rw [e6]; exact hK.sI
      obtain rfl := Option.some.inj hf
      exact mm_vret S hR hS hr hlocks dX4_add_36
-- X4_removeAt
def bX4_removeAt_17 (kk17 : Nat → Int32 → MM → Option (MM)) (h0 : Nat) (x2 : Int32) (μ : MM) : Option (MM) :=
  if mK μ h0 = 5 then if (mI μ h0 1) ≤ x2 then (st (sI μ h0 1 ((mI μ h0 1) - 1)) fun μ3 => some μ3) else (if mK μ (mP μ h0 0) = 20 then if ¬ (x2 < 0 ∨ mN μ (mP μ h0 0) ≤ x2.toNatClampNeg) then if ¬ ((x2 - 1) < 0 ∨ mN μ (mP μ h0 0) ≤ (x2 - 1).toNatClampNeg) then st (sI μ (mP μ h0 0) (x2 - 1).toNatClampNeg (mI μ (mP μ h0 0) x2.toNatClampNeg)) fun μ7 => kk17 h0 (x2 + 1) μ7 else none else none else none) else none
def lX4_removeAt_17  : Nat → Nat → Int32 → MM → Option (MM)
  | 0, _, _, _ => none
  | n + 1, h0, x2, μ => bX4_removeAt_17  (fun h0 x2 μ => lX4_removeAt_17  n h0 x2 μ) h0 x2 μ
def fX4_removeAt (h0 : Nat) (x1 : Int32) (μ : MM) : Option (MM) :=
  if x1 < 0 then (some μ) else (if x1 < (mI μ h0 1) then (lX4_removeAt_17  FU h0 (x1 + 1) μ) else (some μ))
set_option maxRecDepth 100000 in
set_option maxHeartbeats 4000000 in
theorem knbX4_removeAt_17 (kk17 : Nat → Int32 → MM → Option (MM)) (hkk17 : ∀ (h0 : Nat) (x2 : Int32) (μ : MM) (res : MM), kk17 h0 x2 μ = some res → mmKN μ res) : ∀ (h0 : Nat) (x2 : Int32) (μ : MM) (res : MM), bX4_removeAt_17 kk17 h0 x2 μ = some res → mmKN μ res := by
  intro h0 x2 μ res hf
  have hK : mmKN μ μ := mmKN.rf
  unfold bX4_removeAt_17 at hf
  obtain ⟨g1, hf⟩ := gd hf
  rcases it_or hf with ⟨c2, hf⟩ | ⟨c2, hf⟩
  · skip
    obtain ⟨μ3, e3, hf⟩ := stx hf
    have hK : mmKN μ μ3 := by rw [e3]; exact hK.sI
    obtain rfl := Option.some.inj hf
    exact hK
  · skip
    obtain ⟨g4, hf⟩ := gd hf
    obtain ⟨g5, hf⟩ := gd hf
    obtain ⟨g6, hf⟩ := gd hf
    obtain ⟨μ7, e7, hf⟩ := stx hf
    have hK : mmKN μ μ7 := by rw [e7]; exact hK.sI
    exact hK.tr (hkk17 h0 (x2 + 1) μ7 _ hf)
theorem knlX4_removeAt_17  : ∀ (n : Nat) (h0 : Nat) (x2 : Int32) (μ : MM) (res : MM), lX4_removeAt_17  n h0 x2 μ = some res → mmKN μ res := by
  intro n
  induction n with
  | zero => intro h0 x2 μ res hf; cases hf
  | succ n ih => intro h0 x2 μ res hf; exact knbX4_removeAt_17  _ ih h0 x2 μ res hf
set_option maxRecDepth 100000 in
set_option maxHeartbeats 4000000 in
theorem kX4_removeAt_kn {μ : MM} {res : MM} {h0 : Nat} {x1 : Int32} (hf : fX4_removeAt h0 x1 μ = some res) : mmKN μ res := by
  have hK : mmKN μ μ := mmKN.rf
  unfold fX4_removeAt at hf
  rcases it_or hf with ⟨c1, hf⟩ | ⟨c1, hf⟩
  · skip
    obtain rfl := Option.some.inj hf
    exact hK
  · skip
    rcases it_or hf with ⟨c2, hf⟩ | ⟨c2, hf⟩
    · skip
      exact hK.tr (knlX4_removeAt_17  FU h0 (x1 + 1) μ _ hf)
    · skip
      obtain rfl := Option.some.inj hf
      exact hK
abbrev rmX4_removeAt : Room := { frames := 0, cells := 0, slots := 0, locals := 0 }
set_option maxRecDepth 100000 in
set_option maxHeartbeats 4000000 in
theorem wbX4_removeAt_17 {p : Program} {l : Launch} {e : Env} {s : State} {m : MethodId} {args : Array Value} {below : List Frame} {meth : Method} {c : Code} {G : mmG} {A : Nat → Prop} {res : MM} (E0 : mmEnv p m c cX4_removeAt 3 s args RX4 G A meth none) (kk17 : Nat → Int32 → MM → Option (MM)) (hkk17 : ∀ (h0 : Nat) (x2 : Int32) (μ : MM), kk17 h0 x2 μ = some res → mmGoal p l e rmX4_removeAt s m args below meth c G A 17 3 [(0, rf h0), (2, .int x2)] μ (mmQ G A res none)) : ∀ (h0 : Nat) (x2 : Int32) (μ : MM), bX4_removeAt_17 kk17 h0 x2 μ = some res → mmGoal p l e rmX4_removeAt s m args below meth c G A 17 3 [(0, rf h0), (2, .int x2)] μ (mmQ G A res none) := by
  obtain ⟨S, hA, hr, hlocks⟩ := id E0
  intro h0 x2 μ hf H locs ls hR hS hl
  have hK : mmKN μ μ := mmKN.rf
  unfold bX4_removeAt_17 at hf
  refine lv_iload_n S.1 S.2.1 dX4_removeAt_17 rfl (lv_at hl 1 rfl) ?_
  refine mm_aload_n S dX4_removeAt_18 rfl (lv_at hl 0 rfl) ?_
  obtain ⟨g1, hf⟩ := gd hf
  refine mm_geti S hR fdX4_15 (hK.k g1) rfl dX4_removeAt_19 ?_
  refine lv_icmp_ge (tgt := 45) S.1 S.2.1 dX4_removeAt_22 (by decide) (fun c2 => ?_) (fun c2 => ?_)
  · have hf := it_t hf c2
    refine mm_aload_n S dX4_removeAt_45 rfl (lv_at hl 0 rfl) ?_
    refine lv_dup S.1 S.2.1 dX4_removeAt_46 (rf_cat _) ?_
    refine mm_geti S hR fdX4_15 (hK.k g1) rfl dX4_removeAt_47 ?_
    refine lv_iconst (v := 1) S.1 S.2.1 dX4_removeAt_50 (by decide) ?_
    refine lv_isub S.1 S.2.1 dX4_removeAt_51 ?_
    refine mm_puti S hR hS fpX4_15 (hK.k g1) rfl rfl rfl dX4_removeAt_52 (fun H locs hR hS => ?_)
    obtain ⟨μ3, e3, hf⟩ := stx hf
    rw [← e3] at hR
    have hK : mmKN μ μ3 := by rw [e3]; exact hK.sI
    obtain rfl := Option.some.inj hf
    exact mm_vret S hR hS hr hlocks dX4_removeAt_55
  · have hf := it_f hf c2
    refine mm_aload_n S dX4_removeAt_25 rfl (lv_at hl 0 rfl) ?_
    refine mm_getp S hR fdX4_9 (hK.k g1) rfl dX4_removeAt_26 ?_
    refine lv_iload_n S.1 S.2.1 dX4_removeAt_29 rfl (lv_at hl 1 rfl) ?_
    refine lv_iconst (v := 1) S.1 S.2.1 dX4_removeAt_30 (by decide) ?_
    refine lv_isub S.1 S.2.1 dX4_removeAt_31 ?_
    refine mm_aload_n S dX4_removeAt_32 rfl (lv_at hl 0 rfl) ?_
    refine mm_getp S hR fdX4_9 (hK.k g1) rfl dX4_removeAt_33 ?_
    refine lv_iload_n S.1 S.2.1 dX4_removeAt_36 rfl (lv_at hl 1 rfl) ?_
    obtain ⟨g4, hf⟩ := gd hf
    obtain ⟨g5, hf⟩ := gd hf
    refine mm_iald S hR (hK.k g4) g5 dX4_removeAt_37 ?_
    obtain ⟨g6, hf⟩ := gd hf
    refine mm_iast S hR hS (hK.k g4) g6 dX4_removeAt_38 (fun H locs hR hS => ?_)
    obtain ⟨μ7, e7, hf⟩ := stx hf
    rw [← e7] at hR
    have hK : mmKN μ μ7 := by rw [e7]; exact hK.sI
    refine lv_iinc (v := (x2 + 1)) (lv' := [(2, .int (x2 + 1)), (0, rf h0)]) S.1 S.2.1 dX4_removeAt_39 hl (k := 1) rfl (by rfl) (by decide) rfl (fun ls hl => ?_)
    refine lv_goto (tgt := 17) S.1 S.2.1 dX4_removeAt_42 (by decide) ?_
    exact hkk17 h0 (x2 + 1) μ7 hf _ _ _ hR hS (lv_sub hl [1, 0] rfl)
theorem wlX4_removeAt_17 {p : Program} {l : Launch} {e : Env} {s : State} {m : MethodId} {args : Array Value} {below : List Frame} {meth : Method} {c : Code} {G : mmG} {A : Nat → Prop} {res : MM} (E0 : mmEnv p m c cX4_removeAt 3 s args RX4 G A meth none)  : ∀ (n : Nat) (h0 : Nat) (x2 : Int32) (μ : MM), lX4_removeAt_17  n h0 x2 μ = some res → mmGoal p l e rmX4_removeAt s m args below meth c G A 17 3 [(0, rf h0), (2, .int x2)] μ (mmQ G A res none) := by
  intro n
  induction n with
  | zero => intro h0 x2 μ hf; cases hf
  | succ n ih => intro h0 x2 μ hf; exact wbX4_removeAt_17 E0  _ ih h0 x2 μ hf
set_option maxRecDepth 100000 in
set_option maxHeartbeats 4000000 in
theorem kX4_removeAt_c (l : Launch) (G : mmG) (A : Nat → Prop) {μ : MM} {res : MM} {h0 : Nat} {x1 : Int32} (hk0 : mK μ h0 = 5) (hf : fX4_removeAt h0 x1 μ = some res) : Met l yX4_removeAt [.code yX4_removeAt cX4_removeAt 3 none] rmX4_removeAt (mmPc G A μ [rf h0, .int x1]) (mmQ G A res none) 0 0 A := by
  refine mm_ofW (by decide +kernel) (by simp [lg_sl, rf_cat, int_cat]) ?_
  intro p e s m below meth c ls S hR hA hS hr hlocks hl hnm
  have hl : lv_has ls 3 [(0, rf h0), (1, .int x1)] := by simpa [lv_args, rf_cat, int_cat] using hl
  have E0 : mmEnv p m c cX4_removeAt 3 s _ RX4 G A meth none := ⟨S, hA, hr, hlocks⟩
  have hK : mmKN μ μ := mmKN.rf
  unfold fX4_removeAt at hf
  refine lv_iload_n S.1 S.2.1 dX4_removeAt_0 rfl (lv_at hl 1 rfl) ?_
  refine lv_if_lt (tgt := 12) S.1 S.2.1 dX4_removeAt_1 (by decide) (fun c1 => ?_) (fun c1 => ?_)
  · have hf := it_t hf c1
    obtain rfl := Option.some.inj hf
    exact mm_vret S hR hS hr hlocks dX4_removeAt_12
  · have hf := it_f hf c1
    refine lv_iload_n S.1 S.2.1 dX4_removeAt_4 rfl (lv_at hl 1 rfl) ?_
    refine mm_aload_n S dX4_removeAt_5 rfl (lv_at hl 0 rfl) ?_
    refine mm_geti S hR fdX4_15 (hK.k hk0) rfl dX4_removeAt_6 ?_
    refine lv_icmp_lt (tgt := 13) S.1 S.2.1 dX4_removeAt_9 (by decide) (fun c2 => ?_) (fun c2 => ?_)
    · have hf := it_t hf c2
      refine lv_iload_n S.1 S.2.1 dX4_removeAt_13 rfl (lv_at hl 1 rfl) ?_
      refine lv_iconst (v := 1) S.1 S.2.1 dX4_removeAt_14 (by decide) ?_
      refine lv_iadd S.1 S.2.1 dX4_removeAt_15 ?_
      refine lv_istore_n (i := 2) (lv' := [(2, .int (x1 + 1)), (0, rf h0), (1, .int x1)]) S.1 S.2.1 dX4_removeAt_16 rfl hl (by decide) rfl (fun ls hl => ?_)
      exact wlX4_removeAt_17 E0  FU h0 (x1 + 1) μ hf _ _ _ hR hS (lv_sub hl [1, 0] rfl)
    · have hf := it_f hf c2
      obtain rfl := Option.some.inj hf
      exact mm_vret S hR hS hr hlocks dX4_removeAt_12
-- X4_copyFrom
def fX4_copyFrom (h0 : Nat) (h1 : Nat) (μ : MM) : Option (MM) :=
  if mK μ h1 = 5 then if mK μ (mP μ h1 0) = 20 then if mK μ (mP μ h0 0) = 20 then if (24 : Int32).toNatClampNeg ≤ mN μ (mP μ h1 0) then if (24 : Int32).toNatClampNeg ≤ mN μ (mP μ h0 0) then st (sC μ (mP μ h1 0) (mP μ h0 0) (24 : Int32).toNatClampNeg) fun μ6 => st (sI μ6 h0 1 (mI μ6 h1 1)) fun μ7 => some μ7 else none else none else none else none else none
set_option maxRecDepth 100000 in
set_option maxHeartbeats 4000000 in
theorem kX4_copyFrom_kn {μ : MM} {res : MM} {h0 : Nat} {h1 : Nat} (hf : fX4_copyFrom h0 h1 μ = some res) : mmKN μ res := by
  have hK : mmKN μ μ := mmKN.rf
  unfold fX4_copyFrom at hf
  obtain ⟨g1, hf⟩ := gd hf
  obtain ⟨g2, hf⟩ := gd hf
  obtain ⟨g3, hf⟩ := gd hf
  obtain ⟨g4, hf⟩ := gd hf
  obtain ⟨g5, hf⟩ := gd hf
  obtain ⟨μ6, e6, hf⟩ := stx hf
  have hK : mmKN μ μ6 := by rw [e6]; exact hK.sC
  obtain ⟨μ7, e7, hf⟩ := stx hf
  have hK : mmKN μ μ7 := by rw [e7]; exact hK.sI
  obtain rfl := Option.some.inj hf
  exact hK
abbrev rmX4_copyFrom : Room := { frames := 1, cells := 0, slots := 0, locals := 26 }
set_option maxRecDepth 100000 in
set_option maxHeartbeats 4000000 in
theorem kX4_copyFrom_c (l : Launch) (G : mmG) (A : Nat → Prop) {μ : MM} {res : MM} {h0 : Nat} {h1 : Nat} (hk0 : mK μ h0 = 5) (hf : fX4_copyFrom h0 h1 μ = some res) : Met l yX4_copyFrom [.code yX4_copyFrom cX4_copyFrom 2 none] rmX4_copyFrom (mmPc G A μ [rf h0, rf h1]) (mmQ G A res none) 0 0 A := by
  refine mm_ofW (by decide +kernel) (by simp [lg_sl, rf_cat, int_cat]) ?_
  intro p e s m below meth c ls S hR hA hS hr hlocks hl hnm
  have hl : lv_has ls 2 [(0, rf h0), (1, rf h1)] := by simpa [lv_args, rf_cat, int_cat] using hl
  have E0 : mmEnv p m c cX4_copyFrom 2 s _ RX4 G A meth none := ⟨S, hA, hr, hlocks⟩
  have hK : mmKN μ μ := mmKN.rf
  unfold fX4_copyFrom at hf
  refine mm_aload_n S dX4_copyFrom_0 rfl (lv_at hl 1 rfl) ?_
  obtain ⟨g1, hf⟩ := gd hf
  refine mm_getp S hR fdX4_9 (hK.k g1) rfl dX4_copyFrom_1 ?_
  refine lv_iconst (v := 0) S.1 S.2.1 dX4_copyFrom_4 (by decide) ?_
  refine mm_aload_n S dX4_copyFrom_5 rfl (lv_at hl 0 rfl) ?_
  refine mm_getp S hR fdX4_9 (hK.k hk0) rfl dX4_copyFrom_6 ?_
  refine lv_iconst (v := 0) S.1 S.2.1 dX4_copyFrom_9 (by decide) ?_
  refine lv_bipush (v := 24) S.1 S.2.1 dX4_copyFrom_10 (by decide) ?_
  obtain ⟨g2, hf⟩ := gd hf
  obtain ⟨g3, hf⟩ := gd hf
  obtain ⟨g4, hf⟩ := gd hf
  obtain ⟨g5, hf⟩ := gd hf
  refine mm_copy S hR hS cpX4_23 (hK.k g2) (hK.k g3) (by decide) g4 g5 hl.1 (Nat.le_of_ble_eq_true rfl) (by simp [rf_cat, int_cat, long_cat]) dX4_copyFrom_12 (fun H locs hR hS => ?_)
  obtain ⟨μ6, e6, hf⟩ := stx hf
  rw [← e6] at hR
  have hK : mmKN μ μ6 := by rw [e6]; exact hK.sC
  refine mm_aload_n S dX4_copyFrom_15 rfl (lv_at hl 0 rfl) ?_
  refine mm_aload_n S dX4_copyFrom_16 rfl (lv_at hl 1 rfl) ?_
  refine mm_geti S hR fdX4_15 (hK.k g1) rfl dX4_copyFrom_17 ?_
  refine mm_puti S hR hS fpX4_15 (hK.k hk0) rfl rfl rfl dX4_copyFrom_20 (fun H locs hR hS => ?_)
  obtain ⟨μ7, e7, hf⟩ := stx hf
  rw [← e7] at hR
  have hK : mmKN μ μ7 := by rw [e7]; exact hK.sI
  obtain rfl := Option.some.inj hf
  exact mm_vret S hR hS hr hlocks dX4_copyFrom_23
-- X5_has
def fX5_has (h0 : Nat) (x1 : Int32) (μ : MM) : Option (Int32 × MM) :=
  if x1 < 0 then (some (0, μ)) else (if (mI μ h0 2) ≤ x1 then (some (0, μ)) else (some (1, μ)))
set_option maxRecDepth 100000 in
set_option maxHeartbeats 4000000 in
theorem kX5_has_kn {μ : MM} {res : Int32 × MM} {h0 : Nat} {x1 : Int32} (hf : fX5_has h0 x1 μ = some res) : mmKN μ res.2 := by
  have hK : mmKN μ μ := mmKN.rf
  unfold fX5_has at hf
  rcases it_or hf with ⟨c1, hf⟩ | ⟨c1, hf⟩
  · skip
    obtain rfl := Option.some.inj hf
    exact hK
  · skip
    rcases it_or hf with ⟨c2, hf⟩ | ⟨c2, hf⟩
    · skip
      obtain rfl := Option.some.inj hf
      exact hK
    · skip
      obtain rfl := Option.some.inj hf
      exact hK
abbrev rmX5_has : Room := { frames := 0, cells := 0, slots := 0, locals := 0 }
set_option maxRecDepth 100000 in
set_option maxHeartbeats 4000000 in
theorem kX5_has_c (l : Launch) (G : mmG) (A : Nat → Prop) {μ : MM} {res : Int32 × MM} {h0 : Nat} {x1 : Int32} (hk0 : mK μ h0 = 6) (hf : fX5_has h0 x1 μ = some res) : Met l yX5_has [.code yX5_has cX5_has 2 (some (.boolean))] rmX5_has (mmPc G A μ [rf h0, .int x1]) (mmQ G A res.2 (some (.int res.1))) 0 0 A := by
  refine mm_ofW (by decide +kernel) (by simp [lg_sl, rf_cat, int_cat]) ?_
  intro p e s m below meth c ls S hR hA hS hr hlocks hl hnm
  have hl : lv_has ls 2 [(0, rf h0), (1, .int x1)] := by simpa [lv_args, rf_cat, int_cat] using hl
  have E0 : mmEnv p m c cX5_has 2 s _ RX5 G A meth (some (.boolean)) := ⟨S, hA, hr, hlocks⟩
  have hK : mmKN μ μ := mmKN.rf
  unfold fX5_has at hf
  refine lv_iload_n S.1 S.2.1 dX5_has_0 rfl (lv_at hl 1 rfl) ?_
  refine lv_if_lt (tgt := 16) S.1 S.2.1 dX5_has_1 (by decide) (fun c1 => ?_) (fun c1 => ?_)
  · have hf := it_t hf c1
    refine lv_iconst (v := 0) S.1 S.2.1 dX5_has_16 (by decide) ?_
    obtain rfl := Option.some.inj hf
    exact mm_zret S hR hS hr hlocks (Or.inl rfl) dX5_has_17
  · have hf := it_f hf c1
    refine lv_iload_n S.1 S.2.1 dX5_has_4 rfl (lv_at hl 1 rfl) ?_
    refine mm_aload_n S dX5_has_5 rfl (lv_at hl 0 rfl) ?_
    refine mm_geti S hR fdX5_18 (hK.k hk0) rfl dX5_has_6 ?_
    refine lv_icmp_ge (tgt := 16) S.1 S.2.1 dX5_has_9 (by decide) (fun c2 => ?_) (fun c2 => ?_)
    · have hf := it_t hf c2
      refine lv_iconst (v := 0) S.1 S.2.1 dX5_has_16 (by decide) ?_
      obtain rfl := Option.some.inj hf
      exact mm_zret S hR hS hr hlocks (Or.inl rfl) dX5_has_17
    · have hf := it_f hf c2
      refine lv_iconst (v := 1) S.1 S.2.1 dX5_has_12 (by decide) ?_
      refine lv_goto (tgt := 17) S.1 S.2.1 dX5_has_13 (by decide) ?_
      obtain rfl := Option.some.inj hf
      exact mm_zret S hR hS hr hlocks (Or.inr rfl) dX5_has_17
-- X5_isFull
def fX5_isFull (h0 : Nat) (μ : MM) : Option (Int32 × MM) :=
  if (mI μ h0 2) < (6 : Int32) then (some (0, μ)) else (some (1, μ))
set_option maxRecDepth 100000 in
set_option maxHeartbeats 4000000 in
theorem kX5_isFull_kn {μ : MM} {res : Int32 × MM} {h0 : Nat} (hf : fX5_isFull h0 μ = some res) : mmKN μ res.2 := by
  have hK : mmKN μ μ := mmKN.rf
  unfold fX5_isFull at hf
  rcases it_or hf with ⟨c1, hf⟩ | ⟨c1, hf⟩
  · skip
    obtain rfl := Option.some.inj hf
    exact hK
  · skip
    obtain rfl := Option.some.inj hf
    exact hK
abbrev rmX5_isFull : Room := { frames := 0, cells := 0, slots := 0, locals := 0 }
set_option maxRecDepth 100000 in
set_option maxHeartbeats 4000000 in
theorem kX5_isFull_c (l : Launch) (G : mmG) (A : Nat → Prop) {μ : MM} {res : Int32 × MM} {h0 : Nat} (hk0 : mK μ h0 = 6) (hf : fX5_isFull h0 μ = some res) : Met l yX5_isFull [.code yX5_isFull cX5_isFull 1 (some (.boolean))] rmX5_isFull (mmPc G A μ [rf h0]) (mmQ G A res.2 (some (.int res.1))) 0 0 A := by
  refine mm_ofW (by decide +kernel) (by simp [lg_sl, rf_cat, int_cat]) ?_
  intro p e s m below meth c ls S hR hA hS hr hlocks hl hnm
  have hl : lv_has ls 1 [(0, rf h0)] := by simpa [lv_args, rf_cat, int_cat] using hl
  have E0 : mmEnv p m c cX5_isFull 1 s _ RX5 G A meth (some (.boolean)) := ⟨S, hA, hr, hlocks⟩
  have hK : mmKN μ μ := mmKN.rf
  unfold fX5_isFull at hf
  refine mm_aload_n S dX5_isFull_0 rfl (lv_at hl 0 rfl) ?_
  refine mm_geti S hR fdX5_18 (hK.k hk0) rfl dX5_isFull_1 ?_
  refine lv_bipush (v := 6) S.1 S.2.1 dX5_isFull_4 (by decide) ?_
  refine lv_icmp_lt (tgt := 13) S.1 S.2.1 dX5_isFull_6 (by decide) (fun c1 => ?_) (fun c1 => ?_)
  · have hf := it_t hf c1
    refine lv_iconst (v := 0) S.1 S.2.1 dX5_isFull_13 (by decide) ?_
    obtain rfl := Option.some.inj hf
    exact mm_zret S hR hS hr hlocks (Or.inl rfl) dX5_isFull_14
  · have hf := it_f hf c1
    refine lv_iconst (v := 1) S.1 S.2.1 dX5_isFull_9 (by decide) ?_
    refine lv_goto (tgt := 14) S.1 S.2.1 dX5_isFull_10 (by decide) ?_
    obtain rfl := Option.some.inj hf
    exact mm_zret S hR hS hr hlocks (Or.inr rfl) dX5_isFull_14
-- X5_signAt
def fX5_signAt (h0 : Nat) (x1 : Int32) (μ : MM) : Option (Int32 × MM) :=
  (fX5_has h0 x1 μ).bind fun y1 => if y1.1 = 0 then (some (0, y1.2)) else (if mK μ (mP y1.2 h0 0) = 20 then if ¬ (x1 < 0 ∨ mN y1.2 (mP y1.2 h0 0) ≤ x1.toNatClampNeg) then some ((mI y1.2 (mP y1.2 h0 0) x1.toNatClampNeg), y1.2) else none else none)
set_option maxRecDepth 100000 in
set_option maxHeartbeats 4000000 in
theorem kX5_signAt_kn {μ : MM} {res : Int32 × MM} {h0 : Nat} {x1 : Int32} (hf : fX5_signAt h0 x1 μ = some res) : mmKN μ res.2 := by
  have hK : mmKN μ μ := mmKN.rf
  unfold fX5_signAt at hf
  obtain ⟨y1, hy1, hf⟩ := bd hf
  have hK : mmKN μ y1.2 := hK.tr (kX5_has_kn hy1)
  rcases it_or hf with ⟨c2, hf⟩ | ⟨c2, hf⟩
  · skip
    obtain rfl := Option.some.inj hf
    exact hK
  · skip
    obtain ⟨g3, hf⟩ := gd hf
    obtain ⟨g4, hf⟩ := gd hf
    obtain rfl := Option.some.inj hf
    exact hK
abbrev rmX5_signAt : Room := { frames := 1, cells := 0, slots := 0, locals := 21 }
set_option maxRecDepth 100000 in
set_option maxHeartbeats 4000000 in
theorem kX5_signAt_c (l : Launch) (G : mmG) (A : Nat → Prop) {μ : MM} {res : Int32 × MM} {h0 : Nat} {x1 : Int32} (hk0 : mK μ h0 = 6) (hf : fX5_signAt h0 x1 μ = some res) : Met l yX5_signAt [.code yX5_signAt cX5_signAt 2 (some (.int))] rmX5_signAt (mmPc G A μ [rf h0, .int x1]) (mmQ G A res.2 (some (.int res.1))) 0 0 A := by
  refine mm_ofW (by decide +kernel) (by simp [lg_sl, rf_cat, int_cat]) ?_
  intro p e s m below meth c ls S hR hA hS hr hlocks hl hnm
  have hl : lv_has ls 2 [(0, rf h0), (1, .int x1)] := by simpa [lv_args, rf_cat, int_cat] using hl
  have E0 : mmEnv p m c cX5_signAt 2 s _ RX5 G A meth (some (.int)) := ⟨S, hA, hr, hlocks⟩
  have hK : mmKN μ μ := mmKN.rf
  unfold fX5_signAt at hf
  refine mm_aload_n S dX5_signAt_0 rfl (lv_at hl 0 rfl) ?_
  refine lv_iload_n S.1 S.2.1 dX5_signAt_1 rfl (lv_at hl 1 rfl) ?_
  obtain ⟨y1, hy1, hf⟩ := bd hf
  refine mm_callVi S hR hS hA (As := [.int x1]) (rest := []) cvX5_22 (hK.k hk0) (kX5_has_c l G A (hK.k hk0) hy1) rfl rfl ⟨Nat.le_of_ble_eq_true rfl, Nat.le_of_ble_eq_true rfl⟩ rfl hl.1 rfl (lv_room (by simp [rf_cat, int_cat, long_cat])) dX5_signAt_2 ⟨Nat.zero_le _, Nat.zero_le _⟩ (fun H locs hR hS => ?_)
  have hK : mmKN μ y1.2 := hK.tr (kX5_has_kn hy1)
  refine lv_if_eq (tgt := 17) S.1 S.2.1 dX5_signAt_5 (by decide) (fun c2 => ?_) (fun c2 => ?_)
  · have hf := it_t hf c2
    refine lv_iconst (v := 0) S.1 S.2.1 dX5_signAt_17 (by decide) ?_
    obtain rfl := Option.some.inj hf
    exact mm_iret S hR hS hr hlocks dX5_signAt_18
  · have hf := it_f hf c2
    refine mm_aload_n S dX5_signAt_8 rfl (lv_at hl 0 rfl) ?_
    refine mm_getp S hR fdX5_9 (hK.k hk0) rfl dX5_signAt_9 ?_
    refine lv_iload_n S.1 S.2.1 dX5_signAt_12 rfl (lv_at hl 1 rfl) ?_
    obtain ⟨g3, hf⟩ := gd hf
    obtain ⟨g4, hf⟩ := gd hf
    refine mm_iald S hR (hK.k g3) g4 dX5_signAt_13 ?_
    refine lv_goto (tgt := 18) S.1 S.2.1 dX5_signAt_14 (by decide) ?_
    obtain rfl := Option.some.inj hf
    exact mm_iret S hR hS hr hlocks dX5_signAt_18
-- X5_lastSign
def fX5_lastSign (h0 : Nat) (μ : MM) : Option (Int32 × MM) :=
  if (mI μ h0 2) ≤ 0 then (some (0, μ)) else (if (6 : Int32) < (mI μ h0 2) then (some (0, μ)) else (if mK μ (mP μ h0 0) = 20 then if ¬ (((mI μ h0 2) - 1) < 0 ∨ mN μ (mP μ h0 0) ≤ ((mI μ h0 2) - 1).toNatClampNeg) then some ((mI μ (mP μ h0 0) ((mI μ h0 2) - 1).toNatClampNeg), μ) else none else none))
set_option maxRecDepth 100000 in
set_option maxHeartbeats 4000000 in
theorem kX5_lastSign_kn {μ : MM} {res : Int32 × MM} {h0 : Nat} (hf : fX5_lastSign h0 μ = some res) : mmKN μ res.2 := by
  have hK : mmKN μ μ := mmKN.rf
  unfold fX5_lastSign at hf
  rcases it_or hf with ⟨c1, hf⟩ | ⟨c1, hf⟩
  · skip
    obtain rfl := Option.some.inj hf
    exact hK
  · skip
    rcases it_or hf with ⟨c2, hf⟩ | ⟨c2, hf⟩
    · skip
      obtain rfl := Option.some.inj hf
      exact hK
    · skip
      obtain ⟨g3, hf⟩ := gd hf
      obtain ⟨g4, hf⟩ := gd hf
      obtain rfl := Option.some.inj hf
      exact hK
abbrev rmX5_lastSign : Room := { frames := 0, cells := 0, slots := 0, locals := 0 }
set_option maxRecDepth 100000 in
set_option maxHeartbeats 4000000 in
theorem kX5_lastSign_c (l : Launch) (G : mmG) (A : Nat → Prop) {μ : MM} {res : Int32 × MM} {h0 : Nat} (hk0 : mK μ h0 = 6) (hf : fX5_lastSign h0 μ = some res) : Met l yX5_lastSign [.code yX5_lastSign cX5_lastSign 1 (some (.int))] rmX5_lastSign (mmPc G A μ [rf h0]) (mmQ G A res.2 (some (.int res.1))) 0 0 A := by
  refine mm_ofW (by decide +kernel) (by simp [lg_sl, rf_cat, int_cat]) ?_
  intro p e s m below meth c ls S hR hA hS hr hlocks hl hnm
  have hl : lv_has ls 1 [(0, rf h0)] := by simpa [lv_args, rf_cat, int_cat] using hl
  have E0 : mmEnv p m c cX5_lastSign 1 s _ RX5 G A meth (some (.int)) := ⟨S, hA, hr, hlocks⟩
  have hK : mmKN μ μ := mmKN.rf
  unfold fX5_lastSign at hf
  refine mm_aload_n S dX5_lastSign_0 rfl (lv_at hl 0 rfl) ?_
  refine mm_geti S hR fdX5_18 (hK.k hk0) rfl dX5_lastSign_1 ?_
  refine lv_if_le (tgt := 30) S.1 S.2.1 dX5_lastSign_4 (by decide) (fun c1 => ?_) (fun c1 => ?_)
  · have hf := it_t hf c1
    refine lv_iconst (v := 0) S.1 S.2.1 dX5_lastSign_30 (by decide) ?_
    obtain rfl := Option.some.inj hf
    exact mm_iret S hR hS hr hlocks dX5_lastSign_31
  · have hf := it_f hf c1
    refine mm_aload_n S dX5_lastSign_7 rfl (lv_at hl 0 rfl) ?_
    refine mm_geti S hR fdX5_18 (hK.k hk0) rfl dX5_lastSign_8 ?_
    refine lv_bipush (v := 6) S.1 S.2.1 dX5_lastSign_11 (by decide) ?_
    refine lv_icmp_gt (tgt := 30) S.1 S.2.1 dX5_lastSign_13 (by decide) (fun c2 => ?_) (fun c2 => ?_)
    · have hf := it_t hf c2
      refine lv_iconst (v := 0) S.1 S.2.1 dX5_lastSign_30 (by decide) ?_
      obtain rfl := Option.some.inj hf
      exact mm_iret S hR hS hr hlocks dX5_lastSign_31
    · have hf := it_f hf c2
      refine mm_aload_n S dX5_lastSign_16 rfl (lv_at hl 0 rfl) ?_
      refine mm_getp S hR fdX5_9 (hK.k hk0) rfl dX5_lastSign_17 ?_
      refine mm_aload_n S dX5_lastSign_20 rfl (lv_at hl 0 rfl) ?_
      refine mm_geti S hR fdX5_18 (hK.k hk0) rfl dX5_lastSign_21 ?_
      refine lv_iconst (v := 1) S.1 S.2.1 dX5_lastSign_24 (by decide) ?_
      refine lv_isub S.1 S.2.1 dX5_lastSign_25 ?_
      obtain ⟨g3, hf⟩ := gd hf
      obtain ⟨g4, hf⟩ := gd hf
      refine mm_iald S hR (hK.k g3) g4 dX5_lastSign_26 ?_
      refine lv_goto (tgt := 31) S.1 S.2.1 dX5_lastSign_27 (by decide) ?_
      obtain rfl := Option.some.inj hf
      exact mm_iret S hR hS hr hlocks dX5_lastSign_31
-- X5_lastMark
def fX5_lastMark (h0 : Nat) (μ : MM) : Option (Int32 × MM) :=
  if (mI μ h0 2) ≤ 0 then (some (0, μ)) else (if (6 : Int32) < (mI μ h0 2) then (some (0, μ)) else (if mK μ (mP μ h0 1) = 20 then if ¬ (((mI μ h0 2) - 1) < 0 ∨ mN μ (mP μ h0 1) ≤ ((mI μ h0 2) - 1).toNatClampNeg) then some ((mI μ (mP μ h0 1) ((mI μ h0 2) - 1).toNatClampNeg), μ) else none else none))
set_option maxRecDepth 100000 in
set_option maxHeartbeats 4000000 in
theorem kX5_lastMark_kn {μ : MM} {res : Int32 × MM} {h0 : Nat} (hf : fX5_lastMark h0 μ = some res) : mmKN μ res.2 := by
  have hK : mmKN μ μ := mmKN.rf
  unfold fX5_lastMark at hf
  rcases it_or hf with ⟨c1, hf⟩ | ⟨c1, hf⟩
  · skip
    obtain rfl := Option.some.inj hf
    exact hK
  · skip
    rcases it_or hf with ⟨c2, hf⟩ | ⟨c2, hf⟩
    · skip
      obtain rfl := Option.some.inj hf
      exact hK
    · skip
      obtain ⟨g3, hf⟩ := gd hf
      obtain ⟨g4, hf⟩ := gd hf
      obtain rfl := Option.some.inj hf
      exact hK
abbrev rmX5_lastMark : Room := { frames := 0, cells := 0, slots := 0, locals := 0 }
set_option maxRecDepth 100000 in
set_option maxHeartbeats 4000000 in
theorem kX5_lastMark_c (l : Launch) (G : mmG) (A : Nat → Prop) {μ : MM} {res : Int32 × MM} {h0 : Nat} (hk0 : mK μ h0 = 6) (hf : fX5_lastMark h0 μ = some res) : Met l yX5_lastMark [.code yX5_lastMark cX5_lastMark 1 (some (.int))] rmX5_lastMark (mmPc G A μ [rf h0]) (mmQ G A res.2 (some (.int res.1))) 0 0 A := by
  refine mm_ofW (by decide +kernel) (by simp [lg_sl, rf_cat, int_cat]) ?_
  intro p e s m below meth c ls S hR hA hS hr hlocks hl hnm
  have hl : lv_has ls 1 [(0, rf h0)] := by simpa [lv_args, rf_cat, int_cat] using hl
  have E0 : mmEnv p m c cX5_lastMark 1 s _ RX5 G A meth (some (.int)) := ⟨S, hA, hr, hlocks⟩
  have hK : mmKN μ μ := mmKN.rf
  unfold fX5_lastMark at hf
  refine mm_aload_n S dX5_lastMark_0 rfl (lv_at hl 0 rfl) ?_
  refine mm_geti S hR fdX5_18 (hK.k hk0) rfl dX5_lastMark_1 ?_
  refine lv_if_le (tgt := 30) S.1 S.2.1 dX5_lastMark_4 (by decide) (fun c1 => ?_) (fun c1 => ?_)
  · have hf := it_t hf c1
    refine lv_iconst (v := 0) S.1 S.2.1 dX5_lastMark_30 (by decide) ?_
    obtain rfl := Option.some.inj hf
    exact mm_iret S hR hS hr hlocks dX5_lastMark_31
  · have hf := it_f hf c1
    refine mm_aload_n S dX5_lastMark_7 rfl (lv_at hl 0 rfl) ?_
    refine mm_geti S hR fdX5_18 (hK.k hk0) rfl dX5_lastMark_8 ?_
    refine lv_bipush (v := 6) S.1 S.2.1 dX5_lastMark_11 (by decide) ?_
    refine lv_icmp_gt (tgt := 30) S.1 S.2.1 dX5_lastMark_13 (by decide) (fun c2 => ?_) (fun c2 => ?_)
    · have hf := it_t hf c2
      refine lv_iconst (v := 0) S.1 S.2.1 dX5_lastMark_30 (by decide) ?_
      obtain rfl := Option.some.inj hf
      exact mm_iret S hR hS hr hlocks dX5_lastMark_31
    · have hf := it_f hf c2
      refine mm_aload_n S dX5_lastMark_16 rfl (lv_at hl 0 rfl) ?_
      refine mm_getp S hR fdX5_15 (hK.k hk0) rfl dX5_lastMark_17 ?_
      refine mm_aload_n S dX5_lastMark_20 rfl (lv_at hl 0 rfl) ?_
      refine mm_geti S hR fdX5_18 (hK.k hk0) rfl dX5_lastMark_21 ?_
      refine lv_iconst (v := 1) S.1 S.2.1 dX5_lastMark_24 (by decide) ?_
      refine lv_isub S.1 S.2.1 dX5_lastMark_25 ?_
      obtain ⟨g3, hf⟩ := gd hf
      obtain ⟨g4, hf⟩ := gd hf
      refine mm_iald S hR (hK.k g3) g4 dX5_lastMark_26 ?_
      refine lv_goto (tgt := 31) S.1 S.2.1 dX5_lastMark_27 (by decide) ?_
      obtain rfl := Option.some.inj hf
      exact mm_iret S hR hS hr hlocks dX5_lastMark_31
-- X5_put
def fX5_put (h0 : Nat) (x1 : Int32) (x2 : Int32) (μ : MM) : Option (MM) :=
  if (mI μ h0 2) < 0 then (some μ) else (if (6 : Int32) ≤ (mI μ h0 2) then (some μ) else (if mK μ (mP μ h0 0) = 20 then if ¬ ((mI μ h0 2) < 0 ∨ mN μ (mP μ h0 0) ≤ (mI μ h0 2).toNatClampNeg) then st (sI μ (mP μ h0 0) (mI μ h0 2).toNatClampNeg x1) fun μ5 => if mK μ (mP μ5 h0 1) = 20 then if ¬ ((mI μ5 h0 2) < 0 ∨ mN μ5 (mP μ5 h0 1) ≤ (mI μ5 h0 2).toNatClampNeg) then st (sI μ5 (mP μ5 h0 1) (mI μ5 h0 2).toNatClampNeg x2) fun μ8 => st (sI μ8 h0 2 ((mI μ8 h0 2) + 1)) fun μ9 => some μ9 else none else none else none else none))
set_option maxRecDepth 100000 in
set_option maxHeartbeats 4000000 in
theorem kX5_put_kn {μ : MM} {res : MM} {h0 : Nat} {x1 : Int32} {x2 : Int32} (hf : fX5_put h0 x1 x2 μ = some res) : mmKN μ res := by
  have hK : mmKN μ μ := mmKN.rf
  unfold fX5_put at hf
  rcases it_or hf with ⟨c1, hf⟩ | ⟨c1, hf⟩
  · skip
    obtain rfl := Option.some.inj hf
    exact hK
  · skip
    rcases it_or hf with ⟨c2, hf⟩ | ⟨c2, hf⟩
    · skip
      obtain rfl := Option.some.inj hf
      exact hK
    · skip
      obtain ⟨g3, hf⟩ := gd hf
      obtain ⟨g4, hf⟩ := gd hf
      obtain ⟨μ5, e5, hf⟩ := stx hf
      have hK : mmKN μ μ5 := by rw [e5]; exact hK.sI
      obtain ⟨g6, hf⟩ := gd hf
      obtain ⟨g7, hf⟩ := gd hf
      obtain ⟨μ8, e8, hf⟩ := stx hf
      have hK : mmKN μ μ8 := by rw [e8]; exact hK.sI
      obtain ⟨μ9, e9, hf⟩ := stx hf
      have hK : mmKN μ μ9 := by rw [e9]; exact hK.sI
      obtain rfl := Option.some.inj hf
      exact hK
abbrev rmX5_put : Room := { frames := 0, cells := 0, slots := 0, locals := 0 }
set_option maxRecDepth 100000 in
set_option maxHeartbeats 4000000 in
theorem kX5_put_c (l : Launch) (G : mmG) (A : Nat → Prop) {μ : MM} {res : MM} {h0 : Nat} {x1 : Int32} {x2 : Int32} (hk0 : mK μ h0 = 6) (hf : fX5_put h0 x1 x2 μ = some res) : Met l yX5_put [.code yX5_put cX5_put 3 none] rmX5_put (mmPc G A μ [rf h0, .int x1, .int x2]) (mmQ G A res none) 0 0 A := by
  refine mm_ofW (by decide +kernel) (by simp [lg_sl, rf_cat, int_cat]) ?_
  intro p e s m below meth c ls S hR hA hS hr hlocks hl hnm
  have hl : lv_has ls 3 [(0, rf h0), (1, .int x1), (2, .int x2)] := by simpa [lv_args, rf_cat, int_cat] using hl
  have E0 : mmEnv p m c cX5_put 3 s _ RX5 G A meth none := ⟨S, hA, hr, hlocks⟩
  have hK : mmKN μ μ := mmKN.rf
  unfold fX5_put at hf
  refine mm_aload_n S dX5_put_0 rfl (lv_at hl 0 rfl) ?_
  refine mm_geti S hR fdX5_18 (hK.k hk0) rfl dX5_put_1 ?_
  refine lv_if_lt (tgt := 46) S.1 S.2.1 dX5_put_4 (by decide) (fun c1 => ?_) (fun c1 => ?_)
  · have hf := it_t hf c1
    obtain rfl := Option.some.inj hf
    exact mm_vret S hR hS hr hlocks dX5_put_46
  · have hf := it_f hf c1
    refine mm_aload_n S dX5_put_7 rfl (lv_at hl 0 rfl) ?_
    refine mm_geti S hR fdX5_18 (hK.k hk0) rfl dX5_put_8 ?_
    refine lv_bipush (v := 6) S.1 S.2.1 dX5_put_11 (by decide) ?_
    refine lv_icmp_ge (tgt := 46) S.1 S.2.1 dX5_put_13 (by decide) (fun c2 => ?_) (fun c2 => ?_)
    · have hf := it_t hf c2
      obtain rfl := Option.some.inj hf
      exact mm_vret S hR hS hr hlocks dX5_put_46
    · have hf := it_f hf c2
      refine mm_aload_n S dX5_put_16 rfl (lv_at hl 0 rfl) ?_
      refine mm_getp S hR fdX5_9 (hK.k hk0) rfl dX5_put_17 ?_
      refine mm_aload_n S dX5_put_20 rfl (lv_at hl 0 rfl) ?_
      refine mm_geti S hR fdX5_18 (hK.k hk0) rfl dX5_put_21 ?_
      refine lv_iload_n S.1 S.2.1 dX5_put_24 rfl (lv_at hl 1 rfl) ?_
      obtain ⟨g3, hf⟩ := gd hf
      obtain ⟨g4, hf⟩ := gd hf
      refine mm_iast S hR hS (hK.k g3) g4 dX5_put_25 (fun H locs hR hS => ?_)
      obtain ⟨μ5, e5, hf⟩ := stx hf
      rw [← e5] at hR
      have hK : mmKN μ μ5 := by rw [e5]; exact hK.sI
      refine mm_aload_n S dX5_put_26 rfl (lv_at hl 0 rfl) ?_
      refine mm_getp S hR fdX5_15 (hK.k hk0) rfl dX5_put_27 ?_
      refine mm_aload_n S dX5_put_30 rfl (lv_at hl 0 rfl) ?_
      refine mm_geti S hR fdX5_18 (hK.k hk0) rfl dX5_put_31 ?_
      refine lv_iload_n S.1 S.2.1 dX5_put_34 rfl (lv_at hl 2 rfl) ?_
      obtain ⟨g6, hf⟩ := gd hf
      obtain ⟨g7, hf⟩ := gd hf
      refine mm_iast S hR hS (hK.k g6) g7 dX5_put_35 (fun H locs hR hS => ?_)
      obtain ⟨μ8, e8, hf⟩ := stx hf
      rw [← e8] at hR
      have hK : mmKN μ μ8 := by rw [e8]; exact hK.sI
      refine mm_aload_n S dX5_put_36 rfl (lv_at hl 0 rfl) ?_
      refine lv_dup S.1 S.2.1 dX5_put_37 (rf_cat _) ?_
      refine mm_geti S hR fdX5_18 (hK.k hk0) rfl dX5_put_38 ?_
      refine lv_iconst (v := 1) S.1 S.2.1 dX5_put_41 (by decide) ?_
      refine lv_iadd S.1 S.2.1 dX5_put_42 ?_
      refine mm_puti S hR hS fpX5_18 (hK.k hk0) rfl rfl rfl dX5_put_43 (fun H locs hR hS => ?_)
      obtain ⟨μ9, e9, hf⟩ := stx hf
      rw [← e9] at hR
      have hK : mmKN μ μ9 := by rw [e9]; exact hK.sI
      obtain rfl := Option.some.inj hf
      exact mm_vret S hR hS hr hlocks dX5_put_46
-- X5_takeOff
def fX5_takeOff (h0 : Nat) (μ : MM) : Option (MM) :=
  if (mI μ h0 2) ≤ 0 then (some μ) else (st (sI μ h0 2 ((mI μ h0 2) - 1)) fun μ2 => some μ2)
set_option maxRecDepth 100000 in
set_option maxHeartbeats 4000000 in
theorem kX5_takeOff_kn {μ : MM} {res : MM} {h0 : Nat} (hf : fX5_takeOff h0 μ = some res) : mmKN μ res := by
  have hK : mmKN μ μ := mmKN.rf
  unfold fX5_takeOff at hf
  rcases it_or hf with ⟨c1, hf⟩ | ⟨c1, hf⟩
  · skip
    obtain rfl := Option.some.inj hf
    exact hK
  · skip
    obtain ⟨μ2, e2, hf⟩ := stx hf
    have hK : mmKN μ μ2 := by rw [e2]; exact hK.sI
    obtain rfl := Option.some.inj hf
    exact hK
abbrev rmX5_takeOff : Room := { frames := 0, cells := 0, slots := 0, locals := 0 }
set_option maxRecDepth 100000 in
set_option maxHeartbeats 4000000 in
theorem kX5_takeOff_c (l : Launch) (G : mmG) (A : Nat → Prop) {μ : MM} {res : MM} {h0 : Nat} (hk0 : mK μ h0 = 6) (hf : fX5_takeOff h0 μ = some res) : Met l yX5_takeOff [.code yX5_takeOff cX5_takeOff 1 none] rmX5_takeOff (mmPc G A μ [rf h0]) (mmQ G A res none) 0 0 A := by
  refine mm_ofW (by decide +kernel) (by simp [lg_sl, rf_cat, int_cat]) ?_
  intro p e s m below meth c ls S hR hA hS hr hlocks hl hnm
  have hl : lv_has ls 1 [(0, rf h0)] := by simpa [lv_args, rf_cat, int_cat] using hl
  have E0 : mmEnv p m c cX5_takeOff 1 s _ RX5 G A meth none := ⟨S, hA, hr, hlocks⟩
  have hK : mmKN μ μ := mmKN.rf
  unfold fX5_takeOff at hf
  refine mm_aload_n S dX5_takeOff_0 rfl (lv_at hl 0 rfl) ?_
  refine mm_geti S hR fdX5_18 (hK.k hk0) rfl dX5_takeOff_1 ?_
  refine lv_if_le (tgt := 17) S.1 S.2.1 dX5_takeOff_4 (by decide) (fun c1 => ?_) (fun c1 => ?_)
  · have hf := it_t hf c1
    obtain rfl := Option.some.inj hf
    exact mm_vret S hR hS hr hlocks dX5_takeOff_17
  · have hf := it_f hf c1
    refine mm_aload_n S dX5_takeOff_7 rfl (lv_at hl 0 rfl) ?_
    refine lv_dup S.1 S.2.1 dX5_takeOff_8 (rf_cat _) ?_
    refine mm_geti S hR fdX5_18 (hK.k hk0) rfl dX5_takeOff_9 ?_
    refine lv_iconst (v := 1) S.1 S.2.1 dX5_takeOff_12 (by decide) ?_
    refine lv_isub S.1 S.2.1 dX5_takeOff_13 ?_
    refine mm_puti S hR hS fpX5_18 (hK.k hk0) rfl rfl rfl dX5_takeOff_14 (fun H locs hR hS => ?_)
    obtain ⟨μ2, e2, hf⟩ := stx hf
    rw [← e2] at hR
    have hK : mmKN μ μ2 := by rw [e2]; exact hK.sI
    obtain rfl := Option.some.inj hf
    exact mm_vret S hR hS hr hlocks dX5_takeOff_17
-- X5_copyFrom
def fX5_copyFrom (h0 : Nat) (h1 : Nat) (μ : MM) : Option (MM) :=
  if mK μ h1 = 6 then if mK μ (mP μ h1 0) = 20 then if mK μ (mP μ h0 0) = 20 then if (6 : Int32).toNatClampNeg ≤ mN μ (mP μ h1 0) then if (6 : Int32).toNatClampNeg ≤ mN μ (mP μ h0 0) then st (sC μ (mP μ h1 0) (mP μ h0 0) (6 : Int32).toNatClampNeg) fun μ6 => if mK μ (mP μ6 h1 1) = 20 then if mK μ (mP μ6 h0 1) = 20 then if (6 : Int32).toNatClampNeg ≤ mN μ6 (mP μ6 h1 1) then if (6 : Int32).toNatClampNeg ≤ mN μ6 (mP μ6 h0 1) then st (sC μ6 (mP μ6 h1 1) (mP μ6 h0 1) (6 : Int32).toNatClampNeg) fun μ11 => st (sI μ11 h0 2 (mI μ11 h1 2)) fun μ12 => some μ12 else none else none else none else none else none else none else none else none else none
set_option maxRecDepth 100000 in
set_option maxHeartbeats 4000000 in
theorem kX5_copyFrom_kn {μ : MM} {res : MM} {h0 : Nat} {h1 : Nat} (hf : fX5_copyFrom h0 h1 μ = some res) : mmKN μ res := by
  have hK : mmKN μ μ := mmKN.rf
  unfold fX5_copyFrom at hf
  obtain ⟨g1, hf⟩ := gd hf
  obtain ⟨g2, hf⟩ := gd hf
  obtain ⟨g3, hf⟩ := gd hf
  obtain ⟨g4, hf⟩ := gd hf
  obtain ⟨g5, hf⟩ := gd hf
  obtain ⟨μ6, e6, hf⟩ := stx hf
  have hK : mmKN μ μ6 := by rw [e6]; exact hK.sC
  obtain ⟨g7, hf⟩ := gd hf
  obtain ⟨g8, hf⟩ := gd hf
  obtain ⟨g9, hf⟩ := gd hf
  obtain ⟨g10, hf⟩ := gd hf
  obtain ⟨μ11, e11, hf⟩ := stx hf
  have hK : mmKN μ μ11 := by rw [e11]; exact hK.sC
  obtain ⟨μ12, e12, hf⟩ := stx hf
  have hK : mmKN μ μ12 := by rw [e12]; exact hK.sI
  obtain rfl := Option.some.inj hf
  exact hK
abbrev rmX5_copyFrom : Room := { frames := 1, cells := 0, slots := 0, locals := 26 }
set_option maxRecDepth 100000 in
set_option maxHeartbeats 4000000 in
theorem kX5_copyFrom_c (l : Launch) (G : mmG) (A : Nat → Prop) {μ : MM} {res : MM} {h0 : Nat} {h1 : Nat} (hk0 : mK μ h0 = 6) (hf : fX5_copyFrom h0 h1 μ = some res) : Met l yX5_copyFrom [.code yX5_copyFrom cX5_copyFrom 2 none] rmX5_copyFrom (mmPc G A μ [rf h0, rf h1]) (mmQ G A res none) 0 0 A := by
  refine mm_ofW (by decide +kernel) (by simp [lg_sl, rf_cat, int_cat]) ?_
  intro p e s m below meth c ls S hR hA hS hr hlocks hl hnm
  have hl : lv_has ls 2 [(0, rf h0), (1, rf h1)] := by simpa [lv_args, rf_cat, int_cat] using hl
  have E0 : mmEnv p m c cX5_copyFrom 2 s _ RX5 G A meth none := ⟨S, hA, hr, hlocks⟩
  have hK : mmKN μ μ := mmKN.rf
  unfold fX5_copyFrom at hf
  refine mm_aload_n S dX5_copyFrom_0 rfl (lv_at hl 1 rfl) ?_
  obtain ⟨g1, hf⟩ := gd hf
  refine mm_getp S hR fdX5_9 (hK.k g1) rfl dX5_copyFrom_1 ?_
  refine lv_iconst (v := 0) S.1 S.2.1 dX5_copyFrom_4 (by decide) ?_
  refine mm_aload_n S dX5_copyFrom_5 rfl (lv_at hl 0 rfl) ?_
  refine mm_getp S hR fdX5_9 (hK.k hk0) rfl dX5_copyFrom_6 ?_
  refine lv_iconst (v := 0) S.1 S.2.1 dX5_copyFrom_9 (by decide) ?_
  refine lv_bipush (v := 6) S.1 S.2.1 dX5_copyFrom_10 (by decide) ?_
  obtain ⟨g2, hf⟩ := gd hf
  obtain ⟨g3, hf⟩ := gd hf
  obtain ⟨g4, hf⟩ := gd hf
  obtain ⟨g5, hf⟩ := gd hf
  refine mm_copy S hR hS cpX5_26 (hK.k g2) (hK.k g3) (by decide) g4 g5 hl.1 (Nat.le_of_ble_eq_true rfl) (by simp [rf_cat, int_cat, long_cat]) dX5_copyFrom_12 (fun H locs hR hS => ?_)
  obtain ⟨μ6, e6, hf⟩ := stx hf
  rw [← e6] at hR
  have hK : mmKN μ μ6 := by rw [e6]; exact hK.sC
  refine mm_aload_n S dX5_copyFrom_15 rfl (lv_at hl 1 rfl) ?_
  refine mm_getp S hR fdX5_15 (hK.k g1) rfl dX5_copyFrom_16 ?_
  refine lv_iconst (v := 0) S.1 S.2.1 dX5_copyFrom_19 (by decide) ?_
  refine mm_aload_n S dX5_copyFrom_20 rfl (lv_at hl 0 rfl) ?_
  refine mm_getp S hR fdX5_15 (hK.k hk0) rfl dX5_copyFrom_21 ?_
  refine lv_iconst (v := 0) S.1 S.2.1 dX5_copyFrom_24 (by decide) ?_
  refine lv_bipush (v := 6) S.1 S.2.1 dX5_copyFrom_25 (by decide) ?_
  obtain ⟨g7, hf⟩ := gd hf
  obtain ⟨g8, hf⟩ := gd hf
  obtain ⟨g9, hf⟩ := gd hf
  obtain ⟨g10, hf⟩ := gd hf
  refine mm_copy S hR hS cpX5_26 (hK.k g7) (hK.k g8) (by decide) g9 g10 hl.1 (Nat.le_of_ble_eq_true rfl) (by simp [rf_cat, int_cat, long_cat]) dX5_copyFrom_27 (fun H locs hR hS => ?_)
  obtain ⟨μ11, e11, hf⟩ := stx hf
  rw [← e11] at hR
  have hK : mmKN μ μ11 := by rw [e11]; exact hK.sC
  refine mm_aload_n S dX5_copyFrom_30 rfl (lv_at hl 0 rfl) ?_
  refine mm_aload_n S dX5_copyFrom_31 rfl (lv_at hl 1 rfl) ?_
  refine mm_geti S hR fdX5_18 (hK.k g1) rfl dX5_copyFrom_32 ?_
  refine mm_puti S hR hS fpX5_18 (hK.k hk0) rfl rfl rfl dX5_copyFrom_35 (fun H locs hR hS => ?_)
  obtain ⟨μ12, e12, hf⟩ := stx hf
  rw [← e12] at hR
  have hK : mmKN μ μ12 := by rw [e12]; exact hK.sI
  obtain rfl := Option.some.inj hf
  exact mm_vret S hR hS hr hlocks dX5_copyFrom_38
