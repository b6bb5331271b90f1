theorem cvL_46 : mmCV RL 46 6 yX6_digest cX6_digest 5 (some (.long)) 0 := ⟨TX6, 3, rfl, by decide, (wl_t 362 (by decide +kernel) (by decide +kernel)), (wl_t 363 (by decide +kernel) (by decide +kernel)), (wl_t 364 (by decide +kernel) (by decide +kernel)), (wl_t 1 (by decide +kernel) (by decide +kernel)), (wl_t 365 (by decide +kernel) (by decide +kernel)), rfl, rfl, ⟨by decide +kernel, by decide +kernel⟩, by decide +kernel⟩
set_option maxRecDepth 1000000 in
theorem csL_50 : mmCS RL 50 yL_areCoroutinesRight cL_areCoroutinesRight 10 (some (.boolean)) 2 := ⟨(wl_t 856 (by decide +kernel) (by decide +kernel)), (wl_t 857 (by decide +kernel) (by decide +kernel)), (wl_t 0 (by decide +kernel) (by decide +kernel)), (wl_t 858 rfl (by decide +kernel)), rfl, rfl, ⟨by decide +kernel, by decide +kernel⟩, by decide +kernel⟩
set_option maxRecDepth 1000000 in
theorem csL_54 : mmCS RL 54 yL_areTasksRight cL_areTasksRight 11 (some (.boolean)) 1 := ⟨(wl_t 881 (by decide +kernel) (by decide +kernel)), (wl_t 882 (by decide +kernel) (by decide +kernel)), (wl_t 0 (by decide +kernel) (by decide +kernel)), (wl_t 883 rfl (by decide +kernel)), rfl, rfl, ⟨by decide +kernel, by decide +kernel⟩, by decide +kernel⟩
theorem cvL_29 : mmCV RL 29 7 yX7_isDrawn cX7_isDrawn 8 (some (.boolean)) 4 := ⟨TX7, 3, rfl, by decide, (wl_t 758 (by decide +kernel) (by decide +kernel)), (wl_t 759 (by decide +kernel) (by decide +kernel)), (wl_t 760 (by decide +kernel) (by decide +kernel)), (wl_t 8 (by decide +kernel) (by decide +kernel)), (wl_t 761 (by decide +kernel) (by decide +kernel)), rfl, rfl, ⟨by decide +kernel, by decide +kernel⟩, by decide +kernel⟩
theorem cvL_15 : mmCV RL 15 7 yX7_isTold cX7_isTold 2 (some (.boolean)) 1 := ⟨TX7, 3, rfl, by decide, (wl_t 730 (by decide +kernel) (by decide +kernel)), (wl_t 731 (by decide +kernel) (by decide +kernel)), (wl_t 732 (by decide +kernel) (by decide +kernel)), (wl_t 8 (by decide +kernel) (by decide +kernel)), (wl_t 733 (by decide +kernel) (by decide +kernel)), rfl, rfl, ⟨by decide +kernel, by decide +kernel⟩, by decide +kernel⟩
theorem mcL_33 : Cond.classLink RL 33 ("[" ++ (FieldType.array .int).toString) ∈ WL := wl_in2 (by decide +kernel)
theorem nwL_9 : mmNw RL 9 6 3 := ⟨RX6, TX6, tyX6, rfl, by decide, wsX6_in, tyX6_ok, (wl_t 19 (by decide +kernel) (by decide +kernel)), (wl_t 20 (by decide +kernel) (by decide +kernel)), (wl_t 1 (by decide +kernel) (by decide +kernel)), by decide +kernel⟩
theorem ciL_11 : mmCI RL 11 yX6_init cX6_init 1 0 := ⟨(Or.inl (wl_t 21 (by decide +kernel) (by decide +kernel))), (wl_t 22 (by decide +kernel) (by decide +kernel)), (wl_t 1 (by decide +kernel) (by decide +kernel)), (wl_t 23 (by decide +kernel) (by decide +kernel)), rfl, rfl, rfl, ⟨by decide +kernel, by decide +kernel⟩, by decide +kernel⟩
theorem nwL_12 : mmNw RL 12 7 3 := ⟨RX7, TX7, tyX7, rfl, by decide, wsX7_in, tyX7_ok, (wl_t 710 (by decide +kernel) (by decide +kernel)), (wl_t 711 (by decide +kernel) (by decide +kernel)), (wl_t 8 (by decide +kernel) (by decide +kernel)), by decide +kernel⟩
theorem ciL_14 : mmCI RL 14 yX7_init cX7_init 1 0 := ⟨(Or.inr ⟨"YieldMoorLaw", (wl_t 712 (by decide +kernel) (by decide +kernel))⟩), (wl_t 713 (by decide +kernel) (by decide +kernel)), (wl_t 8 (by decide +kernel) (by decide +kernel)), (wl_t 714 (by decide +kernel) (by decide +kernel)), rfl, rfl, rfl, ⟨by decide +kernel, by decide +kernel⟩, by decide +kernel⟩
theorem ref_cat1 (b : Nat) : (Value.ref b).category = 1 := rfl
theorem stp {α : Type} {x : α} {f : α → Prop} (h : st x f) : ∃ y, y = x ∧ f y := ⟨x, rfl, h⟩
def mmLawE (p : Program) (l : Launch) (e : Env) (s : State) (m : MethodId) (args : Array Value) (below : List Frame) (meth : Method) (c : Code) (G : mmG) (A : Nat → Prop) (b L : Nat) (xs : Nat → Int32) (Q : State → Prop) : Prop :=
  mmS p m c cL_law 9 s args RL G ∧ (∀ q, s.heap.size ≤ q → A q) ∧ va_X b L xs s s.heap ∧ b < s.heap.size ∧ ¬ A b ∧ l.stackTraces = false ∧ mmXU A s ∧ mmNc s ∧
  ∀ (H : Heap) (locs : List Loc) (ls : Array Slot) (ce sl : Nat), va_S A s.heap H locs → ce ≤ 650000 → sl ≤ 6900000 → W p l e room_1 s m args below meth c H locs ce sl Q (F0 m 417 ls [.int 1])
abbrev mmGL (p : Program) (l : Launch) (e : Env) (s : State) (m : MethodId) (args : Array Value) (below : List Frame) (meth : Method) (c : Code) (G : mmG) (A : Nat → Prop) (Q : State → Prop) (ce sl pc : Nat) (lv : List (Nat × Value)) (μ : MM) : Prop :=
  ∀ (H : Heap) (locs : List Loc) (ls : Array Slot), mmR G A μ H → va_S A s.heap H locs → lv_has ls 9 lv → W p l e room_1 s m args below meth c H locs ce sl Q (F0 m pc ls [])

def PL_364 (L : Nat) (xs : Nat → Int32) (kk230 : Nat → Nat → Nat → Int32 → MM → Prop) (h1 : Nat) (h2 : Nat) (h4 : Nat) (x5 : Int32) (μ : MM) : Prop :=
  (((x5 - x5 / 18 * 18) = (17 : Int32)) → ((mK μ h1 = 7) ∧ (∃ y2, fX6_digest h1 μ = some y2 ∧ (∃ y4, fL_areCoroutinesRight h1 h2 y2.2 = some y4 ∧ (((y4.1 = 0) → (False)) ∧ (¬ (y4.1 = 0) → (∃ y6, fL_areTasksRight h1 y4.2 = some y6 ∧ (((y6.1 = 0) → (False)) ∧ (¬ (y6.1 = 0) → ((mK y6.2 h1 = 7) ∧ (∃ y8, fX6_digest h1 y6.2 = some y8 ∧ ((((lg_cmp y8.1 y2.1) = 0) → (kk230 h1 h2 h4 (x5 + 1) y8.2)) ∧ (¬ ((lg_cmp y8.1 y2.1) = 0) → (False)))))))))))))) ∧ (¬ ((x5 - x5 / 18 * 18) = (17 : Int32)) → (kk230 h1 h2 h4 (x5 + 1) μ))
set_option maxRecDepth 100000 in
set_option maxHeartbeats 16000000 in
theorem wPL_364 {p : Program} {l : Launch} {e : Env} {s : State} {m : MethodId} {args : Array Value} {below : List Frame} {meth : Method} {c : Code} {G : mmG} {A : Nat → Prop} {b L : Nat} {xs : Nat → Int32} {Q : State → Prop} (E0 : mmLawE p l e s m args below meth c G A b L xs Q) (kk230 : Nat → Nat → Nat → Int32 → MM → Prop) (ce sl : Nat) (hc : ce ≤ 600000) (hs : sl ≤ 6800000) (hkk230 : ∀ (ce9 sl9 : Nat) (h1 : Nat) (h2 : Nat) (h4 : Nat) (x5 : Int32) (μ : MM), kk230 h1 h2 h4 x5 μ → ce9 ≤ ce + 3 → sl9 ≤ sl + 32 → mmGL p l e s m args below meth c G A Q ce9 sl9 230 [(0, .ref b), (1, rf h1), (2, rf h2), (4, rf h4), (5, .int x5)] μ) : ∀ (h1 : Nat) (h2 : Nat) (h4 : Nat) (x5 : Int32) (μ : MM), PL_364 L xs kk230 h1 h2 h4 x5 μ → mmGL p l e s m args below meth c G A Q ce sl 364 [(0, .ref b), (1, rf h1), (2, rf h2), (4, rf h4), (5, .int x5)] μ := by
  obtain ⟨S, hA, hX, hbl, hbA, hl0, hXU, hNc, hQ⟩ := id E0
  intro h1 h2 h4 x5 μ hf H locs ls hR hS hl
  have hK : mmKN μ μ := mmKN.rf
  unfold PL_364 at hf
  refine lv_iload S.1 S.2.1 dL_law_364 (lv_at hl 4 rfl) ?_
  refine lv_bipush (v := 18) S.1 S.2.1 dL_law_366 (by decide) ?_
  refine lv_irem S.1 S.2.1 dL_law_368 (by decide) ?_
  refine lv_bipush (v := 17) S.1 S.2.1 dL_law_369 (by decide) ?_
  refine lv_icmp_eq (tgt := 377) S.1 S.2.1 dL_law_371 (by decide) (fun c1 => ?_) (fun c1 => ?_)
  · have hf := hf.1 c1
    refine mm_aload_n S dL_law_377 rfl (lv_at hl 1 rfl) ?_
    obtain ⟨g3, hf⟩ := hf
    obtain ⟨y2, hy2, hf⟩ := hf
    refine mm_callVl S hR hS hA (As := []) (rest := []) cvL_46 (hK.k g3) (kX6_digest_c l G A (hK.k g3) hy2) rfl rfl ⟨Nat.le_of_ble_eq_true rfl, Nat.le_of_ble_eq_true rfl⟩ rfl hl.1 rfl (lv_room (by simp [rf_cat, int_cat, long_cat])) dL_law_378 ⟨by show ce ≤ 654330; omega, by show sl ≤ 7138635; omega⟩ (fun H locs hR hS => ?_)
    have hK : mmKN μ y2.2 := hK.tr (kX6_digest_kn hy2)
    refine lv_lstore (i := 7) (lv' := [(7, .long y2.1), (0, .ref b), (1, rf h1), (2, rf h2), (4, rf h4), (5, .int x5)]) S.1 S.2.1 dL_law_381 hl (by decide) (by simp [rf_cat, int_cat, long_cat, ref_cat1]) (fun ls hl => ?_)
    refine mm_aload_n S dL_law_383 rfl (lv_at hl 2 rfl) ?_
    refine mm_aload_n S dL_law_384 rfl (lv_at hl 3 rfl) ?_
    obtain ⟨y4, hy4, hf⟩ := hf
    refine mm_callSiA S hR hS hA (As := [rf h1, rf h2]) (rest := []) csL_50 (kL_areCoroutinesRight_c l G A hy4) rfl rfl ⟨Nat.le_of_ble_eq_true rfl, Nat.le_of_ble_eq_true rfl⟩ rfl hl.1 rfl (lv_room (by simp [rf_cat, int_cat, long_cat])) dL_law_385 ⟨by show ce + 2 ≤ 654330; omega, by show sl + 8 ≤ 7138635; omega⟩ (fun H locs hR hS => ?_)
    have hK : mmKN y4.2 y4.2 := mmKN.rf
    refine lv_if_eq (tgt := 408) S.1 S.2.1 dL_law_388 (by decide) (fun c5 => ?_) (fun c5 => ?_)
    · have hf := hf.1 c5
      refine lv_iconst (v := 0) S.1 S.2.1 dL_law_408 (by decide) ?_
      exact hf.elim
    · have hf := hf.2 c5
      refine mm_aload_n S dL_law_391 rfl (lv_at hl 2 rfl) ?_
      obtain ⟨y6, hy6, hf⟩ := hf
      refine mm_callSiA S hR hS hA (As := [rf h1]) (rest := []) csL_54 (kL_areTasksRight_c l G A hy6) rfl rfl ⟨Nat.le_of_ble_eq_true rfl, Nat.le_of_ble_eq_true rfl⟩ rfl hl.1 rfl (lv_room (by simp [rf_cat, int_cat, long_cat])) dL_law_392 ⟨by show ce + 2 + 1 ≤ 654330; omega, by show sl + 8 + 24 ≤ 7138635; omega⟩ (fun H locs hR hS => ?_)
      have hK : mmKN y6.2 y6.2 := mmKN.rf
      refine lv_if_eq (tgt := 408) S.1 S.2.1 dL_law_395 (by decide) (fun c7 => ?_) (fun c7 => ?_)
      · have hf := hf.1 c7
        refine lv_iconst (v := 0) S.1 S.2.1 dL_law_408 (by decide) ?_
        exact hf.elim
      · have hf := hf.2 c7
        refine mm_aload_n S dL_law_398 rfl (lv_at hl 2 rfl) ?_
        obtain ⟨g9, hf⟩ := hf
        obtain ⟨y8, hy8, hf⟩ := hf
        refine mm_callVl S hR hS hA (As := []) (rest := []) cvL_46 (hK.k g9) (kX6_digest_c l G A (hK.k g9) hy8) rfl rfl ⟨Nat.le_of_ble_eq_true rfl, Nat.le_of_ble_eq_true rfl⟩ rfl hl.1 rfl (lv_room (by simp [rf_cat, int_cat, long_cat])) dL_law_399 ⟨by show ce + 2 + 1 ≤ 654330; omega, by show sl + 8 + 24 ≤ 7138635; omega⟩ (fun H locs hR hS => ?_)
        have hK : mmKN y6.2 y8.2 := hK.tr (kX6_digest_kn hy8)
        refine lv_lload S.1 S.2.1 dL_law_402 (lv_at hl 0 rfl) ?_
        refine W.lcmp S.1 S.2.1 dL_law_404 ?_
        refine lv_if_eq (tgt := 410) S.1 S.2.1 dL_law_405 (by decide) (fun c10 => ?_) (fun c10 => ?_)
        · have hf := hf.1 c10
          refine lv_iinc (v := (x5 + 1)) (lv' := [(5, .int (x5 + 1)), (7, .long y2.1), (0, .ref b), (1, rf h1), (2, rf h2), (4, rf h4)]) S.1 S.2.1 dL_law_410 hl (k := 5) rfl (by rfl) (by decide) (by simp [rf_cat, int_cat, long_cat, ref_cat1]) (fun ls hl => ?_)
          refine lv_goto (tgt := 230) S.1 S.2.1 dL_law_413 (by decide) ?_
          exact hkk230 _ _ h1 h2 h4 (x5 + 1) y8.2 hf (by omega) (by omega) _ _ _ hR hS (lv_sub hl [2, 3, 4, 5, 0] rfl)
        · have hf := hf.2 c10
          refine lv_iconst (v := 0) S.1 S.2.1 dL_law_408 (by decide) ?_
          exact hf.elim
  · have hf := hf.2 c1
    refine lv_goto (tgt := 410) S.1 S.2.1 dL_law_374 (by decide) ?_
    refine lv_iinc (v := (x5 + 1)) (lv' := [(5, .int (x5 + 1)), (0, .ref b), (1, rf h1), (2, rf h2), (4, rf h4)]) S.1 S.2.1 dL_law_410 hl (k := 4) rfl (by rfl) (by decide) (by simp [rf_cat, int_cat, long_cat, ref_cat1]) (fun ls hl => ?_)
    refine lv_goto (tgt := 230) S.1 S.2.1 dL_law_413 (by decide) ?_
    exact hkk230 _ _ h1 h2 h4 (x5 + 1) μ hf (by omega) (by omega) _ _ _ hR hS (lv_sub hl [1, 2, 3, 4, 0] rfl)
def PL_273 (L : Nat) (xs : Nat → Int32) (kk230 : Nat → Nat → Nat → Int32 → MM → Prop) (kk273 : Nat → Nat → Nat → Int32 → Int32 → MM → Prop) (h1 : Nat) (h2 : Nat) (h4 : Nat) (x5 : Int32) (x7 : Int32) (μ : MM) : Prop :=
  (mK μ h1 = 7) ∧ (∃ y1, fX6_many h1 1 μ = some y1 ∧ y1.1 = 0 ∧ (((y1.2.1 ≤ x7) → (PL_364 L xs kk230 h1 h2 h4 x5 y1.2.2)) ∧ (¬ (y1.2.1 ≤ x7) → ((mK μ h4 = 24) ∧ ((¬ (x7 < 0 ∨ mN y1.2.2 h4 ≤ x7.toNatClampNeg)) ∧ ((mK μ (mP y1.2.2 h4 x7.toNatClampNeg) = 20) ∧ ((¬ ((0 : Int32) < 0 ∨ mN y1.2.2 (mP y1.2.2 h4 x7.toNatClampNeg) ≤ (0 : Int32).toNatClampNeg)) ∧ ((((mI y1.2.2 (mP y1.2.2 h4 x7.toNatClampNeg) (0 : Int32).toNatClampNeg) ≤ (2 : Int32)) → ((¬ (x7 < 0 ∨ mN y1.2.2 h4 ≤ x7.toNatClampNeg)) ∧ (∃ y10, fX6_of h1 x7 1 y1.2.2 = some y10 ∧ y10.1 = 0 ∧ ((¬ ((0 : Int32) < 0 ∨ mN y10.2.2 (mP y1.2.2 h4 x7.toNatClampNeg) ≤ (0 : Int32).toNatClampNeg)) ∧ (st (sI y10.2.2 (mP y1.2.2 h4 x7.toNatClampNeg) (0 : Int32).toNatClampNeg y10.2.1) fun μ12 => (¬ (x7 < 0 ∨ mN μ12 h4 ≤ x7.toNatClampNeg)) ∧ (∃ y14, fX6_of h1 x7 4 μ12 = some y14 ∧ y14.1 = 0 ∧ ((mK μ (mP μ12 h4 x7.toNatClampNeg) = 20) ∧ ((¬ ((1 : Int32) < 0 ∨ mN y14.2.2 (mP μ12 h4 x7.toNatClampNeg) ≤ (1 : Int32).toNatClampNeg)) ∧ (st (sI y14.2.2 (mP μ12 h4 x7.toNatClampNeg) (1 : Int32).toNatClampNeg y14.2.1) fun μ17 => kk273 h1 h2 h4 x5 (x7 + 1) μ17))))))))) ∧ (¬ ((mI y1.2.2 (mP y1.2.2 h4 x7.toNatClampNeg) (0 : Int32).toNatClampNeg) ≤ (2 : Int32)) → (∃ y20, fX6_of h1 x7 1 y1.2.2 = some y20 ∧ y20.1 = 0 ∧ ((¬ (x7 < 0 ∨ mN y20.2.2 h4 ≤ x7.toNatClampNeg)) ∧ ((mK μ (mP y20.2.2 h4 x7.toNatClampNeg) = 20) ∧ ((¬ ((0 : Int32) < 0 ∨ mN y20.2.2 (mP y20.2.2 h4 x7.toNatClampNeg) ≤ (0 : Int32).toNatClampNeg)) ∧ (((y20.2.1 = (mI y20.2.2 (mP y20.2.2 h4 x7.toNatClampNeg) (0 : Int32).toNatClampNeg)) → (∃ y25, fX6_of h1 x7 4 y20.2.2 = some y25 ∧ y25.1 = 0 ∧ ((¬ (x7 < 0 ∨ mN y25.2.2 h4 ≤ x7.toNatClampNeg)) ∧ ((mK μ (mP y25.2.2 h4 x7.toNatClampNeg) = 20) ∧ ((¬ ((1 : Int32) < 0 ∨ mN y25.2.2 (mP y25.2.2 h4 x7.toNatClampNeg) ≤ (1 : Int32).toNatClampNeg)) ∧ (((y25.2.1 = (mI y25.2.2 (mP y25.2.2 h4 x7.toNatClampNeg) (1 : Int32).toNatClampNeg)) → ((¬ (x7 < 0 ∨ mN y25.2.2 h4 ≤ x7.toNatClampNeg)) ∧ (∃ y31, fX6_of h1 x7 1 y25.2.2 = some y31 ∧ y31.1 = 0 ∧ ((¬ ((0 : Int32) < 0 ∨ mN y31.2.2 (mP y25.2.2 h4 x7.toNatClampNeg) ≤ (0 : Int32).toNatClampNeg)) ∧ (st (sI y31.2.2 (mP y25.2.2 h4 x7.toNatClampNeg) (0 : Int32).toNatClampNeg y31.2.1) fun μ33 => (¬ (x7 < 0 ∨ mN μ33 h4 ≤ x7.toNatClampNeg)) ∧ (∃ y35, fX6_of h1 x7 4 μ33 = some y35 ∧ y35.1 = 0 ∧ ((mK μ (mP μ33 h4 x7.toNatClampNeg) = 20) ∧ ((¬ ((1 : Int32) < 0 ∨ mN y35.2.2 (mP μ33 h4 x7.toNatClampNeg) ≤ (1 : Int32).toNatClampNeg)) ∧ (st (sI y35.2.2 (mP μ33 h4 x7.toNatClampNeg) (1 : Int32).toNatClampNeg y35.2.1) fun μ38 => kk273 h1 h2 h4 x5 (x7 + 1) μ38))))))))) ∧ (¬ (y25.2.1 = (mI y25.2.2 (mP y25.2.2 h4 x7.toNatClampNeg) (1 : Int32).toNatClampNeg)) → (False)))))))) ∧ (¬ (y20.2.1 = (mI y20.2.2 (mP y20.2.2 h4 x7.toNatClampNeg) (0 : Int32).toNatClampNeg)) → (False))))))))))))))))
def LL_273 (L : Nat) (xs : Nat → Int32) (kk230 : Nat → Nat → Nat → Int32 → MM → Prop) : Nat → Nat → Nat → Nat → Int32 → Int32 → MM → Prop
  | 0, _, _, _, _, _, _ => False
  | n + 1, h1, h2, h4, x5, x7, μ => PL_273 L xs kk230 (LL_273 L xs kk230 n) h1 h2 h4 x5 x7 μ
set_option maxRecDepth 100000 in
set_option maxHeartbeats 16000000 in
theorem wLL_273 {p : Program} {l : Launch} {e : Env} {s : State} {m : MethodId} {args : Array Value} {below : List Frame} {meth : Method} {c : Code} {G : mmG} {A : Nat → Prop} {b L : Nat} {xs : Nat → Int32} {Q : State → Prop} (E0 : mmLawE p l e s m args below meth c G A b L xs Q) (kk230 : Nat → Nat → Nat → Int32 → MM → Prop) (ce sl : Nat) (hc : ce ≤ 600000) (hs : sl ≤ 6800000) (hkk230 : ∀ (ce9 sl9 : Nat) (h1 : Nat) (h2 : Nat) (h4 : Nat) (x5 : Int32) (μ : MM), kk230 h1 h2 h4 x5 μ → ce9 ≤ ce + 3 → sl9 ≤ sl + 32 → mmGL p l e s m args below meth c G A Q ce9 sl9 230 [(0, .ref b), (1, rf h1), (2, rf h2), (4, rf h4), (5, .int x5)] μ) : ∀ (n : Nat) (h1 : Nat) (h2 : Nat) (h4 : Nat) (x5 : Int32) (x7 : Int32) (μ : MM), LL_273 L xs kk230 n h1 h2 h4 x5 x7 μ → mmGL p l e s m args below meth c G A Q ce sl 273 [(0, .ref b), (1, rf h1), (2, rf h2), (4, rf h4), (5, .int x5), (7, .int x7)] μ := by
  obtain ⟨S, hA, hX, hbl, hbA, hl0, hXU, hNc, hQ⟩ := id E0
  intro n
  induction n with
  | zero => intro h1 h2 h4 x5 x7 μ hf; exact hf.elim
  | succ n ih =>
    intro h1 h2 h4 x5 x7 μ hf H locs ls hR hS hl
    have hK : mmKN μ μ := mmKN.rf
    have hf : PL_273 L xs kk230 (LL_273 L xs kk230 n) h1 h2 h4 x5 x7 μ := hf
    unfold PL_273 at hf
    refine lv_iload S.1 S.2.1 dL_law_273 (lv_at hl 5 rfl) ?_
    refine mm_aload_n S dL_law_275 rfl (lv_at hl 1 rfl) ?_
    refine lv_iconst (v := 1) S.1 S.2.1 dL_law_276 (by decide) ?_
    obtain ⟨g2, hf⟩ := hf
    obtain ⟨y1, hy1, g43, hf⟩ := hf
    refine mm_callVi S hR hS hA (As := [.int 1]) (rest := [.int x7]) cvL_39 (hK.k g2) (kX6_many_c l G A (hK.k g2) hy1 g43) rfl rfl ⟨Nat.le_of_ble_eq_true rfl, Nat.le_of_ble_eq_true rfl⟩ rfl hl.1 rfl (lv_room (by simp [rf_cat, int_cat, long_cat])) dL_law_277 ⟨by show ce ≤ 654330; omega, by show sl ≤ 7138635; omega⟩ (fun H locs hR hS => ?_)
    have hK : mmKN μ y1.2.2 := hK.tr (kX6_many_kn hy1)
    refine lv_icmp_ge (tgt := 364) S.1 S.2.1 dL_law_280 (by decide) (fun c3 => ?_) (fun c3 => ?_)
    · have hf := hf.1 c3
      exact wPL_364 E0 _ ce sl (by omega) (by omega) hkk230 h1 h2 h4 x5 y1.2.2 hf _ _ _ hR hS (lv_sub hl [0, 1, 2, 3, 4] rfl)
    · have hf := hf.2 c3
      refine mm_aload S dL_law_283 (lv_at hl 3 rfl) ?_
      refine lv_iload S.1 S.2.1 dL_law_285 (lv_at hl 5 rfl) ?_
      obtain ⟨g4, hf⟩ := hf
      obtain ⟨g5, hf⟩ := hf
      refine mm_aaldA (k := 24) (t := 4) S hR (hK.k g4) (by decide) (by decide) rfl g5 dL_law_287 ?_
      refine lv_iconst (v := 0) S.1 S.2.1 dL_law_288 (by decide) ?_
      obtain ⟨g6, hf⟩ := hf
      obtain ⟨g7, hf⟩ := hf
      refine mm_iald S hR (hK.k g6) g7 dL_law_289 ?_
      refine lv_iconst (v := 2) S.1 S.2.1 dL_law_290 (by decide) ?_
      refine lv_icmp_le (tgt := 330) S.1 S.2.1 dL_law_291 (by decide) (fun c8 => ?_) (fun c8 => ?_)
      · have hf := hf.1 c8
        refine mm_aload S dL_law_330 (lv_at hl 3 rfl) ?_
        refine lv_iload S.1 S.2.1 dL_law_332 (lv_at hl 5 rfl) ?_
        obtain ⟨g9, hf⟩ := hf
        refine mm_aaldA (k := 24) (t := 4) S hR (hK.k g4) (by decide) (by decide) rfl g9 dL_law_334 ?_
        refine lv_iconst (v := 0) S.1 S.2.1 dL_law_335 (by decide) ?_
        refine mm_aload_n S dL_law_336 rfl (lv_at hl 1 rfl) ?_
        refine lv_iload S.1 S.2.1 dL_law_337 (lv_at hl 5 rfl) ?_
        refine lv_iconst (v := 1) S.1 S.2.1 dL_law_339 (by decide) ?_
        obtain ⟨y10, hy10, g19, hf⟩ := hf
        refine mm_callVi S hR hS hA (As := [.int x7, .int 1]) (rest := [.int 0, rf (mP y1.2.2 h4 x7.toNatClampNeg)]) cvL_43 (hK.k g2) (kX6_of_c l G A (hK.k g2) hy10 g19) rfl rfl ⟨Nat.le_of_ble_eq_true rfl, Nat.le_of_ble_eq_true rfl⟩ rfl hl.1 rfl (lv_room (by simp [rf_cat, int_cat, long_cat])) dL_law_340 ⟨by show ce ≤ 654330; omega, by show sl ≤ 7138635; omega⟩ (fun H locs hR hS => ?_)
        have hK : mmKN μ y10.2.2 := hK.tr (kX6_of_kn hy10)
        obtain ⟨g11, hf⟩ := hf
        refine mm_iast S hR hS (hK.k g6) g11 dL_law_343 (fun H locs hR hS => ?_)
        obtain ⟨μ12, e12, hf⟩ := stp hf
        rw [← e12] at hR
        have hK : mmKN μ μ12 := by rw [e12]; exact hK.sI
        refine mm_aload S dL_law_344 (lv_at hl 3 rfl) ?_
        refine lv_iload S.1 S.2.1 dL_law_346 (lv_at hl 5 rfl) ?_
        obtain ⟨g13, hf⟩ := hf
        refine mm_aaldA (k := 24) (t := 4) S hR (hK.k g4) (by decide) (by decide) rfl g13 dL_law_348 ?_
        refine lv_iconst (v := 1) S.1 S.2.1 dL_law_349 (by decide) ?_
        refine mm_aload_n S dL_law_350 rfl (lv_at hl 1 rfl) ?_
        refine lv_iload S.1 S.2.1 dL_law_351 (lv_at hl 5 rfl) ?_
        refine lv_iconst (v := 4) S.1 S.2.1 dL_law_353 (by decide) ?_
        obtain ⟨y14, hy14, g18, hf⟩ := hf
        refine mm_callVi S hR hS hA (As := [.int x7, .int 4]) (rest := [.int 1, rf (mP μ12 h4 x7.toNatClampNeg)]) cvL_43 (hK.k g2) (kX6_of_c l G A (hK.k g2) hy14 g18) rfl rfl ⟨Nat.le_of_ble_eq_true rfl, Nat.le_of_ble_eq_true rfl⟩ rfl hl.1 rfl (lv_room (by simp [rf_cat, int_cat, long_cat])) dL_law_354 ⟨by show ce ≤ 654330; omega, by show sl ≤ 7138635; omega⟩ (fun H locs hR hS => ?_)
        have hK : mmKN μ y14.2.2 := hK.tr (kX6_of_kn hy14)
        obtain ⟨g15, hf⟩ := hf
        obtain ⟨g16, hf⟩ := hf
        refine mm_iast S hR hS (hK.k g15) g16 dL_law_357 (fun H locs hR hS => ?_)
        obtain ⟨μ17, e17, hf⟩ := stp hf
        rw [← e17] at hR
        have hK : mmKN μ μ17 := by rw [e17]; exact hK.sI
        refine lv_iinc (v := (x7 + 1)) (lv' := [(7, .int (x7 + 1)), (0, .ref b), (1, rf h1), (2, rf h2), (4, rf h4), (5, .int x5)]) S.1 S.2.1 dL_law_358 hl (k := 5) rfl (by rfl) (by decide) (by simp [rf_cat, int_cat, long_cat, ref_cat1]) (fun ls hl => ?_)
        refine lv_goto (tgt := 273) S.1 S.2.1 dL_law_361 (by decide) ?_
        exact ih h1 h2 h4 x5 (x7 + 1) μ17 hf _ _ _ hR hS (lv_sub hl [1, 2, 3, 4, 5, 0] rfl)
      · have hf := hf.2 c8
        refine mm_aload_n S dL_law_294 rfl (lv_at hl 1 rfl) ?_
        refine lv_iload S.1 S.2.1 dL_law_295 (lv_at hl 5 rfl) ?_
        refine lv_iconst (v := 1) S.1 S.2.1 dL_law_297 (by decide) ?_
        obtain ⟨y20, hy20, g42, hf⟩ := hf
        refine mm_callVi S hR hS hA (As := [.int x7, .int 1]) (rest := []) cvL_43 (hK.k g2) (kX6_of_c l G A (hK.k g2) hy20 g42) rfl rfl ⟨Nat.le_of_ble_eq_true rfl, Nat.le_of_ble_eq_true rfl⟩ rfl hl.1 rfl (lv_room (by simp [rf_cat, int_cat, long_cat])) dL_law_298 ⟨by show ce ≤ 654330; omega, by show sl ≤ 7138635; omega⟩ (fun H locs hR hS => ?_)
        have hK : mmKN μ y20.2.2 := hK.tr (kX6_of_kn hy20)
        refine mm_aload S dL_law_301 (lv_at hl 3 rfl) ?_
        refine lv_iload S.1 S.2.1 dL_law_303 (lv_at hl 5 rfl) ?_
        obtain ⟨g21, hf⟩ := hf
        refine mm_aaldA (k := 24) (t := 4) S hR (hK.k g4) (by decide) (by decide) rfl g21 dL_law_305 ?_
        refine lv_iconst (v := 0) S.1 S.2.1 dL_law_306 (by decide) ?_
        obtain ⟨g22, hf⟩ := hf
        obtain ⟨g23, hf⟩ := hf
        refine mm_iald S hR (hK.k g22) g23 dL_law_307 ?_
        refine lv_icmp_ne (tgt := 328) S.1 S.2.1 dL_law_308 (by decide) (fun c24 => ?_) (fun c24 => ?_)
        · have hf := hf.2 c24
          refine lv_iconst (v := 0) S.1 S.2.1 dL_law_328 (by decide) ?_
          exact hf.elim
        · have hf := hf.1 c24
          refine mm_aload_n S dL_law_311 rfl (lv_at hl 1 rfl) ?_
          refine lv_iload S.1 S.2.1 dL_law_312 (lv_at hl 5 rfl) ?_
          refine lv_iconst (v := 4) S.1 S.2.1 dL_law_314 (by decide) ?_
          obtain ⟨y25, hy25, g41, hf⟩ := hf
          refine mm_callVi S hR hS hA (As := [.int x7, .int 4]) (rest := []) cvL_43 (hK.k g2) (kX6_of_c l G A (hK.k g2) hy25 g41) rfl rfl ⟨Nat.le_of_ble_eq_true rfl, Nat.le_of_ble_eq_true rfl⟩ rfl hl.1 rfl (lv_room (by simp [rf_cat, int_cat, long_cat])) dL_law_315 ⟨by show ce ≤ 654330; omega, by show sl ≤ 7138635; omega⟩ (fun H locs hR hS => ?_)
          have hK : mmKN μ y25.2.2 := hK.tr (kX6_of_kn hy25)
          refine mm_aload S dL_law_318 (lv_at hl 3 rfl) ?_
          refine lv_iload S.1 S.2.1 dL_law_320 (lv_at hl 5 rfl) ?_
          obtain ⟨g26, hf⟩ := hf
          refine mm_aaldA (k := 24) (t := 4) S hR (hK.k g4) (by decide) (by decide) rfl g26 dL_law_322 ?_
          refine lv_iconst (v := 1) S.1 S.2.1 dL_law_323 (by decide) ?_
          obtain ⟨g27, hf⟩ := hf
          obtain ⟨g28, hf⟩ := hf
          refine mm_iald S hR (hK.k g27) g28 dL_law_324 ?_
          refine lv_icmp_eq (tgt := 330) S.1 S.2.1 dL_law_325 (by decide) (fun c29 => ?_) (fun c29 => ?_)
          · have hf := hf.1 c29
            refine mm_aload S dL_law_330 (lv_at hl 3 rfl) ?_
            refine lv_iload S.1 S.2.1 dL_law_332 (lv_at hl 5 rfl) ?_
            obtain ⟨g30, hf⟩ := hf
            refine mm_aaldA (k := 24) (t := 4) S hR (hK.k g4) (by decide) (by decide) rfl g30 dL_law_334 ?_
            refine lv_iconst (v := 0) S.1 S.2.1 dL_law_335 (by decide) ?_
            refine mm_aload_n S dL_law_336 rfl (lv_at hl 1 rfl) ?_
            refine lv_iload S.1 S.2.1 dL_law_337 (lv_at hl 5 rfl) ?_
            refine lv_iconst (v := 1) S.1 S.2.1 dL_law_339 (by decide) ?_
            obtain ⟨y31, hy31, g40, hf⟩ := hf
            refine mm_callVi S hR hS hA (As := [.int x7, .int 1]) (rest := [.int 0, rf (mP y25.2.2 h4 x7.toNatClampNeg)]) cvL_43 (hK.k g2) (kX6_of_c l G A (hK.k g2) hy31 g40) rfl rfl ⟨Nat.le_of_ble_eq_true rfl, Nat.le_of_ble_eq_true rfl⟩ rfl hl.1 rfl (lv_room (by simp [rf_cat, int_cat, long_cat])) dL_law_340 ⟨by show ce ≤ 654330; omega, by show sl ≤ 7138635; omega⟩ (fun H locs hR hS => ?_)
            have hK : mmKN μ y31.2.2 := hK.tr (kX6_of_kn hy31)
            obtain ⟨g32, hf⟩ := hf
            refine mm_iast S hR hS (hK.k g27) g32 dL_law_343 (fun H locs hR hS => ?_)
            obtain ⟨μ33, e33, hf⟩ := stp hf
            rw [← e33] at hR
            have hK : mmKN μ μ33 := by rw [e33]; exact hK.sI
            refine mm_aload S dL_law_344 (lv_at hl 3 rfl) ?_
            refine lv_iload S.1 S.2.1 dL_law_346 (lv_at hl 5 rfl) ?_
            obtain ⟨g34, hf⟩ := hf
            refine mm_aaldA (k := 24) (t := 4) S hR (hK.k g4) (by decide) (by decide) rfl g34 dL_law_348 ?_
            refine lv_iconst (v := 1) S.1 S.2.1 dL_law_349 (by decide) ?_
            refine mm_aload_n S dL_law_350 rfl (lv_at hl 1 rfl) ?_
            refine lv_iload S.1 S.2.1 dL_law_351 (lv_at hl 5 rfl) ?_
            refine lv_iconst (v := 4) S.1 S.2.1 dL_law_353 (by decide) ?_
            obtain ⟨y35, hy35, g39, hf⟩ := hf
            refine mm_callVi S hR hS hA (As := [.int x7, .int 4]) (rest := [.int 1, rf (mP μ33 h4 x7.toNatClampNeg)]) cvL_43 (hK.k g2) (kX6_of_c l G A (hK.k g2) hy35 g39) rfl rfl ⟨Nat.le_of_ble_eq_true rfl, Nat.le_of_ble_eq_true rfl⟩ rfl hl.1 rfl (lv_room (by simp [rf_cat, int_cat, long_cat])) dL_law_354 ⟨by show ce ≤ 654330; omega, by show sl ≤ 7138635; omega⟩ (fun H locs hR hS => ?_)
            have hK : mmKN μ y35.2.2 := hK.tr (kX6_of_kn hy35)
            obtain ⟨g36, hf⟩ := hf
            obtain ⟨g37, hf⟩ := hf
            refine mm_iast S hR hS (hK.k g36) g37 dL_law_357 (fun H locs hR hS => ?_)
            obtain ⟨μ38, e38, hf⟩ := stp hf
            rw [← e38] at hR
            have hK : mmKN μ μ38 := by rw [e38]; exact hK.sI
            refine lv_iinc (v := (x7 + 1)) (lv' := [(7, .int (x7 + 1)), (0, .ref b), (1, rf h1), (2, rf h2), (4, rf h4), (5, .int x5)]) S.1 S.2.1 dL_law_358 hl (k := 5) rfl (by rfl) (by decide) (by simp [rf_cat, int_cat, long_cat, ref_cat1]) (fun ls hl => ?_)
            refine lv_goto (tgt := 273) S.1 S.2.1 dL_law_361 (by decide) ?_
            exact ih h1 h2 h4 x5 (x7 + 1) μ38 hf _ _ _ hR hS (lv_sub hl [1, 2, 3, 4, 5, 0] rfl)
          · have hf := hf.2 c29
            refine lv_iconst (v := 0) S.1 S.2.1 dL_law_328 (by decide) ?_
            exact hf.elim
def PL_230 (L : Nat) (xs : Nat → Int32) (kk230 : Nat → Nat → Nat → Int32 → MM → Prop) (h1 : Nat) (h2 : Nat) (h4 : Nat) (x5 : Int32) (μ : MM) : Prop :=
  (((54 : Int32) ≤ x5) → (True)) ∧ (¬ ((54 : Int32) ≤ x5) → (∃ y2, lcell L xs (3 + (x5 - x5 / 26 * 26)) = some y2 ∧ (∃ y3, fL_act h1 (y2 >>> (((x5 / 26) * 9) &&& 31)) μ = some y3 ∧ (∀ g, y3 = .inr g → ∀ z, mX μ ≤ z → ∃ r, g z = some r) ∧ ∀ r4, actOf μ y3 r4 → (((r4.1 = 0) → (False)) ∧ (¬ (r4.1 = 0) → (LL_273 L xs (fun h1 h2 h4 x5 μ => kk230 h1 h2 h4 x5 μ) 100 h1 h2 h4 x5 0 r4.2))))))
def LL_230 (L : Nat) (xs : Nat → Int32) : Nat → Nat → Nat → Nat → Int32 → MM → Prop
  | 0, _, _, _, _, _ => False
  | n + 1, h1, h2, h4, x5, μ => PL_230 L xs (LL_230 L xs n) h1 h2 h4 x5 μ
set_option maxRecDepth 100000 in
set_option maxHeartbeats 16000000 in
theorem wLL_230 {p : Program} {l : Launch} {e : Env} {s : State} {m : MethodId} {args : Array Value} {below : List Frame} {meth : Method} {c : Code} {G : mmG} {A : Nat → Prop} {b L : Nat} {xs : Nat → Int32} {Q : State → Prop} (E0 : mmLawE p l e s m args below meth c G A b L xs Q) : ∀ (n : Nat) (h1 : Nat) (h2 : Nat) (h4 : Nat) (x5 : Int32) (μ : MM) (ce sl : Nat), LL_230 L xs n h1 h2 h4 x5 μ → ce + n * 10 ≤ 13000 → sl + n * 50 ≤ 40000 → mmGL p l e s m args below meth c G A Q ce sl 230 [(0, .ref b), (1, rf h1), (2, rf h2), (4, rf h4), (5, .int x5)] μ := by
  obtain ⟨S, hA, hX, hbl, hbA, hl0, hXU, hNc, hQ⟩ := id E0
  intro n
  induction n with
  | zero => intro h1 h2 h4 x5 μ ce sl hf; exact hf.elim
  | succ n ih =>
    intro h1 h2 h4 x5 μ ce sl hf hce hsl H locs ls hR hS hl
    have hK : mmKN μ μ := mmKN.rf
    have hf : PL_230 L xs (LL_230 L xs n) h1 h2 h4 x5 μ := hf
    have hkk230 : ∀ (ce9 sl9 : Nat) (h1 : Nat) (h2 : Nat) (h4 : Nat) (x5 : Int32) (μ : MM), LL_230 L xs n h1 h2 h4 x5 μ → ce9 ≤ ce + 4 → sl9 ≤ sl + 38 → mmGL p l e s m args below meth c G A Q ce9 sl9 230 [(0, .ref b), (1, rf h1), (2, rf h2), (4, rf h4), (5, .int x5)] μ := fun ce9 sl9 h1 h2 h4 x5 μ h a9 b9 => ih h1 h2 h4 x5 μ ce9 sl9 h (by omega) (by omega)
    unfold PL_230 at hf
    refine lv_iload S.1 S.2.1 dL_law_230 (lv_at hl 4 rfl) ?_
    refine lv_bipush (v := 54) S.1 S.2.1 dL_law_232 (by decide) ?_
    refine lv_icmp_ge (tgt := 416) S.1 S.2.1 dL_law_234 (by decide) (fun c1 => ?_) (fun c1 => ?_)
    · have hf := hf.1 c1
      refine lv_iconst (v := 1) S.1 S.2.1 dL_law_416 (by decide) ?_
      exact hQ _ _ _ ce sl hS (by omega) (by omega)
    · have hf := hf.2 c1
      refine lv_aload_n S.1 S.2.1 dL_law_237 rfl (lv_at hl 0 rfl) ?_
      refine lv_iconst (v := 3) S.1 S.2.1 dL_law_238 (by decide) ?_
      refine lv_iload S.1 S.2.1 dL_law_239 (lv_at hl 4 rfl) ?_
      refine lv_bipush (v := 26) S.1 S.2.1 dL_law_241 (by decide) ?_
      refine lv_irem S.1 S.2.1 dL_law_243 (by decide) ?_
      refine lv_iadd S.1 S.2.1 dL_law_244 ?_
      obtain ⟨y2, hy2, hf⟩ := hf
      refine mm_cell S hR hS hA hX hbl hbA hy2 ⟨Nat.le_of_ble_eq_true rfl, Nat.le_of_ble_eq_true rfl⟩ hl.1 (by simp [rf_cat, int_cat]) dL_law_245 ⟨by show ce ≤ 654330; omega, by show sl ≤ 7138635; omega⟩ (fun H locs hR hS => ?_)
      refine lv_iload S.1 S.2.1 dL_law_248 (lv_at hl 4 rfl) ?_
      refine lv_bipush (v := 26) S.1 S.2.1 dL_law_250 (by decide) ?_
      refine lv_idiv S.1 S.2.1 dL_law_252 (by decide) ?_
      refine lv_bipush (v := 9) S.1 S.2.1 dL_law_253 (by decide) ?_
      refine lv_imul S.1 S.2.1 dL_law_255 ?_
      refine lv_ishr S.1 S.2.1 dL_law_256 ?_
      refine lv_istore (i := 6) (lv' := [(6, .int (y2 >>> (((x5 / 26) * 9) &&& 31))), (0, .ref b), (1, rf h1), (2, rf h2), (4, rf h4), (5, .int x5)]) S.1 S.2.1 dL_law_257 hl (by decide) (by simp [rf_cat, int_cat, long_cat, ref_cat1]) (fun ls hl => ?_)
      refine mm_aload_n S dL_law_259 rfl (lv_at hl 2 rfl) ?_
      refine lv_iload S.1 S.2.1 dL_law_260 (lv_at hl 0 rfl) ?_
      obtain ⟨y3, hy3, hz3, hf⟩ := hf
      refine mm_callAct S hR hS hA hl0 hXU hNc hy3 hz3 ⟨Nat.le_of_ble_eq_true rfl, Nat.le_of_ble_eq_true rfl⟩ hl.1 (by simp [rf_cat, int_cat]) dL_law_262 ⟨by show ce + 1 ≤ 654330; omega, by show sl + 6 ≤ 7138635; omega⟩ (fun r4 ha H locs hR hS => ?_)
      have hf := hf r4 ha
      have hK : mmKN r4.2 r4.2 := mmKN.rf
      refine lv_if_ne (tgt := 270) S.1 S.2.1 dL_law_265 (by decide) (fun c5 => ?_) (fun c5 => ?_)
      · have hf := hf.2 c5
        refine lv_iconst (v := 0) S.1 S.2.1 dL_law_270 (by decide) ?_
        refine lv_istore (i := 7) (lv' := [(7, .int 0), (6, .int (y2 >>> (((x5 / 26) * 9) &&& 31))), (0, .ref b), (1, rf h1), (2, rf h2), (4, rf h4), (5, .int x5)]) S.1 S.2.1 dL_law_271 hl (by decide) (by simp [rf_cat, int_cat, long_cat, ref_cat1]) (fun ls hl => ?_)
        exact wLL_273 E0 _ (ce + 1) (sl + 6) (by omega) (by omega) (fun ce9 sl9 h1 h2 h4 x5 μ h a9 b9 => hkk230 ce9 sl9 h1 h2 h4 x5 μ h (by omega) (by omega)) 100 h1 h2 h4 x5 0 r4.2 hf _ _ _ hR hS (lv_sub hl [2, 3, 4, 5, 6, 0] rfl)
      · have hf := hf.1 c5
        refine lv_iconst (v := 0) S.1 S.2.1 dL_law_268 (by decide) ?_
        exact hf.elim
def PL_218 (L : Nat) (xs : Nat → Int32) (h1 : Nat) (h2 : Nat) (μ : MM) : Prop :=
  st (sM μ 24 20 24 2) fun μ1 => LL_230 L xs 100 h1 h2 (mX μ) 0 μ1
set_option maxRecDepth 100000 in
set_option maxHeartbeats 16000000 in
theorem wPL_218 {p : Program} {l : Launch} {e : Env} {s : State} {m : MethodId} {args : Array Value} {below : List Frame} {meth : Method} {c : Code} {G : mmG} {A : Nat → Prop} {b L : Nat} {xs : Nat → Int32} {Q : State → Prop} (E0 : mmLawE p l e s m args below meth c G A b L xs Q) : ∀ (h1 : Nat) (h2 : Nat) (μ : MM), PL_218 L xs h1 h2 μ → mmGL p l e s m args below meth c G A Q 11000 34000 218 [(0, .ref b), (1, rf h1), (2, rf h2)] μ := by
  obtain ⟨S, hA, hX, hbl, hbA, hl0, hXU, hNc, hQ⟩ := id E0
  intro h1 h2 μ hf H locs ls hR hS hl
  have hK : mmKN μ μ := mmKN.rf
  unfold PL_218 at hf
  refine lv_bipush (v := 24) S.1 S.2.1 dL_law_218 (by decide) ?_
  refine lv_iconst (v := 2) S.1 S.2.1 dL_law_220 (by decide) ?_
  refine mm_mna (N := 24) (K := 2) S hR hS hA (Or.inl ⟨rfl, rfl, rfl⟩) mcL_33 (by decide) (by decide) (by decide) (by decide) (by decide) (by decide) (Nat.le_of_ble_eq_true rfl) (Nat.le_of_ble_eq_true rfl) dL_law_221 (fun H locs hR hS => ?_)
  obtain ⟨μ1, e1, hf⟩ := stp hf
  rw [← e1] at hR
  have hK : mmKN μ1 μ1 := mmKN.rf
  refine mm_astore (i := 4) (lv' := [(4, rf (mX μ)), (0, .ref b), (1, rf h1), (2, rf h2)]) S dL_law_225 hl (by decide) (by simp [rf_cat, int_cat, long_cat, ref_cat1]) (fun ls hl => ?_)
  refine lv_iconst (v := 0) S.1 S.2.1 dL_law_227 (by decide) ?_
  refine lv_istore (i := 5) (lv' := [(5, .int 0), (4, rf (mX μ)), (0, .ref b), (1, rf h1), (2, rf h2)]) S.1 S.2.1 dL_law_228 hl (by decide) (by simp [rf_cat, int_cat, long_cat, ref_cat1]) (fun ls hl => ?_)
  exact wLL_230 E0 100 h1 h2 (mX μ) 0 μ1 _ _ hf (Nat.le_of_ble_eq_true rfl) (Nat.le_of_ble_eq_true rfl) _ _ _ hR hS (lv_sub hl [2, 3, 4, 1, 0] rfl)
def PL_149 (L : Nat) (xs : Nat → Int32) (kk130 : Nat → Nat → Nat → Int32 → MM → Prop) (kk149 : Nat → Nat → Nat → Int32 → Int32 → MM → Prop) (h1 : Nat) (h2 : Nat) (h3 : Nat) (x4 : Int32) (x5 : Int32) (μ : MM) : Prop :=
  ∃ y1, lcell L xs x4 = some y1 ∧ (∃ y2, fL_below y1 8 μ = some y2 ∧ ((((3 + y2.1) ≤ x5) → (kk130 h1 h2 h3 (x4 + 1) y2.2)) ∧ (¬ ((3 + y2.1) ≤ x5) → (∃ y4, lcell L xs (5 + (((x4 * 7) + x5) - ((x4 * 7) + x5) / 21 * 21)) = some y4 ∧ ((mK μ h2 = 8) ∧ (∃ y5, fX7_isDrawn h2 h1 x4 (y4 >>> (((x4 + x5) - (x4 + x5) / 6 * 6) &&& 31)) h3 y2.2 = some y5 ∧ (((y5.1 = 0) → (False)) ∧ (¬ (y5.1 = 0) → (kk149 h1 h2 h3 x4 (x5 + 1) y5.2)))))))))
def LL_149 (L : Nat) (xs : Nat → Int32) (kk130 : Nat → Nat → Nat → Int32 → MM → Prop) : Nat → Nat → Nat → Nat → Int32 → Int32 → MM → Prop
  | 0, _, _, _, _, _, _ => False
  | n + 1, h1, h2, h3, x4, x5, μ => PL_149 L xs kk130 (LL_149 L xs kk130 n) h1 h2 h3 x4 x5 μ
set_option maxRecDepth 100000 in
set_option maxHeartbeats 16000000 in
theorem wLL_149 {p : Program} {l : Launch} {e : Env} {s : State} {m : MethodId} {args : Array Value} {below : List Frame} {meth : Method} {c : Code} {G : mmG} {A : Nat → Prop} {b L : Nat} {xs : Nat → Int32} {Q : State → Prop} (E0 : mmLawE p l e s m args below meth c G A b L xs Q) (kk130 : Nat → Nat → Nat → Int32 → MM → Prop) (c1 s1 : Nat) (hc : c1 ≤ 600000) (hs : s1 ≤ 6800000) (hkk130 : ∀ (h1 : Nat) (h2 : Nat) (h3 : Nat) (x4 : Int32) (μ : MM), kk130 h1 h2 h3 x4 μ → mmGL p l e s m args below meth c G A Q c1 s1 130 [(0, .ref b), (1, rf h1), (2, rf h2), (3, rf h3), (4, .int x4)] μ) : ∀ (n : Nat) (h1 : Nat) (h2 : Nat) (h3 : Nat) (x4 : Int32) (x5 : Int32) (μ : MM) (ce sl : Nat), LL_149 L xs kk130 n h1 h2 h3 x4 x5 μ → ce + n ≤ c1 → sl + n * 3 ≤ s1 → mmGL p l e s m args below meth c G A Q ce sl 149 [(0, .ref b), (1, rf h1), (2, rf h2), (3, rf h3), (4, .int x4), (5, .int x5)] μ := by
  obtain ⟨S, hA, hX, hbl, hbA, hl0, hXU, hNc, hQ⟩ := id E0
  intro n
  induction n with
  | zero => intro h1 h2 h3 x4 x5 μ ce sl hf; exact hf.elim
  | succ n ih =>
    intro h1 h2 h3 x4 x5 μ ce sl hf hce hsl H locs ls hR hS hl
    have hK : mmKN μ μ := mmKN.rf
    have hf : PL_149 L xs kk130 (LL_149 L xs kk130 n) h1 h2 h3 x4 x5 μ := hf
    unfold PL_149 at hf
    refine lv_iload S.1 S.2.1 dL_law_149 (lv_at hl 5 rfl) ?_
    refine lv_iconst (v := 3) S.1 S.2.1 dL_law_151 (by decide) ?_
    refine lv_aload_n S.1 S.2.1 dL_law_152 rfl (lv_at hl 0 rfl) ?_
    refine lv_iload S.1 S.2.1 dL_law_153 (lv_at hl 4 rfl) ?_
    obtain ⟨y1, hy1, hf⟩ := hf
    refine mm_cell S hR hS hA hX hbl hbA hy1 ⟨Nat.le_of_ble_eq_true rfl, Nat.le_of_ble_eq_true rfl⟩ hl.1 (by simp [rf_cat, int_cat]) dL_law_155 ⟨by show ce ≤ 654330; omega, by show sl ≤ 7138635; omega⟩ (fun H locs hR hS => ?_)
    refine lv_bipush (v := 8) S.1 S.2.1 dL_law_158 (by decide) ?_
    obtain ⟨y2, hy2, hf⟩ := hf
    refine mm_callSi S hR hS hA (As := [.int y1, .int 8]) (rest := [.int 3, .int x5]) csL_25 (kL_below_c l G A hy2) rfl rfl ⟨Nat.le_of_ble_eq_true rfl, Nat.le_of_ble_eq_true rfl⟩ rfl hl.1 rfl (lv_room (by simp [rf_cat, int_cat, long_cat])) dL_law_160 ⟨by show ce ≤ 654330; omega, by show sl ≤ 7138635; omega⟩ (fun H locs hR hS => ?_)
    have hK : mmKN μ y2.2 := hK.tr (kL_below_kn hy2)
    refine lv_iadd S.1 S.2.1 dL_law_163 ?_
    refine lv_icmp_ge (tgt := 212) S.1 S.2.1 dL_law_164 (by decide) (fun c3 => ?_) (fun c3 => ?_)
    · have hf := hf.1 c3
      refine lv_iinc (v := (x4 + 1)) (lv' := [(4, .int (x4 + 1)), (0, .ref b), (1, rf h1), (2, rf h2), (3, rf h3), (5, .int x5)]) S.1 S.2.1 dL_law_212 hl (k := 4) rfl (by rfl) (by decide) (by simp [rf_cat, int_cat, long_cat, ref_cat1]) (fun ls hl => ?_)
      refine lv_goto (tgt := 130) S.1 S.2.1 dL_law_215 (by decide) ?_
      refine W.widen (k := c1) (n := s1) (by omega) (by omega) ?_
      exact hkk130 h1 h2 h3 (x4 + 1) y2.2 hf _ _ _ hR hS (lv_sub hl [1, 2, 3, 4, 0] rfl)
    · have hf := hf.2 c3
      refine mm_aload_n S dL_law_167 rfl (lv_at hl 2 rfl) ?_
      refine mm_aload_n S dL_law_168 rfl (lv_at hl 1 rfl) ?_
      refine lv_iload S.1 S.2.1 dL_law_169 (lv_at hl 4 rfl) ?_
      refine lv_aload_n S.1 S.2.1 dL_law_171 rfl (lv_at hl 0 rfl) ?_
      refine lv_iconst (v := 5) S.1 S.2.1 dL_law_172 (by decide) ?_
      refine lv_iload S.1 S.2.1 dL_law_173 (lv_at hl 4 rfl) ?_
      refine lv_bipush (v := 7) S.1 S.2.1 dL_law_175 (by decide) ?_
      refine lv_imul S.1 S.2.1 dL_law_177 ?_
      refine lv_iload S.1 S.2.1 dL_law_178 (lv_at hl 5 rfl) ?_
      refine lv_iadd S.1 S.2.1 dL_law_180 ?_
      refine lv_bipush (v := 21) S.1 S.2.1 dL_law_181 (by decide) ?_
      refine lv_irem S.1 S.2.1 dL_law_183 (by decide) ?_
      refine lv_iadd S.1 S.2.1 dL_law_184 ?_
      obtain ⟨y4, hy4, hf⟩ := hf
      refine mm_cell S hR hS hA hX hbl hbA hy4 ⟨Nat.le_of_ble_eq_true rfl, Nat.le_of_ble_eq_true rfl⟩ hl.1 (by simp [rf_cat, int_cat]) dL_law_185 ⟨by show ce ≤ 654330; omega, by show sl ≤ 7138635; omega⟩ (fun H locs hR hS => ?_)
      refine lv_iload S.1 S.2.1 dL_law_188 (lv_at hl 4 rfl) ?_
      refine lv_iload S.1 S.2.1 dL_law_190 (lv_at hl 5 rfl) ?_
      refine lv_iadd S.1 S.2.1 dL_law_192 ?_
      refine lv_bipush (v := 6) S.1 S.2.1 dL_law_193 (by decide) ?_
      refine lv_irem S.1 S.2.1 dL_law_195 (by decide) ?_
      refine lv_ishr S.1 S.2.1 dL_law_196 ?_
      refine mm_aload_n S dL_law_197 rfl (lv_at hl 3 rfl) ?_
      obtain ⟨g6, hf⟩ := hf
      obtain ⟨y5, hy5, hf⟩ := hf
      refine mm_callViA S hR hS hA (As := [rf h1, .int x4, .int (y4 >>> (((x4 + x5) - (x4 + x5) / 6 * 6) &&& 31)), rf h3]) (rest := []) cvL_29 (hK.k g6) (kX7_isDrawn_c l G A (hK.k g6) hy5) rfl rfl ⟨Nat.le_of_ble_eq_true rfl, Nat.le_of_ble_eq_true rfl⟩ rfl hl.1 rfl (lv_room (by simp [rf_cat, int_cat, long_cat])) dL_law_198 ⟨by show ce + 1 ≤ 654330; omega, by show sl + 3 ≤ 7138635; omega⟩ (fun H locs hR hS => ?_)
      have hK : mmKN y5.2 y5.2 := mmKN.rf
      refine lv_if_ne (tgt := 206) S.1 S.2.1 dL_law_201 (by decide) (fun c7 => ?_) (fun c7 => ?_)
      · have hf := hf.2 c7
        refine lv_iinc (v := (x5 + 1)) (lv' := [(5, .int (x5 + 1)), (0, .ref b), (1, rf h1), (2, rf h2), (3, rf h3), (4, .int x4)]) S.1 S.2.1 dL_law_206 hl (k := 5) rfl (by rfl) (by decide) (by simp [rf_cat, int_cat, long_cat, ref_cat1]) (fun ls hl => ?_)
        refine lv_goto (tgt := 149) S.1 S.2.1 dL_law_209 (by decide) ?_
        exact ih h1 h2 h3 x4 (x5 + 1) y5.2 _ _ hf (by omega) (by omega) _ _ _ hR hS (lv_sub hl [1, 2, 3, 4, 5, 0] rfl)
      · have hf := hf.1 c7
        refine lv_iconst (v := 0) S.1 S.2.1 dL_law_204 (by decide) ?_
        exact hf.elim
def PL_130 (L : Nat) (xs : Nat → Int32) (kk130 : Nat → Nat → Nat → Int32 → MM → Prop) (h1 : Nat) (h2 : Nat) (h3 : Nat) (x4 : Int32) (μ : MM) : Prop :=
  (((5 : Int32) ≤ x4) → (PL_218 L xs h1 h2 μ)) ∧ (¬ ((5 : Int32) ≤ x4) → ((mK μ h2 = 8) ∧ (∃ y2, fX7_isTold h2 h1 μ = some y2 ∧ (((y2.1 = 0) → (False)) ∧ (¬ (y2.1 = 0) → (LL_149 L xs (fun h1 h2 h3 x4 μ => kk130 h1 h2 h3 x4 μ) 100 h1 h2 h3 x4 0 y2.2))))))
def LL_130 (L : Nat) (xs : Nat → Int32) : Nat → Nat → Nat → Nat → Int32 → MM → Prop
  | 0, _, _, _, _, _ => False
  | n + 1, h1, h2, h3, x4, μ => PL_130 L xs (LL_130 L xs n) h1 h2 h3 x4 μ
set_option maxRecDepth 100000 in
set_option maxHeartbeats 16000000 in
theorem wLL_130 {p : Program} {l : Launch} {e : Env} {s : State} {m : MethodId} {args : Array Value} {below : List Frame} {meth : Method} {c : Code} {G : mmG} {A : Nat → Prop} {b L : Nat} {xs : Nat → Int32} {Q : State → Prop} (E0 : mmLawE p l e s m args below meth c G A b L xs Q) : ∀ (n : Nat) (h1 : Nat) (h2 : Nat) (h3 : Nat) (x4 : Int32) (μ : MM) (ce sl : Nat), LL_130 L xs n h1 h2 h3 x4 μ → ce + n * 101 ≤ 10900 → sl + n * 310 ≤ 33900 → mmGL p l e s m args below meth c G A Q ce sl 130 [(0, .ref b), (1, rf h1), (2, rf h2), (3, rf h3), (4, .int x4)] μ := by
  obtain ⟨S, hA, hX, hbl, hbA, hl0, hXU, hNc, hQ⟩ := id E0
  intro n
  induction n with
  | zero => intro h1 h2 h3 x4 μ ce sl hf; exact hf.elim
  | succ n ih =>
    intro h1 h2 h3 x4 μ ce sl hf hce hsl H locs ls hR hS hl
    have hK : mmKN μ μ := mmKN.rf
    have hf : PL_130 L xs (LL_130 L xs n) h1 h2 h3 x4 μ := hf
    have hkk130 : ∀ (ce9 sl9 : Nat) (h1 : Nat) (h2 : Nat) (h3 : Nat) (x4 : Int32) (μ : MM), LL_130 L xs n h1 h2 h3 x4 μ → ce9 ≤ ce + 100 → sl9 ≤ sl + 300 → mmGL p l e s m args below meth c G A Q ce9 sl9 130 [(0, .ref b), (1, rf h1), (2, rf h2), (3, rf h3), (4, .int x4)] μ := fun ce9 sl9 h1 h2 h3 x4 μ h a9 b9 => ih h1 h2 h3 x4 μ ce9 sl9 h (by omega) (by omega)
    unfold PL_130 at hf
    refine lv_iload S.1 S.2.1 dL_law_130 (lv_at hl 4 rfl) ?_
    refine lv_iconst (v := 5) S.1 S.2.1 dL_law_132 (by decide) ?_
    refine lv_icmp_ge (tgt := 218) S.1 S.2.1 dL_law_133 (by decide) (fun c1 => ?_) (fun c1 => ?_)
    · have hf := hf.1 c1
      refine W.widen (k := 11000) (n := 34000) (by omega) (by omega) ?_
      exact wPL_218 E0 h1 h2 μ hf _ _ _ hR hS (lv_sub hl [0, 1, 2] rfl)
    · have hf := hf.2 c1
      refine mm_aload_n S dL_law_136 rfl (lv_at hl 2 rfl) ?_
      refine mm_aload_n S dL_law_137 rfl (lv_at hl 1 rfl) ?_
      obtain ⟨g3, hf⟩ := hf
      obtain ⟨y2, hy2, hf⟩ := hf
      refine mm_callVi S hR hS hA (As := [rf h1]) (rest := []) cvL_15 (hK.k g3) (kX7_isTold_c l G A (hK.k g3) hy2) rfl rfl ⟨Nat.le_of_ble_eq_true rfl, Nat.le_of_ble_eq_true rfl⟩ rfl hl.1 rfl (lv_room (by simp [rf_cat, int_cat, long_cat])) dL_law_138 ⟨by show ce ≤ 654330; omega, by show sl ≤ 7138635; omega⟩ (fun H locs hR hS => ?_)
      have hK : mmKN μ y2.2 := hK.tr (kX7_isTold_kn hy2)
      refine lv_if_ne (tgt := 146) S.1 S.2.1 dL_law_141 (by decide) (fun c4 => ?_) (fun c4 => ?_)
      · have hf := hf.2 c4
        refine lv_iconst (v := 0) S.1 S.2.1 dL_law_146 (by decide) ?_
        refine lv_istore (i := 5) (lv' := [(5, .int 0), (0, .ref b), (1, rf h1), (2, rf h2), (3, rf h3), (4, .int x4)]) S.1 S.2.1 dL_law_147 hl (by decide) (by simp [rf_cat, int_cat, long_cat, ref_cat1]) (fun ls hl => ?_)
        exact wLL_149 E0 _ (ce + 100) (sl + 300) (by omega) (by omega) (fun h1 h2 h3 x4 μ h => hkk130 _ _ h1 h2 h3 x4 μ h (Nat.le_refl _) (Nat.le_refl _)) 100 h1 h2 h3 x4 0 y2.2 _ _ hf (by omega) (by omega) _ _ _ hR hS (lv_sub hl [1, 2, 3, 4, 5, 0] rfl)
      · have hf := hf.1 c4
        refine lv_iconst (v := 0) S.1 S.2.1 dL_law_144 (by decide) ?_
        exact hf.elim
set_option maxRecDepth 100000 in
def PL_0 (L : Nat) (xs : Nat → Int32) (μ : MM) : Prop :=
  st (sN μ 7 0) fun μ1 => (mK μ1 (mX μ) = 7) ∧ (∃ y2, fX6_init (mX μ) μ1 = some y2 ∧ (st (sN y2 8 0) fun μ4 => (mK μ4 (mX y2) = 8) ∧ (∃ y5, fX7_init (mX y2) μ4 = some y5 ∧ (st (sN y5 20 20) fun μ7 => (mK μ7 (mX y5) = 20) ∧ ((¬ ((0 : Int32) < 0 ∨ mN μ7 (mX y5) ≤ (0 : Int32).toNatClampNeg)) ∧ (st (sI μ7 (mX y5) (0 : Int32).toNatClampNeg 0) fun μ10 => (¬ ((1 : Int32) < 0 ∨ mN μ10 (mX y5) ≤ (1 : Int32).toNatClampNeg)) ∧ (st (sI μ10 (mX y5) (1 : Int32).toNatClampNeg 1) fun μ12 => (¬ ((2 : Int32) < 0 ∨ mN μ12 (mX y5) ≤ (2 : Int32).toNatClampNeg)) ∧ (st (sI μ12 (mX y5) (2 : Int32).toNatClampNeg 2) fun μ14 => (¬ ((3 : Int32) < 0 ∨ mN μ14 (mX y5) ≤ (3 : Int32).toNatClampNeg)) ∧ (st (sI μ14 (mX y5) (3 : Int32).toNatClampNeg 3) fun μ16 => (¬ ((4 : Int32) < 0 ∨ mN μ16 (mX y5) ≤ (4 : Int32).toNatClampNeg)) ∧ (st (sI μ16 (mX y5) (4 : Int32).toNatClampNeg 4) fun μ18 => (¬ ((5 : Int32) < 0 ∨ mN μ18 (mX y5) ≤ (5 : Int32).toNatClampNeg)) ∧ (st (sI μ18 (mX y5) (5 : Int32).toNatClampNeg 5) fun μ20 => (¬ ((6 : Int32) < 0 ∨ mN μ20 (mX y5) ≤ (6 : Int32).toNatClampNeg)) ∧ (st (sI μ20 (mX y5) (6 : Int32).toNatClampNeg 6) fun μ22 => (¬ ((7 : Int32) < 0 ∨ mN μ22 (mX y5) ≤ (7 : Int32).toNatClampNeg)) ∧ (st (sI μ22 (mX y5) (7 : Int32).toNatClampNeg 7) fun μ24 => (¬ ((8 : Int32) < 0 ∨ mN μ24 (mX y5) ≤ (8 : Int32).toNatClampNeg)) ∧ (st (sI μ24 (mX y5) (8 : Int32).toNatClampNeg 8) fun μ26 => (¬ ((9 : Int32) < 0 ∨ mN μ26 (mX y5) ≤ (9 : Int32).toNatClampNeg)) ∧ (st (sI μ26 (mX y5) (9 : Int32).toNatClampNeg 9) fun μ28 => (¬ ((10 : Int32) < 0 ∨ mN μ28 (mX y5) ≤ (10 : Int32).toNatClampNeg)) ∧ (st (sI μ28 (mX y5) (10 : Int32).toNatClampNeg 10) fun μ30 => (¬ ((11 : Int32) < 0 ∨ mN μ30 (mX y5) ≤ (11 : Int32).toNatClampNeg)) ∧ (st (sI μ30 (mX y5) (11 : Int32).toNatClampNeg 11) fun μ32 => (¬ ((12 : Int32) < 0 ∨ mN μ32 (mX y5) ≤ (12 : Int32).toNatClampNeg)) ∧ (st (sI μ32 (mX y5) (12 : Int32).toNatClampNeg 12) fun μ34 => (¬ ((13 : Int32) < 0 ∨ mN μ34 (mX y5) ≤ (13 : Int32).toNatClampNeg)) ∧ (st (sI μ34 (mX y5) (13 : Int32).toNatClampNeg 13) fun μ36 => (¬ ((14 : Int32) < 0 ∨ mN μ36 (mX y5) ≤ (14 : Int32).toNatClampNeg)) ∧ (st (sI μ36 (mX y5) (14 : Int32).toNatClampNeg 14) fun μ38 => (¬ ((15 : Int32) < 0 ∨ mN μ38 (mX y5) ≤ (15 : Int32).toNatClampNeg)) ∧ (st (sI μ38 (mX y5) (15 : Int32).toNatClampNeg 15) fun μ40 => (¬ ((16 : Int32) < 0 ∨ mN μ40 (mX y5) ≤ (16 : Int32).toNatClampNeg)) ∧ (st (sI μ40 (mX y5) (16 : Int32).toNatClampNeg 3) fun μ42 => (¬ ((17 : Int32) < 0 ∨ mN μ42 (mX y5) ≤ (17 : Int32).toNatClampNeg)) ∧ (st (sI μ42 (mX y5) (17 : Int32).toNatClampNeg 12) fun μ44 => (¬ ((18 : Int32) < 0 ∨ mN μ44 (mX y5) ≤ (18 : Int32).toNatClampNeg)) ∧ (st (sI μ44 (mX y5) (18 : Int32).toNatClampNeg 6) fun μ46 => (¬ ((19 : Int32) < 0 ∨ mN μ46 (mX y5) ≤ (19 : Int32).toNatClampNeg)) ∧ (st (sI μ46 (mX y5) (19 : Int32).toNatClampNeg 0) fun μ48 => LL_130 L xs 100 (mX μ) (mX y2) (mX y5) 0 μ48)))))))))))))))))))))))))
set_option maxRecDepth 100000 in
set_option maxHeartbeats 16000000 in
theorem wPL_0 {p : Program} {l : Launch} {e : Env} {s : State} {m : MethodId} {args : Array Value} {below : List Frame} {meth : Method} {c : Code} {G : mmG} {A : Nat → Prop} {b L : Nat} {xs : Nat → Int32} {Q : State → Prop} (E0 : mmLawE p l e s m args below meth c G A b L xs Q) (μ : MM) (hf : PL_0 L xs μ) : mmGL p l e s m args below meth c G A Q 0 0 0 [(0, .ref b)] μ := by
  obtain ⟨S, hA, hX, hbl, hbA, hl0, hXU, hNc, hQ⟩ := id E0
  intro H locs ls hR hS hl
  have hK : mmKN μ μ := mmKN.rf
  unfold PL_0 at hf
  refine mm_new S hR hS hA nwL_9 (Nat.le_of_ble_eq_true rfl) (Nat.le_of_ble_eq_true rfl) dL_law_0 (fun H locs hR hS => ?_)
  obtain ⟨μ1, e1, hf⟩ := stp hf
  rw [← e1] at hR
  have hK : mmKN μ1 μ1 := mmKN.rf
  refine lv_dup S.1 S.2.1 dL_law_3 (rf_cat _) ?_
  obtain ⟨g3, hf⟩ := hf
  obtain ⟨y2, hy2, hf⟩ := hf
  refine mm_callI S hR hS hA (As := []) (rest := [rf (mX μ)]) ciL_11 (hK.k g3) (kX6_init_c l G A (hK.k g3) hy2) rfl rfl ⟨Nat.le_of_ble_eq_true rfl, Nat.le_of_ble_eq_true rfl⟩ rfl hl.1 rfl (lv_room (by simp [rf_cat, int_cat, long_cat])) dL_law_4 ⟨Nat.le_of_ble_eq_true rfl, Nat.le_of_ble_eq_true rfl⟩ (fun H locs hR hS => ?_)
  have hK : mmKN y2 y2 := mmKN.rf
  refine mm_astore_n (i := 1) (lv' := [(1, rf (mX μ)), (0, .ref b)]) S dL_law_7 rfl hl (by decide) (by simp [rf_cat, int_cat, long_cat, ref_cat1]) (fun ls hl => ?_)
  refine mm_new S hR hS hA nwL_12 (Nat.le_of_ble_eq_true rfl) (Nat.le_of_ble_eq_true rfl) dL_law_8 (fun H locs hR hS => ?_)
  obtain ⟨μ4, e4, hf⟩ := stp hf
  rw [← e4] at hR
  have hK : mmKN μ4 μ4 := mmKN.rf
  refine lv_dup S.1 S.2.1 dL_law_11 (rf_cat _) ?_
  obtain ⟨g6, hf⟩ := hf
  obtain ⟨y5, hy5, hf⟩ := hf
  refine mm_callI S hR hS hA (As := []) (rest := [rf (mX y2)]) ciL_14 (hK.k g6) (kX7_init_c l G A (hK.k g6) hy5) rfl rfl ⟨Nat.le_of_ble_eq_true rfl, Nat.le_of_ble_eq_true rfl⟩ rfl hl.1 rfl (lv_room (by simp [rf_cat, int_cat, long_cat])) dL_law_12 ⟨Nat.le_of_ble_eq_true rfl, Nat.le_of_ble_eq_true rfl⟩ (fun H locs hR hS => ?_)
  have hK : mmKN y5 y5 := mmKN.rf
  refine mm_astore_n (i := 2) (lv' := [(2, rf (mX y2)), (1, rf (mX μ)), (0, .ref b)]) S dL_law_15 rfl hl (by decide) (by simp [rf_cat, int_cat, long_cat, ref_cat1]) (fun ls hl => ?_)
  refine lv_bipush (v := 20) S.1 S.2.1 dL_law_16 (by decide) ?_
  refine mm_newiK (N := 20) S hR hS hA wAint (by decide) (by decide) (by decide) (Nat.le_of_ble_eq_true rfl) (Nat.le_of_ble_eq_true rfl) dL_law_18 (fun H locs hR hS => ?_)
  obtain ⟨μ7, e7, hf⟩ := stp hf
  rw [← e7] at hR
  have hK : mmKN μ7 μ7 := mmKN.rf
  refine lv_dup S.1 S.2.1 dL_law_20 (rf_cat _) ?_
  refine lv_iconst (v := 0) S.1 S.2.1 dL_law_21 (by decide) ?_
  refine lv_iconst (v := 0) S.1 S.2.1 dL_law_22 (by decide) ?_
  obtain ⟨g8, hf⟩ := hf
  obtain ⟨g9, hf⟩ := hf
  refine mm_iast S hR hS (hK.k g8) g9 dL_law_23 (fun H locs hR hS => ?_)
  obtain ⟨μ10, e10, hf⟩ := stp hf
  rw [← e10] at hR
  have hK : mmKN μ7 μ10 := by rw [e10]; exact hK.sI
  refine lv_dup S.1 S.2.1 dL_law_24 (rf_cat _) ?_
  refine lv_iconst (v := 1) S.1 S.2.1 dL_law_25 (by decide) ?_
  refine lv_iconst (v := 1) S.1 S.2.1 dL_law_26 (by decide) ?_
  obtain ⟨g11, hf⟩ := hf
  refine mm_iast S hR hS (hK.k g8) g11 dL_law_27 (fun H locs hR hS => ?_)
  obtain ⟨μ12, e12, hf⟩ := stp hf
  rw [← e12] at hR
  have hK : mmKN μ7 μ12 := by rw [e12]; exact hK.sI
  refine lv_dup S.1 S.2.1 dL_law_28 (rf_cat _) ?_
  refine lv_iconst (v := 2) S.1 S.2.1 dL_law_29 (by decide) ?_
  refine lv_iconst (v := 2) S.1 S.2.1 dL_law_30 (by decide) ?_
  obtain ⟨g13, hf⟩ := hf
  refine mm_iast S hR hS (hK.k g8) g13 dL_law_31 (fun H locs hR hS => ?_)
  obtain ⟨μ14, e14, hf⟩ := stp hf
  rw [← e14] at hR
  have hK : mmKN μ7 μ14 := by rw [e14]; exact hK.sI
  refine lv_dup S.1 S.2.1 dL_law_32 (rf_cat _) ?_
  refine lv_iconst (v := 3) S.1 S.2.1 dL_law_33 (by decide) ?_
  refine lv_iconst (v := 3) S.1 S.2.1 dL_law_34 (by decide) ?_
  obtain ⟨g15, hf⟩ := hf
  refine mm_iast S hR hS (hK.k g8) g15 dL_law_35 (fun H locs hR hS => ?_)
  obtain ⟨μ16, e16, hf⟩ := stp hf
  rw [← e16] at hR
  have hK : mmKN μ7 μ16 := by rw [e16]; exact hK.sI
  refine lv_dup S.1 S.2.1 dL_law_36 (rf_cat _) ?_
  refine lv_iconst (v := 4) S.1 S.2.1 dL_law_37 (by decide) ?_
  refine lv_iconst (v := 4) S.1 S.2.1 dL_law_38 (by decide) ?_
  obtain ⟨g17, hf⟩ := hf
  refine mm_iast S hR hS (hK.k g8) g17 dL_law_39 (fun H locs hR hS => ?_)
  obtain ⟨μ18, e18, hf⟩ := stp hf
  rw [← e18] at hR
  have hK : mmKN μ7 μ18 := by rw [e18]; exact hK.sI
  refine lv_dup S.1 S.2.1 dL_law_40 (rf_cat _) ?_
  refine lv_iconst (v := 5) S.1 S.2.1 dL_law_41 (by decide) ?_
  refine lv_iconst (v := 5) S.1 S.2.1 dL_law_42 (by decide) ?_
  obtain ⟨g19, hf⟩ := hf
  refine mm_iast S hR hS (hK.k g8) g19 dL_law_43 (fun H locs hR hS => ?_)
  obtain ⟨μ20, e20, hf⟩ := stp hf
  rw [← e20] at hR
  have hK : mmKN μ7 μ20 := by rw [e20]; exact hK.sI
  refine lv_dup S.1 S.2.1 dL_law_44 (rf_cat _) ?_
  refine lv_bipush (v := 6) S.1 S.2.1 dL_law_45 (by decide) ?_
  refine lv_bipush (v := 6) S.1 S.2.1 dL_law_47 (by decide) ?_
  obtain ⟨g21, hf⟩ := hf
  refine mm_iast S hR hS (hK.k g8) g21 dL_law_49 (fun H locs hR hS => ?_)
  obtain ⟨μ22, e22, hf⟩ := stp hf
  rw [← e22] at hR
  have hK : mmKN μ7 μ22 := by rw [e22]; exact hK.sI
  refine lv_dup S.1 S.2.1 dL_law_50 (rf_cat _) ?_
  refine lv_bipush (v := 7) S.1 S.2.1 dL_law_51 (by decide) ?_
  refine lv_bipush (v := 7) S.1 S.2.1 dL_law_53 (by decide) ?_
  obtain ⟨g23, hf⟩ := hf
  refine mm_iast S hR hS (hK.k g8) g23 dL_law_55 (fun H locs hR hS => ?_)
  obtain ⟨μ24, e24, hf⟩ := stp hf
  rw [← e24] at hR
  have hK : mmKN μ7 μ24 := by rw [e24]; exact hK.sI
  refine lv_dup S.1 S.2.1 dL_law_56 (rf_cat _) ?_
  refine lv_bipush (v := 8) S.1 S.2.1 dL_law_57 (by decide) ?_
  refine lv_bipush (v := 8) S.1 S.2.1 dL_law_59 (by decide) ?_
  obtain ⟨g25, hf⟩ := hf
  refine mm_iast S hR hS (hK.k g8) g25 dL_law_61 (fun H locs hR hS => ?_)
  obtain ⟨μ26, e26, hf⟩ := stp hf
  rw [← e26] at hR
  have hK : mmKN μ7 μ26 := by rw [e26]; exact hK.sI
  refine lv_dup S.1 S.2.1 dL_law_62 (rf_cat _) ?_
  refine lv_bipush (v := 9) S.1 S.2.1 dL_law_63 (by decide) ?_
  refine lv_bipush (v := 9) S.1 S.2.1 dL_law_65 (by decide) ?_
  obtain ⟨g27, hf⟩ := hf
  refine mm_iast S hR hS (hK.k g8) g27 dL_law_67 (fun H locs hR hS => ?_)
  obtain ⟨μ28, e28, hf⟩ := stp hf
  rw [← e28] at hR
  have hK : mmKN μ7 μ28 := by rw [e28]; exact hK.sI
  refine lv_dup S.1 S.2.1 dL_law_68 (rf_cat _) ?_
  refine lv_bipush (v := 10) S.1 S.2.1 dL_law_69 (by decide) ?_
  refine lv_bipush (v := 10) S.1 S.2.1 dL_law_71 (by decide) ?_
  obtain ⟨g29, hf⟩ := hf
  refine mm_iast S hR hS (hK.k g8) g29 dL_law_73 (fun H locs hR hS => ?_)
  obtain ⟨μ30, e30, hf⟩ := stp hf
  rw [← e30] at hR
  have hK : mmKN μ7 μ30 := by rw [e30]; exact hK.sI
  refine lv_dup S.1 S.2.1 dL_law_74 (rf_cat _) ?_
  refine lv_bipush (v := 11) S.1 S.2.1 dL_law_75 (by decide) ?_
  refine lv_bipush (v := 11) S.1 S.2.1 dL_law_77 (by decide) ?_
  obtain ⟨g31, hf⟩ := hf
  refine mm_iast S hR hS (hK.k g8) g31 dL_law_79 (fun H locs hR hS => ?_)
  obtain ⟨μ32, e32, hf⟩ := stp hf
  rw [← e32] at hR
  have hK : mmKN μ7 μ32 := by rw [e32]; exact hK.sI
  refine lv_dup S.1 S.2.1 dL_law_80 (rf_cat _) ?_
  refine lv_bipush (v := 12) S.1 S.2.1 dL_law_81 (by decide) ?_
  refine lv_bipush (v := 12) S.1 S.2.1 dL_law_83 (by decide) ?_
  obtain ⟨g33, hf⟩ := hf
  refine mm_iast S hR hS (hK.k g8) g33 dL_law_85 (fun H locs hR hS => ?_)
  obtain ⟨μ34, e34, hf⟩ := stp hf
  rw [← e34] at hR
  have hK : mmKN μ7 μ34 := by rw [e34]; exact hK.sI
  refine lv_dup S.1 S.2.1 dL_law_86 (rf_cat _) ?_
  refine lv_bipush (v := 13) S.1 S.2.1 dL_law_87 (by decide) ?_
  refine lv_bipush (v := 13) S.1 S.2.1 dL_law_89 (by decide) ?_
  obtain ⟨g35, hf⟩ := hf
  refine mm_iast S hR hS (hK.k g8) g35 dL_law_91 (fun H locs hR hS => ?_)
  obtain ⟨μ36, e36, hf⟩ := stp hf
  rw [← e36] at hR
  have hK : mmKN μ7 μ36 := by rw [e36]; exact hK.sI
  refine lv_dup S.1 S.2.1 dL_law_92 (rf_cat _) ?_
  refine lv_bipush (v := 14) S.1 S.2.1 dL_law_93 (by decide) ?_
  refine lv_bipush (v := 14) S.1 S.2.1 dL_law_95 (by decide) ?_
  obtain ⟨g37, hf⟩ := hf
  refine mm_iast S hR hS (hK.k g8) g37 dL_law_97 (fun H locs hR hS => ?_)
  obtain ⟨μ38, e38, hf⟩ := stp hf
  rw [← e38] at hR
  have hK : mmKN μ7 μ38 := by rw [e38]; exact hK.sI
  refine lv_dup S.1 S.2.1 dL_law_98 (rf_cat _) ?_
  refine lv_bipush (v := 15) S.1 S.2.1 dL_law_99 (by decide) ?_
  refine lv_bipush (v := 15) S.1 S.2.1 dL_law_101 (by decide) ?_
  obtain ⟨g39, hf⟩ := hf
  refine mm_iast S hR hS (hK.k g8) g39 dL_law_103 (fun H locs hR hS => ?_)
  obtain ⟨μ40, e40, hf⟩ := stp hf
  rw [← e40] at hR
  have hK : mmKN μ7 μ40 := by rw [e40]; exact hK.sI
  refine lv_dup S.1 S.2.1 dL_law_104 (rf_cat _) ?_
  refine lv_bipush (v := 16) S.1 S.2.1 dL_law_105 (by decide) ?_
  refine lv_iconst (v := 3) S.1 S.2.1 dL_law_107 (by decide) ?_
  obtain ⟨g41, hf⟩ := hf
  refine mm_iast S hR hS (hK.k g8) g41 dL_law_108 (fun H locs hR hS => ?_)
  obtain ⟨μ42, e42, hf⟩ := stp hf
  rw [← e42] at hR
  have hK : mmKN μ7 μ42 := by rw [e42]; exact hK.sI
  refine lv_dup S.1 S.2.1 dL_law_109 (rf_cat _) ?_
  refine lv_bipush (v := 17) S.1 S.2.1 dL_law_110 (by decide) ?_
  refine lv_bipush (v := 12) S.1 S.2.1 dL_law_112 (by decide) ?_
  obtain ⟨g43, hf⟩ := hf
  refine mm_iast S hR hS (hK.k g8) g43 dL_law_114 (fun H locs hR hS => ?_)
  obtain ⟨μ44, e44, hf⟩ := stp hf
  rw [← e44] at hR
  have hK : mmKN μ7 μ44 := by rw [e44]; exact hK.sI
  refine lv_dup S.1 S.2.1 dL_law_115 (rf_cat _) ?_
  refine lv_bipush (v := 18) S.1 S.2.1 dL_law_116 (by decide) ?_
  refine lv_bipush (v := 6) S.1 S.2.1 dL_law_118 (by decide) ?_
  obtain ⟨g45, hf⟩ := hf
  refine mm_iast S hR hS (hK.k g8) g45 dL_law_120 (fun H locs hR hS => ?_)
  obtain ⟨μ46, e46, hf⟩ := stp hf
  rw [← e46] at hR
  have hK : mmKN μ7 μ46 := by rw [e46]; exact hK.sI
  refine lv_dup S.1 S.2.1 dL_law_121 (rf_cat _) ?_
  refine lv_bipush (v := 19) S.1 S.2.1 dL_law_122 (by decide) ?_
  refine lv_iconst (v := 0) S.1 S.2.1 dL_law_124 (by decide) ?_
  obtain ⟨g47, hf⟩ := hf
  refine mm_iast S hR hS (hK.k g8) g47 dL_law_125 (fun H locs hR hS => ?_)
  obtain ⟨μ48, e48, hf⟩ := stp hf
  rw [← e48] at hR
  have hK : mmKN μ7 μ48 := by rw [e48]; exact hK.sI
  refine mm_astore_n (i := 3) (lv' := [(3, rf (mX y5)), (2, rf (mX y2)), (1, rf (mX μ)), (0, .ref b)]) S dL_law_126 rfl hl (by decide) (by simp [rf_cat, int_cat, long_cat, ref_cat1]) (fun ls hl => ?_)
  refine lv_iconst (v := 0) S.1 S.2.1 dL_law_127 (by decide) ?_
  refine lv_istore (i := 4) (lv' := [(4, .int 0), (3, rf (mX y5)), (2, rf (mX y2)), (1, rf (mX μ)), (0, .ref b)]) S.1 S.2.1 dL_law_128 hl (by decide) (by simp [rf_cat, int_cat, long_cat, ref_cat1]) (fun ls hl => ?_)
  exact wLL_130 E0 100 (mX μ) (mX y2) (mX y5) 0 μ48 _ _ hf (Nat.le_of_ble_eq_true rfl) (Nat.le_of_ble_eq_true rfl) _ _ _ hR hS (lv_sub hl [4, 3, 2, 1, 0] rfl)
