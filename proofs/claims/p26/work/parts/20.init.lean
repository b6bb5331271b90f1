theorem wl_in2 {w : Cond} (h : w ∈ lw_tbl ∧ mmGood w = true) : w ∈ WL := List.mem_filter.mpr h
theorem wAint : Cond.arrayClass .int ∈ WL := wl_in2 (by decide +kernel)
section MM7
variable {p : Program} {l : Launch} {e : Env} {R : Room} {s : State} {m : MethodId} {args : Array Value} {below : List Frame} {meth : Method} {c : Code} {H : Heap} {locs : List Loc} {cells slots : Nat} {Q : State → Prop}
variable {cc : ByteArray} {pc nL : Nat} {ls : Array Slot} {rest st0 : List Value} {own : String} {G : mmG} {A : Nat → Prop} {μ μ' : MM}
theorem mm_newiK (S : mmS p m c cc nL s args own G) (hR : mmR G A μ H) (hS : va_S A s.heap H locs) (hA : ∀ q, s.heap.size ≤ q → A q) (hw : Cond.arrayClass .int ∈ WL) {n : Int32} {N : Nat} (hn : ¬ n < 0) (hN : n.toNatClampNeg = N) (hbytes : N * 4 ≤ 536870912) (hcells : cells + 1 ≤ R.cells) (hslots : slots + N ≤ R.slots) (hdg : decode cc pc = .ok (.newarray .int, 2))
    (kk : ∀ (H1 : Heap) (locs1 : List Loc), mmR G A (sN μ 20 N) H1 → va_S A s.heap H1 locs1 → W p l e R s m args below meth c H1 locs1 (cells + 1) (slots + N) Q (F0 m (pc + 2) ls (rf (mX μ) :: rest))) : W p l e R s m args below meth c H locs cells slots Q (F0 m pc ls (.int n :: rest)) := by
  subst hN
  exact mm_newi S hR hS hA hw hn hbytes hcells hslots hdg kk
theorem mm_newqK (S : mmS p m c cc nL s args own G) (hR : mmR G A μ H) (hS : va_S A s.heap H locs) (hA : ∀ q, s.heap.size ≤ q → A q) {idx k t : Nat} {C : String} (hcl : Cond.classLink own idx C ∈ WL) (hov : Cond.arrayOver (.object C) ∈ WL) (hk : 20 ≤ k) (hap : mmAp k = true) (ht : (mmTys G.2)[t]? = some (G.2 k, .object C)) {n : Int32} {N : Nat} (hn : ¬ n < 0) (hN : n.toNatClampNeg = N) (hbytes : N * 4 ≤ 536870912) (hcells : cells + 1 ≤ R.cells) (hslots : slots + N ≤ R.slots) (hdg : decode cc pc = .ok (.anewarray idx, 3))
    (kk : ∀ (H1 : Heap) (locs1 : List Loc), mmR G A (sN μ k N) H1 → va_S A s.heap H1 locs1 → W p l e R s m args below meth c H1 locs1 (cells + 1) (slots + N) Q (F0 m (pc + 3) ls (rf (mX μ) :: rest))) : W p l e R s m args below meth c H locs cells slots Q (F0 m pc ls (.int n :: rest)) := by
  subst hN
  exact mm_newq S hR hS hA hcl hov hk hap ht hn hbytes hcells hslots hdg kk
end MM7
theorem fdX2_22 : mmFd RX2 22 2 0 := ⟨RX2, TX2, 17, rfl, by decide, by decide, rfl, wsX2_in, (Or.inl (wl_t 98 (by decide +kernel) (by decide +kernel)))⟩
theorem obX1_3 : Cond.methodLink RX1 3 Lib.objectInit ∈ WL ∧ Cond.instanceMethod Lib.objectInit ∈ WL ∧ Cond.code Lib.objectInit ⟨#[0xb1]⟩ 1 none ∈ WL := ⟨wl_in2 (by decide +kernel), wl_in2 (by decide +kernel), wl_in2 (by decide +kernel)⟩
theorem ffX1_9 : mmFF RX1 9 1 0 (.array (.int)) := ⟨RX1, TX1, 4, tyX1, rfl, by decide, by decide, rfl, rfl, wsX1_in, (wl_t 40 (by decide +kernel) (by decide +kernel)), tyX1_ok, nmX1, rfl, by decide +kernel⟩
theorem ffX1_15 : mmFF RX1 15 1 1 (.array (.int)) := ⟨RX1, TX1, 4, tyX1, rfl, by decide, by decide, rfl, rfl, wsX1_in, (wl_t 41 (by decide +kernel) (by decide +kernel)), tyX1_ok, nmX1, rfl, by decide +kernel⟩
theorem ffX1_18 : mmFF RX1 18 1 2 (.array (.int)) := ⟨RX1, TX1, 4, tyX1, rfl, by decide, by decide, rfl, rfl, wsX1_in, (wl_t 42 (by decide +kernel) (by decide +kernel)), tyX1_ok, nmX1, rfl, by decide +kernel⟩
theorem obX5_3 : Cond.methodLink RX5 3 Lib.objectInit ∈ WL ∧ Cond.instanceMethod Lib.objectInit ∈ WL ∧ Cond.code Lib.objectInit ⟨#[0xb1]⟩ 1 none ∈ WL := ⟨wl_in2 (by decide +kernel), wl_in2 (by decide +kernel), wl_in2 (by decide +kernel)⟩
theorem ffX5_9 : mmFF RX5 9 5 0 (.array (.int)) := ⟨RX5, TX5, 3, tyX5, rfl, by decide, by decide, rfl, rfl, wsX5_in, (wl_t 85 (by decide +kernel) (by decide +kernel)), tyX5_ok, nmX5, rfl, by decide +kernel⟩
theorem ffX5_15 : mmFF RX5 15 5 1 (.array (.int)) := ⟨RX5, TX5, 3, tyX5, rfl, by decide, by decide, rfl, rfl, wsX5_in, (wl_t 86 (by decide +kernel) (by decide +kernel)), tyX5_ok, nmX5, rfl, by decide +kernel⟩
theorem obX4_3 : Cond.methodLink RX4 3 Lib.objectInit ∈ WL ∧ Cond.instanceMethod Lib.objectInit ∈ WL ∧ Cond.code Lib.objectInit ⟨#[0xb1]⟩ 1 none ∈ WL := ⟨wl_in2 (by decide +kernel), wl_in2 (by decide +kernel), wl_in2 (by decide +kernel)⟩
theorem ffX4_9 : mmFF RX4 9 4 0 (.array (.int)) := ⟨RX4, TX4, 2, tyX4, rfl, by decide, by decide, rfl, rfl, wsX4_in, (wl_t 185 (by decide +kernel) (by decide +kernel)), tyX4_ok, nmX4, rfl, by decide +kernel⟩
theorem obX2_3 : Cond.methodLink RX2 3 Lib.objectInit ∈ WL ∧ Cond.instanceMethod Lib.objectInit ∈ WL ∧ Cond.code Lib.objectInit ⟨#[0xb1]⟩ 1 none ∈ WL := ⟨wl_in2 (by decide +kernel), wl_in2 (by decide +kernel), wl_in2 (by decide +kernel)⟩
theorem ffX2_9 : mmFF RX2 9 2 1 (.array (.int)) := ⟨RX2, TX2, 17, tyX2, rfl, by decide, by decide, rfl, rfl, wsX2_in, (wl_t 101 (by decide +kernel) (by decide +kernel)), tyX2_ok, nmX2, rfl, by decide +kernel⟩
theorem nwX2_15 : mmNw RX2 15 5 3 := ⟨RX5, TX5, tyX5, rfl, by decide, wsX5_in, tyX5_ok, (wl_t 79 (by decide +kernel) (by decide +kernel)), (wl_t 80 (by decide +kernel) (by decide +kernel)), (wl_t 6 (by decide +kernel) (by decide +kernel)), by decide +kernel⟩
theorem ciX2_17 : mmCI RX2 17 yX5_init cX5_init 1 0 := ⟨(Or.inr ⟨"YieldMoor", (wl_t 81 (by decide +kernel) (by decide +kernel))⟩), (wl_t 82 (by decide +kernel) (by decide +kernel)), (wl_t 6 (by decide +kernel) (by decide +kernel)), (wl_t 83 (by decide +kernel) (by decide +kernel)), rfl, rfl, rfl, ⟨by decide +kernel, by decide +kernel⟩, by decide +kernel⟩
theorem ffX2_18 : mmFF RX2 18 2 2 (.object "YieldMoor$WayStack") := ⟨RX2, TX2, 17, tyX2, rfl, by decide, by decide, rfl, rfl, wsX2_in, (wl_t 102 (by decide +kernel) (by decide +kernel)), tyX2_ok, nmX2, rfl, by decide +kernel⟩
theorem ffX2_22 : mmFF RX2 22 2 0 (.int) := ⟨RX2, TX2, 17, tyX2, rfl, by decide, by decide, rfl, rfl, wsX2_in, (wl_t 98 (by decide +kernel) (by decide +kernel)), tyX2_ok, nmX2, rfl, by decide +kernel⟩
theorem obX0_3 : Cond.methodLink RX0 3 Lib.objectInit ∈ WL ∧ Cond.instanceMethod Lib.objectInit ∈ WL ∧ Cond.code Lib.objectInit ⟨#[0xb1]⟩ 1 none ∈ WL := ⟨wl_in2 (by decide +kernel), wl_in2 (by decide +kernel), wl_in2 (by decide +kernel)⟩
theorem aqX0_9 : Cond.classLink RX0 9 "YieldMoor$Body" ∈ WL ∧ Cond.arrayOver (.object "YieldMoor$Body") ∈ WL := ⟨(wl_t 33 (by decide +kernel) (by decide +kernel)), wl_in2 (by decide +kernel)⟩
theorem ffX0_11 : mmFF RX0 11 0 0 (.array (.object "YieldMoor$Body")) := ⟨RX0, TX0, 3, tyX0, rfl, by decide, by decide, rfl, rfl, wsX0_in, (wl_t 55 (by decide +kernel) (by decide +kernel)), tyX0_ok, nmX0, rfl, by decide +kernel⟩
theorem nwX0_9 : mmNw RX0 9 1 4 := ⟨RX1, TX1, tyX1, rfl, by decide, wsX1_in, tyX1_ok, (wl_t 33 (by decide +kernel) (by decide +kernel)), (wl_t 35 (by decide +kernel) (by decide +kernel)), (wl_t 3 (by decide +kernel) (by decide +kernel)), by decide +kernel⟩
theorem ciX0_17 : mmCI RX0 17 yX1_init cX1_init 1 0 := ⟨(Or.inr ⟨"YieldMoor", (wl_t 36 (by decide +kernel) (by decide +kernel))⟩), (wl_t 37 (by decide +kernel) (by decide +kernel)), (wl_t 3 (by decide +kernel) (by decide +kernel)), (wl_t 38 (by decide +kernel) (by decide +kernel)), rfl, rfl, rfl, ⟨by decide +kernel, by decide +kernel⟩, by decide +kernel⟩
theorem ffX0_18 : mmFF RX0 18 0 1 (.object "YieldMoor$Body") := ⟨RX0, TX0, 3, tyX0, rfl, by decide, by decide, rfl, rfl, wsX0_in, (wl_t 56 (by decide +kernel) (by decide +kernel)), tyX0_ok, nmX0, rfl, by decide +kernel⟩
theorem obX3_3 : Cond.methodLink RX3 3 Lib.objectInit ∈ WL ∧ Cond.instanceMethod Lib.objectInit ∈ WL ∧ Cond.code Lib.objectInit ⟨#[0xb1]⟩ 1 none ∈ WL := ⟨wl_in2 (by decide +kernel), wl_in2 (by decide +kernel), wl_in2 (by decide +kernel)⟩
theorem aqX3_9 : Cond.classLink RX3 9 "YieldMoor$Coroutine" ∈ WL ∧ Cond.arrayOver (.object "YieldMoor$Coroutine") ∈ WL := ⟨(wl_t 72 (by decide +kernel) (by decide +kernel)), wl_in2 (by decide +kernel)⟩
theorem ffX3_11 : mmFF RX3 11 3 1 (.array (.object "YieldMoor$Coroutine")) := ⟨RX3, TX3, 13, tyX3, rfl, by decide, by decide, rfl, rfl, wsX3_in, (wl_t 195 (by decide +kernel) (by decide +kernel)), tyX3_ok, nmX3, rfl, by decide +kernel⟩
theorem nwX3_9 : mmNw RX3 9 2 17 := ⟨RX2, TX2, tyX2, rfl, by decide, wsX2_in, tyX2_ok, (wl_t 72 (by decide +kernel) (by decide +kernel)), (wl_t 74 (by decide +kernel) (by decide +kernel)), (wl_t 5 (by decide +kernel) (by decide +kernel)), by decide +kernel⟩
theorem ciX3_17 : mmCI RX3 17 yX2_init cX2_init 2 1 := ⟨(Or.inl (wl_t 75 (by decide +kernel) (by decide +kernel))), (wl_t 76 (by decide +kernel) (by decide +kernel)), (wl_t 5 (by decide +kernel) (by decide +kernel)), (wl_t 77 (by decide +kernel) (by decide +kernel)), rfl, rfl, rfl, ⟨by decide +kernel, by decide +kernel⟩, by decide +kernel⟩
theorem ffX3_20 : mmFF RX3 20 3 2 (.object "YieldMoor$Coroutine") := ⟨RX3, TX3, 13, tyX3, rfl, by decide, by decide, rfl, rfl, wsX3_in, (wl_t 196 (by decide +kernel) (by decide +kernel)), tyX3_ok, nmX3, rfl, by decide +kernel⟩
theorem nwX3_24 : mmNw RX3 24 4 2 := ⟨RX4, TX4, tyX4, rfl, by decide, wsX4_in, tyX4_ok, (wl_t 179 (by decide +kernel) (by decide +kernel)), (wl_t 180 (by decide +kernel) (by decide +kernel)), (wl_t 7 (by decide +kernel) (by decide +kernel)), by decide +kernel⟩
theorem ciX3_26 : mmCI RX3 26 yX4_init cX4_init 1 0 := ⟨(Or.inr ⟨"YieldMoor", (wl_t 181 (by decide +kernel) (by decide +kernel))⟩), (wl_t 182 (by decide +kernel) (by decide +kernel)), (wl_t 7 (by decide +kernel) (by decide +kernel)), (wl_t 183 (by decide +kernel) (by decide +kernel)), rfl, rfl, rfl, ⟨by decide +kernel, by decide +kernel⟩, by decide +kernel⟩
theorem ffX3_27 : mmFF RX3 27 3 3 (.object "YieldMoor$Queue") := ⟨RX3, TX3, 13, tyX3, rfl, by decide, by decide, rfl, rfl, wsX3_in, (wl_t 197 (by decide +kernel) (by decide +kernel)), tyX3_ok, nmX3, rfl, by decide +kernel⟩
theorem ffX3_31 : mmFF RX3 31 3 4 (.object "YieldMoor$Queue") := ⟨RX3, TX3, 13, tyX3, rfl, by decide, by decide, rfl, rfl, wsX3_in, (wl_t 199 (by decide +kernel) (by decide +kernel)), tyX3_ok, nmX3, rfl, by decide +kernel⟩
theorem ffX3_34 : mmFF RX3 34 3 0 (.object "YieldMoor$Bodies") := ⟨RX3, TX3, 13, tyX3, rfl, by decide, by decide, rfl, rfl, wsX3_in, (wl_t 194 (by decide +kernel) (by decide +kernel)), tyX3_ok, nmX3, rfl, by decide +kernel⟩
theorem obX6_1 : Cond.methodLink RX6 1 Lib.objectInit ∈ WL ∧ Cond.instanceMethod Lib.objectInit ∈ WL ∧ Cond.code Lib.objectInit ⟨#[0xb1]⟩ 1 none ∈ WL := ⟨wl_in2 (by decide +kernel), wl_in2 (by decide +kernel), wl_in2 (by decide +kernel)⟩
theorem nwX6_7 : mmNw RX6 7 0 3 := ⟨RX0, TX0, tyX0, rfl, by decide, wsX0_in, tyX0_ok, (wl_t 27 (by decide +kernel) (by decide +kernel)), (wl_t 28 (by decide +kernel) (by decide +kernel)), (wl_t 2 (by decide +kernel) (by decide +kernel)), by decide +kernel⟩
theorem ciX6_9 : mmCI RX6 9 yX0_init cX0_init 2 0 := ⟨(Or.inl (wl_t 29 (by decide +kernel) (by decide +kernel))), (wl_t 30 (by decide +kernel) (by decide +kernel)), (wl_t 2 (by decide +kernel) (by decide +kernel)), (wl_t 31 (by decide +kernel) (by decide +kernel)), rfl, rfl, rfl, ⟨by decide +kernel, by decide +kernel⟩, by decide +kernel⟩
theorem ffX6_10 : mmFF RX6 10 6 0 (.object "YieldMoor$Bodies") := ⟨RX6, TX6, 3, tyX6, rfl, by decide, by decide, rfl, rfl, wsX6_in, (wl_t 238 (by decide +kernel) (by decide +kernel)), tyX6_ok, nmX6, rfl, by decide +kernel⟩
theorem nwX6_16 : mmNw RX6 16 3 13 := ⟨RX3, TX3, tyX3, rfl, by decide, wsX3_in, tyX3_ok, (wl_t 66 (by decide +kernel) (by decide +kernel)), (wl_t 67 (by decide +kernel) (by decide +kernel)), (wl_t 4 (by decide +kernel) (by decide +kernel)), by decide +kernel⟩
theorem ciX6_18 : mmCI RX6 18 yX3_init cX3_init 3 1 := ⟨(Or.inl (wl_t 68 (by decide +kernel) (by decide +kernel))), (wl_t 69 (by decide +kernel) (by decide +kernel)), (wl_t 4 (by decide +kernel) (by decide +kernel)), (wl_t 70 (by decide +kernel) (by decide +kernel)), rfl, rfl, rfl, ⟨by decide +kernel, by decide +kernel⟩, by decide +kernel⟩
theorem ffX6_21 : mmFF RX6 21 6 1 (.object "YieldMoor$Machine") := ⟨RX6, TX6, 3, tyX6, rfl, by decide, by decide, rfl, rfl, wsX6_in, (wl_t 239 (by decide +kernel) (by decide +kernel)), tyX6_ok, nmX6, rfl, by decide +kernel⟩
theorem ffX6_25 : mmFF RX6 25 6 2 (.object "YieldMoor$Machine") := ⟨RX6, TX6, 3, tyX6, rfl, by decide, by decide, rfl, rfl, wsX6_in, (wl_t 240 (by decide +kernel) (by decide +kernel)), tyX6_ok, nmX6, rfl, by decide +kernel⟩
-- X1_init
set_option maxRecDepth 100000 in
def fX1_init (h0 : Nat) (μ : MM) : Option MM :=
  st (sN μ 20 12) fun μ1 => if mK μ1 h0 = 2 then st (sP μ1 h0 0 (mX μ)) fun μ3 => st (sN μ3 20 12) fun μ4 => if mK μ4 h0 = 2 then st (sP μ4 h0 1 (mX μ3)) fun μ6 => st (sN μ6 20 12) fun μ7 => if mK μ7 h0 = 2 then st (sP μ7 h0 2 (mX μ6)) fun μ9 => some μ9 else none else none else none
abbrev rmX1_init : Room := { frames := 1, cells := 3, slots := 36, locals := 16 }
set_option maxRecDepth 100000 in
set_option maxHeartbeats 8000000 in
theorem kX1_init_c (l : Launch) (G : mmG) (A : Nat → Prop) {μ res : MM} {h0 : Nat} (hk0 : mK μ h0 = 2) (hf : fX1_init h0 μ = some res) : Met l yX1_init [.code yX1_init cX1_init 1 none] rmX1_init (mmPc G A μ [rf h0]) (mmQ G A res none) 3 36 A := by
  refine mm_ofW (by decide +kernel) (by simp [lg_sl, rf_cat, int_cat]) ?_
  intro p e s m below meth c ls S hR hA hS hr hlocks hl hnm
  have hl : lv_has ls 1 [(0, rf h0)] := by simpa [lv_args, rf_cat, int_cat] using hl
  have hK : mmKN μ μ := mmKN.rf
  unfold fX1_init at hf
  refine mm_aload_n S dX1_init_0 rfl (lv_at hl 0 rfl) ?_
  refine mm_obj S hR obX1_3.1 obX1_3.2.1 obX1_3.2.2 (hK.k hk0) hl.1 (Nat.le_of_ble_eq_true rfl) (by simp [rf_cat, int_cat]) dX1_init_1 ?_
  refine mm_aload_n S dX1_init_4 rfl (lv_at hl 0 rfl) ?_
  refine lv_bipush (v := 12) S.1 S.2.1 dX1_init_5 (by decide) ?_
  refine mm_newiK (N := 12) S hR hS hA wAint (by decide) (by decide) (by decide) (Nat.le_of_ble_eq_true rfl) (Nat.le_of_ble_eq_true rfl) dX1_init_7 (fun H locs hR hS => ?_)
  obtain ⟨μ1, e1, hf⟩ := stx hf
  rw [← e1] at hR
  have hK : mmKN μ1 μ1 := mmKN.rf
  obtain ⟨g2, hf⟩ := gd hf
  refine mm_putFp S hR hS ffX1_9 (hnm.trans rfl) (hK.k g2) rfl nra_ok fra_ok dX1_init_9 (fun H locs hR hS => ?_)
  obtain ⟨μ3, e3, hf⟩ := stx hf
  rw [← e3] at hR
  have hK : mmKN μ1 μ3 := by rw [e3]; exact hK.sP
  refine mm_aload_n S dX1_init_12 rfl (lv_at hl 0 rfl) ?_
  refine lv_bipush (v := 12) S.1 S.2.1 dX1_init_13 (by decide) ?_
  refine mm_newiK (N := 12) S hR hS hA wAint (by decide) (by decide) (by decide) (Nat.le_of_ble_eq_true rfl) (Nat.le_of_ble_eq_true rfl) dX1_init_15 (fun H locs hR hS => ?_)
  obtain ⟨μ4, e4, hf⟩ := stx hf
  rw [← e4] at hR
  have hK : mmKN μ4 μ4 := mmKN.rf
  obtain ⟨g5, hf⟩ := gd hf
  refine mm_putFp S hR hS ffX1_15 (hnm.trans rfl) (hK.k g5) rfl nra_ok fra_ok dX1_init_17 (fun H locs hR hS => ?_)
  obtain ⟨μ6, e6, hf⟩ := stx hf
  rw [← e6] at hR
  have hK : mmKN μ4 μ6 := by rw [e6]; exact hK.sP
  refine mm_aload_n S dX1_init_20 rfl (lv_at hl 0 rfl) ?_
  refine lv_bipush (v := 12) S.1 S.2.1 dX1_init_21 (by decide) ?_
  refine mm_newiK (N := 12) S hR hS hA wAint (by decide) (by decide) (by decide) (Nat.le_of_ble_eq_true rfl) (Nat.le_of_ble_eq_true rfl) dX1_init_23 (fun H locs hR hS => ?_)
  obtain ⟨μ7, e7, hf⟩ := stx hf
  rw [← e7] at hR
  have hK : mmKN μ7 μ7 := mmKN.rf
  obtain ⟨g8, hf⟩ := gd hf
  refine mm_putFp S hR hS ffX1_18 (hnm.trans rfl) (hK.k g8) rfl nra_ok fra_ok dX1_init_25 (fun H locs hR hS => ?_)
  obtain ⟨μ9, e9, hf⟩ := stx hf
  rw [← e9] at hR
  have hK : mmKN μ7 μ9 := by rw [e9]; exact hK.sP
  obtain rfl := Option.some.inj hf
  refine W.widen (k := 3) (n := 36) (Nat.le_of_ble_eq_true rfl) (Nat.le_of_ble_eq_true rfl) ?_
  exact mm_vret S hR hS hr hlocks dX1_init_28
-- X5_init
set_option maxRecDepth 100000 in
def fX5_init (h0 : Nat) (μ : MM) : Option MM :=
  st (sN μ 20 6) fun μ1 => if mK μ1 h0 = 6 then st (sP μ1 h0 0 (mX μ)) fun μ3 => st (sN μ3 20 6) fun μ4 => if mK μ4 h0 = 6 then st (sP μ4 h0 1 (mX μ3)) fun μ6 => some μ6 else none else none
abbrev rmX5_init : Room := { frames := 1, cells := 2, slots := 12, locals := 16 }
set_option maxRecDepth 100000 in
set_option maxHeartbeats 8000000 in
theorem kX5_init_c (l : Launch) (G : mmG) (A : Nat → Prop) {μ res : MM} {h0 : Nat} (hk0 : mK μ h0 = 6) (hf : fX5_init h0 μ = some res) : Met l yX5_init [.code yX5_init cX5_init 1 none] rmX5_init (mmPc G A μ [rf h0]) (mmQ G A res none) 2 12 A := by
  refine mm_ofW (by decide +kernel) (by simp [lg_sl, rf_cat, int_cat]) ?_
  intro p e s m below meth c ls S hR hA hS hr hlocks hl hnm
  have hl : lv_has ls 1 [(0, rf h0)] := by simpa [lv_args, rf_cat, int_cat] using hl
  have hK : mmKN μ μ := mmKN.rf
  unfold fX5_init at hf
  refine mm_aload_n S dX5_init_0 rfl (lv_at hl 0 rfl) ?_
  refine mm_obj S hR obX5_3.1 obX5_3.2.1 obX5_3.2.2 (hK.k hk0) hl.1 (Nat.le_of_ble_eq_true rfl) (by simp [rf_cat, int_cat]) dX5_init_1 ?_
  refine mm_aload_n S dX5_init_4 rfl (lv_at hl 0 rfl) ?_
  refine lv_bipush (v := 6) S.1 S.2.1 dX5_init_5 (by decide) ?_
  refine mm_newiK (N := 6) S hR hS hA wAint (by decide) (by decide) (by decide) (Nat.le_of_ble_eq_true rfl) (Nat.le_of_ble_eq_true rfl) dX5_init_7 (fun H locs hR hS => ?_)
  obtain ⟨μ1, e1, hf⟩ := stx hf
  rw [← e1] at hR
  have hK : mmKN μ1 μ1 := mmKN.rf
  obtain ⟨g2, hf⟩ := gd hf
  refine mm_putFp S hR hS ffX5_9 (hnm.trans rfl) (hK.k g2) rfl nra_ok fra_ok dX5_init_9 (fun H locs hR hS => ?_)
  obtain ⟨μ3, e3, hf⟩ := stx hf
  rw [← e3] at hR
  have hK : mmKN μ1 μ3 := by rw [e3]; exact hK.sP
  refine mm_aload_n S dX5_init_12 rfl (lv_at hl 0 rfl) ?_
  refine lv_bipush (v := 6) S.1 S.2.1 dX5_init_13 (by decide) ?_
  refine mm_newiK (N := 6) S hR hS hA wAint (by decide) (by decide) (by decide) (Nat.le_of_ble_eq_true rfl) (Nat.le_of_ble_eq_true rfl) dX5_init_15 (fun H locs hR hS => ?_)
  obtain ⟨μ4, e4, hf⟩ := stx hf
  rw [← e4] at hR
  have hK : mmKN μ4 μ4 := mmKN.rf
  obtain ⟨g5, hf⟩ := gd hf
  refine mm_putFp S hR hS ffX5_15 (hnm.trans rfl) (hK.k g5) rfl nra_ok fra_ok dX5_init_17 (fun H locs hR hS => ?_)
  obtain ⟨μ6, e6, hf⟩ := stx hf
  rw [← e6] at hR
  have hK : mmKN μ4 μ6 := by rw [e6]; exact hK.sP
  obtain rfl := Option.some.inj hf
  refine W.widen (k := 2) (n := 12) (Nat.le_of_ble_eq_true rfl) (Nat.le_of_ble_eq_true rfl) ?_
  exact mm_vret S hR hS hr hlocks dX5_init_20
-- X4_init
set_option maxRecDepth 100000 in
def fX4_init (h0 : Nat) (μ : MM) : Option MM :=
  st (sN μ 20 24) fun μ1 => if mK μ1 h0 = 5 then st (sP μ1 h0 0 (mX μ)) fun μ3 => some μ3 else none
abbrev rmX4_init : Room := { frames := 1, cells := 1, slots := 24, locals := 16 }
set_option maxRecDepth 100000 in
set_option maxHeartbeats 8000000 in
theorem kX4_init_c (l : Launch) (G : mmG) (A : Nat → Prop) {μ res : MM} {h0 : Nat} (hk0 : mK μ h0 = 5) (hf : fX4_init h0 μ = some res) : Met l yX4_init [.code yX4_init cX4_init 1 none] rmX4_init (mmPc G A μ [rf h0]) (mmQ G A res none) 1 24 A := by
  refine mm_ofW (by decide +kernel) (by simp [lg_sl, rf_cat, int_cat]) ?_
  intro p e s m below meth c ls S hR hA hS hr hlocks hl hnm
  have hl : lv_has ls 1 [(0, rf h0)] := by simpa [lv_args, rf_cat, int_cat] using hl
  have hK : mmKN μ μ := mmKN.rf
  unfold fX4_init at hf
  refine mm_aload_n S dX4_init_0 rfl (lv_at hl 0 rfl) ?_
  refine mm_obj S hR obX4_3.1 obX4_3.2.1 obX4_3.2.2 (hK.k hk0) hl.1 (Nat.le_of_ble_eq_true rfl) (by simp [rf_cat, int_cat]) dX4_init_1 ?_
  refine mm_aload_n S dX4_init_4 rfl (lv_at hl 0 rfl) ?_
  refine lv_bipush (v := 24) S.1 S.2.1 dX4_init_5 (by decide) ?_
  refine mm_newiK (N := 24) S hR hS hA wAint (by decide) (by decide) (by decide) (Nat.le_of_ble_eq_true rfl) (Nat.le_of_ble_eq_true rfl) dX4_init_7 (fun H locs hR hS => ?_)
  obtain ⟨μ1, e1, hf⟩ := stx hf
  rw [← e1] at hR
  have hK : mmKN μ1 μ1 := mmKN.rf
  obtain ⟨g2, hf⟩ := gd hf
  refine mm_putFp S hR hS ffX4_9 (hnm.trans rfl) (hK.k g2) rfl nra_ok fra_ok dX4_init_9 (fun H locs hR hS => ?_)
  obtain ⟨μ3, e3, hf⟩ := stx hf
  rw [← e3] at hR
  have hK : mmKN μ1 μ3 := by rw [e3]; exact hK.sP
  obtain rfl := Option.some.inj hf
  refine W.widen (k := 1) (n := 24) (Nat.le_of_ble_eq_true rfl) (Nat.le_of_ble_eq_true rfl) ?_
  exact mm_vret S hR hS hr hlocks dX4_init_12
-- X2_init
set_option maxRecDepth 100000 in
def fX2_init (h0 : Nat) (x1 : Int32) (μ : MM) : Option MM :=
  st (sN μ 20 4) fun μ1 => if mK μ1 h0 = 3 then st (sP μ1 h0 1 (mX μ)) fun μ3 => st (sN μ3 6 0) fun μ4 => if mK μ4 (mX μ3) = 6 then (fX5_init (mX μ3) μ4).bind fun y6 => if mK y6 h0 = 3 then st (sP y6 h0 2 (mX μ3)) fun μ8 => st (sI μ8 h0 0 x1) fun μ9 => some μ9 else none else none else none
abbrev rmX2_init : Room := { frames := 2, cells := 4, slots := 19, locals := 36 }
set_option maxRecDepth 100000 in
set_option maxHeartbeats 8000000 in
theorem kX2_init_c (l : Launch) (G : mmG) (A : Nat → Prop) {μ res : MM} {h0 : Nat} {x1 : Int32} (hk0 : mK μ h0 = 3) (hf : fX2_init h0 x1 μ = some res) : Met l yX2_init [.code yX2_init cX2_init 2 none] rmX2_init (mmPc G A μ [rf h0, .int x1]) (mmQ G A res none) 4 19 A := by
  refine mm_ofW (by decide +kernel) (by simp [lg_sl, rf_cat, int_cat]) ?_
  intro p e s m below meth c ls S hR hA hS hr hlocks hl hnm
  have hl : lv_has ls 2 [(0, rf h0), (1, .int x1)] := by simpa [lv_args, rf_cat, int_cat] using hl
  have hK : mmKN μ μ := mmKN.rf
  unfold fX2_init at hf
  refine mm_aload_n S dX2_init_0 rfl (lv_at hl 0 rfl) ?_
  refine mm_obj S hR obX2_3.1 obX2_3.2.1 obX2_3.2.2 (hK.k hk0) hl.1 (Nat.le_of_ble_eq_true rfl) (by simp [rf_cat, int_cat]) dX2_init_1 ?_
  refine mm_aload_n S dX2_init_4 rfl (lv_at hl 0 rfl) ?_
  refine lv_iconst (v := 4) S.1 S.2.1 dX2_init_5 (by decide) ?_
  refine mm_newiK (N := 4) S hR hS hA wAint (by decide) (by decide) (by decide) (Nat.le_of_ble_eq_true rfl) (Nat.le_of_ble_eq_true rfl) dX2_init_6 (fun H locs hR hS => ?_)
  obtain ⟨μ1, e1, hf⟩ := stx hf
  rw [← e1] at hR
  have hK : mmKN μ1 μ1 := mmKN.rf
  obtain ⟨g2, hf⟩ := gd hf
  refine mm_putFp S hR hS ffX2_9 (hnm.trans rfl) (hK.k g2) rfl nra_ok fra_ok dX2_init_8 (fun H locs hR hS => ?_)
  obtain ⟨μ3, e3, hf⟩ := stx hf
  rw [← e3] at hR
  have hK : mmKN μ1 μ3 := by rw [e3]; exact hK.sP
  refine mm_aload_n S dX2_init_11 rfl (lv_at hl 0 rfl) ?_
  refine mm_new S hR hS hA nwX2_15 (Nat.le_of_ble_eq_true rfl) (Nat.le_of_ble_eq_true rfl) dX2_init_12 (fun H locs hR hS => ?_)
  obtain ⟨μ4, e4, hf⟩ := stx hf
  rw [← e4] at hR
  have hK : mmKN μ4 μ4 := mmKN.rf
  refine lv_dup S.1 S.2.1 dX2_init_15 (rf_cat _) ?_
  obtain ⟨g5, hf⟩ := gd hf
  obtain ⟨y6, hy6, hf⟩ := bd hf
  refine mm_callI S hR hS hA (As := []) (rest := [rf (mX μ3), rf h0]) ciX2_17 (hK.k g5) (kX5_init_c l G A (hK.k g5) hy6) rfl rfl ⟨(Nat.le_of_ble_eq_true rfl), (Nat.le_of_ble_eq_true rfl)⟩ rfl hl.1 rfl (lv_room (by simp [rf_cat, int_cat])) dX2_init_16 ⟨(Nat.le_of_ble_eq_true rfl), (Nat.le_of_ble_eq_true rfl)⟩ (fun H locs hR hS => ?_)
  have hK : mmKN y6 y6 := mmKN.rf
  obtain ⟨g7, hf⟩ := gd hf
  refine mm_putFp S hR hS ffX2_18 (hnm.trans rfl) (hK.k g7) rfl nr_ok fr_ok dX2_init_19 (fun H locs hR hS => ?_)
  obtain ⟨μ8, e8, hf⟩ := stx hf
  rw [← e8] at hR
  have hK : mmKN y6 μ8 := by rw [e8]; exact hK.sP
  refine mm_aload_n S dX2_init_22 rfl (lv_at hl 0 rfl) ?_
  refine lv_iload_n S.1 S.2.1 dX2_init_23 rfl (lv_at hl 1 rfl) ?_
  refine mm_putFi S hR hS ffX2_22 (hnm.trans rfl) (hK.k g7) rfl rfl rfl dX2_init_24 (fun H locs hR hS => ?_)
  obtain ⟨μ9, e9, hf⟩ := stx hf
  rw [← e9] at hR
  have hK : mmKN y6 μ9 := by rw [e9]; exact hK.sI
  obtain rfl := Option.some.inj hf
  refine W.widen (k := 4) (n := 19) (Nat.le_of_ble_eq_true rfl) (Nat.le_of_ble_eq_true rfl) ?_
  exact mm_vret S hR hS hr hlocks dX2_init_27
-- X0_init
set_option maxRecDepth 100000 in
def fX0_init (h0 : Nat) (μ : MM) : Option MM :=
  st (sN μ 21 8) fun μ1 => if mK μ1 h0 = 1 then st (sP μ1 h0 0 (mX μ)) fun μ3 => st (sN μ3 2 0) fun μ4 => if mK μ4 (mX μ3) = 2 then (fX1_init (mX μ3) μ4).bind fun y6 => if mK y6 h0 = 1 then st (sP y6 h0 1 (mX μ3)) fun μ8 => st (sN μ8 2 0) fun μ10 => if mK μ10 (mX μ8) = 2 then (fX1_init (mX μ8) μ10).bind fun y12 => if mK y12 (mP μ8 h0 0) = 21 then if mK y12 (mX μ8) = 2 then if ¬ ((0 : Int32) < 0 ∨ mN y12 (mP μ8 h0 0) ≤ (0 : Int32).toNatClampNeg) then st (sP y12 (mP μ8 h0 0) (0 : Int32).toNatClampNeg (mX μ8)) fun μ16 => if mK y12 h0 = 1 then st (sN μ16 2 0) fun μ19 => if mK μ19 (mX μ16) = 2 then (fX1_init (mX μ16) μ19).bind fun y21 => if mK y21 (mP μ16 h0 0) = 21 then if mK y21 (mX μ16) = 2 then if ¬ ((1 : Int32) < 0 ∨ mN y21 (mP μ16 h0 0) ≤ (1 : Int32).toNatClampNeg) then st (sP y21 (mP μ16 h0 0) (1 : Int32).toNatClampNeg (mX μ16)) fun μ25 => if mK y21 h0 = 1 then st (sN μ25 2 0) fun μ28 => if mK μ28 (mX μ25) = 2 then (fX1_init (mX μ25) μ28).bind fun y30 => if mK y30 (mP μ25 h0 0) = 21 then if mK y30 (mX μ25) = 2 then if ¬ ((2 : Int32) < 0 ∨ mN y30 (mP μ25 h0 0) ≤ (2 : Int32).toNatClampNeg) then st (sP y30 (mP μ25 h0 0) (2 : Int32).toNatClampNeg (mX μ25)) fun μ34 => if mK y30 h0 = 1 then st (sN μ34 2 0) fun μ37 => if mK μ37 (mX μ34) = 2 then (fX1_init (mX μ34) μ37).bind fun y39 => if mK y39 (mP μ34 h0 0) = 21 then if mK y39 (mX μ34) = 2 then if ¬ ((3 : Int32) < 0 ∨ mN y39 (mP μ34 h0 0) ≤ (3 : Int32).toNatClampNeg) then st (sP y39 (mP μ34 h0 0) (3 : Int32).toNatClampNeg (mX μ34)) fun μ43 => if mK y39 h0 = 1 then st (sN μ43 2 0) fun μ46 => if mK μ46 (mX μ43) = 2 then (fX1_init (mX μ43) μ46).bind fun y48 => if mK y48 (mP μ43 h0 0) = 21 then if mK y48 (mX μ43) = 2 then if ¬ ((4 : Int32) < 0 ∨ mN y48 (mP μ43 h0 0) ≤ (4 : Int32).toNatClampNeg) then st (sP y48 (mP μ43 h0 0) (4 : Int32).toNatClampNeg (mX μ43)) fun μ52 => if mK y48 h0 = 1 then st (sN μ52 2 0) fun μ55 => if mK μ55 (mX μ52) = 2 then (fX1_init (mX μ52) μ55).bind fun y57 => if mK y57 (mP μ52 h0 0) = 21 then if mK y57 (mX μ52) = 2 then if ¬ ((5 : Int32) < 0 ∨ mN y57 (mP μ52 h0 0) ≤ (5 : Int32).toNatClampNeg) then st (sP y57 (mP μ52 h0 0) (5 : Int32).toNatClampNeg (mX μ52)) fun μ61 => if mK y57 h0 = 1 then st (sN μ61 2 0) fun μ64 => if mK μ64 (mX μ61) = 2 then (fX1_init (mX μ61) μ64).bind fun y66 => if mK y66 (mP μ61 h0 0) = 21 then if mK y66 (mX μ61) = 2 then if ¬ ((6 : Int32) < 0 ∨ mN y66 (mP μ61 h0 0) ≤ (6 : Int32).toNatClampNeg) then st (sP y66 (mP μ61 h0 0) (6 : Int32).toNatClampNeg (mX μ61)) fun μ70 => if mK y66 h0 = 1 then st (sN μ70 2 0) fun μ73 => if mK μ73 (mX μ70) = 2 then (fX1_init (mX μ70) μ73).bind fun y75 => if mK y75 (mP μ70 h0 0) = 21 then if mK y75 (mX μ70) = 2 then if ¬ ((7 : Int32) < 0 ∨ mN y75 (mP μ70 h0 0) ≤ (7 : Int32).toNatClampNeg) then st (sP y75 (mP μ70 h0 0) (7 : Int32).toNatClampNeg (mX μ70)) fun μ79 => some μ79 else none else none else none else none else none else none else none else none else none else none else none else none else none else none else none else none else none else none else none else none else none else none else none else none else none else none else none else none else none else none else none else none else none else none else none else none else none else none else none else none else none else none
abbrev rmX0_init : Room := { frames := 2, cells := 37, slots := 368, locals := 36 }
set_option maxRecDepth 100000 in
set_option maxHeartbeats 8000000 in
theorem kX0_init_c (l : Launch) (G : mmG) (A : Nat → Prop) {μ res : MM} {h0 : Nat} (hk0 : mK μ h0 = 1) (hf : fX0_init h0 μ = some res) : Met l yX0_init [.code yX0_init cX0_init 2 none] rmX0_init (mmPc G A μ [rf h0]) (mmQ G A res none) 37 368 A := by
  refine mm_ofW (by decide +kernel) (by simp [lg_sl, rf_cat, int_cat]) ?_
  intro p e s m below meth c ls S hR hA hS hr hlocks hl hnm
  have hl : lv_has ls 2 [(0, rf h0)] := by simpa [lv_args, rf_cat, int_cat] using hl
  have hK : mmKN μ μ := mmKN.rf
  unfold fX0_init at hf
  refine mm_aload_n S dX0_init_0 rfl (lv_at hl 0 rfl) ?_
  refine mm_obj S hR obX0_3.1 obX0_3.2.1 obX0_3.2.2 (hK.k hk0) hl.1 (Nat.le_of_ble_eq_true rfl) (by simp [rf_cat, int_cat]) dX0_init_1 ?_
  refine mm_aload_n S dX0_init_4 rfl (lv_at hl 0 rfl) ?_
  refine lv_bipush (v := 8) S.1 S.2.1 dX0_init_5 (by decide) ?_
  refine mm_newqK (N := 8) (k := 21) (t := 1) S hR hS hA aqX0_9.1 aqX0_9.2 (by decide) (by decide) rfl (by decide) (by decide) (by decide) (Nat.le_of_ble_eq_true rfl) (Nat.le_of_ble_eq_true rfl) dX0_init_7 (fun H locs hR hS => ?_)
  obtain ⟨μ1, e1, hf⟩ := stx hf
  rw [← e1] at hR
  have hK : mmKN μ1 μ1 := mmKN.rf
  obtain ⟨g2, hf⟩ := gd hf
  refine mm_putFp S hR hS ffX0_11 (hnm.trans rfl) (hK.k g2) rfl nra_ok fra_ok dX0_init_10 (fun H locs hR hS => ?_)
  obtain ⟨μ3, e3, hf⟩ := stx hf
  rw [← e3] at hR
  have hK : mmKN μ1 μ3 := by rw [e3]; exact hK.sP
  refine mm_aload_n S dX0_init_13 rfl (lv_at hl 0 rfl) ?_
  refine mm_new S hR hS hA nwX0_9 (Nat.le_of_ble_eq_true rfl) (Nat.le_of_ble_eq_true rfl) dX0_init_14 (fun H locs hR hS => ?_)
  obtain ⟨μ4, e4, hf⟩ := stx hf
  rw [← e4] at hR
  have hK : mmKN μ4 μ4 := mmKN.rf
  refine lv_dup S.1 S.2.1 dX0_init_17 (rf_cat _) ?_
  obtain ⟨g5, hf⟩ := gd hf
  obtain ⟨y6, hy6, hf⟩ := bd hf
  refine mm_callI S hR hS hA (As := []) (rest := [rf (mX μ3), rf h0]) ciX0_17 (hK.k g5) (kX1_init_c l G A (hK.k g5) hy6) rfl rfl ⟨(Nat.le_of_ble_eq_true rfl), (Nat.le_of_ble_eq_true rfl)⟩ rfl hl.1 rfl (lv_room (by simp [rf_cat, int_cat])) dX0_init_18 ⟨(Nat.le_of_ble_eq_true rfl), (Nat.le_of_ble_eq_true rfl)⟩ (fun H locs hR hS => ?_)
  have hK : mmKN y6 y6 := mmKN.rf
  obtain ⟨g7, hf⟩ := gd hf
  refine mm_putFp S hR hS ffX0_18 (hnm.trans rfl) (hK.k g7) rfl nr_ok fr_ok dX0_init_21 (fun H locs hR hS => ?_)
  obtain ⟨μ8, e8, hf⟩ := stx hf
  rw [← e8] at hR
  have hK : mmKN y6 μ8 := by rw [e8]; exact hK.sP
  refine lv_iconst (v := 0) S.1 S.2.1 dX0_init_24 (by decide) ?_
  refine lv_istore_n (i := 1) (lv' := [(1, .int 0), (0, rf h0)]) S.1 S.2.1 dX0_init_25 rfl hl (by decide) (by simp [rf_cat, int_cat]) (fun ls hl => ?_)
  refine lv_iload_n S.1 S.2.1 dX0_init_26 rfl (lv_at hl 0 rfl) ?_
  refine lv_bipush (v := 8) S.1 S.2.1 dX0_init_27 (by decide) ?_
  refine lv_icmp_ge (tgt := 51) S.1 S.2.1 dX0_init_29 (by decide) (fun c9 => absurd c9 (by decide)) (fun _ => ?_)
  refine mm_aload_n S dX0_init_32 rfl (lv_at hl 1 rfl) ?_
  refine mm_getp S hR fdX0_11 (hK.k g7) rfl dX0_init_33 ?_
  refine lv_iload_n S.1 S.2.1 dX0_init_36 rfl (lv_at hl 0 rfl) ?_
  refine mm_new S hR hS hA nwX0_9 (Nat.le_of_ble_eq_true rfl) (Nat.le_of_ble_eq_true rfl) dX0_init_37 (fun H locs hR hS => ?_)
  obtain ⟨μ10, e10, hf⟩ := stx hf
  rw [← e10] at hR
  have hK : mmKN μ10 μ10 := mmKN.rf
  refine lv_dup S.1 S.2.1 dX0_init_40 (rf_cat _) ?_
  obtain ⟨g11, hf⟩ := gd hf
  obtain ⟨y12, hy12, hf⟩ := bd hf
  refine mm_callI S hR hS hA (As := []) (rest := [rf (mX μ8), .int 0, rf (mP μ8 h0 0)]) ciX0_17 (hK.k g11) (kX1_init_c l G A (hK.k g11) hy12) rfl rfl ⟨(Nat.le_of_ble_eq_true rfl), (Nat.le_of_ble_eq_true rfl)⟩ rfl hl.1 rfl (lv_room (by simp [rf_cat, int_cat])) dX0_init_41 ⟨(Nat.le_of_ble_eq_true rfl), (Nat.le_of_ble_eq_true rfl)⟩ (fun H locs hR hS => ?_)
  have hK : mmKN y12 y12 := mmKN.rf
  obtain ⟨g13, hf⟩ := gd hf
  obtain ⟨g14, hf⟩ := gd hf
  obtain ⟨g15, hf⟩ := gd hf
  refine mm_astq (k := 21) (t := 1) (ci := 1) S hR hS (hK.k g13) (by decide) (by decide) rfl (hK.k g14) (by decide) rfl g15 dX0_init_44 (fun H locs hR hS => ?_)
  obtain ⟨μ16, e16, hf⟩ := stx hf
  rw [← e16] at hR
  have hK : mmKN y12 μ16 := by rw [e16]; exact hK.sP
  refine lv_iinc (v := 1) (lv' := [(1, .int 1), (0, rf h0)]) S.1 S.2.1 dX0_init_45 hl (k := 0) rfl (by decide) (by decide) (by simp [rf_cat, int_cat]) (fun ls hl => ?_)
  refine lv_goto (tgt := 26) S.1 S.2.1 dX0_init_48 (by decide) ?_
  refine lv_iload_n S.1 S.2.1 dX0_init_26 rfl (lv_at hl 0 rfl) ?_
  refine lv_bipush (v := 8) S.1 S.2.1 dX0_init_27 (by decide) ?_
  refine lv_icmp_ge (tgt := 51) S.1 S.2.1 dX0_init_29 (by decide) (fun c17 => absurd c17 (by decide)) (fun _ => ?_)
  refine mm_aload_n S dX0_init_32 rfl (lv_at hl 1 rfl) ?_
  obtain ⟨g18, hf⟩ := gd hf
  refine mm_getp S hR fdX0_11 (hK.k g18) rfl dX0_init_33 ?_
  refine lv_iload_n S.1 S.2.1 dX0_init_36 rfl (lv_at hl 0 rfl) ?_
  refine mm_new S hR hS hA nwX0_9 (Nat.le_of_ble_eq_true rfl) (Nat.le_of_ble_eq_true rfl) dX0_init_37 (fun H locs hR hS => ?_)
  obtain ⟨μ19, e19, hf⟩ := stx hf
  rw [← e19] at hR
  have hK : mmKN μ19 μ19 := mmKN.rf
  refine lv_dup S.1 S.2.1 dX0_init_40 (rf_cat _) ?_
  obtain ⟨g20, hf⟩ := gd hf
  obtain ⟨y21, hy21, hf⟩ := bd hf
  refine mm_callI S hR hS hA (As := []) (rest := [rf (mX μ16), .int 1, rf (mP μ16 h0 0)]) ciX0_17 (hK.k g20) (kX1_init_c l G A (hK.k g20) hy21) rfl rfl ⟨(Nat.le_of_ble_eq_true rfl), (Nat.le_of_ble_eq_true rfl)⟩ rfl hl.1 rfl (lv_room (by simp [rf_cat, int_cat])) dX0_init_41 ⟨(Nat.le_of_ble_eq_true rfl), (Nat.le_of_ble_eq_true rfl)⟩ (fun H locs hR hS => ?_)
  have hK : mmKN y21 y21 := mmKN.rf
  obtain ⟨g22, hf⟩ := gd hf
  obtain ⟨g23, hf⟩ := gd hf
  obtain ⟨g24, hf⟩ := gd hf
  refine mm_astq (k := 21) (t := 1) (ci := 1) S hR hS (hK.k g22) (by decide) (by decide) rfl (hK.k g23) (by decide) rfl g24 dX0_init_44 (fun H locs hR hS => ?_)
  obtain ⟨μ25, e25, hf⟩ := stx hf
  rw [← e25] at hR
  have hK : mmKN y21 μ25 := by rw [e25]; exact hK.sP
  refine lv_iinc (v := 2) (lv' := [(1, .int 2), (0, rf h0)]) S.1 S.2.1 dX0_init_45 hl (k := 0) rfl (by decide) (by decide) (by simp [rf_cat, int_cat]) (fun ls hl => ?_)
  refine lv_goto (tgt := 26) S.1 S.2.1 dX0_init_48 (by decide) ?_
  refine lv_iload_n S.1 S.2.1 dX0_init_26 rfl (lv_at hl 0 rfl) ?_
  refine lv_bipush (v := 8) S.1 S.2.1 dX0_init_27 (by decide) ?_
  refine lv_icmp_ge (tgt := 51) S.1 S.2.1 dX0_init_29 (by decide) (fun c26 => absurd c26 (by decide)) (fun _ => ?_)
  refine mm_aload_n S dX0_init_32 rfl (lv_at hl 1 rfl) ?_
  obtain ⟨g27, hf⟩ := gd hf
  refine mm_getp S hR fdX0_11 (hK.k g27) rfl dX0_init_33 ?_
  refine lv_iload_n S.1 S.2.1 dX0_init_36 rfl (lv_at hl 0 rfl) ?_
  refine mm_new S hR hS hA nwX0_9 (Nat.le_of_ble_eq_true rfl) (Nat.le_of_ble_eq_true rfl) dX0_init_37 (fun H locs hR hS => ?_)
  obtain ⟨μ28, e28, hf⟩ := stx hf
  rw [← e28] at hR
  have hK : mmKN μ28 μ28 := mmKN.rf
  refine lv_dup S.1 S.2.1 dX0_init_40 (rf_cat _) ?_
  obtain ⟨g29, hf⟩ := gd hf
  obtain ⟨y30, hy30, hf⟩ := bd hf
  refine mm_callI S hR hS hA (As := []) (rest := [rf (mX μ25), .int 2, rf (mP μ25 h0 0)]) ciX0_17 (hK.k g29) (kX1_init_c l G A (hK.k g29) hy30) rfl rfl ⟨(Nat.le_of_ble_eq_true rfl), (Nat.le_of_ble_eq_true rfl)⟩ rfl hl.1 rfl (lv_room (by simp [rf_cat, int_cat])) dX0_init_41 ⟨(Nat.le_of_ble_eq_true rfl), (Nat.le_of_ble_eq_true rfl)⟩ (fun H locs hR hS => ?_)
  have hK : mmKN y30 y30 := mmKN.rf
  obtain ⟨g31, hf⟩ := gd hf
  obtain ⟨g32, hf⟩ := gd hf
  obtain ⟨g33, hf⟩ := gd hf
  refine mm_astq (k := 21) (t := 1) (ci := 1) S hR hS (hK.k g31) (by decide) (by decide) rfl (hK.k g32) (by decide) rfl g33 dX0_init_44 (fun H locs hR hS => ?_)
  obtain ⟨μ34, e34, hf⟩ := stx hf
  rw [← e34] at hR
  have hK : mmKN y30 μ34 := by rw [e34]; exact hK.sP
  refine lv_iinc (v := 3) (lv' := [(1, .int 3), (0, rf h0)]) S.1 S.2.1 dX0_init_45 hl (k := 0) rfl (by decide) (by decide) (by simp [rf_cat, int_cat]) (fun ls hl => ?_)
  refine lv_goto (tgt := 26) S.1 S.2.1 dX0_init_48 (by decide) ?_
  refine lv_iload_n S.1 S.2.1 dX0_init_26 rfl (lv_at hl 0 rfl) ?_
  refine lv_bipush (v := 8) S.1 S.2.1 dX0_init_27 (by decide) ?_
  refine lv_icmp_ge (tgt := 51) S.1 S.2.1 dX0_init_29 (by decide) (fun c35 => absurd c35 (by decide)) (fun _ => ?_)
  refine mm_aload_n S dX0_init_32 rfl (lv_at hl 1 rfl) ?_
  obtain ⟨g36, hf⟩ := gd hf
  refine mm_getp S hR fdX0_11 (hK.k g36) rfl dX0_init_33 ?_
  refine lv_iload_n S.1 S.2.1 dX0_init_36 rfl (lv_at hl 0 rfl) ?_
  refine mm_new S hR hS hA nwX0_9 (Nat.le_of_ble_eq_true rfl) (Nat.le_of_ble_eq_true rfl) dX0_init_37 (fun H locs hR hS => ?_)
  obtain ⟨μ37, e37, hf⟩ := stx hf
  rw [← e37] at hR
  have hK : mmKN μ37 μ37 := mmKN.rf
  refine lv_dup S.1 S.2.1 dX0_init_40 (rf_cat _) ?_
  obtain ⟨g38, hf⟩ := gd hf
  obtain ⟨y39, hy39, hf⟩ := bd hf
  refine mm_callI S hR hS hA (As := []) (rest := [rf (mX μ34), .int 3, rf (mP μ34 h0 0)]) ciX0_17 (hK.k g38) (kX1_init_c l G A (hK.k g38) hy39) rfl rfl ⟨(Nat.le_of_ble_eq_true rfl), (Nat.le_of_ble_eq_true rfl)⟩ rfl hl.1 rfl (lv_room (by simp [rf_cat, int_cat])) dX0_init_41 ⟨(Nat.le_of_ble_eq_true rfl), (Nat.le_of_ble_eq_true rfl)⟩ (fun H locs hR hS => ?_)
  have hK : mmKN y39 y39 := mmKN.rf
  obtain ⟨g40, hf⟩ := gd hf
  obtain ⟨g41, hf⟩ := gd hf
  obtain ⟨g42, hf⟩ := gd hf
  refine mm_astq (k := 21) (t := 1) (ci := 1) S hR hS (hK.k g40) (by decide) (by decide) rfl (hK.k g41) (by decide) rfl g42 dX0_init_44 (fun H locs hR hS => ?_)
  obtain ⟨μ43, e43, hf⟩ := stx hf
  rw [← e43] at hR
  have hK : mmKN y39 μ43 := by rw [e43]; exact hK.sP
  refine lv_iinc (v := 4) (lv' := [(1, .int 4), (0, rf h0)]) S.1 S.2.1 dX0_init_45 hl (k := 0) rfl (by decide) (by decide) (by simp [rf_cat, int_cat]) (fun ls hl => ?_)
  refine lv_goto (tgt := 26) S.1 S.2.1 dX0_init_48 (by decide) ?_
  refine lv_iload_n S.1 S.2.1 dX0_init_26 rfl (lv_at hl 0 rfl) ?_
  refine lv_bipush (v := 8) S.1 S.2.1 dX0_init_27 (by decide) ?_
  refine lv_icmp_ge (tgt := 51) S.1 S.2.1 dX0_init_29 (by decide) (fun c44 => absurd c44 (by decide)) (fun _ => ?_)
  refine mm_aload_n S dX0_init_32 rfl (lv_at hl 1 rfl) ?_
  obtain ⟨g45, hf⟩ := gd hf
  refine mm_getp S hR fdX0_11 (hK.k g45) rfl dX0_init_33 ?_
  refine lv_iload_n S.1 S.2.1 dX0_init_36 rfl (lv_at hl 0 rfl) ?_
  refine mm_new S hR hS hA nwX0_9 (Nat.le_of_ble_eq_true rfl) (Nat.le_of_ble_eq_true rfl) dX0_init_37 (fun H locs hR hS => ?_)
  obtain ⟨μ46, e46, hf⟩ := stx hf
  rw [← e46] at hR
  have hK : mmKN μ46 μ46 := mmKN.rf
  refine lv_dup S.1 S.2.1 dX0_init_40 (rf_cat _) ?_
  obtain ⟨g47, hf⟩ := gd hf
  obtain ⟨y48, hy48, hf⟩ := bd hf
  refine mm_callI S hR hS hA (As := []) (rest := [rf (mX μ43), .int 4, rf (mP μ43 h0 0)]) ciX0_17 (hK.k g47) (kX1_init_c l G A (hK.k g47) hy48) rfl rfl ⟨(Nat.le_of_ble_eq_true rfl), (Nat.le_of_ble_eq_true rfl)⟩ rfl hl.1 rfl (lv_room (by simp [rf_cat, int_cat])) dX0_init_41 ⟨(Nat.le_of_ble_eq_true rfl), (Nat.le_of_ble_eq_true rfl)⟩ (fun H locs hR hS => ?_)
  have hK : mmKN y48 y48 := mmKN.rf
  obtain ⟨g49, hf⟩ := gd hf
  obtain ⟨g50, hf⟩ := gd hf
  obtain ⟨g51, hf⟩ := gd hf
  refine mm_astq (k := 21) (t := 1) (ci := 1) S hR hS (hK.k g49) (by decide) (by decide) rfl (hK.k g50) (by decide) rfl g51 dX0_init_44 (fun H locs hR hS => ?_)
  obtain ⟨μ52, e52, hf⟩ := stx hf
  rw [← e52] at hR
  have hK : mmKN y48 μ52 := by rw [e52]; exact hK.sP
  refine lv_iinc (v := 5) (lv' := [(1, .int 5), (0, rf h0)]) S.1 S.2.1 dX0_init_45 hl (k := 0) rfl (by decide) (by decide) (by simp [rf_cat, int_cat]) (fun ls hl => ?_)
  refine lv_goto (tgt := 26) S.1 S.2.1 dX0_init_48 (by decide) ?_
  refine lv_iload_n S.1 S.2.1 dX0_init_26 rfl (lv_at hl 0 rfl) ?_
  refine lv_bipush (v := 8) S.1 S.2.1 dX0_init_27 (by decide) ?_
  refine lv_icmp_ge (tgt := 51) S.1 S.2.1 dX0_init_29 (by decide) (fun c53 => absurd c53 (by decide)) (fun _ => ?_)
  refine mm_aload_n S dX0_init_32 rfl (lv_at hl 1 rfl) ?_
  obtain ⟨g54, hf⟩ := gd hf
  refine mm_getp S hR fdX0_11 (hK.k g54) rfl dX0_init_33 ?_
  refine lv_iload_n S.1 S.2.1 dX0_init_36 rfl (lv_at hl 0 rfl) ?_
  refine mm_new S hR hS hA nwX0_9 (Nat.le_of_ble_eq_true rfl) (Nat.le_of_ble_eq_true rfl) dX0_init_37 (fun H locs hR hS => ?_)
  obtain ⟨μ55, e55, hf⟩ := stx hf
  rw [← e55] at hR
  have hK : mmKN μ55 μ55 := mmKN.rf
  refine lv_dup S.1 S.2.1 dX0_init_40 (rf_cat _) ?_
  obtain ⟨g56, hf⟩ := gd hf
  obtain ⟨y57, hy57, hf⟩ := bd hf
  refine mm_callI S hR hS hA (As := []) (rest := [rf (mX μ52), .int 5, rf (mP μ52 h0 0)]) ciX0_17 (hK.k g56) (kX1_init_c l G A (hK.k g56) hy57) rfl rfl ⟨(Nat.le_of_ble_eq_true rfl), (Nat.le_of_ble_eq_true rfl)⟩ rfl hl.1 rfl (lv_room (by simp [rf_cat, int_cat])) dX0_init_41 ⟨(Nat.le_of_ble_eq_true rfl), (Nat.le_of_ble_eq_true rfl)⟩ (fun H locs hR hS => ?_)
  have hK : mmKN y57 y57 := mmKN.rf
  obtain ⟨g58, hf⟩ := gd hf
  obtain ⟨g59, hf⟩ := gd hf
  obtain ⟨g60, hf⟩ := gd hf
  refine mm_astq (k := 21) (t := 1) (ci := 1) S hR hS (hK.k g58) (by decide) (by decide) rfl (hK.k g59) (by decide) rfl g60 dX0_init_44 (fun H locs hR hS => ?_)
  obtain ⟨μ61, e61, hf⟩ := stx hf
  rw [← e61] at hR
  have hK : mmKN y57 μ61 := by rw [e61]; exact hK.sP
  refine lv_iinc (v := 6) (lv' := [(1, .int 6), (0, rf h0)]) S.1 S.2.1 dX0_init_45 hl (k := 0) rfl (by decide) (by decide) (by simp [rf_cat, int_cat]) (fun ls hl => ?_)
  refine lv_goto (tgt := 26) S.1 S.2.1 dX0_init_48 (by decide) ?_
  refine lv_iload_n S.1 S.2.1 dX0_init_26 rfl (lv_at hl 0 rfl) ?_
  refine lv_bipush (v := 8) S.1 S.2.1 dX0_init_27 (by decide) ?_
  refine lv_icmp_ge (tgt := 51) S.1 S.2.1 dX0_init_29 (by decide) (fun c62 => absurd c62 (by decide)) (fun _ => ?_)
  refine mm_aload_n S dX0_init_32 rfl (lv_at hl 1 rfl) ?_
  obtain ⟨g63, hf⟩ := gd hf
  refine mm_getp S hR fdX0_11 (hK.k g63) rfl dX0_init_33 ?_
  refine lv_iload_n S.1 S.2.1 dX0_init_36 rfl (lv_at hl 0 rfl) ?_
  refine mm_new S hR hS hA nwX0_9 (Nat.le_of_ble_eq_true rfl) (Nat.le_of_ble_eq_true rfl) dX0_init_37 (fun H locs hR hS => ?_)
  obtain ⟨μ64, e64, hf⟩ := stx hf
  rw [← e64] at hR
  have hK : mmKN μ64 μ64 := mmKN.rf
  refine lv_dup S.1 S.2.1 dX0_init_40 (rf_cat _) ?_
  obtain ⟨g65, hf⟩ := gd hf
  obtain ⟨y66, hy66, hf⟩ := bd hf
  refine mm_callI S hR hS hA (As := []) (rest := [rf (mX μ61), .int 6, rf (mP μ61 h0 0)]) ciX0_17 (hK.k g65) (kX1_init_c l G A (hK.k g65) hy66) rfl rfl ⟨(Nat.le_of_ble_eq_true rfl), (Nat.le_of_ble_eq_true rfl)⟩ rfl hl.1 rfl (lv_room (by simp [rf_cat, int_cat])) dX0_init_41 ⟨(Nat.le_of_ble_eq_true rfl), (Nat.le_of_ble_eq_true rfl)⟩ (fun H locs hR hS => ?_)
  have hK : mmKN y66 y66 := mmKN.rf
  obtain ⟨g67, hf⟩ := gd hf
  obtain ⟨g68, hf⟩ := gd hf
  obtain ⟨g69, hf⟩ := gd hf
  refine mm_astq (k := 21) (t := 1) (ci := 1) S hR hS (hK.k g67) (by decide) (by decide) rfl (hK.k g68) (by decide) rfl g69 dX0_init_44 (fun H locs hR hS => ?_)
  obtain ⟨μ70, e70, hf⟩ := stx hf
  rw [← e70] at hR
  have hK : mmKN y66 μ70 := by rw [e70]; exact hK.sP
  refine lv_iinc (v := 7) (lv' := [(1, .int 7), (0, rf h0)]) S.1 S.2.1 dX0_init_45 hl (k := 0) rfl (by decide) (by decide) (by simp [rf_cat, int_cat]) (fun ls hl => ?_)
  refine lv_goto (tgt := 26) S.1 S.2.1 dX0_init_48 (by decide) ?_
  refine lv_iload_n S.1 S.2.1 dX0_init_26 rfl (lv_at hl 0 rfl) ?_
  refine lv_bipush (v := 8) S.1 S.2.1 dX0_init_27 (by decide) ?_
  refine lv_icmp_ge (tgt := 51) S.1 S.2.1 dX0_init_29 (by decide) (fun c71 => absurd c71 (by decide)) (fun _ => ?_)
  refine mm_aload_n S dX0_init_32 rfl (lv_at hl 1 rfl) ?_
  obtain ⟨g72, hf⟩ := gd hf
  refine mm_getp S hR fdX0_11 (hK.k g72) rfl dX0_init_33 ?_
  refine lv_iload_n S.1 S.2.1 dX0_init_36 rfl (lv_at hl 0 rfl) ?_
  refine mm_new S hR hS hA nwX0_9 (Nat.le_of_ble_eq_true rfl) (Nat.le_of_ble_eq_true rfl) dX0_init_37 (fun H locs hR hS => ?_)
  obtain ⟨μ73, e73, hf⟩ := stx hf
  rw [← e73] at hR
  have hK : mmKN μ73 μ73 := mmKN.rf
  refine lv_dup S.1 S.2.1 dX0_init_40 (rf_cat _) ?_
  obtain ⟨g74, hf⟩ := gd hf
  obtain ⟨y75, hy75, hf⟩ := bd hf
  refine mm_callI S hR hS hA (As := []) (rest := [rf (mX μ70), .int 7, rf (mP μ70 h0 0)]) ciX0_17 (hK.k g74) (kX1_init_c l G A (hK.k g74) hy75) rfl rfl ⟨(Nat.le_of_ble_eq_true rfl), (Nat.le_of_ble_eq_true rfl)⟩ rfl hl.1 rfl (lv_room (by simp [rf_cat, int_cat])) dX0_init_41 ⟨(Nat.le_of_ble_eq_true rfl), (Nat.le_of_ble_eq_true rfl)⟩ (fun H locs hR hS => ?_)
  have hK : mmKN y75 y75 := mmKN.rf
  obtain ⟨g76, hf⟩ := gd hf
  obtain ⟨g77, hf⟩ := gd hf
  obtain ⟨g78, hf⟩ := gd hf
  refine mm_astq (k := 21) (t := 1) (ci := 1) S hR hS (hK.k g76) (by decide) (by decide) rfl (hK.k g77) (by decide) rfl g78 dX0_init_44 (fun H locs hR hS => ?_)
  obtain ⟨μ79, e79, hf⟩ := stx hf
  rw [← e79] at hR
  have hK : mmKN y75 μ79 := by rw [e79]; exact hK.sP
  refine lv_iinc (v := 8) (lv' := [(1, .int 8), (0, rf h0)]) S.1 S.2.1 dX0_init_45 hl (k := 0) rfl (by decide) (by decide) (by simp [rf_cat, int_cat]) (fun ls hl => ?_)
  refine lv_goto (tgt := 26) S.1 S.2.1 dX0_init_48 (by decide) ?_
  refine lv_iload_n S.1 S.2.1 dX0_init_26 rfl (lv_at hl 0 rfl) ?_
  refine lv_bipush (v := 8) S.1 S.2.1 dX0_init_27 (by decide) ?_
  refine lv_icmp_ge (tgt := 51) S.1 S.2.1 dX0_init_29 (by decide) (fun _ => ?_) (fun c80 => absurd (by decide) c80)
  obtain rfl := Option.some.inj hf
  refine W.widen (k := 37) (n := 368) (Nat.le_of_ble_eq_true rfl) (Nat.le_of_ble_eq_true rfl) ?_
  exact mm_vret S hR hS hr hlocks dX0_init_51
-- X3_init
set_option maxRecDepth 100000 in
def fX3_init (h0 : Nat) (h1 : Nat) (μ : MM) : Option MM :=
  st (sN μ 22 24) fun μ1 => if mK μ1 h0 = 4 then st (sP μ1 h0 1 (mX μ)) fun μ3 => st (sN μ3 3 0) fun μ4 => if mK μ4 (mX μ3) = 3 then (fX2_init (mX μ3) (-1) μ4).bind fun y6 => if mK y6 h0 = 4 then st (sP y6 h0 2 (mX μ3)) fun μ8 => st (sN μ8 5 0) fun μ9 => if mK μ9 (mX μ8) = 5 then (fX4_init (mX μ8) μ9).bind fun y11 => if mK y11 h0 = 4 then st (sP y11 h0 3 (mX μ8)) fun μ13 => st (sN μ13 5 0) fun μ14 => if mK μ14 (mX μ13) = 5 then (fX4_init (mX μ13) μ14).bind fun y16 => if mK y16 h0 = 4 then st (sP y16 h0 4 (mX μ13)) fun μ18 => st (sP μ18 h0 0 h1) fun μ19 => st (sN μ19 3 0) fun μ21 => if mK μ21 (mX μ19) = 3 then (fX2_init (mX μ19) 0 μ21).bind fun y23 => if mK y23 (mP μ19 h0 1) = 22 then if mK y23 (mX μ19) = 3 then if ¬ ((0 : Int32) < 0 ∨ mN y23 (mP μ19 h0 1) ≤ (0 : Int32).toNatClampNeg) then st (sP y23 (mP μ19 h0 1) (0 : Int32).toNatClampNeg (mX μ19)) fun μ27 => if mK y23 h0 = 4 then st (sN μ27 3 0) fun μ30 => if mK μ30 (mX μ27) = 3 then (fX2_init (mX μ27) 1 μ30).bind fun y32 => if mK y32 (mP μ27 h0 1) = 22 then if mK y32 (mX μ27) = 3 then if ¬ ((1 : Int32) < 0 ∨ mN y32 (mP μ27 h0 1) ≤ (1 : Int32).toNatClampNeg) then st (sP y32 (mP μ27 h0 1) (1 : Int32).toNatClampNeg (mX μ27)) fun μ36 => if mK y32 h0 = 4 then st (sN μ36 3 0) fun μ39 => if mK μ39 (mX μ36) = 3 then (fX2_init (mX μ36) 2 μ39).bind fun y41 => if mK y41 (mP μ36 h0 1) = 22 then if mK y41 (mX μ36) = 3 then if ¬ ((2 : Int32) < 0 ∨ mN y41 (mP μ36 h0 1) ≤ (2 : Int32).toNatClampNeg) then st (sP y41 (mP μ36 h0 1) (2 : Int32).toNatClampNeg (mX μ36)) fun μ45 => if mK y41 h0 = 4 then st (sN μ45 3 0) fun μ48 => if mK μ48 (mX μ45) = 3 then (fX2_init (mX μ45) 3 μ48).bind fun y50 => if mK y50 (mP μ45 h0 1) = 22 then if mK y50 (mX μ45) = 3 then if ¬ ((3 : Int32) < 0 ∨ mN y50 (mP μ45 h0 1) ≤ (3 : Int32).toNatClampNeg) then st (sP y50 (mP μ45 h0 1) (3 : Int32).toNatClampNeg (mX μ45)) fun μ54 => if mK y50 h0 = 4 then st (sN μ54 3 0) fun μ57 => if mK μ57 (mX μ54) = 3 then (fX2_init (mX μ54) 4 μ57).bind fun y59 => if mK y59 (mP μ54 h0 1) = 22 then if mK y59 (mX μ54) = 3 then if ¬ ((4 : Int32) < 0 ∨ mN y59 (mP μ54 h0 1) ≤ (4 : Int32).toNatClampNeg) then st (sP y59 (mP μ54 h0 1) (4 : Int32).toNatClampNeg (mX μ54)) fun μ63 => if mK y59 h0 = 4 then st (sN μ63 3 0) fun μ66 => if mK μ66 (mX μ63) = 3 then (fX2_init (mX μ63) 5 μ66).bind fun y68 => if mK y68 (mP μ63 h0 1) = 22 then if mK y68 (mX μ63) = 3 then if ¬ ((5 : Int32) < 0 ∨ mN y68 (mP μ63 h0 1) ≤ (5 : Int32).toNatClampNeg) then st (sP y68 (mP μ63 h0 1) (5 : Int32).toNatClampNeg (mX μ63)) fun μ72 => if mK y68 h0 = 4 then st (sN μ72 3 0) fun μ75 => if mK μ75 (mX μ72) = 3 then (fX2_init (mX μ72) 6 μ75).bind fun y77 => if mK y77 (mP μ72 h0 1) = 22 then if mK y77 (mX μ72) = 3 then if ¬ ((6 : Int32) < 0 ∨ mN y77 (mP μ72 h0 1) ≤ (6 : Int32).toNatClampNeg) then st (sP y77 (mP μ72 h0 1) (6 : Int32).toNatClampNeg (mX μ72)) fun μ81 => if mK y77 h0 = 4 then st (sN μ81 3 0) fun μ84 => if mK μ84 (mX μ81) = 3 then (fX2_init (mX μ81) 7 μ84).bind fun y86 => if mK y86 (mP μ81 h0 1) = 22 then if mK y86 (mX μ81) = 3 then if ¬ ((7 : Int32) < 0 ∨ mN y86 (mP μ81 h0 1) ≤ (7 : Int32).toNatClampNeg) then st (sP y86 (mP μ81 h0 1) (7 : Int32).toNatClampNeg (mX μ81)) fun μ90 => if mK y86 h0 = 4 then st (sN μ90 3 0) fun μ93 => if mK μ93 (mX μ90) = 3 then (fX2_init (mX μ90) 8 μ93).bind fun y95 => if mK y95 (mP μ90 h0 1) = 22 then if mK y95 (mX μ90) = 3 then if ¬ ((8 : Int32) < 0 ∨ mN y95 (mP μ90 h0 1) ≤ (8 : Int32).toNatClampNeg) then st (sP y95 (mP μ90 h0 1) (8 : Int32).toNatClampNeg (mX μ90)) fun μ99 => if mK y95 h0 = 4 then st (sN μ99 3 0) fun μ102 => if mK μ102 (mX μ99) = 3 then (fX2_init (mX μ99) 9 μ102).bind fun y104 => if mK y104 (mP μ99 h0 1) = 22 then if mK y104 (mX μ99) = 3 then if ¬ ((9 : Int32) < 0 ∨ mN y104 (mP μ99 h0 1) ≤ (9 : Int32).toNatClampNeg) then st (sP y104 (mP μ99 h0 1) (9 : Int32).toNatClampNeg (mX μ99)) fun μ108 => if mK y104 h0 = 4 then st (sN μ108 3 0) fun μ111 => if mK μ111 (mX μ108) = 3 then (fX2_init (mX μ108) 10 μ111).bind fun y113 => if mK y113 (mP μ108 h0 1) = 22 then if mK y113 (mX μ108) = 3 then if ¬ ((10 : Int32) < 0 ∨ mN y113 (mP μ108 h0 1) ≤ (10 : Int32).toNatClampNeg) then st (sP y113 (mP μ108 h0 1) (10 : Int32).toNatClampNeg (mX μ108)) fun μ117 => if mK y113 h0 = 4 then st (sN μ117 3 0) fun μ120 => if mK μ120 (mX μ117) = 3 then (fX2_init (mX μ117) 11 μ120).bind fun y122 => if mK y122 (mP μ117 h0 1) = 22 then if mK y122 (mX μ117) = 3 then if ¬ ((11 : Int32) < 0 ∨ mN y122 (mP μ117 h0 1) ≤ (11 : Int32).toNatClampNeg) then st (sP y122 (mP μ117 h0 1) (11 : Int32).toNatClampNeg (mX μ117)) fun μ126 => if mK y122 h0 = 4 then st (sN μ126 3 0) fun μ129 => if mK μ129 (mX μ126) = 3 then (fX2_init (mX μ126) 12 μ129).bind fun y131 => if mK y131 (mP μ126 h0 1) = 22 then if mK y131 (mX μ126) = 3 then if ¬ ((12 : Int32) < 0 ∨ mN y131 (mP μ126 h0 1) ≤ (12 : Int32).toNatClampNeg) then st (sP y131 (mP μ126 h0 1) (12 : Int32).toNatClampNeg (mX μ126)) fun μ135 => if mK y131 h0 = 4 then st (sN μ135 3 0) fun μ138 => if mK μ138 (mX μ135) = 3 then (fX2_init (mX μ135) 13 μ138).bind fun y140 => if mK y140 (mP μ135 h0 1) = 22 then if mK y140 (mX μ135) = 3 then if ¬ ((13 : Int32) < 0 ∨ mN y140 (mP μ135 h0 1) ≤ (13 : Int32).toNatClampNeg) then st (sP y140 (mP μ135 h0 1) (13 : Int32).toNatClampNeg (mX μ135)) fun μ144 => if mK y140 h0 = 4 then st (sN μ144 3 0) fun μ147 => if mK μ147 (mX μ144) = 3 then (fX2_init (mX μ144) 14 μ147).bind fun y149 => if mK y149 (mP μ144 h0 1) = 22 then if mK y149 (mX μ144) = 3 then if ¬ ((14 : Int32) < 0 ∨ mN y149 (mP μ144 h0 1) ≤ (14 : Int32).toNatClampNeg) then st (sP y149 (mP μ144 h0 1) (14 : Int32).toNatClampNeg (mX μ144)) fun μ153 => if mK y149 h0 = 4 then st (sN μ153 3 0) fun μ156 => if mK μ156 (mX μ153) = 3 then (fX2_init (mX μ153) 15 μ156).bind fun y158 => if mK y158 (mP μ153 h0 1) = 22 then if mK y158 (mX μ153) = 3 then if ¬ ((15 : Int32) < 0 ∨ mN y158 (mP μ153 h0 1) ≤ (15 : Int32).toNatClampNeg) then st (sP y158 (mP μ153 h0 1) (15 : Int32).toNatClampNeg (mX μ153)) fun μ162 => if mK y158 h0 = 4 then st (sN μ162 3 0) fun μ165 => if mK μ165 (mX μ162) = 3 then (fX2_init (mX μ162) 16 μ165).bind fun y167 => if mK y167 (mP μ162 h0 1) = 22 then if mK y167 (mX μ162) = 3 then if ¬ ((16 : Int32) < 0 ∨ mN y167 (mP μ162 h0 1) ≤ (16 : Int32).toNatClampNeg) then st (sP y167 (mP μ162 h0 1) (16 : Int32).toNatClampNeg (mX μ162)) fun μ171 => if mK y167 h0 = 4 then st (sN μ171 3 0) fun μ174 => if mK μ174 (mX μ171) = 3 then (fX2_init (mX μ171) 17 μ174).bind fun y176 => if mK y176 (mP μ171 h0 1) = 22 then if mK y176 (mX μ171) = 3 then if ¬ ((17 : Int32) < 0 ∨ mN y176 (mP μ171 h0 1) ≤ (17 : Int32).toNatClampNeg) then st (sP y176 (mP μ171 h0 1) (17 : Int32).toNatClampNeg (mX μ171)) fun μ180 => if mK y176 h0 = 4 then st (sN μ180 3 0) fun μ183 => if mK μ183 (mX μ180) = 3 then (fX2_init (mX μ180) 18 μ183).bind fun y185 => if mK y185 (mP μ180 h0 1) = 22 then if mK y185 (mX μ180) = 3 then if ¬ ((18 : Int32) < 0 ∨ mN y185 (mP μ180 h0 1) ≤ (18 : Int32).toNatClampNeg) then st (sP y185 (mP μ180 h0 1) (18 : Int32).toNatClampNeg (mX μ180)) fun μ189 => if mK y185 h0 = 4 then st (sN μ189 3 0) fun μ192 => if mK μ192 (mX μ189) = 3 then (fX2_init (mX μ189) 19 μ192).bind fun y194 => if mK y194 (mP μ189 h0 1) = 22 then if mK y194 (mX μ189) = 3 then if ¬ ((19 : Int32) < 0 ∨ mN y194 (mP μ189 h0 1) ≤ (19 : Int32).toNatClampNeg) then st (sP y194 (mP μ189 h0 1) (19 : Int32).toNatClampNeg (mX μ189)) fun μ198 => if mK y194 h0 = 4 then st (sN μ198 3 0) fun μ201 => if mK μ201 (mX μ198) = 3 then (fX2_init (mX μ198) 20 μ201).bind fun y203 => if mK y203 (mP μ198 h0 1) = 22 then if mK y203 (mX μ198) = 3 then if ¬ ((20 : Int32) < 0 ∨ mN y203 (mP μ198 h0 1) ≤ (20 : Int32).toNatClampNeg) then st (sP y203 (mP μ198 h0 1) (20 : Int32).toNatClampNeg (mX μ198)) fun μ207 => if mK y203 h0 = 4 then st (sN μ207 3 0) fun μ210 => if mK μ210 (mX μ207) = 3 then (fX2_init (mX μ207) 21 μ210).bind fun y212 => if mK y212 (mP μ207 h0 1) = 22 then if mK y212 (mX μ207) = 3 then if ¬ ((21 : Int32) < 0 ∨ mN y212 (mP μ207 h0 1) ≤ (21 : Int32).toNatClampNeg) then st (sP y212 (mP μ207 h0 1) (21 : Int32).toNatClampNeg (mX μ207)) fun μ216 => if mK y212 h0 = 4 then st (sN μ216 3 0) fun μ219 => if mK μ219 (mX μ216) = 3 then (fX2_init (mX μ216) 22 μ219).bind fun y221 => if mK y221 (mP μ216 h0 1) = 22 then if mK y221 (mX μ216) = 3 then if ¬ ((22 : Int32) < 0 ∨ mN y221 (mP μ216 h0 1) ≤ (22 : Int32).toNatClampNeg) then st (sP y221 (mP μ216 h0 1) (22 : Int32).toNatClampNeg (mX μ216)) fun μ225 => if mK y221 h0 = 4 then st (sN μ225 3 0) fun μ228 => if mK μ228 (mX μ225) = 3 then (fX2_init (mX μ225) 23 μ228).bind fun y230 => if mK y230 (mP μ225 h0 1) = 22 then if mK y230 (mX μ225) = 3 then if ¬ ((23 : Int32) < 0 ∨ mN y230 (mP μ225 h0 1) ≤ (23 : Int32).toNatClampNeg) then st (sP y230 (mP μ225 h0 1) (23 : Int32).toNatClampNeg (mX μ225)) fun μ234 => if mK y230 h0 = 4 then st (sP μ234 h0 8 (mP μ234 h0 2)) fun μ237 => some μ237 else none else none else none else none else none else none else none else none else none else none else none else none else none else none else none else none else none else none else none else none else none else none else none else none else none else none else none else none else none else none else none else none else none else none else none else none else none else none else none else none else none else none else none else none else none else none else none else none else none else none else none else none else none else none else none else none else none else none else none else none else none else none else none else none else none else none else none else none else none else none else none else none else none else none else none else none else none else none else none else none else none else none else none else none else none else none else none else none else none else none else none else none else none else none else none else none else none else none else none else none else none else none else none else none else none else none else none else none else none else none else none else none else none else none else none else none else none else none else none else none else none else none else none else none else none else none else none
abbrev rmX3_init : Room := { frames := 3, cells := 130, slots := 976, locals := 57 }
set_option maxRecDepth 100000 in
set_option maxHeartbeats 8000000 in
theorem kX3_init_c (l : Launch) (G : mmG) (A : Nat → Prop) {μ res : MM} {h0 : Nat} {h1 : Nat} (hk0 : mK μ h0 = 4) (hf : fX3_init h0 h1 μ = some res) : Met l yX3_init [.code yX3_init cX3_init 3 none] rmX3_init (mmPc G A μ [rf h0, rf h1]) (mmQ G A res none) 130 976 A := by
  refine mm_ofW (by decide +kernel) (by simp [lg_sl, rf_cat, int_cat]) ?_
  intro p e s m below meth c ls S hR hA hS hr hlocks hl hnm
  have hl : lv_has ls 3 [(0, rf h0), (1, rf h1)] := by simpa [lv_args, rf_cat, int_cat] using hl
  have hK : mmKN μ μ := mmKN.rf
  unfold fX3_init at hf
  refine mm_aload_n S dX3_init_0 rfl (lv_at hl 0 rfl) ?_
  refine mm_obj S hR obX3_3.1 obX3_3.2.1 obX3_3.2.2 (hK.k hk0) hl.1 (Nat.le_of_ble_eq_true rfl) (by simp [rf_cat, int_cat]) dX3_init_1 ?_
  refine mm_aload_n S dX3_init_4 rfl (lv_at hl 0 rfl) ?_
  refine lv_bipush (v := 24) S.1 S.2.1 dX3_init_5 (by decide) ?_
  refine mm_newqK (N := 24) (k := 22) (t := 2) S hR hS hA aqX3_9.1 aqX3_9.2 (by decide) (by decide) rfl (by decide) (by decide) (by decide) (Nat.le_of_ble_eq_true rfl) (Nat.le_of_ble_eq_true rfl) dX3_init_7 (fun H locs hR hS => ?_)
  obtain ⟨μ1, e1, hf⟩ := stx hf
  rw [← e1] at hR
  have hK : mmKN μ1 μ1 := mmKN.rf
  obtain ⟨g2, hf⟩ := gd hf
  refine mm_putFp S hR hS ffX3_11 (hnm.trans rfl) (hK.k g2) rfl nra_ok fra_ok dX3_init_10 (fun H locs hR hS => ?_)
  obtain ⟨μ3, e3, hf⟩ := stx hf
  rw [← e3] at hR
  have hK : mmKN μ1 μ3 := by rw [e3]; exact hK.sP
  refine mm_aload_n S dX3_init_13 rfl (lv_at hl 0 rfl) ?_
  refine mm_new S hR hS hA nwX3_9 (Nat.le_of_ble_eq_true rfl) (Nat.le_of_ble_eq_true rfl) dX3_init_14 (fun H locs hR hS => ?_)
  obtain ⟨μ4, e4, hf⟩ := stx hf
  rw [← e4] at hR
  have hK : mmKN μ4 μ4 := mmKN.rf
  refine lv_dup S.1 S.2.1 dX3_init_17 (rf_cat _) ?_
  refine lv_iconst (v := (-1)) S.1 S.2.1 dX3_init_18 (by decide) ?_
  obtain ⟨g5, hf⟩ := gd hf
  obtain ⟨y6, hy6, hf⟩ := bd hf
  refine mm_callI S hR hS hA (As := [.int (-1)]) (rest := [rf (mX μ3), rf h0]) ciX3_17 (hK.k g5) (kX2_init_c l G A (hK.k g5) hy6) rfl rfl ⟨(Nat.le_of_ble_eq_true rfl), (Nat.le_of_ble_eq_true rfl)⟩ rfl hl.1 rfl (lv_room (by simp [rf_cat, int_cat])) dX3_init_19 ⟨(Nat.le_of_ble_eq_true rfl), (Nat.le_of_ble_eq_true rfl)⟩ (fun H locs hR hS => ?_)
  have hK : mmKN y6 y6 := mmKN.rf
  obtain ⟨g7, hf⟩ := gd hf
  refine mm_putFp S hR hS ffX3_20 (hnm.trans rfl) (hK.k g7) rfl nr_ok fr_ok dX3_init_22 (fun H locs hR hS => ?_)
  obtain ⟨μ8, e8, hf⟩ := stx hf
  rw [← e8] at hR
  have hK : mmKN y6 μ8 := by rw [e8]; exact hK.sP
  refine mm_aload_n S dX3_init_25 rfl (lv_at hl 0 rfl) ?_
  refine mm_new S hR hS hA nwX3_24 (Nat.le_of_ble_eq_true rfl) (Nat.le_of_ble_eq_true rfl) dX3_init_26 (fun H locs hR hS => ?_)
  obtain ⟨μ9, e9, hf⟩ := stx hf
  rw [← e9] at hR
  have hK : mmKN μ9 μ9 := mmKN.rf
  refine lv_dup S.1 S.2.1 dX3_init_29 (rf_cat _) ?_
  obtain ⟨g10, hf⟩ := gd hf
  obtain ⟨y11, hy11, hf⟩ := bd hf
  refine mm_callI S hR hS hA (As := []) (rest := [rf (mX μ8), rf h0]) ciX3_26 (hK.k g10) (kX4_init_c l G A (hK.k g10) hy11) rfl rfl ⟨(Nat.le_of_ble_eq_true rfl), (Nat.le_of_ble_eq_true rfl)⟩ rfl hl.1 rfl (lv_room (by simp [rf_cat, int_cat])) dX3_init_30 ⟨(Nat.le_of_ble_eq_true rfl), (Nat.le_of_ble_eq_true rfl)⟩ (fun H locs hR hS => ?_)
  have hK : mmKN y11 y11 := mmKN.rf
  obtain ⟨g12, hf⟩ := gd hf
  refine mm_putFp S hR hS ffX3_27 (hnm.trans rfl) (hK.k g12) rfl nr_ok fr_ok dX3_init_33 (fun H locs hR hS => ?_)
  obtain ⟨μ13, e13, hf⟩ := stx hf
  rw [← e13] at hR
  have hK : mmKN y11 μ13 := by rw [e13]; exact hK.sP
  refine mm_aload_n S dX3_init_36 rfl (lv_at hl 0 rfl) ?_
  refine mm_new S hR hS hA nwX3_24 (Nat.le_of_ble_eq_true rfl) (Nat.le_of_ble_eq_true rfl) dX3_init_37 (fun H locs hR hS => ?_)
  obtain ⟨μ14, e14, hf⟩ := stx hf
  rw [← e14] at hR
  have hK : mmKN μ14 μ14 := mmKN.rf
  refine lv_dup S.1 S.2.1 dX3_init_40 (rf_cat _) ?_
  obtain ⟨g15, hf⟩ := gd hf
  obtain ⟨y16, hy16, hf⟩ := bd hf
  refine mm_callI S hR hS hA (As := []) (rest := [rf (mX μ13), rf h0]) ciX3_26 (hK.k g15) (kX4_init_c l G A (hK.k g15) hy16) rfl rfl ⟨(Nat.le_of_ble_eq_true rfl), (Nat.le_of_ble_eq_true rfl)⟩ rfl hl.1 rfl (lv_room (by simp [rf_cat, int_cat])) dX3_init_41 ⟨(Nat.le_of_ble_eq_true rfl), (Nat.le_of_ble_eq_true rfl)⟩ (fun H locs hR hS => ?_)
  have hK : mmKN y16 y16 := mmKN.rf
  obtain ⟨g17, hf⟩ := gd hf
  refine mm_putFp S hR hS ffX3_31 (hnm.trans rfl) (hK.k g17) rfl nr_ok fr_ok dX3_init_44 (fun H locs hR hS => ?_)
  obtain ⟨μ18, e18, hf⟩ := stx hf
  rw [← e18] at hR
  have hK : mmKN y16 μ18 := by rw [e18]; exact hK.sP
  refine mm_aload_n S dX3_init_47 rfl (lv_at hl 0 rfl) ?_
  refine mm_aload_n S dX3_init_48 rfl (lv_at hl 1 rfl) ?_
  refine mm_putFp S hR hS ffX3_34 (hnm.trans rfl) (hK.k g17) rfl nr_ok fr_ok dX3_init_49 (fun H locs hR hS => ?_)
  obtain ⟨μ19, e19, hf⟩ := stx hf
  rw [← e19] at hR
  have hK : mmKN y16 μ19 := by rw [e19]; exact hK.sP
  refine lv_iconst (v := 0) S.1 S.2.1 dX3_init_52 (by decide) ?_
  refine lv_istore_n (i := 2) (lv' := [(2, .int 0), (0, rf h0), (1, rf h1)]) S.1 S.2.1 dX3_init_53 rfl hl (by decide) (by simp [rf_cat, int_cat]) (fun ls hl => ?_)
  refine lv_iload_n S.1 S.2.1 dX3_init_54 rfl (lv_at hl 0 rfl) ?_
  refine lv_bipush (v := 24) S.1 S.2.1 dX3_init_55 (by decide) ?_
  refine lv_icmp_ge (tgt := 80) S.1 S.2.1 dX3_init_57 (by decide) (fun c20 => absurd c20 (by decide)) (fun _ => ?_)
  refine mm_aload_n S dX3_init_60 rfl (lv_at hl 1 rfl) ?_
  refine mm_getp S hR fdX3_11 (hK.k g17) rfl dX3_init_61 ?_
  refine lv_iload_n S.1 S.2.1 dX3_init_64 rfl (lv_at hl 0 rfl) ?_
  refine mm_new S hR hS hA nwX3_9 (Nat.le_of_ble_eq_true rfl) (Nat.le_of_ble_eq_true rfl) dX3_init_65 (fun H locs hR hS => ?_)
  obtain ⟨μ21, e21, hf⟩ := stx hf
  rw [← e21] at hR
  have hK : mmKN μ21 μ21 := mmKN.rf
  refine lv_dup S.1 S.2.1 dX3_init_68 (rf_cat _) ?_
  refine lv_iload_n S.1 S.2.1 dX3_init_69 rfl (lv_at hl 0 rfl) ?_
  obtain ⟨g22, hf⟩ := gd hf
  obtain ⟨y23, hy23, hf⟩ := bd hf
  refine mm_callI S hR hS hA (As := [.int 0]) (rest := [rf (mX μ19), .int 0, rf (mP μ19 h0 1)]) ciX3_17 (hK.k g22) (kX2_init_c l G A (hK.k g22) hy23) rfl rfl ⟨(Nat.le_of_ble_eq_true rfl), (Nat.le_of_ble_eq_true rfl)⟩ rfl hl.1 rfl (lv_room (by simp [rf_cat, int_cat])) dX3_init_70 ⟨(Nat.le_of_ble_eq_true rfl), (Nat.le_of_ble_eq_true rfl)⟩ (fun H locs hR hS => ?_)
  have hK : mmKN y23 y23 := mmKN.rf
  obtain ⟨g24, hf⟩ := gd hf
  obtain ⟨g25, hf⟩ := gd hf
  obtain ⟨g26, hf⟩ := gd hf
  refine mm_astq (k := 22) (t := 2) (ci := 2) S hR hS (hK.k g24) (by decide) (by decide) rfl (hK.k g25) (by decide) rfl g26 dX3_init_73 (fun H locs hR hS => ?_)
  obtain ⟨μ27, e27, hf⟩ := stx hf
  rw [← e27] at hR
  have hK : mmKN y23 μ27 := by rw [e27]; exact hK.sP
  refine lv_iinc (v := 1) (lv' := [(2, .int 1), (0, rf h0), (1, rf h1)]) S.1 S.2.1 dX3_init_74 hl (k := 0) rfl (by decide) (by decide) (by simp [rf_cat, int_cat]) (fun ls hl => ?_)
  refine lv_goto (tgt := 54) S.1 S.2.1 dX3_init_77 (by decide) ?_
  refine lv_iload_n S.1 S.2.1 dX3_init_54 rfl (lv_at hl 0 rfl) ?_
  refine lv_bipush (v := 24) S.1 S.2.1 dX3_init_55 (by decide) ?_
  refine lv_icmp_ge (tgt := 80) S.1 S.2.1 dX3_init_57 (by decide) (fun c28 => absurd c28 (by decide)) (fun _ => ?_)
  refine mm_aload_n S dX3_init_60 rfl (lv_at hl 1 rfl) ?_
  obtain ⟨g29, hf⟩ := gd hf
  refine mm_getp S hR fdX3_11 (hK.k g29) rfl dX3_init_61 ?_
  refine lv_iload_n S.1 S.2.1 dX3_init_64 rfl (lv_at hl 0 rfl) ?_
  refine mm_new S hR hS hA nwX3_9 (Nat.le_of_ble_eq_true rfl) (Nat.le_of_ble_eq_true rfl) dX3_init_65 (fun H locs hR hS => ?_)
  obtain ⟨μ30, e30, hf⟩ := stx hf
  rw [← e30] at hR
  have hK : mmKN μ30 μ30 := mmKN.rf
  refine lv_dup S.1 S.2.1 dX3_init_68 (rf_cat _) ?_
  refine lv_iload_n S.1 S.2.1 dX3_init_69 rfl (lv_at hl 0 rfl) ?_
  obtain ⟨g31, hf⟩ := gd hf
  obtain ⟨y32, hy32, hf⟩ := bd hf
  refine mm_callI S hR hS hA (As := [.int 1]) (rest := [rf (mX μ27), .int 1, rf (mP μ27 h0 1)]) ciX3_17 (hK.k g31) (kX2_init_c l G A (hK.k g31) hy32) rfl rfl ⟨(Nat.le_of_ble_eq_true rfl), (Nat.le_of_ble_eq_true rfl)⟩ rfl hl.1 rfl (lv_room (by simp [rf_cat, int_cat])) dX3_init_70 ⟨(Nat.le_of_ble_eq_true rfl), (Nat.le_of_ble_eq_true rfl)⟩ (fun H locs hR hS => ?_)
  have hK : mmKN y32 y32 := mmKN.rf
  obtain ⟨g33, hf⟩ := gd hf
  obtain ⟨g34, hf⟩ := gd hf
  obtain ⟨g35, hf⟩ := gd hf
  refine mm_astq (k := 22) (t := 2) (ci := 2) S hR hS (hK.k g33) (by decide) (by decide) rfl (hK.k g34) (by decide) rfl g35 dX3_init_73 (fun H locs hR hS => ?_)
  obtain ⟨μ36, e36, hf⟩ := stx hf
  rw [← e36] at hR
  have hK : mmKN y32 μ36 := by rw [e36]; exact hK.sP
  refine lv_iinc (v := 2) (lv' := [(2, .int 2), (0, rf h0), (1, rf h1)]) S.1 S.2.1 dX3_init_74 hl (k := 0) rfl (by decide) (by decide) (by simp [rf_cat, int_cat]) (fun ls hl => ?_)
  refine lv_goto (tgt := 54) S.1 S.2.1 dX3_init_77 (by decide) ?_
  refine lv_iload_n S.1 S.2.1 dX3_init_54 rfl (lv_at hl 0 rfl) ?_
  refine lv_bipush (v := 24) S.1 S.2.1 dX3_init_55 (by decide) ?_
  refine lv_icmp_ge (tgt := 80) S.1 S.2.1 dX3_init_57 (by decide) (fun c37 => absurd c37 (by decide)) (fun _ => ?_)
  refine mm_aload_n S dX3_init_60 rfl (lv_at hl 1 rfl) ?_
  obtain ⟨g38, hf⟩ := gd hf
  refine mm_getp S hR fdX3_11 (hK.k g38) rfl dX3_init_61 ?_
  refine lv_iload_n S.1 S.2.1 dX3_init_64 rfl (lv_at hl 0 rfl) ?_
  refine mm_new S hR hS hA nwX3_9 (Nat.le_of_ble_eq_true rfl) (Nat.le_of_ble_eq_true rfl) dX3_init_65 (fun H locs hR hS => ?_)
  obtain ⟨μ39, e39, hf⟩ := stx hf
  rw [← e39] at hR
  have hK : mmKN μ39 μ39 := mmKN.rf
  refine lv_dup S.1 S.2.1 dX3_init_68 (rf_cat _) ?_
  refine lv_iload_n S.1 S.2.1 dX3_init_69 rfl (lv_at hl 0 rfl) ?_
  obtain ⟨g40, hf⟩ := gd hf
  obtain ⟨y41, hy41, hf⟩ := bd hf
  refine mm_callI S hR hS hA (As := [.int 2]) (rest := [rf (mX μ36), .int 2, rf (mP μ36 h0 1)]) ciX3_17 (hK.k g40) (kX2_init_c l G A (hK.k g40) hy41) rfl rfl ⟨(Nat.le_of_ble_eq_true rfl), (Nat.le_of_ble_eq_true rfl)⟩ rfl hl.1 rfl (lv_room (by simp [rf_cat, int_cat])) dX3_init_70 ⟨(Nat.le_of_ble_eq_true rfl), (Nat.le_of_ble_eq_true rfl)⟩ (fun H locs hR hS => ?_)
  have hK : mmKN y41 y41 := mmKN.rf
  obtain ⟨g42, hf⟩ := gd hf
  obtain ⟨g43, hf⟩ := gd hf
  obtain ⟨g44, hf⟩ := gd hf
  refine mm_astq (k := 22) (t := 2) (ci := 2) S hR hS (hK.k g42) (by decide) (by decide) rfl (hK.k g43) (by decide) rfl g44 dX3_init_73 (fun H locs hR hS => ?_)
  obtain ⟨μ45, e45, hf⟩ := stx hf
  rw [← e45] at hR
  have hK : mmKN y41 μ45 := by rw [e45]; exact hK.sP
  refine lv_iinc (v := 3) (lv' := [(2, .int 3), (0, rf h0), (1, rf h1)]) S.1 S.2.1 dX3_init_74 hl (k := 0) rfl (by decide) (by decide) (by simp [rf_cat, int_cat]) (fun ls hl => ?_)
  refine lv_goto (tgt := 54) S.1 S.2.1 dX3_init_77 (by decide) ?_
  refine lv_iload_n S.1 S.2.1 dX3_init_54 rfl (lv_at hl 0 rfl) ?_
  refine lv_bipush (v := 24) S.1 S.2.1 dX3_init_55 (by decide) ?_
  refine lv_icmp_ge (tgt := 80) S.1 S.2.1 dX3_init_57 (by decide) (fun c46 => absurd c46 (by decide)) (fun _ => ?_)
  refine mm_aload_n S dX3_init_60 rfl (lv_at hl 1 rfl) ?_
  obtain ⟨g47, hf⟩ := gd hf
  refine mm_getp S hR fdX3_11 (hK.k g47) rfl dX3_init_61 ?_
  refine lv_iload_n S.1 S.2.1 dX3_init_64 rfl (lv_at hl 0 rfl) ?_
  refine mm_new S hR hS hA nwX3_9 (Nat.le_of_ble_eq_true rfl) (Nat.le_of_ble_eq_true rfl) dX3_init_65 (fun H locs hR hS => ?_)
  obtain ⟨μ48, e48, hf⟩ := stx hf
  rw [← e48] at hR
  have hK : mmKN μ48 μ48 := mmKN.rf
  refine lv_dup S.1 S.2.1 dX3_init_68 (rf_cat _) ?_
  refine lv_iload_n S.1 S.2.1 dX3_init_69 rfl (lv_at hl 0 rfl) ?_
  obtain ⟨g49, hf⟩ := gd hf
  obtain ⟨y50, hy50, hf⟩ := bd hf
  refine mm_callI S hR hS hA (As := [.int 3]) (rest := [rf (mX μ45), .int 3, rf (mP μ45 h0 1)]) ciX3_17 (hK.k g49) (kX2_init_c l G A (hK.k g49) hy50) rfl rfl ⟨(Nat.le_of_ble_eq_true rfl), (Nat.le_of_ble_eq_true rfl)⟩ rfl hl.1 rfl (lv_room (by simp [rf_cat, int_cat])) dX3_init_70 ⟨(Nat.le_of_ble_eq_true rfl), (Nat.le_of_ble_eq_true rfl)⟩ (fun H locs hR hS => ?_)
  have hK : mmKN y50 y50 := mmKN.rf
  obtain ⟨g51, hf⟩ := gd hf
  obtain ⟨g52, hf⟩ := gd hf
  obtain ⟨g53, hf⟩ := gd hf
  refine mm_astq (k := 22) (t := 2) (ci := 2) S hR hS (hK.k g51) (by decide) (by decide) rfl (hK.k g52) (by decide) rfl g53 dX3_init_73 (fun H locs hR hS => ?_)
  obtain ⟨μ54, e54, hf⟩ := stx hf
  rw [← e54] at hR
  have hK : mmKN y50 μ54 := by rw [e54]; exact hK.sP
  refine lv_iinc (v := 4) (lv' := [(2, .int 4), (0, rf h0), (1, rf h1)]) S.1 S.2.1 dX3_init_74 hl (k := 0) rfl (by decide) (by decide) (by simp [rf_cat, int_cat]) (fun ls hl => ?_)
  refine lv_goto (tgt := 54) S.1 S.2.1 dX3_init_77 (by decide) ?_
  refine lv_iload_n S.1 S.2.1 dX3_init_54 rfl (lv_at hl 0 rfl) ?_
  refine lv_bipush (v := 24) S.1 S.2.1 dX3_init_55 (by decide) ?_
  refine lv_icmp_ge (tgt := 80) S.1 S.2.1 dX3_init_57 (by decide) (fun c55 => absurd c55 (by decide)) (fun _ => ?_)
  refine mm_aload_n S dX3_init_60 rfl (lv_at hl 1 rfl) ?_
  obtain ⟨g56, hf⟩ := gd hf
  refine mm_getp S hR fdX3_11 (hK.k g56) rfl dX3_init_61 ?_
  refine lv_iload_n S.1 S.2.1 dX3_init_64 rfl (lv_at hl 0 rfl) ?_
  refine mm_new S hR hS hA nwX3_9 (Nat.le_of_ble_eq_true rfl) (Nat.le_of_ble_eq_true rfl) dX3_init_65 (fun H locs hR hS => ?_)
  obtain ⟨μ57, e57, hf⟩ := stx hf
  rw [← e57] at hR
  have hK : mmKN μ57 μ57 := mmKN.rf
  refine lv_dup S.1 S.2.1 dX3_init_68 (rf_cat _) ?_
  refine lv_iload_n S.1 S.2.1 dX3_init_69 rfl (lv_at hl 0 rfl) ?_
  obtain ⟨g58, hf⟩ := gd hf
  obtain ⟨y59, hy59, hf⟩ := bd hf
  refine mm_callI S hR hS hA (As := [.int 4]) (rest := [rf (mX μ54), .int 4, rf (mP μ54 h0 1)]) ciX3_17 (hK.k g58) (kX2_init_c l G A (hK.k g58) hy59) rfl rfl ⟨(Nat.le_of_ble_eq_true rfl), (Nat.le_of_ble_eq_true rfl)⟩ rfl hl.1 rfl (lv_room (by simp [rf_cat, int_cat])) dX3_init_70 ⟨(Nat.le_of_ble_eq_true rfl), (Nat.le_of_ble_eq_true rfl)⟩ (fun H locs hR hS => ?_)
  have hK : mmKN y59 y59 := mmKN.rf
  obtain ⟨g60, hf⟩ := gd hf
  obtain ⟨g61, hf⟩ := gd hf
  obtain ⟨g62, hf⟩ := gd hf
  refine mm_astq (k := 22) (t := 2) (ci := 2) S hR hS (hK.k g60) (by decide) (by decide) rfl (hK.k g61) (by decide) rfl g62 dX3_init_73 (fun H locs hR hS => ?_)
  obtain ⟨μ63, e63, hf⟩ := stx hf
  rw [← e63] at hR
  have hK : mmKN y59 μ63 := by rw [e63]; exact hK.sP
  refine lv_iinc (v := 5) (lv' := [(2, .int 5), (0, rf h0), (1, rf h1)]) S.1 S.2.1 dX3_init_74 hl (k := 0) rfl (by decide) (by decide) (by simp [rf_cat, int_cat]) (fun ls hl => ?_)
  refine lv_goto (tgt := 54) S.1 S.2.1 dX3_init_77 (by decide) ?_
  refine lv_iload_n S.1 S.2.1 dX3_init_54 rfl (lv_at hl 0 rfl) ?_
  refine lv_bipush (v := 24) S.1 S.2.1 dX3_init_55 (by decide) ?_
  refine lv_icmp_ge (tgt := 80) S.1 S.2.1 dX3_init_57 (by decide) (fun c64 => absurd c64 (by decide)) (fun _ => ?_)
  refine mm_aload_n S dX3_init_60 rfl (lv_at hl 1 rfl) ?_
  obtain ⟨g65, hf⟩ := gd hf
  refine mm_getp S hR fdX3_11 (hK.k g65) rfl dX3_init_61 ?_
  refine lv_iload_n S.1 S.2.1 dX3_init_64 rfl (lv_at hl 0 rfl) ?_
  refine mm_new S hR hS hA nwX3_9 (Nat.le_of_ble_eq_true rfl) (Nat.le_of_ble_eq_true rfl) dX3_init_65 (fun H locs hR hS => ?_)
  obtain ⟨μ66, e66, hf⟩ := stx hf
  rw [← e66] at hR
  have hK : mmKN μ66 μ66 := mmKN.rf
  refine lv_dup S.1 S.2.1 dX3_init_68 (rf_cat _) ?_
  refine lv_iload_n S.1 S.2.1 dX3_init_69 rfl (lv_at hl 0 rfl) ?_
  obtain ⟨g67, hf⟩ := gd hf
  obtain ⟨y68, hy68, hf⟩ := bd hf
  refine mm_callI S hR hS hA (As := [.int 5]) (rest := [rf (mX μ63), .int 5, rf (mP μ63 h0 1)]) ciX3_17 (hK.k g67) (kX2_init_c l G A (hK.k g67) hy68) rfl rfl ⟨(Nat.le_of_ble_eq_true rfl), (Nat.le_of_ble_eq_true rfl)⟩ rfl hl.1 rfl (lv_room (by simp [rf_cat, int_cat])) dX3_init_70 ⟨(Nat.le_of_ble_eq_true rfl), (Nat.le_of_ble_eq_true rfl)⟩ (fun H locs hR hS => ?_)
  have hK : mmKN y68 y68 := mmKN.rf
  obtain ⟨g69, hf⟩ := gd hf
  obtain ⟨g70, hf⟩ := gd hf
  obtain ⟨g71, hf⟩ := gd hf
  refine mm_astq (k := 22) (t := 2) (ci := 2) S hR hS (hK.k g69) (by decide) (by decide) rfl (hK.k g70) (by decide) rfl g71 dX3_init_73 (fun H locs hR hS => ?_)
  obtain ⟨μ72, e72, hf⟩ := stx hf
  rw [← e72] at hR
  have hK : mmKN y68 μ72 := by rw [e72]; exact hK.sP
  refine lv_iinc (v := 6) (lv' := [(2, .int 6), (0, rf h0), (1, rf h1)]) S.1 S.2.1 dX3_init_74 hl (k := 0) rfl (by decide) (by decide) (by simp [rf_cat, int_cat]) (fun ls hl => ?_)
  refine lv_goto (tgt := 54) S.1 S.2.1 dX3_init_77 (by decide) ?_
  refine lv_iload_n S.1 S.2.1 dX3_init_54 rfl (lv_at hl 0 rfl) ?_
  refine lv_bipush (v := 24) S.1 S.2.1 dX3_init_55 (by decide) ?_
  refine lv_icmp_ge (tgt := 80) S.1 S.2.1 dX3_init_57 (by decide) (fun c73 => absurd c73 (by decide)) (fun _ => ?_)
  refine mm_aload_n S dX3_init_60 rfl (lv_at hl 1 rfl) ?_
  obtain ⟨g74, hf⟩ := gd hf
  refine mm_getp S hR fdX3_11 (hK.k g74) rfl dX3_init_61 ?_
  refine lv_iload_n S.1 S.2.1 dX3_init_64 rfl (lv_at hl 0 rfl) ?_
  refine mm_new S hR hS hA nwX3_9 (Nat.le_of_ble_eq_true rfl) (Nat.le_of_ble_eq_true rfl) dX3_init_65 (fun H locs hR hS => ?_)
  obtain ⟨μ75, e75, hf⟩ := stx hf
  rw [← e75] at hR
  have hK : mmKN μ75 μ75 := mmKN.rf
  refine lv_dup S.1 S.2.1 dX3_init_68 (rf_cat _) ?_
  refine lv_iload_n S.1 S.2.1 dX3_init_69 rfl (lv_at hl 0 rfl) ?_
  obtain ⟨g76, hf⟩ := gd hf
  obtain ⟨y77, hy77, hf⟩ := bd hf
  refine mm_callI S hR hS hA (As := [.int 6]) (rest := [rf (mX μ72), .int 6, rf (mP μ72 h0 1)]) ciX3_17 (hK.k g76) (kX2_init_c l G A (hK.k g76) hy77) rfl rfl ⟨(Nat.le_of_ble_eq_true rfl), (Nat.le_of_ble_eq_true rfl)⟩ rfl hl.1 rfl (lv_room (by simp [rf_cat, int_cat])) dX3_init_70 ⟨(Nat.le_of_ble_eq_true rfl), (Nat.le_of_ble_eq_true rfl)⟩ (fun H locs hR hS => ?_)
  have hK : mmKN y77 y77 := mmKN.rf
  obtain ⟨g78, hf⟩ := gd hf
  obtain ⟨g79, hf⟩ := gd hf
  obtain ⟨g80, hf⟩ := gd hf
  refine mm_astq (k := 22) (t := 2) (ci := 2) S hR hS (hK.k g78) (by decide) (by decide) rfl (hK.k g79) (by decide) rfl g80 dX3_init_73 (fun H locs hR hS => ?_)
  obtain ⟨μ81, e81, hf⟩ := stx hf
  rw [← e81] at hR
  have hK : mmKN y77 μ81 := by rw [e81]; exact hK.sP
  refine lv_iinc (v := 7) (lv' := [(2, .int 7), (0, rf h0), (1, rf h1)]) S.1 S.2.1 dX3_init_74 hl (k := 0) rfl (by decide) (by decide) (by simp [rf_cat, int_cat]) (fun ls hl => ?_)
  refine lv_goto (tgt := 54) S.1 S.2.1 dX3_init_77 (by decide) ?_
  refine lv_iload_n S.1 S.2.1 dX3_init_54 rfl (lv_at hl 0 rfl) ?_
  refine lv_bipush (v := 24) S.1 S.2.1 dX3_init_55 (by decide) ?_
  refine lv_icmp_ge (tgt := 80) S.1 S.2.1 dX3_init_57 (by decide) (fun c82 => absurd c82 (by decide)) (fun _ => ?_)
  refine mm_aload_n S dX3_init_60 rfl (lv_at hl 1 rfl) ?_
  obtain ⟨g83, hf⟩ := gd hf
  refine mm_getp S hR fdX3_11 (hK.k g83) rfl dX3_init_61 ?_
  refine lv_iload_n S.1 S.2.1 dX3_init_64 rfl (lv_at hl 0 rfl) ?_
  refine mm_new S hR hS hA nwX3_9 (Nat.le_of_ble_eq_true rfl) (Nat.le_of_ble_eq_true rfl) dX3_init_65 (fun H locs hR hS => ?_)
  obtain ⟨μ84, e84, hf⟩ := stx hf
  rw [← e84] at hR
  have hK : mmKN μ84 μ84 := mmKN.rf
  refine lv_dup S.1 S.2.1 dX3_init_68 (rf_cat _) ?_
  refine lv_iload_n S.1 S.2.1 dX3_init_69 rfl (lv_at hl 0 rfl) ?_
  obtain ⟨g85, hf⟩ := gd hf
  obtain ⟨y86, hy86, hf⟩ := bd hf
  refine mm_callI S hR hS hA (As := [.int 7]) (rest := [rf (mX μ81), .int 7, rf (mP μ81 h0 1)]) ciX3_17 (hK.k g85) (kX2_init_c l G A (hK.k g85) hy86) rfl rfl ⟨(Nat.le_of_ble_eq_true rfl), (Nat.le_of_ble_eq_true rfl)⟩ rfl hl.1 rfl (lv_room (by simp [rf_cat, int_cat])) dX3_init_70 ⟨(Nat.le_of_ble_eq_true rfl), (Nat.le_of_ble_eq_true rfl)⟩ (fun H locs hR hS => ?_)
  have hK : mmKN y86 y86 := mmKN.rf
  obtain ⟨g87, hf⟩ := gd hf
  obtain ⟨g88, hf⟩ := gd hf
  obtain ⟨g89, hf⟩ := gd hf
  refine mm_astq (k := 22) (t := 2) (ci := 2) S hR hS (hK.k g87) (by decide) (by decide) rfl (hK.k g88) (by decide) rfl g89 dX3_init_73 (fun H locs hR hS => ?_)
  obtain ⟨μ90, e90, hf⟩ := stx hf
  rw [← e90] at hR
  have hK : mmKN y86 μ90 := by rw [e90]; exact hK.sP
  refine lv_iinc (v := 8) (lv' := [(2, .int 8), (0, rf h0), (1, rf h1)]) S.1 S.2.1 dX3_init_74 hl (k := 0) rfl (by decide) (by decide) (by simp [rf_cat, int_cat]) (fun ls hl => ?_)
  refine lv_goto (tgt := 54) S.1 S.2.1 dX3_init_77 (by decide) ?_
  refine lv_iload_n S.1 S.2.1 dX3_init_54 rfl (lv_at hl 0 rfl) ?_
  refine lv_bipush (v := 24) S.1 S.2.1 dX3_init_55 (by decide) ?_
  refine lv_icmp_ge (tgt := 80) S.1 S.2.1 dX3_init_57 (by decide) (fun c91 => absurd c91 (by decide)) (fun _ => ?_)
  refine mm_aload_n S dX3_init_60 rfl (lv_at hl 1 rfl) ?_
  obtain ⟨g92, hf⟩ := gd hf
  refine mm_getp S hR fdX3_11 (hK.k g92) rfl dX3_init_61 ?_
  refine lv_iload_n S.1 S.2.1 dX3_init_64 rfl (lv_at hl 0 rfl) ?_
  refine mm_new S hR hS hA nwX3_9 (Nat.le_of_ble_eq_true rfl) (Nat.le_of_ble_eq_true rfl) dX3_init_65 (fun H locs hR hS => ?_)
  obtain ⟨μ93, e93, hf⟩ := stx hf
  rw [← e93] at hR
  have hK : mmKN μ93 μ93 := mmKN.rf
  refine lv_dup S.1 S.2.1 dX3_init_68 (rf_cat _) ?_
  refine lv_iload_n S.1 S.2.1 dX3_init_69 rfl (lv_at hl 0 rfl) ?_
  obtain ⟨g94, hf⟩ := gd hf
  obtain ⟨y95, hy95, hf⟩ := bd hf
  refine mm_callI S hR hS hA (As := [.int 8]) (rest := [rf (mX μ90), .int 8, rf (mP μ90 h0 1)]) ciX3_17 (hK.k g94) (kX2_init_c l G A (hK.k g94) hy95) rfl rfl ⟨(Nat.le_of_ble_eq_true rfl), (Nat.le_of_ble_eq_true rfl)⟩ rfl hl.1 rfl (lv_room (by simp [rf_cat, int_cat])) dX3_init_70 ⟨(Nat.le_of_ble_eq_true rfl), (Nat.le_of_ble_eq_true rfl)⟩ (fun H locs hR hS => ?_)
  have hK : mmKN y95 y95 := mmKN.rf
  obtain ⟨g96, hf⟩ := gd hf
  obtain ⟨g97, hf⟩ := gd hf
  obtain ⟨g98, hf⟩ := gd hf
  refine mm_astq (k := 22) (t := 2) (ci := 2) S hR hS (hK.k g96) (by decide) (by decide) rfl (hK.k g97) (by decide) rfl g98 dX3_init_73 (fun H locs hR hS => ?_)
  obtain ⟨μ99, e99, hf⟩ := stx hf
  rw [← e99] at hR
  have hK : mmKN y95 μ99 := by rw [e99]; exact hK.sP
  refine lv_iinc (v := 9) (lv' := [(2, .int 9), (0, rf h0), (1, rf h1)]) S.1 S.2.1 dX3_init_74 hl (k := 0) rfl (by decide) (by decide) (by simp [rf_cat, int_cat]) (fun ls hl => ?_)
  refine lv_goto (tgt := 54) S.1 S.2.1 dX3_init_77 (by decide) ?_
  refine lv_iload_n S.1 S.2.1 dX3_init_54 rfl (lv_at hl 0 rfl) ?_
  refine lv_bipush (v := 24) S.1 S.2.1 dX3_init_55 (by decide) ?_
  refine lv_icmp_ge (tgt := 80) S.1 S.2.1 dX3_init_57 (by decide) (fun c100 => absurd c100 (by decide)) (fun _ => ?_)
  refine mm_aload_n S dX3_init_60 rfl (lv_at hl 1 rfl) ?_
  obtain ⟨g101, hf⟩ := gd hf
  refine mm_getp S hR fdX3_11 (hK.k g101) rfl dX3_init_61 ?_
  refine lv_iload_n S.1 S.2.1 dX3_init_64 rfl (lv_at hl 0 rfl) ?_
  refine mm_new S hR hS hA nwX3_9 (Nat.le_of_ble_eq_true rfl) (Nat.le_of_ble_eq_true rfl) dX3_init_65 (fun H locs hR hS => ?_)
  obtain ⟨μ102, e102, hf⟩ := stx hf
  rw [← e102] at hR
  have hK : mmKN μ102 μ102 := mmKN.rf
  refine lv_dup S.1 S.2.1 dX3_init_68 (rf_cat _) ?_
  refine lv_iload_n S.1 S.2.1 dX3_init_69 rfl (lv_at hl 0 rfl) ?_
  obtain ⟨g103, hf⟩ := gd hf
  obtain ⟨y104, hy104, hf⟩ := bd hf
  refine mm_callI S hR hS hA (As := [.int 9]) (rest := [rf (mX μ99), .int 9, rf (mP μ99 h0 1)]) ciX3_17 (hK.k g103) (kX2_init_c l G A (hK.k g103) hy104) rfl rfl ⟨(Nat.le_of_ble_eq_true rfl), (Nat.le_of_ble_eq_true rfl)⟩ rfl hl.1 rfl (lv_room (by simp [rf_cat, int_cat])) dX3_init_70 ⟨(Nat.le_of_ble_eq_true rfl), (Nat.le_of_ble_eq_true rfl)⟩ (fun H locs hR hS => ?_)
  have hK : mmKN y104 y104 := mmKN.rf
  obtain ⟨g105, hf⟩ := gd hf
  obtain ⟨g106, hf⟩ := gd hf
  obtain ⟨g107, hf⟩ := gd hf
  refine mm_astq (k := 22) (t := 2) (ci := 2) S hR hS (hK.k g105) (by decide) (by decide) rfl (hK.k g106) (by decide) rfl g107 dX3_init_73 (fun H locs hR hS => ?_)
  obtain ⟨μ108, e108, hf⟩ := stx hf
  rw [← e108] at hR
  have hK : mmKN y104 μ108 := by rw [e108]; exact hK.sP
  refine lv_iinc (v := 10) (lv' := [(2, .int 10), (0, rf h0), (1, rf h1)]) S.1 S.2.1 dX3_init_74 hl (k := 0) rfl (by decide) (by decide) (by simp [rf_cat, int_cat]) (fun ls hl => ?_)
  refine lv_goto (tgt := 54) S.1 S.2.1 dX3_init_77 (by decide) ?_
  refine lv_iload_n S.1 S.2.1 dX3_init_54 rfl (lv_at hl 0 rfl) ?_
  refine lv_bipush (v := 24) S.1 S.2.1 dX3_init_55 (by decide) ?_
  refine lv_icmp_ge (tgt := 80) S.1 S.2.1 dX3_init_57 (by decide) (fun c109 => absurd c109 (by decide)) (fun _ => ?_)
  refine mm_aload_n S dX3_init_60 rfl (lv_at hl 1 rfl) ?_
  obtain ⟨g110, hf⟩ := gd hf
  refine mm_getp S hR fdX3_11 (hK.k g110) rfl dX3_init_61 ?_
  refine lv_iload_n S.1 S.2.1 dX3_init_64 rfl (lv_at hl 0 rfl) ?_
  refine mm_new S hR hS hA nwX3_9 (Nat.le_of_ble_eq_true rfl) (Nat.le_of_ble_eq_true rfl) dX3_init_65 (fun H locs hR hS => ?_)
  obtain ⟨μ111, e111, hf⟩ := stx hf
  rw [← e111] at hR
  have hK : mmKN μ111 μ111 := mmKN.rf
  refine lv_dup S.1 S.2.1 dX3_init_68 (rf_cat _) ?_
  refine lv_iload_n S.1 S.2.1 dX3_init_69 rfl (lv_at hl 0 rfl) ?_
  obtain ⟨g112, hf⟩ := gd hf
  obtain ⟨y113, hy113, hf⟩ := bd hf
  refine mm_callI S hR hS hA (As := [.int 10]) (rest := [rf (mX μ108), .int 10, rf (mP μ108 h0 1)]) ciX3_17 (hK.k g112) (kX2_init_c l G A (hK.k g112) hy113) rfl rfl ⟨(Nat.le_of_ble_eq_true rfl), (Nat.le_of_ble_eq_true rfl)⟩ rfl hl.1 rfl (lv_room (by simp [rf_cat, int_cat])) dX3_init_70 ⟨(Nat.le_of_ble_eq_true rfl), (Nat.le_of_ble_eq_true rfl)⟩ (fun H locs hR hS => ?_)
  have hK : mmKN y113 y113 := mmKN.rf
  obtain ⟨g114, hf⟩ := gd hf
  obtain ⟨g115, hf⟩ := gd hf
  obtain ⟨g116, hf⟩ := gd hf
  refine mm_astq (k := 22) (t := 2) (ci := 2) S hR hS (hK.k g114) (by decide) (by decide) rfl (hK.k g115) (by decide) rfl g116 dX3_init_73 (fun H locs hR hS => ?_)
  obtain ⟨μ117, e117, hf⟩ := stx hf
  rw [← e117] at hR
  have hK : mmKN y113 μ117 := by rw [e117]; exact hK.sP
  refine lv_iinc (v := 11) (lv' := [(2, .int 11), (0, rf h0), (1, rf h1)]) S.1 S.2.1 dX3_init_74 hl (k := 0) rfl (by decide) (by decide) (by simp [rf_cat, int_cat]) (fun ls hl => ?_)
  refine lv_goto (tgt := 54) S.1 S.2.1 dX3_init_77 (by decide) ?_
  refine lv_iload_n S.1 S.2.1 dX3_init_54 rfl (lv_at hl 0 rfl) ?_
  refine lv_bipush (v := 24) S.1 S.2.1 dX3_init_55 (by decide) ?_
  refine lv_icmp_ge (tgt := 80) S.1 S.2.1 dX3_init_57 (by decide) (fun c118 => absurd c118 (by decide)) (fun _ => ?_)
  refine mm_aload_n S dX3_init_60 rfl (lv_at hl 1 rfl) ?_
  obtain ⟨g119, hf⟩ := gd hf
  refine mm_getp S hR fdX3_11 (hK.k g119) rfl dX3_init_61 ?_
  refine lv_iload_n S.1 S.2.1 dX3_init_64 rfl (lv_at hl 0 rfl) ?_
  refine mm_new S hR hS hA nwX3_9 (Nat.le_of_ble_eq_true rfl) (Nat.le_of_ble_eq_true rfl) dX3_init_65 (fun H locs hR hS => ?_)
  obtain ⟨μ120, e120, hf⟩ := stx hf
  rw [← e120] at hR
  have hK : mmKN μ120 μ120 := mmKN.rf
  refine lv_dup S.1 S.2.1 dX3_init_68 (rf_cat _) ?_
  refine lv_iload_n S.1 S.2.1 dX3_init_69 rfl (lv_at hl 0 rfl) ?_
  obtain ⟨g121, hf⟩ := gd hf
  obtain ⟨y122, hy122, hf⟩ := bd hf
  refine mm_callI S hR hS hA (As := [.int 11]) (rest := [rf (mX μ117), .int 11, rf (mP μ117 h0 1)]) ciX3_17 (hK.k g121) (kX2_init_c l G A (hK.k g121) hy122) rfl rfl ⟨(Nat.le_of_ble_eq_true rfl), (Nat.le_of_ble_eq_true rfl)⟩ rfl hl.1 rfl (lv_room (by simp [rf_cat, int_cat])) dX3_init_70 ⟨(Nat.le_of_ble_eq_true rfl), (Nat.le_of_ble_eq_true rfl)⟩ (fun H locs hR hS => ?_)
  have hK : mmKN y122 y122 := mmKN.rf
  obtain ⟨g123, hf⟩ := gd hf
  obtain ⟨g124, hf⟩ := gd hf
  obtain ⟨g125, hf⟩ := gd hf
  refine mm_astq (k := 22) (t := 2) (ci := 2) S hR hS (hK.k g123) (by decide) (by decide) rfl (hK.k g124) (by decide) rfl g125 dX3_init_73 (fun H locs hR hS => ?_)
  obtain ⟨μ126, e126, hf⟩ := stx hf
  rw [← e126] at hR
  have hK : mmKN y122 μ126 := by rw [e126]; exact hK.sP
  refine lv_iinc (v := 12) (lv' := [(2, .int 12), (0, rf h0), (1, rf h1)]) S.1 S.2.1 dX3_init_74 hl (k := 0) rfl (by decide) (by decide) (by simp [rf_cat, int_cat]) (fun ls hl => ?_)
  refine lv_goto (tgt := 54) S.1 S.2.1 dX3_init_77 (by decide) ?_
  refine lv_iload_n S.1 S.2.1 dX3_init_54 rfl (lv_at hl 0 rfl) ?_
  refine lv_bipush (v := 24) S.1 S.2.1 dX3_init_55 (by decide) ?_
  refine lv_icmp_ge (tgt := 80) S.1 S.2.1 dX3_init_57 (by decide) (fun c127 => absurd c127 (by decide)) (fun _ => ?_)
  refine mm_aload_n S dX3_init_60 rfl (lv_at hl 1 rfl) ?_
  obtain ⟨g128, hf⟩ := gd hf
  refine mm_getp S hR fdX3_11 (hK.k g128) rfl dX3_init_61 ?_
  refine lv_iload_n S.1 S.2.1 dX3_init_64 rfl (lv_at hl 0 rfl) ?_
  refine mm_new S hR hS hA nwX3_9 (Nat.le_of_ble_eq_true rfl) (Nat.le_of_ble_eq_true rfl) dX3_init_65 (fun H locs hR hS => ?_)
  obtain ⟨μ129, e129, hf⟩ := stx hf
  rw [← e129] at hR
  have hK : mmKN μ129 μ129 := mmKN.rf
  refine lv_dup S.1 S.2.1 dX3_init_68 (rf_cat _) ?_
  refine lv_iload_n S.1 S.2.1 dX3_init_69 rfl (lv_at hl 0 rfl) ?_
  obtain ⟨g130, hf⟩ := gd hf
  obtain ⟨y131, hy131, hf⟩ := bd hf
  refine mm_callI S hR hS hA (As := [.int 12]) (rest := [rf (mX μ126), .int 12, rf (mP μ126 h0 1)]) ciX3_17 (hK.k g130) (kX2_init_c l G A (hK.k g130) hy131) rfl rfl ⟨(Nat.le_of_ble_eq_true rfl), (Nat.le_of_ble_eq_true rfl)⟩ rfl hl.1 rfl (lv_room (by simp [rf_cat, int_cat])) dX3_init_70 ⟨(Nat.le_of_ble_eq_true rfl), (Nat.le_of_ble_eq_true rfl)⟩ (fun H locs hR hS => ?_)
  have hK : mmKN y131 y131 := mmKN.rf
  obtain ⟨g132, hf⟩ := gd hf
  obtain ⟨g133, hf⟩ := gd hf
  obtain ⟨g134, hf⟩ := gd hf
  refine mm_astq (k := 22) (t := 2) (ci := 2) S hR hS (hK.k g132) (by decide) (by decide) rfl (hK.k g133) (by decide) rfl g134 dX3_init_73 (fun H locs hR hS => ?_)
  obtain ⟨μ135, e135, hf⟩ := stx hf
  rw [← e135] at hR
  have hK : mmKN y131 μ135 := by rw [e135]; exact hK.sP
  refine lv_iinc (v := 13) (lv' := [(2, .int 13), (0, rf h0), (1, rf h1)]) S.1 S.2.1 dX3_init_74 hl (k := 0) rfl (by decide) (by decide) (by simp [rf_cat, int_cat]) (fun ls hl => ?_)
  refine lv_goto (tgt := 54) S.1 S.2.1 dX3_init_77 (by decide) ?_
  refine lv_iload_n S.1 S.2.1 dX3_init_54 rfl (lv_at hl 0 rfl) ?_
  refine lv_bipush (v := 24) S.1 S.2.1 dX3_init_55 (by decide) ?_
  refine lv_icmp_ge (tgt := 80) S.1 S.2.1 dX3_init_57 (by decide) (fun c136 => absurd c136 (by decide)) (fun _ => ?_)
  refine mm_aload_n S dX3_init_60 rfl (lv_at hl 1 rfl) ?_
  obtain ⟨g137, hf⟩ := gd hf
  refine mm_getp S hR fdX3_11 (hK.k g137) rfl dX3_init_61 ?_
  refine lv_iload_n S.1 S.2.1 dX3_init_64 rfl (lv_at hl 0 rfl) ?_
  refine mm_new S hR hS hA nwX3_9 (Nat.le_of_ble_eq_true rfl) (Nat.le_of_ble_eq_true rfl) dX3_init_65 (fun H locs hR hS => ?_)
  obtain ⟨μ138, e138, hf⟩ := stx hf
  rw [← e138] at hR
  have hK : mmKN μ138 μ138 := mmKN.rf
  refine lv_dup S.1 S.2.1 dX3_init_68 (rf_cat _) ?_
  refine lv_iload_n S.1 S.2.1 dX3_init_69 rfl (lv_at hl 0 rfl) ?_
  obtain ⟨g139, hf⟩ := gd hf
  obtain ⟨y140, hy140, hf⟩ := bd hf
  refine mm_callI S hR hS hA (As := [.int 13]) (rest := [rf (mX μ135), .int 13, rf (mP μ135 h0 1)]) ciX3_17 (hK.k g139) (kX2_init_c l G A (hK.k g139) hy140) rfl rfl ⟨(Nat.le_of_ble_eq_true rfl), (Nat.le_of_ble_eq_true rfl)⟩ rfl hl.1 rfl (lv_room (by simp [rf_cat, int_cat])) dX3_init_70 ⟨(Nat.le_of_ble_eq_true rfl), (Nat.le_of_ble_eq_true rfl)⟩ (fun H locs hR hS => ?_)
  have hK : mmKN y140 y140 := mmKN.rf
  obtain ⟨g141, hf⟩ := gd hf
  obtain ⟨g142, hf⟩ := gd hf
  obtain ⟨g143, hf⟩ := gd hf
  refine mm_astq (k := 22) (t := 2) (ci := 2) S hR hS (hK.k g141) (by decide) (by decide) rfl (hK.k g142) (by decide) rfl g143 dX3_init_73 (fun H locs hR hS => ?_)
  obtain ⟨μ144, e144, hf⟩ := stx hf
  rw [← e144] at hR
  have hK : mmKN y140 μ144 := by rw [e144]; exact hK.sP
  refine lv_iinc (v := 14) (lv' := [(2, .int 14), (0, rf h0), (1, rf h1)]) S.1 S.2.1 dX3_init_74 hl (k := 0) rfl (by decide) (by decide) (by simp [rf_cat, int_cat]) (fun ls hl => ?_)
  refine lv_goto (tgt := 54) S.1 S.2.1 dX3_init_77 (by decide) ?_
  refine lv_iload_n S.1 S.2.1 dX3_init_54 rfl (lv_at hl 0 rfl) ?_
  refine lv_bipush (v := 24) S.1 S.2.1 dX3_init_55 (by decide) ?_
  refine lv_icmp_ge (tgt := 80) S.1 S.2.1 dX3_init_57 (by decide) (fun c145 => absurd c145 (by decide)) (fun _ => ?_)
  refine mm_aload_n S dX3_init_60 rfl (lv_at hl 1 rfl) ?_
  obtain ⟨g146, hf⟩ := gd hf
  refine mm_getp S hR fdX3_11 (hK.k g146) rfl dX3_init_61 ?_
  refine lv_iload_n S.1 S.2.1 dX3_init_64 rfl (lv_at hl 0 rfl) ?_
  refine mm_new S hR hS hA nwX3_9 (Nat.le_of_ble_eq_true rfl) (Nat.le_of_ble_eq_true rfl) dX3_init_65 (fun H locs hR hS => ?_)
  obtain ⟨μ147, e147, hf⟩ := stx hf
  rw [← e147] at hR
  have hK : mmKN μ147 μ147 := mmKN.rf
  refine lv_dup S.1 S.2.1 dX3_init_68 (rf_cat _) ?_
  refine lv_iload_n S.1 S.2.1 dX3_init_69 rfl (lv_at hl 0 rfl) ?_
  obtain ⟨g148, hf⟩ := gd hf
  obtain ⟨y149, hy149, hf⟩ := bd hf
  refine mm_callI S hR hS hA (As := [.int 14]) (rest := [rf (mX μ144), .int 14, rf (mP μ144 h0 1)]) ciX3_17 (hK.k g148) (kX2_init_c l G A (hK.k g148) hy149) rfl rfl ⟨(Nat.le_of_ble_eq_true rfl), (Nat.le_of_ble_eq_true rfl)⟩ rfl hl.1 rfl (lv_room (by simp [rf_cat, int_cat])) dX3_init_70 ⟨(Nat.le_of_ble_eq_true rfl), (Nat.le_of_ble_eq_true rfl)⟩ (fun H locs hR hS => ?_)
  have hK : mmKN y149 y149 := mmKN.rf
  obtain ⟨g150, hf⟩ := gd hf
  obtain ⟨g151, hf⟩ := gd hf
  obtain ⟨g152, hf⟩ := gd hf
  refine mm_astq (k := 22) (t := 2) (ci := 2) S hR hS (hK.k g150) (by decide) (by decide) rfl (hK.k g151) (by decide) rfl g152 dX3_init_73 (fun H locs hR hS => ?_)
  obtain ⟨μ153, e153, hf⟩ := stx hf
  rw [← e153] at hR
  have hK : mmKN y149 μ153 := by rw [e153]; exact hK.sP
  refine lv_iinc (v := 15) (lv' := [(2, .int 15), (0, rf h0), (1, rf h1)]) S.1 S.2.1 dX3_init_74 hl (k := 0) rfl (by decide) (by decide) (by simp [rf_cat, int_cat]) (fun ls hl => ?_)
  refine lv_goto (tgt := 54) S.1 S.2.1 dX3_init_77 (by decide) ?_
  refine lv_iload_n S.1 S.2.1 dX3_init_54 rfl (lv_at hl 0 rfl) ?_
  refine lv_bipush (v := 24) S.1 S.2.1 dX3_init_55 (by decide) ?_
  refine lv_icmp_ge (tgt := 80) S.1 S.2.1 dX3_init_57 (by decide) (fun c154 => absurd c154 (by decide)) (fun _ => ?_)
  refine mm_aload_n S dX3_init_60 rfl (lv_at hl 1 rfl) ?_
  obtain ⟨g155, hf⟩ := gd hf
  refine mm_getp S hR fdX3_11 (hK.k g155) rfl dX3_init_61 ?_
  refine lv_iload_n S.1 S.2.1 dX3_init_64 rfl (lv_at hl 0 rfl) ?_
  refine mm_new S hR hS hA nwX3_9 (Nat.le_of_ble_eq_true rfl) (Nat.le_of_ble_eq_true rfl) dX3_init_65 (fun H locs hR hS => ?_)
  obtain ⟨μ156, e156, hf⟩ := stx hf
  rw [← e156] at hR
  have hK : mmKN μ156 μ156 := mmKN.rf
  refine lv_dup S.1 S.2.1 dX3_init_68 (rf_cat _) ?_
  refine lv_iload_n S.1 S.2.1 dX3_init_69 rfl (lv_at hl 0 rfl) ?_
  obtain ⟨g157, hf⟩ := gd hf
  obtain ⟨y158, hy158, hf⟩ := bd hf
  refine mm_callI S hR hS hA (As := [.int 15]) (rest := [rf (mX μ153), .int 15, rf (mP μ153 h0 1)]) ciX3_17 (hK.k g157) (kX2_init_c l G A (hK.k g157) hy158) rfl rfl ⟨(Nat.le_of_ble_eq_true rfl), (Nat.le_of_ble_eq_true rfl)⟩ rfl hl.1 rfl (lv_room (by simp [rf_cat, int_cat])) dX3_init_70 ⟨(Nat.le_of_ble_eq_true rfl), (Nat.le_of_ble_eq_true rfl)⟩ (fun H locs hR hS => ?_)
  have hK : mmKN y158 y158 := mmKN.rf
  obtain ⟨g159, hf⟩ := gd hf
  obtain ⟨g160, hf⟩ := gd hf
  obtain ⟨g161, hf⟩ := gd hf
  refine mm_astq (k := 22) (t := 2) (ci := 2) S hR hS (hK.k g159) (by decide) (by decide) rfl (hK.k g160) (by decide) rfl g161 dX3_init_73 (fun H locs hR hS => ?_)
  obtain ⟨μ162, e162, hf⟩ := stx hf
  rw [← e162] at hR
  have hK : mmKN y158 μ162 := by rw [e162]; exact hK.sP
  refine lv_iinc (v := 16) (lv' := [(2, .int 16), (0, rf h0), (1, rf h1)]) S.1 S.2.1 dX3_init_74 hl (k := 0) rfl (by decide) (by decide) (by simp [rf_cat, int_cat]) (fun ls hl => ?_)
  refine lv_goto (tgt := 54) S.1 S.2.1 dX3_init_77 (by decide) ?_
  refine lv_iload_n S.1 S.2.1 dX3_init_54 rfl (lv_at hl 0 rfl) ?_
  refine lv_bipush (v := 24) S.1 S.2.1 dX3_init_55 (by decide) ?_
  refine lv_icmp_ge (tgt := 80) S.1 S.2.1 dX3_init_57 (by decide) (fun c163 => absurd c163 (by decide)) (fun _ => ?_)
  refine mm_aload_n S dX3_init_60 rfl (lv_at hl 1 rfl) ?_
  obtain ⟨g164, hf⟩ := gd hf
  refine mm_getp S hR fdX3_11 (hK.k g164) rfl dX3_init_61 ?_
  refine lv_iload_n S.1 S.2.1 dX3_init_64 rfl (lv_at hl 0 rfl) ?_
  refine mm_new S hR hS hA nwX3_9 (Nat.le_of_ble_eq_true rfl) (Nat.le_of_ble_eq_true rfl) dX3_init_65 (fun H locs hR hS => ?_)
  obtain ⟨μ165, e165, hf⟩ := stx hf
  rw [← e165] at hR
  have hK : mmKN μ165 μ165 := mmKN.rf
  refine lv_dup S.1 S.2.1 dX3_init_68 (rf_cat _) ?_
  refine lv_iload_n S.1 S.2.1 dX3_init_69 rfl (lv_at hl 0 rfl) ?_
  obtain ⟨g166, hf⟩ := gd hf
  obtain ⟨y167, hy167, hf⟩ := bd hf
  refine mm_callI S hR hS hA (As := [.int 16]) (rest := [rf (mX μ162), .int 16, rf (mP μ162 h0 1)]) ciX3_17 (hK.k g166) (kX2_init_c l G A (hK.k g166) hy167) rfl rfl ⟨(Nat.le_of_ble_eq_true rfl), (Nat.le_of_ble_eq_true rfl)⟩ rfl hl.1 rfl (lv_room (by simp [rf_cat, int_cat])) dX3_init_70 ⟨(Nat.le_of_ble_eq_true rfl), (Nat.le_of_ble_eq_true rfl)⟩ (fun H locs hR hS => ?_)
  have hK : mmKN y167 y167 := mmKN.rf
  obtain ⟨g168, hf⟩ := gd hf
  obtain ⟨g169, hf⟩ := gd hf
  obtain ⟨g170, hf⟩ := gd hf
  refine mm_astq (k := 22) (t := 2) (ci := 2) S hR hS (hK.k g168) (by decide) (by decide) rfl (hK.k g169) (by decide) rfl g170 dX3_init_73 (fun H locs hR hS => ?_)
  obtain ⟨μ171, e171, hf⟩ := stx hf
  rw [← e171] at hR
  have hK : mmKN y167 μ171 := by rw [e171]; exact hK.sP
  refine lv_iinc (v := 17) (lv' := [(2, .int 17), (0, rf h0), (1, rf h1)]) S.1 S.2.1 dX3_init_74 hl (k := 0) rfl (by decide) (by decide) (by simp [rf_cat, int_cat]) (fun ls hl => ?_)
  refine lv_goto (tgt := 54) S.1 S.2.1 dX3_init_77 (by decide) ?_
  refine lv_iload_n S.1 S.2.1 dX3_init_54 rfl (lv_at hl 0 rfl) ?_
  refine lv_bipush (v := 24) S.1 S.2.1 dX3_init_55 (by decide) ?_
  refine lv_icmp_ge (tgt := 80) S.1 S.2.1 dX3_init_57 (by decide) (fun c172 => absurd c172 (by decide)) (fun _ => ?_)
  refine mm_aload_n S dX3_init_60 rfl (lv_at hl 1 rfl) ?_
  obtain ⟨g173, hf⟩ := gd hf
  refine mm_getp S hR fdX3_11 (hK.k g173) rfl dX3_init_61 ?_
  refine lv_iload_n S.1 S.2.1 dX3_init_64 rfl (lv_at hl 0 rfl) ?_
  refine mm_new S hR hS hA nwX3_9 (Nat.le_of_ble_eq_true rfl) (Nat.le_of_ble_eq_true rfl) dX3_init_65 (fun H locs hR hS => ?_)
  obtain ⟨μ174, e174, hf⟩ := stx hf
  rw [← e174] at hR
  have hK : mmKN μ174 μ174 := mmKN.rf
  refine lv_dup S.1 S.2.1 dX3_init_68 (rf_cat _) ?_
  refine lv_iload_n S.1 S.2.1 dX3_init_69 rfl (lv_at hl 0 rfl) ?_
  obtain ⟨g175, hf⟩ := gd hf
  obtain ⟨y176, hy176, hf⟩ := bd hf
  refine mm_callI S hR hS hA (As := [.int 17]) (rest := [rf (mX μ171), .int 17, rf (mP μ171 h0 1)]) ciX3_17 (hK.k g175) (kX2_init_c l G A (hK.k g175) hy176) rfl rfl ⟨(Nat.le_of_ble_eq_true rfl), (Nat.le_of_ble_eq_true rfl)⟩ rfl hl.1 rfl (lv_room (by simp [rf_cat, int_cat])) dX3_init_70 ⟨(Nat.le_of_ble_eq_true rfl), (Nat.le_of_ble_eq_true rfl)⟩ (fun H locs hR hS => ?_)
  have hK : mmKN y176 y176 := mmKN.rf
  obtain ⟨g177, hf⟩ := gd hf
  obtain ⟨g178, hf⟩ := gd hf
  obtain ⟨g179, hf⟩ := gd hf
  refine mm_astq (k := 22) (t := 2) (ci := 2) S hR hS (hK.k g177) (by decide) (by decide) rfl (hK.k g178) (by decide) rfl g179 dX3_init_73 (fun H locs hR hS => ?_)
  obtain ⟨μ180, e180, hf⟩ := stx hf
  rw [← e180] at hR
  have hK : mmKN y176 μ180 := by rw [e180]; exact hK.sP
  refine lv_iinc (v := 18) (lv' := [(2, .int 18), (0, rf h0), (1, rf h1)]) S.1 S.2.1 dX3_init_74 hl (k := 0) rfl (by decide) (by decide) (by simp [rf_cat, int_cat]) (fun ls hl => ?_)
  refine lv_goto (tgt := 54) S.1 S.2.1 dX3_init_77 (by decide) ?_
  refine lv_iload_n S.1 S.2.1 dX3_init_54 rfl (lv_at hl 0 rfl) ?_
  refine lv_bipush (v := 24) S.1 S.2.1 dX3_init_55 (by decide) ?_
  refine lv_icmp_ge (tgt := 80) S.1 S.2.1 dX3_init_57 (by decide) (fun c181 => absurd c181 (by decide)) (fun _ => ?_)
  refine mm_aload_n S dX3_init_60 rfl (lv_at hl 1 rfl) ?_
  obtain ⟨g182, hf⟩ := gd hf
  refine mm_getp S hR fdX3_11 (hK.k g182) rfl dX3_init_61 ?_
  refine lv_iload_n S.1 S.2.1 dX3_init_64 rfl (lv_at hl 0 rfl) ?_
  refine mm_new S hR hS hA nwX3_9 (Nat.le_of_ble_eq_true rfl) (Nat.le_of_ble_eq_true rfl) dX3_init_65 (fun H locs hR hS => ?_)
  obtain ⟨μ183, e183, hf⟩ := stx hf
  rw [← e183] at hR
  have hK : mmKN μ183 μ183 := mmKN.rf
  refine lv_dup S.1 S.2.1 dX3_init_68 (rf_cat _) ?_
  refine lv_iload_n S.1 S.2.1 dX3_init_69 rfl (lv_at hl 0 rfl) ?_
  obtain ⟨g184, hf⟩ := gd hf
  obtain ⟨y185, hy185, hf⟩ := bd hf
  refine mm_callI S hR hS hA (As := [.int 18]) (rest := [rf (mX μ180), .int 18, rf (mP μ180 h0 1)]) ciX3_17 (hK.k g184) (kX2_init_c l G A (hK.k g184) hy185) rfl rfl ⟨(Nat.le_of_ble_eq_true rfl), (Nat.le_of_ble_eq_true rfl)⟩ rfl hl.1 rfl (lv_room (by simp [rf_cat, int_cat])) dX3_init_70 ⟨(Nat.le_of_ble_eq_true rfl), (Nat.le_of_ble_eq_true rfl)⟩ (fun H locs hR hS => ?_)
  have hK : mmKN y185 y185 := mmKN.rf
  obtain ⟨g186, hf⟩ := gd hf
  obtain ⟨g187, hf⟩ := gd hf
  obtain ⟨g188, hf⟩ := gd hf
  refine mm_astq (k := 22) (t := 2) (ci := 2) S hR hS (hK.k g186) (by decide) (by decide) rfl (hK.k g187) (by decide) rfl g188 dX3_init_73 (fun H locs hR hS => ?_)
  obtain ⟨μ189, e189, hf⟩ := stx hf
  rw [← e189] at hR
  have hK : mmKN y185 μ189 := by rw [e189]; exact hK.sP
  refine lv_iinc (v := 19) (lv' := [(2, .int 19), (0, rf h0), (1, rf h1)]) S.1 S.2.1 dX3_init_74 hl (k := 0) rfl (by decide) (by decide) (by simp [rf_cat, int_cat]) (fun ls hl => ?_)
  refine lv_goto (tgt := 54) S.1 S.2.1 dX3_init_77 (by decide) ?_
  refine lv_iload_n S.1 S.2.1 dX3_init_54 rfl (lv_at hl 0 rfl) ?_
  refine lv_bipush (v := 24) S.1 S.2.1 dX3_init_55 (by decide) ?_
  refine lv_icmp_ge (tgt := 80) S.1 S.2.1 dX3_init_57 (by decide) (fun c190 => absurd c190 (by decide)) (fun _ => ?_)
  refine mm_aload_n S dX3_init_60 rfl (lv_at hl 1 rfl) ?_
  obtain ⟨g191, hf⟩ := gd hf
  refine mm_getp S hR fdX3_11 (hK.k g191) rfl dX3_init_61 ?_
  refine lv_iload_n S.1 S.2.1 dX3_init_64 rfl (lv_at hl 0 rfl) ?_
  refine mm_new S hR hS hA nwX3_9 (Nat.le_of_ble_eq_true rfl) (Nat.le_of_ble_eq_true rfl) dX3_init_65 (fun H locs hR hS => ?_)
  obtain ⟨μ192, e192, hf⟩ := stx hf
  rw [← e192] at hR
  have hK : mmKN μ192 μ192 := mmKN.rf
  refine lv_dup S.1 S.2.1 dX3_init_68 (rf_cat _) ?_
  refine lv_iload_n S.1 S.2.1 dX3_init_69 rfl (lv_at hl 0 rfl) ?_
  obtain ⟨g193, hf⟩ := gd hf
  obtain ⟨y194, hy194, hf⟩ := bd hf
  refine mm_callI S hR hS hA (As := [.int 19]) (rest := [rf (mX μ189), .int 19, rf (mP μ189 h0 1)]) ciX3_17 (hK.k g193) (kX2_init_c l G A (hK.k g193) hy194) rfl rfl ⟨(Nat.le_of_ble_eq_true rfl), (Nat.le_of_ble_eq_true rfl)⟩ rfl hl.1 rfl (lv_room (by simp [rf_cat, int_cat])) dX3_init_70 ⟨(Nat.le_of_ble_eq_true rfl), (Nat.le_of_ble_eq_true rfl)⟩ (fun H locs hR hS => ?_)
  have hK : mmKN y194 y194 := mmKN.rf
  obtain ⟨g195, hf⟩ := gd hf
  obtain ⟨g196, hf⟩ := gd hf
  obtain ⟨g197, hf⟩ := gd hf
  refine mm_astq (k := 22) (t := 2) (ci := 2) S hR hS (hK.k g195) (by decide) (by decide) rfl (hK.k g196) (by decide) rfl g197 dX3_init_73 (fun H locs hR hS => ?_)
  obtain ⟨μ198, e198, hf⟩ := stx hf
  rw [← e198] at hR
  have hK : mmKN y194 μ198 := by rw [e198]; exact hK.sP
  refine lv_iinc (v := 20) (lv' := [(2, .int 20), (0, rf h0), (1, rf h1)]) S.1 S.2.1 dX3_init_74 hl (k := 0) rfl (by decide) (by decide) (by simp [rf_cat, int_cat]) (fun ls hl => ?_)
  refine lv_goto (tgt := 54) S.1 S.2.1 dX3_init_77 (by decide) ?_
  refine lv_iload_n S.1 S.2.1 dX3_init_54 rfl (lv_at hl 0 rfl) ?_
  refine lv_bipush (v := 24) S.1 S.2.1 dX3_init_55 (by decide) ?_
  refine lv_icmp_ge (tgt := 80) S.1 S.2.1 dX3_init_57 (by decide) (fun c199 => absurd c199 (by decide)) (fun _ => ?_)
  refine mm_aload_n S dX3_init_60 rfl (lv_at hl 1 rfl) ?_
  obtain ⟨g200, hf⟩ := gd hf
  refine mm_getp S hR fdX3_11 (hK.k g200) rfl dX3_init_61 ?_
  refine lv_iload_n S.1 S.2.1 dX3_init_64 rfl (lv_at hl 0 rfl) ?_
  refine mm_new S hR hS hA nwX3_9 (Nat.le_of_ble_eq_true rfl) (Nat.le_of_ble_eq_true rfl) dX3_init_65 (fun H locs hR hS => ?_)
  obtain ⟨μ201, e201, hf⟩ := stx hf
  rw [← e201] at hR
  have hK : mmKN μ201 μ201 := mmKN.rf
  refine lv_dup S.1 S.2.1 dX3_init_68 (rf_cat _) ?_
  refine lv_iload_n S.1 S.2.1 dX3_init_69 rfl (lv_at hl 0 rfl) ?_
  obtain ⟨g202, hf⟩ := gd hf
  obtain ⟨y203, hy203, hf⟩ := bd hf
  refine mm_callI S hR hS hA (As := [.int 20]) (rest := [rf (mX μ198), .int 20, rf (mP μ198 h0 1)]) ciX3_17 (hK.k g202) (kX2_init_c l G A (hK.k g202) hy203) rfl rfl ⟨(Nat.le_of_ble_eq_true rfl), (Nat.le_of_ble_eq_true rfl)⟩ rfl hl.1 rfl (lv_room (by simp [rf_cat, int_cat])) dX3_init_70 ⟨(Nat.le_of_ble_eq_true rfl), (Nat.le_of_ble_eq_true rfl)⟩ (fun H locs hR hS => ?_)
  have hK : mmKN y203 y203 := mmKN.rf
  obtain ⟨g204, hf⟩ := gd hf
  obtain ⟨g205, hf⟩ := gd hf
  obtain ⟨g206, hf⟩ := gd hf
  refine mm_astq (k := 22) (t := 2) (ci := 2) S hR hS (hK.k g204) (by decide) (by decide) rfl (hK.k g205) (by decide) rfl g206 dX3_init_73 (fun H locs hR hS => ?_)
  obtain ⟨μ207, e207, hf⟩ := stx hf
  rw [← e207] at hR
  have hK : mmKN y203 μ207 := by rw [e207]; exact hK.sP
  refine lv_iinc (v := 21) (lv' := [(2, .int 21), (0, rf h0), (1, rf h1)]) S.1 S.2.1 dX3_init_74 hl (k := 0) rfl (by decide) (by decide) (by simp [rf_cat, int_cat]) (fun ls hl => ?_)
  refine lv_goto (tgt := 54) S.1 S.2.1 dX3_init_77 (by decide) ?_
  refine lv_iload_n S.1 S.2.1 dX3_init_54 rfl (lv_at hl 0 rfl) ?_
  refine lv_bipush (v := 24) S.1 S.2.1 dX3_init_55 (by decide) ?_
  refine lv_icmp_ge (tgt := 80) S.1 S.2.1 dX3_init_57 (by decide) (fun c208 => absurd c208 (by decide)) (fun _ => ?_)
  refine mm_aload_n S dX3_init_60 rfl (lv_at hl 1 rfl) ?_
  obtain ⟨g209, hf⟩ := gd hf
  refine mm_getp S hR fdX3_11 (hK.k g209) rfl dX3_init_61 ?_
  refine lv_iload_n S.1 S.2.1 dX3_init_64 rfl (lv_at hl 0 rfl) ?_
  refine mm_new S hR hS hA nwX3_9 (Nat.le_of_ble_eq_true rfl) (Nat.le_of_ble_eq_true rfl) dX3_init_65 (fun H locs hR hS => ?_)
  obtain ⟨μ210, e210, hf⟩ := stx hf
  rw [← e210] at hR
  have hK : mmKN μ210 μ210 := mmKN.rf
  refine lv_dup S.1 S.2.1 dX3_init_68 (rf_cat _) ?_
  refine lv_iload_n S.1 S.2.1 dX3_init_69 rfl (lv_at hl 0 rfl) ?_
  obtain ⟨g211, hf⟩ := gd hf
  obtain ⟨y212, hy212, hf⟩ := bd hf
  refine mm_callI S hR hS hA (As := [.int 21]) (rest := [rf (mX μ207), .int 21, rf (mP μ207 h0 1)]) ciX3_17 (hK.k g211) (kX2_init_c l G A (hK.k g211) hy212) rfl rfl ⟨(Nat.le_of_ble_eq_true rfl), (Nat.le_of_ble_eq_true rfl)⟩ rfl hl.1 rfl (lv_room (by simp [rf_cat, int_cat])) dX3_init_70 ⟨(Nat.le_of_ble_eq_true rfl), (Nat.le_of_ble_eq_true rfl)⟩ (fun H locs hR hS => ?_)
  have hK : mmKN y212 y212 := mmKN.rf
  obtain ⟨g213, hf⟩ := gd hf
  obtain ⟨g214, hf⟩ := gd hf
  obtain ⟨g215, hf⟩ := gd hf
  refine mm_astq (k := 22) (t := 2) (ci := 2) S hR hS (hK.k g213) (by decide) (by decide) rfl (hK.k g214) (by decide) rfl g215 dX3_init_73 (fun H locs hR hS => ?_)
  obtain ⟨μ216, e216, hf⟩ := stx hf
  rw [← e216] at hR
  have hK : mmKN y212 μ216 := by rw [e216]; exact hK.sP
  refine lv_iinc (v := 22) (lv' := [(2, .int 22), (0, rf h0), (1, rf h1)]) S.1 S.2.1 dX3_init_74 hl (k := 0) rfl (by decide) (by decide) (by simp [rf_cat, int_cat]) (fun ls hl => ?_)
  refine lv_goto (tgt := 54) S.1 S.2.1 dX3_init_77 (by decide) ?_
  refine lv_iload_n S.1 S.2.1 dX3_init_54 rfl (lv_at hl 0 rfl) ?_
  refine lv_bipush (v := 24) S.1 S.2.1 dX3_init_55 (by decide) ?_
  refine lv_icmp_ge (tgt := 80) S.1 S.2.1 dX3_init_57 (by decide) (fun c217 => absurd c217 (by decide)) (fun _ => ?_)
  refine mm_aload_n S dX3_init_60 rfl (lv_at hl 1 rfl) ?_
  obtain ⟨g218, hf⟩ := gd hf
  refine mm_getp S hR fdX3_11 (hK.k g218) rfl dX3_init_61 ?_
  refine lv_iload_n S.1 S.2.1 dX3_init_64 rfl (lv_at hl 0 rfl) ?_
  refine mm_new S hR hS hA nwX3_9 (Nat.le_of_ble_eq_true rfl) (Nat.le_of_ble_eq_true rfl) dX3_init_65 (fun H locs hR hS => ?_)
  obtain ⟨μ219, e219, hf⟩ := stx hf
  rw [← e219] at hR
  have hK : mmKN μ219 μ219 := mmKN.rf
  refine lv_dup S.1 S.2.1 dX3_init_68 (rf_cat _) ?_
  refine lv_iload_n S.1 S.2.1 dX3_init_69 rfl (lv_at hl 0 rfl) ?_
  obtain ⟨g220, hf⟩ := gd hf
  obtain ⟨y221, hy221, hf⟩ := bd hf
  refine mm_callI S hR hS hA (As := [.int 22]) (rest := [rf (mX μ216), .int 22, rf (mP μ216 h0 1)]) ciX3_17 (hK.k g220) (kX2_init_c l G A (hK.k g220) hy221) rfl rfl ⟨(Nat.le_of_ble_eq_true rfl), (Nat.le_of_ble_eq_true rfl)⟩ rfl hl.1 rfl (lv_room (by simp [rf_cat, int_cat])) dX3_init_70 ⟨(Nat.le_of_ble_eq_true rfl), (Nat.le_of_ble_eq_true rfl)⟩ (fun H locs hR hS => ?_)
  have hK : mmKN y221 y221 := mmKN.rf
  obtain ⟨g222, hf⟩ := gd hf
  obtain ⟨g223, hf⟩ := gd hf
  obtain ⟨g224, hf⟩ := gd hf
  refine mm_astq (k := 22) (t := 2) (ci := 2) S hR hS (hK.k g222) (by decide) (by decide) rfl (hK.k g223) (by decide) rfl g224 dX3_init_73 (fun H locs hR hS => ?_)
  obtain ⟨μ225, e225, hf⟩ := stx hf
  rw [← e225] at hR
  have hK : mmKN y221 μ225 := by rw [e225]; exact hK.sP
  refine lv_iinc (v := 23) (lv' := [(2, .int 23), (0, rf h0), (1, rf h1)]) S.1 S.2.1 dX3_init_74 hl (k := 0) rfl (by decide) (by decide) (by simp [rf_cat, int_cat]) (fun ls hl => ?_)
  refine lv_goto (tgt := 54) S.1 S.2.1 dX3_init_77 (by decide) ?_
  refine lv_iload_n S.1 S.2.1 dX3_init_54 rfl (lv_at hl 0 rfl) ?_
  refine lv_bipush (v := 24) S.1 S.2.1 dX3_init_55 (by decide) ?_
  refine lv_icmp_ge (tgt := 80) S.1 S.2.1 dX3_init_57 (by decide) (fun c226 => absurd c226 (by decide)) (fun _ => ?_)
  refine mm_aload_n S dX3_init_60 rfl (lv_at hl 1 rfl) ?_
  obtain ⟨g227, hf⟩ := gd hf
  refine mm_getp S hR fdX3_11 (hK.k g227) rfl dX3_init_61 ?_
  refine lv_iload_n S.1 S.2.1 dX3_init_64 rfl (lv_at hl 0 rfl) ?_
  refine mm_new S hR hS hA nwX3_9 (Nat.le_of_ble_eq_true rfl) (Nat.le_of_ble_eq_true rfl) dX3_init_65 (fun H locs hR hS => ?_)
  obtain ⟨μ228, e228, hf⟩ := stx hf
  rw [← e228] at hR
  have hK : mmKN μ228 μ228 := mmKN.rf
  refine lv_dup S.1 S.2.1 dX3_init_68 (rf_cat _) ?_
  refine lv_iload_n S.1 S.2.1 dX3_init_69 rfl (lv_at hl 0 rfl) ?_
  obtain ⟨g229, hf⟩ := gd hf
  obtain ⟨y230, hy230, hf⟩ := bd hf
  refine mm_callI S hR hS hA (As := [.int 23]) (rest := [rf (mX μ225), .int 23, rf (mP μ225 h0 1)]) ciX3_17 (hK.k g229) (kX2_init_c l G A (hK.k g229) hy230) rfl rfl ⟨(Nat.le_of_ble_eq_true rfl), (Nat.le_of_ble_eq_true rfl)⟩ rfl hl.1 rfl (lv_room (by simp [rf_cat, int_cat])) dX3_init_70 ⟨(Nat.le_of_ble_eq_true rfl), (Nat.le_of_ble_eq_true rfl)⟩ (fun H locs hR hS => ?_)
  have hK : mmKN y230 y230 := mmKN.rf
  obtain ⟨g231, hf⟩ := gd hf
  obtain ⟨g232, hf⟩ := gd hf
  obtain ⟨g233, hf⟩ := gd hf
  refine mm_astq (k := 22) (t := 2) (ci := 2) S hR hS (hK.k g231) (by decide) (by decide) rfl (hK.k g232) (by decide) rfl g233 dX3_init_73 (fun H locs hR hS => ?_)
  obtain ⟨μ234, e234, hf⟩ := stx hf
  rw [← e234] at hR
  have hK : mmKN y230 μ234 := by rw [e234]; exact hK.sP
  refine lv_iinc (v := 24) (lv' := [(2, .int 24), (0, rf h0), (1, rf h1)]) S.1 S.2.1 dX3_init_74 hl (k := 0) rfl (by decide) (by decide) (by simp [rf_cat, int_cat]) (fun ls hl => ?_)
  refine lv_goto (tgt := 54) S.1 S.2.1 dX3_init_77 (by decide) ?_
  refine lv_iload_n S.1 S.2.1 dX3_init_54 rfl (lv_at hl 0 rfl) ?_
  refine lv_bipush (v := 24) S.1 S.2.1 dX3_init_55 (by decide) ?_
  refine lv_icmp_ge (tgt := 80) S.1 S.2.1 dX3_init_57 (by decide) (fun _ => ?_) (fun c235 => absurd (by decide) c235)
  refine mm_aload_n S dX3_init_80 rfl (lv_at hl 1 rfl) ?_
  refine mm_aload_n S dX3_init_81 rfl (lv_at hl 1 rfl) ?_
  obtain ⟨g236, hf⟩ := gd hf
  refine mm_getp S hR fdX3_20 (hK.k g236) rfl dX3_init_82 ?_
  refine mm_putp S hR hS fpX3_38 (hK.k g236) rfl nr_ok fr_ok dX3_init_85 (fun H locs hR hS => ?_)
  obtain ⟨μ237, e237, hf⟩ := stx hf
  rw [← e237] at hR
  have hK : mmKN y230 μ237 := by rw [e237]; exact hK.sP
  obtain rfl := Option.some.inj hf
  refine W.widen (k := 130) (n := 976) (Nat.le_of_ble_eq_true rfl) (Nat.le_of_ble_eq_true rfl) ?_
  exact mm_vret S hR hS hr hlocks dX3_init_88
-- X6_init
set_option maxRecDepth 100000 in
def fX6_init (h0 : Nat) (μ : MM) : Option MM :=
  st (sN μ 1 0) fun μ1 => if mK μ1 (mX μ) = 1 then (fX0_init (mX μ) μ1).bind fun y3 => if mK y3 h0 = 7 then st (sP y3 h0 0 (mX μ)) fun μ5 => st (sN μ5 4 0) fun μ6 => if mK μ6 h0 = 7 then if mK μ6 (mX μ5) = 4 then (fX3_init (mX μ5) (mP μ6 h0 0) μ6).bind fun y9 => if mK y9 h0 = 7 then st (sP y9 h0 1 (mX μ5)) fun μ11 => st (sN μ11 4 0) fun μ12 => if mK μ12 h0 = 7 then if mK μ12 (mX μ11) = 4 then (fX3_init (mX μ11) (mP μ12 h0 0) μ12).bind fun y15 => if mK y15 h0 = 7 then st (sP y15 h0 2 (mX μ11)) fun μ17 => some μ17 else none else none else none else none else none else none else none else none
abbrev rmX6_init : Room := { frames := 4, cells := 300, slots := 2349, locals := 79 }
set_option maxRecDepth 100000 in
set_option maxHeartbeats 8000000 in
theorem kX6_init_c (l : Launch) (G : mmG) (A : Nat → Prop) {μ res : MM} {h0 : Nat} (hk0 : mK μ h0 = 7) (hf : fX6_init h0 μ = some res) : Met l yX6_init [.code yX6_init cX6_init 1 none] rmX6_init (mmPc G A μ [rf h0]) (mmQ G A res none) 300 2349 A := by
  refine mm_ofW (by decide +kernel) (by simp [lg_sl, rf_cat, int_cat]) ?_
  intro p e s m below meth c ls S hR hA hS hr hlocks hl hnm
  have hl : lv_has ls 1 [(0, rf h0)] := by simpa [lv_args, rf_cat, int_cat] using hl
  have hK : mmKN μ μ := mmKN.rf
  unfold fX6_init at hf
  refine mm_aload_n S dX6_init_0 rfl (lv_at hl 0 rfl) ?_
  refine mm_obj S hR obX6_1.1 obX6_1.2.1 obX6_1.2.2 (hK.k hk0) hl.1 (Nat.le_of_ble_eq_true rfl) (by simp [rf_cat, int_cat]) dX6_init_1 ?_
  refine mm_aload_n S dX6_init_4 rfl (lv_at hl 0 rfl) ?_
  refine mm_new S hR hS hA nwX6_7 (Nat.le_of_ble_eq_true rfl) (Nat.le_of_ble_eq_true rfl) dX6_init_5 (fun H locs hR hS => ?_)
  obtain ⟨μ1, e1, hf⟩ := stx hf
  rw [← e1] at hR
  have hK : mmKN μ1 μ1 := mmKN.rf
  refine lv_dup S.1 S.2.1 dX6_init_8 (rf_cat _) ?_
  obtain ⟨g2, hf⟩ := gd hf
  obtain ⟨y3, hy3, hf⟩ := bd hf
  refine mm_callI S hR hS hA (As := []) (rest := [rf (mX μ), rf h0]) ciX6_9 (hK.k g2) (kX0_init_c l G A (hK.k g2) hy3) rfl rfl ⟨(Nat.le_of_ble_eq_true rfl), (Nat.le_of_ble_eq_true rfl)⟩ rfl hl.1 rfl (lv_room (by simp [rf_cat, int_cat])) dX6_init_9 ⟨(Nat.le_of_ble_eq_true rfl), (Nat.le_of_ble_eq_true rfl)⟩ (fun H locs hR hS => ?_)
  have hK : mmKN y3 y3 := mmKN.rf
  obtain ⟨g4, hf⟩ := gd hf
  refine mm_putFp S hR hS ffX6_10 (hnm.trans rfl) (hK.k g4) rfl nr_ok fr_ok dX6_init_12 (fun H locs hR hS => ?_)
  obtain ⟨μ5, e5, hf⟩ := stx hf
  rw [← e5] at hR
  have hK : mmKN y3 μ5 := by rw [e5]; exact hK.sP
  refine mm_aload_n S dX6_init_15 rfl (lv_at hl 0 rfl) ?_
  refine mm_new S hR hS hA nwX6_16 (Nat.le_of_ble_eq_true rfl) (Nat.le_of_ble_eq_true rfl) dX6_init_16 (fun H locs hR hS => ?_)
  obtain ⟨μ6, e6, hf⟩ := stx hf
  rw [← e6] at hR
  have hK : mmKN μ6 μ6 := mmKN.rf
  refine lv_dup S.1 S.2.1 dX6_init_19 (rf_cat _) ?_
  refine mm_aload_n S dX6_init_20 rfl (lv_at hl 0 rfl) ?_
  obtain ⟨g7, hf⟩ := gd hf
  refine mm_getp S hR fdX6_10 (hK.k g7) rfl dX6_init_21 ?_
  obtain ⟨g8, hf⟩ := gd hf
  obtain ⟨y9, hy9, hf⟩ := bd hf
  refine mm_callI S hR hS hA (As := [rf (mP μ6 h0 0)]) (rest := [rf (mX μ5), rf h0]) ciX6_18 (hK.k g8) (kX3_init_c l G A (hK.k g8) hy9) rfl rfl ⟨(Nat.le_of_ble_eq_true rfl), (Nat.le_of_ble_eq_true rfl)⟩ rfl hl.1 rfl (lv_room (by simp [rf_cat, int_cat])) dX6_init_24 ⟨(Nat.le_of_ble_eq_true rfl), (Nat.le_of_ble_eq_true rfl)⟩ (fun H locs hR hS => ?_)
  have hK : mmKN y9 y9 := mmKN.rf
  obtain ⟨g10, hf⟩ := gd hf
  refine mm_putFp S hR hS ffX6_21 (hnm.trans rfl) (hK.k g10) rfl nr_ok fr_ok dX6_init_27 (fun H locs hR hS => ?_)
  obtain ⟨μ11, e11, hf⟩ := stx hf
  rw [← e11] at hR
  have hK : mmKN y9 μ11 := by rw [e11]; exact hK.sP
  refine mm_aload_n S dX6_init_30 rfl (lv_at hl 0 rfl) ?_
  refine mm_new S hR hS hA nwX6_16 (Nat.le_of_ble_eq_true rfl) (Nat.le_of_ble_eq_true rfl) dX6_init_31 (fun H locs hR hS => ?_)
  obtain ⟨μ12, e12, hf⟩ := stx hf
  rw [← e12] at hR
  have hK : mmKN μ12 μ12 := mmKN.rf
  refine lv_dup S.1 S.2.1 dX6_init_34 (rf_cat _) ?_
  refine mm_aload_n S dX6_init_35 rfl (lv_at hl 0 rfl) ?_
  obtain ⟨g13, hf⟩ := gd hf
  refine mm_getp S hR fdX6_10 (hK.k g13) rfl dX6_init_36 ?_
  obtain ⟨g14, hf⟩ := gd hf
  obtain ⟨y15, hy15, hf⟩ := bd hf
  refine mm_callI S hR hS hA (As := [rf (mP μ12 h0 0)]) (rest := [rf (mX μ11), rf h0]) ciX6_18 (hK.k g14) (kX3_init_c l G A (hK.k g14) hy15) rfl rfl ⟨(Nat.le_of_ble_eq_true rfl), (Nat.le_of_ble_eq_true rfl)⟩ rfl hl.1 rfl (lv_room (by simp [rf_cat, int_cat])) dX6_init_39 ⟨(Nat.le_of_ble_eq_true rfl), (Nat.le_of_ble_eq_true rfl)⟩ (fun H locs hR hS => ?_)
  have hK : mmKN y15 y15 := mmKN.rf
  obtain ⟨g16, hf⟩ := gd hf
  refine mm_putFp S hR hS ffX6_25 (hnm.trans rfl) (hK.k g16) rfl nr_ok fr_ok dX6_init_42 (fun H locs hR hS => ?_)
  obtain ⟨μ17, e17, hf⟩ := stx hf
  rw [← e17] at hR
  have hK : mmKN y15 μ17 := by rw [e17]; exact hK.sP
  obtain rfl := Option.some.inj hf
  refine W.widen (k := 300) (n := 2349) (Nat.le_of_ble_eq_true rfl) (Nat.le_of_ble_eq_true rfl) ?_
  exact mm_vret S hR hS hr hlocks dX6_init_45
