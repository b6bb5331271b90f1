theorem obX7_1 : Cond.methodLink RX7 1 Lib.objectInit ∈ WL ∧ Cond.instanceMethod Lib.objectInit ∈ WL ∧ Cond.code Lib.objectInit ⟨#[0xb1]⟩ 1 none ∈ WL := ⟨wl_in2 (by decide +kernel), wl_in2 (by decide +kernel), wl_in2 (by decide +kernel)⟩
theorem mcX7_7 : Cond.classLink RX7 7 ("[" ++ (FieldType.array (.array .int)).toString) ∈ WL := wl_in2 (by decide +kernel)
theorem ffX7_9 : mmFF RX7 9 7 0 (.array (.array (.array (.int)))) := ⟨RX7, TX7, 3, tyX7, rfl, by decide, by decide, rfl, rfl, wsX7_in, (wl_t 719 (by decide +kernel) (by decide +kernel)), tyX7_ok, nmX7, rfl, by decide +kernel⟩
theorem ffX7_14 : mmFF RX7 14 7 1 (.array (.int)) := ⟨RX7, TX7, 3, tyX7, rfl, by decide, by decide, rfl, rfl, wsX7_in, (wl_t 721 (by decide +kernel) (by decide +kernel)), tyX7_ok, nmX7, rfl, by decide +kernel⟩
theorem kcL_8 : Cond.constant RL 8 790386105 ∈ WL := (wl_t 791 (by decide +kernel) (by decide +kernel))
-- X7_init
set_option maxRecDepth 100000 in
def fX7_init (h0 : Nat) (μ : MM) : Option MM :=
  st (sM μ 25 24 8 12) fun μ1 => if mK μ1 h0 = 8 then st (sP μ1 h0 0 (mX μ)) fun μ3 => st (sN μ3 20 8) fun μ4 => if mK μ4 h0 = 8 then st (sP μ4 h0 1 (mX μ3)) fun μ6 => some μ6 else none else none
abbrev rmX7_init : Room := { frames := 1, cells := 10, slots := 112, locals := 16 }
set_option maxRecDepth 100000 in
set_option maxHeartbeats 8000000 in
theorem kX7_init_c (l : Launch) (G : mmG) (A : Nat → Prop) {μ res : MM} {h0 : Nat} (hk0 : mK μ h0 = 8) (hf : fX7_init h0 μ = some res) : Met l yX7_init [.code yX7_init cX7_init 1 none] rmX7_init (mmPc G A μ [rf h0]) (mmQ G A res none) 10 112 A := by
  refine mm_ofW (by decide +kernel) (by simp [lg_sl, rf_cat, int_cat]) ?_
  intro p e s m below meth c ls S hR hA hS hr hlocks hl hnm
  have hl : lv_has ls 1 [(0, rf h0)] := by simpa [lv_args, rf_cat, int_cat] using hl
  have hK : mmKN μ μ := mmKN.rf
  unfold fX7_init at hf
  refine mm_aload_n S dX7_init_0 rfl (lv_at hl 0 rfl) ?_
  refine mm_obj S hR obX7_1.1 obX7_1.2.1 obX7_1.2.2 (hK.k hk0) hl.1 (Nat.le_of_ble_eq_true rfl) (by simp [rf_cat, int_cat]) dX7_init_1 ?_
  refine mm_aload_n S dX7_init_4 rfl (lv_at hl 0 rfl) ?_
  refine lv_bipush (v := 8) S.1 S.2.1 dX7_init_5 (by decide) ?_
  refine lv_bipush (v := 12) S.1 S.2.1 dX7_init_7 (by decide) ?_
  refine mm_mna (N := 8) (K := 12) S hR hS hA (Or.inr ⟨rfl, rfl, rfl⟩) mcX7_7 (by decide) (by decide) (by decide) (by decide) (by decide) (by decide) (Nat.le_of_ble_eq_true rfl) (Nat.le_of_ble_eq_true rfl) dX7_init_9 (fun H locs hR hS => ?_)
  obtain ⟨μ1, e1, hf⟩ := stx hf
  rw [← e1] at hR
  have hK : mmKN μ1 μ1 := mmKN.rf
  obtain ⟨g2, hf⟩ := gd hf
  refine mm_putFp S hR hS ffX7_9 (hnm.trans rfl) (hK.k g2) rfl nra_ok fra_ok dX7_init_13 (fun H locs hR hS => ?_)
  obtain ⟨μ3, e3, hf⟩ := stx hf
  rw [← e3] at hR
  have hK : mmKN μ1 μ3 := by rw [e3]; exact hK.sP
  refine mm_aload_n S dX7_init_16 rfl (lv_at hl 0 rfl) ?_
  refine lv_bipush (v := 8) S.1 S.2.1 dX7_init_17 (by decide) ?_
  refine mm_newiK (N := 8) S hR hS hA wAint (by decide) (by decide) (by decide) (Nat.le_of_ble_eq_true rfl) (Nat.le_of_ble_eq_true rfl) dX7_init_19 (fun H locs hR hS => ?_)
  obtain ⟨μ4, e4, hf⟩ := stx hf
  rw [← e4] at hR
  have hK : mmKN μ4 μ4 := mmKN.rf
  obtain ⟨g5, hf⟩ := gd hf
  refine mm_putFp S hR hS ffX7_14 (hnm.trans rfl) (hK.k g5) rfl nra_ok fra_ok dX7_init_21 (fun H locs hR hS => ?_)
  obtain ⟨μ6, e6, hf⟩ := stx hf
  rw [← e6] at hR
  have hK : mmKN μ4 μ6 := by rw [e6]; exact hK.sP
  obtain rfl := Option.some.inj hf
  refine W.widen (k := 10) (n := 112) (Nat.le_of_ble_eq_true rfl) (Nat.le_of_ble_eq_true rfl) ?_
  exact mm_vret S hR hS hr hlocks dX7_init_24

/-- a script's cell, as the law reads it -/
def lcell (L : Nat) (xs : Nat → Int32) (k : Int32) : Option Int32 := if Int32.ofNat L ≤ k then some (790386105 * (k + 3)) else if ¬ (k < 0 ∨ L ≤ k.toNatClampNeg) then some (xs k.toNatClampNeg) else none
abbrev rmL_cell : Room := { frames := 0, cells := 0, slots := 0, locals := 0 }
def mmPs (G : mmG) (A : Nat → Prop) (μ : MM) (b L : Nat) (xs : Nat → Int32) (av : List Value) : Array Value → State → Prop := va_Pc av (fun U => mmW G A μ U ∧ (∀ q, U.heap.size ≤ q → A q) ∧ va_X b L xs U U.heap ∧ ¬ A b)
theorem mmPs_blind {G : mmG} {A : Nat → Prop} {μ : MM} {b L : Nat} {xs : Nat → Int32} {av : List Value} : FrameBlind (mmPs G A μ b L xs av) := fun a U g mk q => ⟨q.1, q.2.1.calling g mk a, q.2.2.1, va_X.moved (u := U) (U := U.calling g mk a) (Vm.Alike.refl U.vm) q.2.2.2.1, q.2.2.2.2⟩
set_option maxRecDepth 100000 in
set_option maxHeartbeats 4000000 in
theorem kL_cell_c (l : Launch) (G : mmG) (A : Nat → Prop) {μ : MM} {b L : Nat} {xs : Nat → Int32} {x1 r : Int32} (hf : lcell L xs x1 = some r) : Met l yL_cell [.code yL_cell cL_cell 2 (some .int)] rmL_cell (mmPs G A μ b L xs [.ref b, .int x1]) (mmQ G A μ (some (.int r))) 0 0 A := by
  refine Met.ofW (cc := cL_cell) (maxL := 2) (ret := some .int) (by decide +kernel) rfl ?_
  intro p e s m args below meth c s₁ B hml hv
  obtain ⟨rfl, hw, hA, hX, hbA⟩ := hv
  have hl := lv_entry [.ref b, .int x1] (n := 2) (by simp [lg_sl, int_cat, Value.category])
  rw [lg_entry_eq]
  generalize (lg_sl [.ref b, .int x1] ++ List.replicate (2 - (lg_sl [.ref b, .int x1]).length) Slot.unset).toArray = ls at hl ⊢
  have hl : lv_has ls 2 [(0, .ref b), (1, .int x1)] := hl
  have S : mmS p m c cL_cell 2 s ([.ref b, .int x1] : List Value).toArray RL G := ⟨B.exec, B.bytes, hml, findClass_of_methodNamed B.named, fun w hw' => mmUse (List.mem_filter.mp hw').2 (hw.2.2 w hw'), hw.2.1⟩
  have hR := hw.1
  have hS : va_S A s.heap s.heap [] := va_S.rf
  have hr := B.returns
  have hlocks := B.notSynchronized
  have hbl : b < s.heap.size := by obtain ⟨scr, h1, -⟩ := hX; exact (Array.getElem?_eq_some_iff.mp h1).1
  change W p l e rmL_cell s m ([.ref b, .int x1] : List Value).toArray below meth c s.heap [] 0 0 (MQ below (mmQ G A μ (some (.int r))) ([.ref b, .int x1] : List Value).toArray s 0 0 A) (F0 m 0 ls [])
  unfold lcell at hf
  refine lv_iload_n S.1 S.2.1 dL_cell_0 rfl (lv_at hl 1 rfl) ?_
  refine lv_aload_n S.1 S.2.1 dL_cell_1 rfl (lv_at hl 0 rfl) ?_
  refine va_slen S.1 S.2.1 hX hbl hbA hS dL_cell_2 ?_
  refine lv_icmp_ge (tgt := 12) S.1 S.2.1 dL_cell_3 (by decide) (fun c1 => ?_) (fun c1 => ?_)
  · have hf := it_t hf c1
    refine lv_ldc (v := 790386105) S.1 S.2.1 S.2.2.2.1 (S.2.2.2.2.1 _ kcL_8) dL_cell_12 ?_
    refine lv_iload_n S.1 S.2.1 dL_cell_14 rfl (lv_at hl 1 rfl) ?_
    refine lv_iconst (v := 3) S.1 S.2.1 dL_cell_15 (by decide) ?_
    refine lv_iadd S.1 S.2.1 dL_cell_16 ?_
    refine lv_imul S.1 S.2.1 dL_cell_17 ?_
    obtain rfl := Option.some.inj hf
    exact mm_iret S hR hS hr hlocks dL_cell_18
  · have hf := it_f hf c1
    obtain ⟨g, hf⟩ := gd hf
    refine lv_aload_n S.1 S.2.1 dL_cell_6 rfl (lv_at hl 0 rfl) ?_
    refine lv_iload_n S.1 S.2.1 dL_cell_7 rfl (lv_at hl 1 rfl) ?_
    refine va_sld S.1 S.2.1 hX hbl hbA hS g dL_cell_8 ?_
    refine lv_goto (tgt := 18) S.1 S.2.1 dL_cell_9 (by decide) ?_
    obtain rfl := Option.some.inj hf
    exact mm_iret S hR hS hr hlocks dL_cell_18
