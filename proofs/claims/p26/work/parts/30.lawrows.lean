/-! ROWS of the law's own body -/
section MM12
variable {p : Program} {l : Launch} {e : Env} {R : Room} {s : State} {m : MethodId} {args : Array Value} {below : List Frame} {meth : Method} {c : Code} {H : Heap} {locs : List Loc} {cells slots : Nat} {Q Q' : State → Prop}
variable {cc : ByteArray} {pc nL : Nat} {ls : Array Slot} {rest st0 : List Value} {own : String} {G : mmG} {A : Nat → Prop} {μ μ' : MM}
theorem csL_19 : mmCS RL 19 yL_cell cL_cell 2 (some .int) 2 := ⟨wl_in2 (by decide +kernel), wl_in2 (by decide +kernel), wl_in2 (by decide +kernel), wl_in2 (by decide +kernel), rfl, rfl, ⟨by decide +kernel, by decide +kernel⟩, by decide +kernel⟩
theorem mm_cell (S : mmS p m c cc nL s args RL G) (hR : mmR G A μ H) (hS : va_S A s.heap H locs) (hA : ∀ q, s.heap.size ≤ q → A q) {b L : Nat} {xs : Nat → Int32} (hX : va_X b L xs s s.heap) (hbl : b < s.heap.size) (hbA : ¬ A b) {k r : Int32} (hf : lcell L xs k = some r) (hroom : 1 ≤ R.frames ∧ 21 ≤ R.locals) (hl : ls.size = nL)
    (hW : (rest.map fun v => v.category).sum ≤ 8) (hdg : decode cc pc = .ok (.invokestatic 19, 3)) (hc : cells ≤ R.cells ∧ slots ≤ R.slots)
    (kk : ∀ (H1 : Heap) (locs1 : List Loc), mmR G A μ H1 → va_S A s.heap H1 locs1 → W p l e R s m args below meth c H1 locs1 cells slots Q (F0 m (pc + 3) ls (.int r :: rest))) : W p l e R s m args below meth c H locs cells slots Q (F0 m pc ls (.int k :: .ref b :: rest)) := by
  obtain ⟨c1, c2, c4, c5, c6, c7, c8, c9⟩ := csL_19
  have hB := mm_callB (R := R) (rm := rmL_cell) S c1 c4 c5 c6 c7 c8 c9 rfl rfl ⟨hroom.1, hroom.2⟩
  refine mm_go (va_runS (As := [.ref b, .int k]) (rest := rest) ⟨S.1, S.2.1, S.2.2.1, S.2.2.2.1, S.2.2.2.2.1⟩ (kL_cell_c l G A hf) ⟨hB, S.2.2.2.2.1 _ c2⟩ ⟨mmPs_blind, fun U hU hW => ⟨rfl, mm_w S hR hU hW, fun q hq => hA q (Nat.le_trans hS.1 (by rw [hU] at hq; exact hq)), ?_, hbA⟩⟩ rfl rfl hl rfl (by show 2 * 0 + _ ≤ 8; omega) hdg hc) hS (fun H1 locs1 a b _ => kk H1 locs1 a b)
  have h1 := va_X.moved (u := s) (U := U) hW.alike hX
  rw [hU]
  exact h1.kept (hS.2.1 b hbl hbA)
theorem mm_callVl (S : mmS p m c cc nL s args own G) (hR : mmR G A μ H) (hS : va_S A s.heap H locs) (hA : ∀ q, s.heap.size ≤ q → A q) {idx ci n maxL h : Nat} {y : MethodName} {bytes : ByteArray} {ret : Option FieldType} {rm : Room} {As : List Value} {r : Int64} (C : mmCV own idx ci y bytes maxL ret n) (hk : mK μ h = ci + 1)
    (hM : Met l y [.code y bytes maxL ret] rm (mmPc G A μ (rf h :: As)) (mmQ G A μ' (some (.long r))) 0 0 A) (hc : rm.cells = 0) (hs : rm.slots = 0) (hroom : rm.frames + 1 ≤ R.frames ∧ 8 + (maxL + 11) + rm.locals ≤ R.locals) (hn : As.length = n) (hl : ls.size = nL) (hst : st0 = As.reverse ++ rf h :: rest)
    (hW : 2 * (F0 m pc ls st0).monitorRoom + (rest.map fun v => v.category).sum ≤ 8) (hdg : decode cc pc = .ok (.invokevirtual idx, 3)) (hf : cells ≤ R.cells ∧ slots ≤ R.slots)
    (kk : ∀ (H1 : Heap) (locs1 : List Loc), mmR G A μ' H1 → va_S A s.heap H1 locs1 → W p l e R s m args below meth c H1 locs1 cells slots Q (F0 m (pc + 3) ls (.long r :: rest))) : W p l e R s m args below meth c H locs cells slots Q (F0 m pc ls st0) :=
  mm_callV S hR hS hA C hk hM hc hs hroom hn hl hst hW hdg hf (fun H1 locs1 a b _ => kk H1 locs1 a b)
theorem mm_callSiA (S : mmS p m c cc nL s args own G) (hR : mmR G A μ H) (hS : va_S A s.heap H locs) (hA : ∀ q, s.heap.size ≤ q → A q) {idx n maxL mc ms : Nat} {y : MethodName} {bytes : ByteArray} {ret : Option FieldType} {rm : Room} {As : List Value} {r : Int32} (C : mmCS own idx y bytes maxL ret n)
    (hM : Met l y [.code y bytes maxL ret] rm (mmPc G A μ As) (mmQ G A μ' (some (.int r))) mc ms A) (hc : rm.cells = mc) (hs : rm.slots = ms) (hroom : rm.frames + 1 ≤ R.frames ∧ 8 + (maxL + 11) + rm.locals ≤ R.locals) (hn : As.length = n) (hl : ls.size = nL) (hst : st0 = As.reverse ++ rest)
    (hW : 2 * (F0 m pc ls st0).monitorRoom + (rest.map fun v => v.category).sum ≤ 8) (hdg : decode cc pc = .ok (.invokestatic idx, 3)) (hf : cells + mc ≤ R.cells ∧ slots + ms ≤ R.slots)
    (kk : ∀ (H1 : Heap) (locs1 : List Loc), mmR G A μ' H1 → va_S A s.heap H1 locs1 → W p l e R s m args below meth c H1 locs1 (cells + mc) (slots + ms) Q (F0 m (pc + 3) ls (.int r :: rest))) : W p l e R s m args below meth c H locs cells slots Q (F0 m pc ls st0) :=
  mm_callS S hR hS hA C hM hc hs hroom hn hl hst hW hdg hf (fun H1 locs1 a b _ => kk H1 locs1 a b)
set_option maxRecDepth 200000 in
theorem wAct9 : tables_1[794]? = some (Cond.codeWith yL_act cL_act 15 (some .boolean) hhAct) := rfl
set_option maxRecDepth 200000 in
theorem wAct : Cond.methodLink RL 35 yL_act ∈ WL ∧ Cond.static yL_act ∈ WL ∧ Cond.initialized RL ∈ WL ∧ Cond.codeWith yL_act cL_act 15 (some .boolean) hhAct ∈ WL ∧ ((Cond.codeWith yL_act cL_act 15 (some .boolean) hhAct).onTables && (Cond.codeWith yL_act cL_act 15 (some .boolean) hhAct).keeps) = true := ⟨wl_in2 (by decide +kernel), wl_in2 (by decide +kernel), wl_in2 (by decide +kernel), wl_t 794 wAct9 rfl, rfl⟩
theorem mm_callAct (S : mmS p m c cc nL s args RL G) (hR : mmR G A μ H) (hS : va_S A s.heap H locs) (hA : ∀ q, s.heap.size ≤ q → A q) (hl0 : l.stackTraces = false) (hXU : mmXU A s) (hN : mmNc s) {h0 : Nat} {x1 : Int32} {res : actR} (hf : fL_act h0 x1 μ = some res) (hz : ∀ g, res = .inr g → ∀ z, mX μ ≤ z → ∃ r, g z = some r) (hroom : rmL_act.frames + 1 ≤ R.frames ∧ 8 + (15 + 11) + rmL_act.locals ≤ R.locals) (hl : ls.size = nL)
    (hW : (rest.map fun v => v.category).sum ≤ 8) (hdg : decode cc pc = .ok (.invokestatic 35, 3)) (hc : cells + 1 ≤ R.cells ∧ slots + 6 ≤ R.slots)
    (kk : ∀ r, actOf μ res r → ∀ (H1 : Heap) (locs1 : List Loc), mmR G A r.2 H1 → va_S A s.heap H1 locs1 → W p l e R s m args below meth c H1 locs1 (cells + 1) (slots + 6) Q (F0 m (pc + 3) ls (.int r.1 :: rest))) : W p l e R s m args below meth c H locs cells slots Q (F0 m pc ls (.int x1 :: rf h0 :: rest)) := by
  have hts := S.2.2.2.2.1
  have hcw : vx_CSW R s args RL 35 yL_act cL_act 15 (some .boolean) hhAct [.codeWith yL_act cL_act 15 (some .boolean) hhAct] rmL_act 1 6 2 := by
    refine ⟨⟨rfl, rfl, hroom.1, hroom.2, fun w hw a' U hW => ?_, List.mem_cons_self⟩, hts _ wAct.2.2.2.1, hts _ wAct.2.2.1, ⟨by decide +kernel, by decide +kernel⟩, fun sig h => ?_, hts _ wAct.1, hts _ wAct.2.1⟩
    · rw [List.mem_singleton.mp hw]
      exact word_at hW (Or.inl wAct.2.2.2.2) (hts _ wAct.2.2.2.1)
    · have h2 : (parseMethodDescriptor yL_act.desc).map (fun d => d.parameters.length) = some 2 := by decide +kernel
      rw [h] at h2
      exact (Option.some.inj h2).symm
  have hr := vx_runSW (e := e) (below := below) (meth := meth) (locs := locs) (cells := cells) (slots := slots) (As := [rf h0, .int x1]) (rest := rest) ⟨S.1, S.2.1, S.2.2.1, S.2.2.2.1, S.2.2.2.2.1⟩ (kL_act_c l hl0 G A hf hz) hcw ⟨mmPa_blind, fun U hU hW => ⟨rfl, mm_w S hR hU hW, fun q hq => hA q (Nat.le_trans hS.1 (by rw [hU] at hq; exact hq)), hXU.warm hS hU hW, va_Nc.moved (u := s) (U := U) hW.alike hN⟩⟩ (g := F0 m pc ls (.int x1 :: rf h0 :: rest)) rfl rfl hl rfl (by show 2 * 0 + _ ≤ 8; omega) hdg hc
  intro T hT X
  obtain ⟨v, st₀, t, T', L, h0', X', hL, e1, e2, ⟨r, har, hv, hw, hz9, hk⟩, st⟩ := hr T hT X
  cases hv
  rw [h0'] at hz9 hk
  obtain ⟨t2, a1, b1⟩ := kk r har T'.heap (locs ++ L) (by rw [e1]; exact hw.1)
    ⟨Nat.le_trans hS.1 (by rw [e1]; exact hz9), fun q h1 h2 => by rw [e1, hk q (Nat.lt_of_lt_of_le h1 hS.1) h2]; exact hS.2.1 q h1 h2, fun q hq => by
      rcases List.mem_append.mp hq with h | h
      · exact hS.2.2 q h
      · exact hL q h⟩ T' rfl X'
  exact ⟨t2, st t2 a1, b1⟩
end MM12
