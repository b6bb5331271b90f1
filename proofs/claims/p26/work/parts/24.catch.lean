/-! CATCHING: a call that throws, and the row of the caller's table that takes it -/
section MM9
variable {p : Program} {l : Launch} {e : Env} {R : Room} {s : State} {m : MethodId} {args : Array Value} {below : List Frame} {meth : Method} {c : Code} {H : Heap} {locs : List Loc} {cells slots : Nat} {Q Q' : State → Prop}
variable {cc : ByteArray} {pc nL : Nat} {ls : Array Slot} {rest st0 : List Value} {own : String} {G : mmG} {A : Nat → Prop} {μ μ' : MM}
theorem W.mono9 {g : JFrame} (h : ∀ t, Q t → Q' t) (k : W p l e R s m args below meth c H locs cells slots Q g) : W p l e R s m args below meth c H locs cells slots Q' g := by
  intro T hT X
  obtain ⟨t, a, b⟩ := k T hT X
  exact ⟨t, a, h t b⟩
theorem MQ.mono9 {Qc Qc' : Array Value → State → Outcome → State → Prop} {mc ms : Nat} {free : Addr → Prop} (h : ∀ oc t, Qc args s oc t → Qc' args s oc t) : ∀ t, MQ below Qc args s mc ms free t → MQ below Qc' args s mc ms free t := by
  rintro t ⟨o, h1, h2, h3, h4⟩
  exact ⟨o, h1, h2, h o t h3, h4⟩
theorem mm_catchV (S : mmS p m c cc nL s args own G) (hR : mmR G A μ H) (hS : va_S A s.heap H locs) (hA : ∀ q, s.heap.size ≤ q → A q) (hX : mmXU A s) {idx ci n maxL h : Nat} {y : MethodName} {bytes : ByteArray} {ret : Option FieldType} {rm : Room} {As : List Value} {E0 : String} (C : mmCV own idx ci y bytes maxL ret n) (hk : mK μ h = ci + 1)
    (hM : vx_Met l y [.code y bytes maxL ret] rm (mmPx G A μ (rf h :: As)) (fun _ _ _ _ => False) (mmXC G A μ' E0) 1 6 A) (hc : rm.cells = 1) (hs : rm.slots = 6) (hroom : rm.frames + 1 ≤ R.frames ∧ 8 + (maxL + 11) + rm.locals ≤ R.locals) (hn : As.length = n) (hl : ls.size = nL) (hst : st0 = As.reverse ++ rf h :: rest)
    (hW : 2 * (F0 m pc ls st0).monitorRoom + (rest.map fun v => v.category).sum ≤ 8) (hdg : decode cc pc = .ok (.invokevirtual idx, 3)) (hf : cells + 1 ≤ R.cells ∧ slots + 6 ≤ R.slots)
    (pre : List ExceptionTableEntry) (x : ExceptionTableEntry) (suf : List ExceptionTableEntry) (hsplit : c.exceptionTable.toList = pre ++ x :: suf)
    (hpass : ∀ z ∈ pre, covers z pc = false ∨ (z.catchType ≠ 0 ∧ ∃ nm : String, (Cond.classLink own z.catchType nm).before args s = true ∧ va_Nc E0 nm s)) (hx : covers x pc = true) (h0 : x.catchType ≠ 0)
    (hlink : Cond.classLink own x.catchType E0 ∈ WL) (hcast : Cond.castable E0 E0 ∈ WL)
    (kk : ∀ (q : Addr) (H1 : Heap) (locs1 : List Loc), mmR G A (sX μ' (H1.size + 1)) H1 → va_S A s.heap H1 locs1 → H.size ≤ H1.size → W p l e R s m args below meth c H1 locs1 (cells + 1) (slots + 6) Q (F0 m x.handlerPc ls [.ref q])) : W p l e R s m args below meth c H locs cells slots Q (F0 m pc ls st0) := by
  obtain ⟨T0, N0, hcl, hci, c1, c2, c3, c4, c5, c6, c7, c8, c9⟩ := C
  obtain ⟨a, rfl, hAa, hat⟩ := hR.ref hk
  rw [mmE_obj hk hci] at hat
  have hts := S.2.2.2.2.1
  have hB := mm_callB (R := R) S c1 c4 c5 c6 c7 c8 c9 hc hs hroom
  have hr := vx_runV (e := e) (below := below) (meth := meth) (cells := cells) (slots := slots) (locs := locs) (As := As) (rest := rest) ⟨S.1, S.2.1, S.2.2.1, S.2.2.2.1, S.2.2.2.2.1⟩ hM ⟨hB, hts _ c2, hts _ c3⟩ ⟨mmPx_blind, va_recv (q0 := 0) S.2.2.2.2.2 (mm_one hat) hcl rfl, fun U hU hW => ⟨rfl, mm_w S hR hU hW, fun q hq => hA q (Nat.le_trans hS.1 (by rw [hU] at hq; exact hq)), hX.warm hS hU hW⟩⟩ (g := F0 m pc ls st0) rfl hn hl hst hW hdg hf
  intro T hT X
  rcases hr T hT X with ⟨v, st₀, t, T', L, h0', X', hL, e1, e2, hF, st⟩ | ⟨q, st₀, t, T', L, E, ce, h0', X', hL, e1, e2, ⟨hE, hRt, hFt⟩, hce, hcv, hcl9, st⟩
  · exact hF.elim
  · subst hE
    rw [← e1] at hRt
    obtain ⟨hz, hkp⟩ := hFt
    rw [h0', ← e1] at hz
    rw [h0'] at hkp
    have hS1 : va_S A s.heap T'.heap (locs ++ L) := ⟨Nat.le_trans hS.1 hz, fun q h1 h2 => by rw [e1, hkp q (Nat.lt_of_lt_of_le h1 hS.1) h2]; exact hS.2.1 q h1 h2, fun q hq => by
      rcases List.mem_append.mp hq with h | h
      · exact hS.2.2 q h
      · exact hL q h⟩
    obtain ⟨t2, a1, b1⟩ := vx_catch (ls := ls) (rest := rest) (pc := pc) S.2.2.2.1 pre x suf hsplit hpass hx h0 (hts _ hlink) (hts _ hcast) (by rw [e1]; exact hce) hcv hcl9 (kk q T'.heap (locs ++ L) hRt hS1 hz) T' rfl X'
    exact ⟨t2, st.trans a1, b1⟩
abbrev actR : Type := (Int32 × MM) ⊕ (Nat → Option (Int32 × MM))
/-- what act may answer: where it threw and caught, with any next handle behind it -/
def actOf (μ : MM) (res : actR) (r : Int32 × MM) : Prop := res = .inl r ∨ ∃ g z, res = .inr g ∧ mX μ ≤ z ∧ g z = some r
def mmQA (G : mmG) (A : Nat → Prop) (μ : MM) (res : actR) : Array Value → State → Outcome → State → Prop := fun a st oc t => ∃ r, actOf μ res r ∧ mmQ G A r.2 (some (.int r.1)) a st oc t
def mmNc (U : State) : Prop := va_Nc "java/lang/IllegalStateException" "java/lang/IndexOutOfBoundsException" U
def mmPa (G : mmG) (A : Nat → Prop) (μ : MM) (av : List Value) : Array Value → State → Prop := va_Pc av (fun U => mmW G A μ U ∧ (∀ q, U.heap.size ≤ q → A q) ∧ mmXU A U ∧ mmNc U)
theorem mmPa_blind {av : List Value} : FrameBlind (mmPa G A μ av) := fun a U g mk q => ⟨q.1, q.2.1.calling g mk a, q.2.2.1, q.2.2.2.1.calling g mk a, va_Nc.moved (u := U) (U := U.calling g mk a) (Vm.Alike.refl U.vm) q.2.2.2.2⟩
def hhAct : List (Nat × Nat × Nat × Nat) := [(18, 126, 552, 100), (127, 164, 552, 100), (165, 219, 552, 100), (220, 241, 552, 100), (242, 318, 552, 100), (319, 401, 552, 100), (402, 473, 552, 100), (474, 551, 552, 100), (18, 126, 579, 102), (127, 164, 579, 102), (165, 219, 579, 102), (220, 241, 579, 102), (242, 318, 579, 102), (319, 401, 579, 102), (402, 473, 579, 102), (474, 551, 579, 102)]
theorem wlI : Cond.classLink RL 100 "java/lang/IndexOutOfBoundsException" ∈ WL := wl_in2 (by decide +kernel)
theorem wlS : Cond.classLink RL 102 "java/lang/IllegalStateException" ∈ WL := wl_in2 (by decide +kernel)
theorem wcI : Cond.castable "java/lang/IndexOutOfBoundsException" "java/lang/IndexOutOfBoundsException" ∈ WL := wl_in2 (by decide +kernel)
theorem wcS : Cond.castable "java/lang/IllegalStateException" "java/lang/IllegalStateException" ∈ WL := wl_in2 (by decide +kernel)
/-- the rows ahead don't take it: the first eight name another -/
theorem act_pass (S : mmS p m c cc nL s args RL G) (hN : mmNc s) {pre : List ExceptionTableEntry} (h : ∀ z ∈ pre, covers z pc = false ∨ z.catchType = 100) : ∀ z ∈ pre, covers z pc = false ∨ (z.catchType ≠ 0 ∧ ∃ nm : String, (Cond.classLink RL z.catchType nm).before args s = true ∧ va_Nc "java/lang/IllegalStateException" nm s) := by
  intro z hz
  rcases h z hz with h | h
  · exact Or.inl h
  · exact Or.inr ⟨by rw [h]; decide, _, by rw [h]; exact S.2.2.2.2.1 _ wlI, hN⟩
end MM9
