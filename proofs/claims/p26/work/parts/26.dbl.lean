/-! DOUBLES: a method's answer that is one, its call; the size of one (java.lang.Math.abs) -/
section MM10
variable {p : Program} {l : Launch} {e : Env} {R : Room} {s : State} {m : MethodId} {args : Array Value} {below : List Frame} {meth : Method} {c : Code} {H : Heap} {locs : List Loc} {cells slots : Nat} {Q Q' : State → Prop}
variable {cc : ByteArray} {pc nL : Nat} {ls : Array Slot} {rest st0 : List Value} {own : String} {G : mmG} {A : Nat → Prop} {μ μ' : MM}
theorem dbl_cat (x : UInt64) : (Value.double x).category = 2 := rfl
theorem mm_dret (S : mmS p m c cc nL s args own G) (hR : mmR G A μ H) (hS : va_S A s.heap H locs) (hr : meth.sig.returnType = some .double) (hlocks : meth.locks = false) {v : UInt64} (hdg : decode cc pc = .ok (.dreturn, 1)) : W p l e R s m args below meth c H locs cells slots (MQ below (mmQ G A μ (some (.double v))) args s cells slots A) (F0 m pc ls [.double v]) :=
  W.dret S.1 S.2.1 hr (fun t ht hW => ⟨rfl, mm_w S hR ht hW, hS.F ht⟩) hS.2.2 hdg hlocks
theorem mm_callVd (S : mmS p m c cc nL s args own G) (hR : mmR G A μ H) (hS : va_S A s.heap H locs) (hA : ∀ q, s.heap.size ≤ q → A q) {idx ci n maxL h : Nat} {y : MethodName} {bytes : ByteArray} {ret : Option FieldType} {rm : Room} {As : List Value} {r : UInt64} (C : mmCV own idx ci y bytes maxL ret n) (hk : mK μ h = ci + 1)
    (hM : Met l y [.code y bytes maxL ret] rm (mmPc G A μ (rf h :: As)) (mmQ G A μ' (some (.double r))) 0 0 A) (hc : rm.cells = 0) (hs : rm.slots = 0) (hroom : rm.frames + 1 ≤ R.frames ∧ 8 + (maxL + 11) + rm.locals ≤ R.locals) (hn : As.length = n) (hl : ls.size = nL) (hst : st0 = As.reverse ++ rf h :: rest)
    (hW : 2 * (F0 m pc ls st0).monitorRoom + (rest.map fun v => v.category).sum ≤ 8) (hdg : decode cc pc = .ok (.invokevirtual idx, 3)) (hf : cells ≤ R.cells ∧ slots ≤ R.slots)
    (kk : ∀ (H1 : Heap) (locs1 : List Loc), mmR G A μ' H1 → va_S A s.heap H1 locs1 → W p l e R s m args below meth c H1 locs1 cells slots Q (F0 m (pc + 3) ls (.double r :: rest))) : W p l e R s m args below meth c H locs cells slots Q (F0 m pc ls st0) :=
  mm_callV S hR hS hA C hk hM hc hs hroom hn hl hst hW hdg hf (fun H1 locs1 a b _ => kk H1 locs1 a b)
theorem mm_callSd (S : mmS p m c cc nL s args own G) (hR : mmR G A μ H) (hS : va_S A s.heap H locs) (hA : ∀ q, s.heap.size ≤ q → A q) {idx n maxL : Nat} {y : MethodName} {bytes : ByteArray} {ret : Option FieldType} {rm : Room} {As : List Value} {r : UInt64} (C : mmCS own idx y bytes maxL ret n)
    (hM : Met l y [.code y bytes maxL ret] rm (mmPc G A μ As) (mmQ G A μ' (some (.double r))) 0 0 A) (hc : rm.cells = 0) (hs : rm.slots = 0) (hroom : rm.frames + 1 ≤ R.frames ∧ 8 + (maxL + 11) + rm.locals ≤ R.locals) (hn : As.length = n) (hl : ls.size = nL) (hst : st0 = As.reverse ++ rest)
    (hW : 2 * (F0 m pc ls st0).monitorRoom + (rest.map fun v => v.category).sum ≤ 8) (hdg : decode cc pc = .ok (.invokestatic idx, 3)) (hf : cells ≤ R.cells ∧ slots ≤ R.slots)
    (kk : ∀ (H1 : Heap) (locs1 : List Loc), mmR G A μ' H1 → va_S A s.heap H1 locs1 → W p l e R s m args below meth c H1 locs1 cells slots Q (F0 m (pc + 3) ls (.double r :: rest))) : W p l e R s m args below meth c H locs cells slots Q (F0 m pc ls st0) :=
  mm_callS S hR hS hA C hM hc hs hroom hn hl hst hW hdg hf (fun H1 locs1 a b _ => kk H1 locs1 a b)
def dabs (x : UInt64) : Option UInt64 := if x &&& 0x7fffffffffffffff ≤ 0x7ff0000000000000 then some (x &&& 0x7fffffffffffffff) else none
theorem wDabs : Cond.methodLink RL 127 Jvm.Free.Fl.Abs.absDN ∈ WL ∧ Cond.static Jvm.Free.Fl.Abs.absDN ∈ WL ∧ Cond.initialized "java/lang/Math" ∈ WL ∧ Cond.code Jvm.Free.Fl.Abs.absDN Jvm.Free.Fl.Abs.absDCode 2 (some .double) ∈ WL := ⟨wl_in2 (by decide +kernel), wl_in2 (by decide +kernel), wl_in2 (by decide +kernel), wl_in2 (by decide +kernel)⟩
theorem mm_dabs (S : mmS p m c cc nL s args RL G) {x r : UInt64} (hf : dabs x = some r) (hl : ls.size = nL) (hframes : 1 ≤ R.frames) (hlocals : 21 ≤ R.locals) (hW : (rest.map fun v => v.category).sum ≤ 8) (hc : cells ≤ R.cells ∧ slots ≤ R.slots) (hdg : decode cc pc = .ok (.invokestatic 127, 3))
    (kk : W p l e R s m args below meth c H locs cells slots Q (F0 m (pc + 3) ls (.double r :: rest))) : W p l e R s m args below meth c H locs cells slots Q (F0 m pc ls (.double x :: rest)) := by
  obtain ⟨hx, hb, hml, hown, hts, -⟩ := S
  unfold dabs at hf
  obtain ⟨g, hf⟩ := gd hf
  obtain rfl := Option.some.inj hf
  have hK := Jvm.Free.Fl.Abs.absD_pays (l := l) (R := R) (p := p) (e := e) (below := below) (s := s) (sargs := args) (len := 3) (W := 8) x (hts _ wDabs.2.2.2) hframes hlocals
  intro T hT X
  obtain ⟨v, vm₁, B, hW₁, X', ⟨hv, hB⟩, st⟩ := callS X hx (bytes := Jvm.Free.Fl.Abs.absDCode) (maxL := 2) (ret := some .double) hown (hts _ wDabs.1) (hts _ wDabs.2.1) (hts _ wDabs.2.2.1) (hts _ wDabs.2.2.2) (by decide +kernel) hK (g := F0 m pc ls (.double x :: rest)) rfl (by rw [hml]; exact hl) (argsL := [.double x]) (rest := rest) (fun sig h => by
      have h2 : (parseMethodDescriptor Jvm.Free.Fl.Abs.absDN.desc).map (fun d => d.parameters.length) = some 1 := by decide +kernel
      rw [h] at h2
      exact (Option.some.inj h2).symm) rfl (by show 2 * 0 + _ ≤ 8; omega) (by rw [hb]; exact hdg) (fun vm₁ hW₁ => ⟨hc.1, hc.2, rfl, g⟩)
  subst hv
  subst hB
  obtain ⟨t, a1, b1⟩ := kk (T.setVm vm₁) hT X'
  exact ⟨t, st t a1, b1⟩
end MM10
