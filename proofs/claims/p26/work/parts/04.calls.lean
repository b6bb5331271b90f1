/-! A METHOD'S BODY, AND CALLS, over the memory -/
section MM2
theorem mmW.calling {G : mmG} {A : Nat → Prop} {μ : MM} {U : State} (g : JFrame) (mk : MethodId) (a : Array Value) (h : mmW G A μ U) : mmW G A μ (U.calling g mk a) :=
  ⟨h.1, va_K.moved (u := U) (U := U.calling g mk a) (Vm.Alike.refl U.vm) h.2.1, fun w hw => mmSame (U := U) (V := U.calling g mk a) (List.mem_filter.mp hw).2 rfl (h.2.2 w hw)⟩
theorem mmPc_blind {G : mmG} {A : Nat → Prop} {μ : MM} {av : List Value} : FrameBlind (mmPc G A μ av) := fun a U g mk q => ⟨q.1, q.2.1.calling g mk a, q.2.2⟩
theorem mm_ofW {l : Launch} {y : MethodName} {cc : ByteArray} {maxL : Nat} {ret : Option FieldType} {rm : Room} {G : mmG} {A : Nat → Prop} {μ : MM} {av : List Value} {Qc : Array Value → State → Outcome → State → Prop} {mc ms : Nat}
    (hy : plainName y.cls = true) (hL : (lg_sl av).length ≤ maxL)
    (body : ∀ (p : Program) (e : Env) (s : State) (m : MethodId) (below : List Frame) (meth : Method) (c : Code) (ls : Array Slot), mmS p m c cc maxL s av.toArray y.cls G → mmR G A μ s.heap → (∀ q, s.heap.size ≤ q → A q) → va_S A s.heap s.heap [] → meth.sig.returnType = ret → meth.locks = false → lv_has ls maxL (lv_args 0 av) → meth.name = y.name →
      W p l e rm s m av.toArray below meth c s.heap [] 0 0 (MQ below Qc av.toArray s mc ms A) (F0 m 0 ls [])) : Met l y [.code y cc maxL ret] rm (mmPc G A μ av) Qc mc ms A := by
  refine Met.ofW (cc := cc) (maxL := maxL) (ret := ret) hy rfl ?_
  intro p e s m args below meth c s₁ B hml hv
  obtain ⟨rfl, hw, hA⟩ := hv
  have hl := lv_entry av (n := maxL) hL
  rw [lg_entry_eq]
  exact body p e s m below meth c _ ⟨B.exec, B.bytes, hml, findClass_of_methodNamed B.named, fun w hw' => mmUse (List.mem_filter.mp hw').2 (hw.2.2 w hw'), hw.2.1⟩ hw.1 hA va_S.rf B.returns B.notSynchronized hl (name_of_methodNamed B.named B.method).1
/-- what the tables say of a method's call: by its constant, an object of class ci receives it -/
def mmCV (own : String) (idx ci : Nat) (y : MethodName) (bytes : ByteArray) (maxL : Nat) (ret : Option FieldType) (n : Nat) : Prop :=
  ∃ (T : u_T) (N : Nat), vwCl[ci]? = some (y.cls, T, N) ∧ ci < 19 ∧ Cond.methodLink own idx y ∈ WL ∧ Cond.instanceMethod y ∈ WL ∧ Cond.selects y.cls y y ∈ WL ∧ Cond.initialized y.cls ∈ WL ∧ Cond.code y bytes maxL ret ∈ WL ∧ (Cond.code y bytes maxL ret).onTables = true ∧ (Cond.code y bytes maxL ret).keeps = true ∧
  (y.cls ≠ "java/lang/invoke/MethodHandle" ∧ y.cls ≠ "java/lang/invoke/VarHandle") ∧ (parseMethodDescriptor y.desc).map (fun d => d.parameters.length) = some n
def mmCS (own : String) (idx : Nat) (y : MethodName) (bytes : ByteArray) (maxL : Nat) (ret : Option FieldType) (n : Nat) : Prop :=
  Cond.methodLink own idx y ∈ WL ∧ Cond.static y ∈ WL ∧ Cond.initialized y.cls ∈ WL ∧ Cond.code y bytes maxL ret ∈ WL ∧ (Cond.code y bytes maxL ret).onTables = true ∧ (Cond.code y bytes maxL ret).keeps = true ∧
  (y.cls ≠ "java/lang/invoke/MethodHandle" ∧ y.cls ≠ "java/lang/invoke/VarHandle") ∧ (parseMethodDescriptor y.desc).map (fun d => d.parameters.length) = some n
variable {p : Program} {l : Launch} {e : Env} {R : Room} {s : State} {m : MethodId} {args : Array Value} {below : List Frame} {meth : Method} {c : Code} {H : Heap} {locs : List Loc} {cells slots : Nat} {Q : State → Prop}
variable {cc : ByteArray} {pc nL : Nat} {ls : Array Slot} {rest st0 : List Value} {own : String} {G : mmG} {A : Nat → Prop} {μ μ' : MM}
theorem mm_callB (S : mmS p m c cc nL s args own G) {idx n maxL mc ms : Nat} {y : MethodName} {bytes : ByteArray} {ret : Option FieldType} {rm : Room} (hlink : Cond.methodLink own idx y ∈ WL) (hini : Cond.initialized y.cls ∈ WL) (hcode : Cond.code y bytes maxL ret ∈ WL) (ht : (Cond.code y bytes maxL ret).onTables = true) (hk : (Cond.code y bytes maxL ret).keeps = true) (hy : y.cls ≠ "java/lang/invoke/MethodHandle" ∧ y.cls ≠ "java/lang/invoke/VarHandle") (hn : (parseMethodDescriptor y.desc).map (fun d => d.parameters.length) = some n)
    (hc : rm.cells = mc) (hs : rm.slots = ms) (hroom : rm.frames + 1 ≤ R.frames ∧ 8 + (maxL + 11) + rm.locals ≤ R.locals) : CallB R s args own idx y bytes maxL ret [.code y bytes maxL ret] rm mc ms n := by
  have hts := S.2.2.2.2.1
  refine ⟨hc, hs, hroom.1, hroom.2, fun w hw a' U hW => ?_, List.mem_cons_self, hts _ hcode, hts _ hini, hy, fun sig h => ?_, hts _ hlink⟩
  · rw [List.mem_singleton.mp hw]
    exact word_at hW (Or.inl (by rw [ht, hk]; rfl)) (hts _ hcode)
  · rw [h] at hn
    exact (Option.some.inj hn).symm
theorem mm_go {mc ms : Nat} {a : Array Value} {ov : Option Value} (hr : va_Run p l e R s m args below meth c H locs cells slots mc ms (F0 m pc ls st0) rest (mmQ G A μ' ov a) A) (hS : va_S A s.heap H locs)
    (kk : ∀ (H1 : Heap) (locs1 : List Loc), mmR G A μ' H1 → va_S A s.heap H1 locs1 → H.size ≤ H1.size → W p l e R s m args below meth c H1 locs1 (cells + mc) (slots + ms) Q (F0 m (pc + 3) ls (ov.toList ++ rest))) : W p l e R s m args below meth c H locs cells slots Q (F0 m pc ls st0) := by
  intro T hT X
  obtain ⟨v, st₀, t, T', L, h0, X', hL, e1, e2, ⟨hv, hw, hz, hk⟩, st⟩ := hr T hT X
  cases hv
  rw [h0] at hz hk
  obtain ⟨t2, a1, b1⟩ := kk T'.heap (locs ++ L) (by rw [e1]; exact hw.1)
    ⟨Nat.le_trans hS.1 (by rw [e1]; exact hz), fun q h1 h2 => by rw [e1, hk q (Nat.lt_of_lt_of_le h1 hS.1) h2]; exact hS.2.1 q h1 h2, fun q hq => by
      rcases List.mem_append.mp hq with h | h
      · exact hS.2.2 q h
      · exact hL q h⟩ (by rw [e1]; exact hz) T' rfl X'
  exact ⟨t2, st t2 a1, b1⟩
theorem mm_callV (S : mmS p m c cc nL s args own G) (hR : mmR G A μ H) (hS : va_S A s.heap H locs) (hA : ∀ q, s.heap.size ≤ q → A q) {idx ci n maxL h mc ms : Nat} {y : MethodName} {bytes : ByteArray} {ret : Option FieldType} {rm : Room} {As : List Value} {ov : Option Value} (C : mmCV own idx ci y bytes maxL ret n) (hk : mK μ h = ci + 1)
    (hM : Met l y [.code y bytes maxL ret] rm (mmPc G A μ (rf h :: As)) (mmQ G A μ' ov) mc ms A) (hc : rm.cells = mc) (hs : rm.slots = ms) (hroom : rm.frames + 1 ≤ R.frames ∧ 8 + (maxL + 11) + rm.locals ≤ R.locals) (hn : As.length = n) (hl : ls.size = nL) (hst : st0 = As.reverse ++ rf h :: rest)
    (hW : 2 * (F0 m pc ls st0).monitorRoom + (rest.map fun v => v.category).sum ≤ 8) (hdg : decode cc pc = .ok (.invokevirtual idx, 3)) (hf : cells + mc ≤ R.cells ∧ slots + ms ≤ R.slots)
    (kk : ∀ (H1 : Heap) (locs1 : List Loc), mmR G A μ' H1 → va_S A s.heap H1 locs1 → H.size ≤ H1.size → W p l e R s m args below meth c H1 locs1 (cells + mc) (slots + ms) Q (F0 m (pc + 3) ls (ov.toList ++ rest))) : W p l e R s m args below meth c H locs cells slots Q (F0 m pc ls st0) := by
  obtain ⟨T, N, hcl, hci, c1, c2, c3, c4, c5, c6, c7, c8, c9⟩ := C
  obtain ⟨a, rfl, hAa, hat⟩ := hR.ref hk
  rw [mmE_obj hk hci] at hat
  have hB := mm_callB (R := R) S c1 c4 c5 c6 c7 c8 c9 hc hs hroom
  exact mm_go (va_runV (As := As) (rest := rest) ⟨S.1, S.2.1, S.2.2.1, S.2.2.2.1, S.2.2.2.2.1⟩ hM ⟨hB, S.2.2.2.2.1 _ c2, S.2.2.2.2.1 _ c3⟩ ⟨mmPc_blind, va_recv (q0 := 0) S.2.2.2.2.2 (mm_one hat) hcl rfl, fun U hU hW => ⟨rfl, mm_w S hR hU hW, fun q hq => hA q (Nat.le_trans hS.1 (by rw [hU] at hq; exact hq))⟩⟩ rfl hn hl hst hW hdg hf) hS kk
theorem mm_callS (S : mmS p m c cc nL s args own G) (hR : mmR G A μ H) (hS : va_S A s.heap H locs) (hA : ∀ q, s.heap.size ≤ q → A q) {idx n maxL mc ms : Nat} {y : MethodName} {bytes : ByteArray} {ret : Option FieldType} {rm : Room} {As : List Value} {ov : Option Value} (C : mmCS own idx y bytes maxL ret n)
    (hM : Met l y [.code y bytes maxL ret] rm (mmPc G A μ As) (mmQ G A μ' ov) mc ms A) (hc : rm.cells = mc) (hs : rm.slots = ms) (hroom : rm.frames + 1 ≤ R.frames ∧ 8 + (maxL + 11) + rm.locals ≤ R.locals) (hn : As.length = n) (hl : ls.size = nL) (hst : st0 = As.reverse ++ rest)
    (hW : 2 * (F0 m pc ls st0).monitorRoom + (rest.map fun v => v.category).sum ≤ 8) (hdg : decode cc pc = .ok (.invokestatic idx, 3)) (hf : cells + mc ≤ R.cells ∧ slots + ms ≤ R.slots)
    (kk : ∀ (H1 : Heap) (locs1 : List Loc), mmR G A μ' H1 → va_S A s.heap H1 locs1 → H.size ≤ H1.size → W p l e R s m args below meth c H1 locs1 (cells + mc) (slots + ms) Q (F0 m (pc + 3) ls (ov.toList ++ rest))) : W p l e R s m args below meth c H locs cells slots Q (F0 m pc ls st0) := by
  obtain ⟨c1, c2, c4, c5, c6, c7, c8, c9⟩ := C
  have hB := mm_callB (R := R) S c1 c4 c5 c6 c7 c8 c9 hc hs hroom
  exact mm_go (va_runS (As := As) (rest := rest) ⟨S.1, S.2.1, S.2.2.1, S.2.2.2.1, S.2.2.2.2.1⟩ hM ⟨hB, S.2.2.2.2.1 _ c2⟩ ⟨mmPc_blind, fun U hU hW => ⟨rfl, mm_w S hR hU hW, fun q hq => hA q (Nat.le_trans hS.1 (by rw [hU] at hq; exact hq))⟩⟩ rfl hn hl hst hW hdg hf) hS kk
-- reading the pure side
theorem it_t {α : Type} {P : Prop} [Decidable P] {a b x : α} (h : (if P then a else b) = x) (hp : P) : a = x := by rw [if_pos hp] at h; exact h
theorem it_f {α : Type} {P : Prop} [Decidable P] {a b x : α} (h : (if P then a else b) = x) (hp : ¬ P) : b = x := by rw [if_neg hp] at h; exact h
theorem gd {α : Type} {P : Prop} [Decidable P] {a : Option α} {x : α} (h : (if P then a else none) = some x) : P ∧ a = some x := by
  by_cases hp : P
  · rw [if_pos hp] at h; exact ⟨hp, h⟩
  · rw [if_neg hp] at h; cases h
theorem bd {α β : Type} {a : Option α} {f : α → Option β} {x : β} (h : a.bind f = some x) : ∃ y, a = some y ∧ f y = some x := by
  cases a with
  | none => cases h
  | some y => exact ⟨y, rfl, h⟩
end MM2
