/-! ROWS over the memory: calls by what they answer, switches by lists, the pure side's steps -/
section MM4
variable {p : Program} {l : Launch} {e : Env} {R : Room} {s : State} {m : MethodId} {args : Array Value} {below : List Frame} {meth : Method} {c : Code} {H : Heap} {locs : List Loc} {cells slots : Nat} {Q : State → Prop}
variable {cc : ByteArray} {pc nL : Nat} {ls : Array Slot} {rest st0 : List Value} {own : String} {G : mmG} {A : Nat → Prop} {μ μ' : MM}
abbrev mmEnv (p : Program) (m : MethodId) (c : Code) (cc : ByteArray) (nL : Nat) (s : State) (args : Array Value) (own : String) (G : mmG) (A : Nat → Prop) (meth : Method) (ret : Option FieldType) : Prop :=
  mmS p m c cc nL s args own G ∧ (∀ q, s.heap.size ≤ q → A q) ∧ meth.sig.returnType = ret ∧ meth.locks = false
theorem mm_callVi (S : mmS p m c cc nL s args own G) (hR : mmR G A μ H) (hS : va_S A s.heap H locs) (hA : ∀ q, s.heap.size ≤ q → A q) {idx ci n maxL h : Nat} {y : MethodName} {bytes : ByteArray} {ret : Option FieldType} {rm : Room} {As : List Value} {r : Int32} (C : mmCV own idx ci y bytes maxL ret n) (hk : mK μ h = ci + 1)
    (hM : Met l y [.code y bytes maxL ret] rm (mmPc G A μ (rf h :: As)) (mmQ G A μ' (some (.int r))) 0 0 A) (hc : rm.cells = 0) (hs : rm.slots = 0) (hroom : rm.frames + 1 ≤ R.frames ∧ 8 + (maxL + 11) + rm.locals ≤ R.locals) (hn : As.length = n) (hl : ls.size = nL) (hst : st0 = As.reverse ++ rf h :: rest)
    (hW : 2 * (F0 m pc ls st0).monitorRoom + (rest.map fun v => v.category).sum ≤ 8) (hdg : decode cc pc = .ok (.invokevirtual idx, 3)) (hf : cells ≤ R.cells ∧ slots ≤ R.slots)
    (kk : ∀ (H1 : Heap) (locs1 : List Loc), mmR G A μ' H1 → va_S A s.heap H1 locs1 → W p l e R s m args below meth c H1 locs1 cells slots Q (F0 m (pc + 3) ls (.int r :: rest))) : W p l e R s m args below meth c H locs cells slots Q (F0 m pc ls st0) :=
  mm_callV S hR hS hA C hk hM hc hs hroom hn hl hst hW hdg hf (fun H1 locs1 a b _ => kk H1 locs1 a b)
theorem mm_callVh (S : mmS p m c cc nL s args own G) (hR : mmR G A μ H) (hS : va_S A s.heap H locs) (hA : ∀ q, s.heap.size ≤ q → A q) {idx ci n maxL h : Nat} {y : MethodName} {bytes : ByteArray} {ret : Option FieldType} {rm : Room} {As : List Value} {r : Nat} (C : mmCV own idx ci y bytes maxL ret n) (hk : mK μ h = ci + 1)
    (hM : Met l y [.code y bytes maxL ret] rm (mmPc G A μ (rf h :: As)) (mmQ G A μ' (some (rf r))) 0 0 A) (hc : rm.cells = 0) (hs : rm.slots = 0) (hroom : rm.frames + 1 ≤ R.frames ∧ 8 + (maxL + 11) + rm.locals ≤ R.locals) (hn : As.length = n) (hl : ls.size = nL) (hst : st0 = As.reverse ++ rf h :: rest)
    (hW : 2 * (F0 m pc ls st0).monitorRoom + (rest.map fun v => v.category).sum ≤ 8) (hdg : decode cc pc = .ok (.invokevirtual idx, 3)) (hf : cells ≤ R.cells ∧ slots ≤ R.slots)
    (kk : ∀ (H1 : Heap) (locs1 : List Loc), mmR G A μ' H1 → va_S A s.heap H1 locs1 → W p l e R s m args below meth c H1 locs1 cells slots Q (F0 m (pc + 3) ls (rf r :: rest))) : W p l e R s m args below meth c H locs cells slots Q (F0 m pc ls st0) :=
  mm_callV S hR hS hA C hk hM hc hs hroom hn hl hst hW hdg hf (fun H1 locs1 a b _ => kk H1 locs1 a b)
theorem mm_callVv (S : mmS p m c cc nL s args own G) (hR : mmR G A μ H) (hS : va_S A s.heap H locs) (hA : ∀ q, s.heap.size ≤ q → A q) {idx ci n maxL h : Nat} {y : MethodName} {bytes : ByteArray} {ret : Option FieldType} {rm : Room} {As : List Value} (C : mmCV own idx ci y bytes maxL ret n) (hk : mK μ h = ci + 1)
    (hM : Met l y [.code y bytes maxL ret] rm (mmPc G A μ (rf h :: As)) (mmQ G A μ' none) 0 0 A) (hc : rm.cells = 0) (hs : rm.slots = 0) (hroom : rm.frames + 1 ≤ R.frames ∧ 8 + (maxL + 11) + rm.locals ≤ R.locals) (hn : As.length = n) (hl : ls.size = nL) (hst : st0 = As.reverse ++ rf h :: rest)
    (hW : 2 * (F0 m pc ls st0).monitorRoom + (rest.map fun v => v.category).sum ≤ 8) (hdg : decode cc pc = .ok (.invokevirtual idx, 3)) (hf : cells ≤ R.cells ∧ slots ≤ R.slots)
    (kk : ∀ (H1 : Heap) (locs1 : List Loc), mmR G A μ' H1 → va_S A s.heap H1 locs1 → W p l e R s m args below meth c H1 locs1 cells slots Q (F0 m (pc + 3) ls rest)) : W p l e R s m args below meth c H locs cells slots Q (F0 m pc ls st0) :=
  mm_callV S hR hS hA C hk hM hc hs hroom hn hl hst hW hdg hf (fun H1 locs1 a b _ => kk H1 locs1 a b)
theorem mm_callSi (S : mmS p m c cc nL s args own G) (hR : mmR G A μ H) (hS : va_S A s.heap H locs) (hA : ∀ q, s.heap.size ≤ q → A q) {idx n maxL : Nat} {y : MethodName} {bytes : ByteArray} {ret : Option FieldType} {rm : Room} {As : List Value} {r : Int32} (C : mmCS own idx y bytes maxL ret n)
    (hM : Met l y [.code y bytes maxL ret] rm (mmPc G A μ As) (mmQ G A μ' (some (.int r))) 0 0 A) (hc : rm.cells = 0) (hs : rm.slots = 0) (hroom : rm.frames + 1 ≤ R.frames ∧ 8 + (maxL + 11) + rm.locals ≤ R.locals) (hn : As.length = n) (hl : ls.size = nL) (hst : st0 = As.reverse ++ rest)
    (hW : 2 * (F0 m pc ls st0).monitorRoom + (rest.map fun v => v.category).sum ≤ 8) (hdg : decode cc pc = .ok (.invokestatic idx, 3)) (hf : cells ≤ R.cells ∧ slots ≤ R.slots)
    (kk : ∀ (H1 : Heap) (locs1 : List Loc), mmR G A μ' H1 → va_S A s.heap H1 locs1 → W p l e R s m args below meth c H1 locs1 cells slots Q (F0 m (pc + 3) ls (.int r :: rest))) : W p l e R s m args below meth c H locs cells slots Q (F0 m pc ls st0) :=
  mm_callS S hR hS hA C hM hc hs hroom hn hl hst hW hdg hf (fun H1 locs1 a b _ => kk H1 locs1 a b)
def mmCN (own : String) (idx : Nat) (host : String) (y : MethodName) (bytes : ByteArray) (maxL : Nat) (ret : Option FieldType) (n : Nat) : Prop :=
  Cond.methodLinkNest own idx y host ∈ WL ∧ Cond.static y ∈ WL ∧ Cond.initialized y.cls ∈ WL ∧ Cond.code y bytes maxL ret ∈ WL ∧ (Cond.code y bytes maxL ret).onTables = true ∧ (Cond.code y bytes maxL ret).keeps = true ∧
  (y.cls ≠ "java/lang/invoke/MethodHandle" ∧ y.cls ≠ "java/lang/invoke/VarHandle") ∧ (parseMethodDescriptor y.desc).map (fun d => d.parameters.length) = some n
theorem mm_callNi (S : mmS p m c cc nL s args own G) (hR : mmR G A μ H) (hS : va_S A s.heap H locs) (hA : ∀ q, s.heap.size ≤ q → A q) {idx n maxL : Nat} {host : String} {y : MethodName} {bytes : ByteArray} {ret : Option FieldType} {rm : Room} {As : List Value} {r : Int32} (C : mmCN own idx host y bytes maxL ret n)
    (hM : Met l y [.code y bytes maxL ret] rm (mmPc G A μ As) (mmQ G A μ' (some (.int r))) 0 0 A) (hc : rm.cells = 0) (hs : rm.slots = 0) (hroom : rm.frames + 1 ≤ R.frames ∧ 8 + (maxL + 11) + rm.locals ≤ R.locals) (hn : As.length = n) (hl : ls.size = nL) (hst : st0 = As.reverse ++ rest)
    (hW : 2 * (F0 m pc ls st0).monitorRoom + (rest.map fun v => v.category).sum ≤ 8) (hdg : decode cc pc = .ok (.invokestatic idx, 3)) (hf : cells ≤ R.cells ∧ slots ≤ R.slots)
    (kk : ∀ (H1 : Heap) (locs1 : List Loc), mmR G A μ' H1 → va_S A s.heap H1 locs1 → W p l e R s m args below meth c H1 locs1 cells slots Q (F0 m (pc + 3) ls (.int r :: rest))) : W p l e R s m args below meth c H locs cells slots Q (F0 m pc ls st0) := by
  obtain ⟨c1, c2, c4, c5, c6, c7, c8, c9⟩ := C
  have hts := S.2.2.2.2.1
  have hcw : va_CN R s args own idx y host bytes maxL ret [.code y bytes maxL ret] rm 0 0 n := by
    refine ⟨⟨hc, hs, hroom.1, hroom.2, fun w hw a' U hW => ?_, List.mem_cons_self⟩, hts _ c5, hts _ c4, c8, fun sig h => ?_, hts _ c1⟩
    · rw [List.mem_singleton.mp hw]
      exact word_at hW (Or.inl (by rw [c6, c7]; rfl)) (hts _ c5)
    · rw [h] at c9
      exact (Option.some.inj c9).symm
  exact mm_go (va_runSN (As := As) (rest := rest) ⟨S.1, S.2.1, S.2.2.1, S.2.2.2.1, S.2.2.2.2.1⟩ hM ⟨hcw, hts _ c2, trivial⟩ ⟨mmPc_blind, fun U hU hW => ⟨rfl, mm_w S hR hU hW, fun q hq => hA q (Nat.le_trans hS.1 (by rw [hU] at hq; exact hq))⟩⟩ rfl hn hl hst hW hdg hf) hS (fun H1 locs1 a b _ => kk H1 locs1 a b)
theorem mm_swL (S : mmS p m c cc nL s args own G) {dflt lo hi : Int} {offs : Array Int} {len : Nat} {x : Int32} {off : Int} {tgt : Nat} (vs : List Int32) (hdg : decode cc pc = .ok (.tableswitch dflt lo hi offs, len)) (hx : x ∈ vs) (hv : ∀ v ∈ vs, ¬ v.toInt < lo ∧ ¬ hi < v.toInt ∧ offs[(v.toInt - lo).toNat]? = some off) (ht : (pc : Int) + off = (tgt : Int))
    (k : W p l e R s m args below meth c H locs cells slots Q (F0 m tgt ls rest)) : W p l e R s m args below meth c H locs cells slots Q (F0 m pc ls (.int x :: rest)) :=
  lv_tableIn S.1 S.2.1 hdg (hv x hx).1 (hv x hx).2.1 (hv x hx).2.2 ht k
theorem mm_swD (S : mmS p m c cc nL s args own G) {dflt lo hi : Int} {offs : Array Int} {len : Nat} {x : Int32} {tgt : Nat} (vs : List Int32) (hdg : decode cc pc = .ok (.tableswitch dflt lo hi offs, len)) (hx : ∀ v ∈ vs, ¬ x = v) (hv : ∀ k : Nat, k < (hi - lo + 1).toNat → offs[k]? = some dflt ∨ Int32.ofInt (lo + k) ∈ vs) (ht : (pc : Int) + dflt = (tgt : Int))
    (k : W p l e R s m args below meth c H locs cells slots Q (F0 m tgt ls rest)) : W p l e R s m args below meth c H locs cells slots Q (F0 m pc ls (.int x :: rest)) := by
  by_cases h1 : x.toInt < lo
  · exact lv_tableOut S.1 S.2.1 hdg (Or.inl h1) ht k
  by_cases h2 : hi < x.toInt
  · exact lv_tableOut S.1 S.2.1 hdg (Or.inr h2) ht k
  rcases hv (x.toInt - lo).toNat (by omega) with h3 | h3
  · exact lv_tableIn S.1 S.2.1 hdg h1 h2 h3 ht k
  · have e : lo + ((x.toInt - lo).toNat : Int) = x.toInt := by omega
    rw [e, Int32.ofInt_toInt] at h3
    exact absurd rfl (hx x h3)
theorem nb_ok {v : Int32} (h : v = 0 ∨ v = 1) : narrow .boolean (.int v) = .int v := by rcases h with rfl | rfl <;> rfl
theorem fb_ok {v : Int32} (h : v = 0 ∨ v = 1) : fits .boolean (.int v) = true := by rcases h with rfl | rfl <;> rfl
theorem nr_ok {C : String} {v : Nat} : narrow (.object C) (rf v) = rf v := by cases v <;> rfl
theorem fr_ok {C : String} {v : Nat} : fits (.object C) (rf v) = true := by cases v <;> rfl
end MM4
def st {α β : Type} (x : α) (f : α → β) : β := f x
theorem stx {α β : Type} {x : α} {f : α → β} {r : β} (h : st x f = r) : ∃ y, y = x ∧ f y = r := ⟨x, rfl, h⟩
theorem it_or {α : Type} {P : Prop} [Decidable P] {a b x : α} (h : (if P then a else b) = x) : (P ∧ a = x) ∨ (¬ P ∧ b = x) := by
  by_cases hp : P
  · rw [if_pos hp] at h; exact Or.inl ⟨hp, h⟩
  · rw [if_neg hp] at h; exact Or.inr ⟨hp, h⟩
/-- kinds, lengths and the next handle are the same -/
def mmKN (μ ν : MM) : Prop := mK ν = mK μ ∧ mN ν = mN μ ∧ mX ν = mX μ
theorem mmKN.rf {μ : MM} : mmKN μ μ := ⟨rfl, rfl, rfl⟩
theorem mmKN.tr {μ ν ξ : MM} (h : mmKN μ ν) (k : mmKN ν ξ) : mmKN μ ξ := ⟨k.1.trans h.1, k.2.1.trans h.2.1, k.2.2.trans h.2.2⟩
theorem mmKN.sI {μ ν : MM} (h : mmKN μ ν) {a j : Nat} {v : Int32} : mmKN μ (sI ν a j v) := h
theorem mmKN.sP {μ ν : MM} (h : mmKN μ ν) {a j v : Nat} : mmKN μ (sP ν a j v) := h
theorem mmKN.sC {μ ν : MM} (h : mmKN μ ν) {a j v : Nat} : mmKN μ (sC ν a j v) := h
theorem mmKN.k {μ ν : MM} (h : mmKN μ ν) {a k : Nat} (g : mK μ a = k) : mK ν a = k := by rw [h.1]; exact g
/-- how many turns a loop is let -/
def FU : Nat := 20000
