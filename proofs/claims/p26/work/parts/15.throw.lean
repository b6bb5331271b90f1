/-! THROWING: what a throw needs beside the memory, and its row -/
section MM5
def mmTxt : List (Nat × String) := [(148, "no such coroutine"), (178, "what is not 0 to 7"), (238, "what is not 0 to 11"), (49, "no such body"), (83, "what is not 0 to 2"), (180, "no such coroutine or local"), (186, "no such coroutine or place"), (103, "no such generator"), (140, "no such task"), (219, "what is not 0 to 6"), (130, "turns is not 1 to 50"), (34, "there are 8 bodies"), (64, "kind, a or b is not as it must be"), (74, "the body is full or in use"), (89, "there are 24 coroutines"), (240, "no such generator that is not over"), (108, "value is not -999 to 999"), (116, "the generator is over"), (122, "k is not 1 to 7"), (135, "ticks is not 1 to 20")]
def mmXU (A : Nat → Prop) (U : State) : Prop := vx_Zq Bundle.tN "UNASSIGNED_STACK" Bundle.steD A U U.heap ∧ vx_Zq Bundle.tN "SUPPRESSED_SENTINEL" Bundle.listD A U U.heap ∧ ∀ q ∈ mmTxt, ∃ a, vk_R RX6 q.1 q.2 a U
def mmPx (G : mmG) (A : Nat → Prop) (μ : MM) (av : List Value) : Array Value → State → Prop := va_Pc av (fun U => mmW G A μ U ∧ (∀ q, U.heap.size ≤ q → A q) ∧ mmXU A U)
def sX (μ : MM) (n : Nat) : MM := (μ.1, μ.2.1, μ.2.2.1, μ.2.2.2.1, n)
def mmXC (G : mmG) (A : Nat → Prop) (μ : MM) (E0 : String) : String → State → State → Prop := fun E st t => E = E0 ∧ mmR G A (sX μ (t.heap.size + 1)) t.heap ∧ va_F A st t
def exn (k : Nat) : String := if k = 1 then "java/lang/IndexOutOfBoundsException" else if k = 2 then "java/lang/IllegalArgumentException" else "java/lang/IllegalStateException"
def exNames : List String := ["java/lang/RuntimeException", "java/lang/Exception"]
theorem mmXU.calling {A : Nat → Prop} {U : State} (g : JFrame) (mk : MethodId) (a : Array Value) (h : mmXU A U) : mmXU A (U.calling g mk a) :=
  ⟨vx_Zq.moved (u := U) (U := U.calling g mk a) (Vm.Alike.refl U.vm) h.1, vx_Zq.moved (u := U) (U := U.calling g mk a) (Vm.Alike.refl U.vm) h.2.1, fun q hq => by
    obtain ⟨z, hz⟩ := h.2.2 q hq
    exact ⟨z, vk_R.same (u := U) (U := U.calling g mk a) rfl hz⟩⟩
theorem mmPx_blind {G : mmG} {A : Nat → Prop} {μ : MM} {av : List Value} : FrameBlind (mmPx G A μ av) := fun a U g mk q => ⟨q.1, q.2.1.calling g mk a, q.2.2.1, q.2.2.2.calling g mk a⟩
theorem mmXU.warm {A : Nat → Prop} {s U : State} {H : Heap} {locs : List Loc} (h : mmXU A s) (hS : va_S A s.heap H locs) (hU : U.heap = H) (hW : s.WarmedH U.vm) : mmXU A U :=
  ⟨by
    have h1 := vx_Zq.moved (u := s) (U := U) hW.alike h.1
    rw [hU]
    exact vx_Zq.kept h1 hS.2.1, by
    have h1 := vx_Zq.moved (u := s) (U := U) hW.alike h.2.1
    rw [hU]
    exact vx_Zq.kept h1 hS.2.1, fun q hq => by
    obtain ⟨z, hz⟩ := h.2.2 q hq
    exact ⟨z, vk_R.warm hW hz⟩⟩
def mmTh (own : String) (ik is ic : Nat) (cls text : String) : Prop := own = RX6 ∧ Bundle.fit cls = true ∧ Cond.classLink own ik cls ∈ WL ∧ Cond.initialized cls ∈ WL ∧ (is, text) ∈ mmTxt ∧ (∀ w ∈ vx_atS own ic cls exNames, w ∈ WL) ∧ (∀ w ∈ Cond.classLink own ik cls :: Cond.initialized cls :: vx_atS own ic cls exNames, vx_ot w = true)
variable {p : Program} {l : Launch} {e : Env} {R : Room} {s : State} {m : MethodId} {args : Array Value} {below : List Frame} {meth : Method} {c : Code} {H : Heap} {locs : List Loc} {cells slots : Nat} {Q : State → Prop}
variable {cc : ByteArray} {pc nL : Nat} {ls : Array Slot} {rest st0 : List Value} {own : String} {G : mmG} {A : Nat → Prop} {μ μ' : MM}
theorem mm_throwS (S : mmS p m c cc nL s args own G) (hR : mmR G A μ H) (hS : va_S A s.heap H locs) (hl : l.stackTraces = false) (hX : mmXU A s) {ik is ic : Nat} {cls text : String} (T : mmTh own ik is ic cls text) (hls : ls.size = nL) (hno : ∀ x ∈ c.exceptionTable.toList, False) {Qc : Array Value → State → Outcome → State → Prop}
    (d0 : decode cc pc = .ok (.new ik, 3)) (d3 : decode cc (pc + 3) = .ok (.dup, 1)) (d4 : decode cc (pc + 4) = .ok (.ldc is, 2)) (d6 : decode cc (pc + 6) = .ok (.invokespecial ic, 3)) (d9 : decode cc (pc + 9) = .ok (.athrow, 1))
    (hRf : 5 < R.frames) (hRl : (rest.map fun v => v.category).sum + 82 ≤ R.locals) (hRc : cells + 1 ≤ R.cells) (hRs : slots + 6 ≤ R.slots) (hlocks : meth.locks = false) (hc : cells + 1 ≤ 1) (hs : slots + 6 ≤ 6) :
    W p l e R s m args below meth c H locs cells slots (vx_MQ below Qc (mmXC G A μ cls) args s 1 6 A) (F0 m pc ls rest) := by
  obtain ⟨ho, t1, t2, t3, t4, t5, t6⟩ := T
  subst ho
  have hts := S.2.2.2.2.1
  obtain ⟨sa, hsa⟩ := hX.2.2 _ t4
  refine vx_throwS S.1 S.2.1 hl (names := exNames) (text := text) (sa := sa) S.2.2.2.1 t1 (by decide +kernel) (hts _ t2) (hts _ t3) hsa (fun w hw => hts _ (t5 w hw)) t6 hX.1 hX.2.1 hS (by rw [hls, S.2.2.1]) d0 d3 d4 d6 d9 (fun x hx => (hno x hx).elim) hRf hRl hRc hRs hlocks (fun t hv hz hk => ⟨rfl, ?_, ?_⟩) hS.2.2 hc hs
  · exact ⟨⟨hR.1.1, rfl⟩, fun a ha => ⟨(hR.2 a ha).1, (hR.2 a ha).2.kept (hk a (hR.2 a ha).2.lt)⟩⟩
  · exact ⟨Nat.le_trans hS.1 hz, fun q h1 h2 => by rw [hk q (Nat.lt_of_lt_of_le h1 hS.1)]; exact hS.2.1 q h1 h2⟩
theorem mm_throwSW (S : mmS p m c cc nL s args own G) (hR : mmR G A μ H) (hS : va_S A s.heap H locs) (hl : l.stackTraces = false) (hX : mmXU A s) {ik is ic : Nat} {cls text : String} (T : mmTh own ik is ic cls text) (hls : ls.size = nL) (hno : ∀ x ∈ c.exceptionTable.toList, False) {Qc : Array Value → State → Outcome → State → Prop}
    (d0 : decode cc pc = .ok (.new ik, 3)) (d3 : decode cc (pc + 3) = .ok (.dup, 1)) (d4 : decode cc (pc + 4) = .ok (.ldc_w is, 3)) (d6 : decode cc (pc + 7) = .ok (.invokespecial ic, 3)) (d9 : decode cc (pc + 10) = .ok (.athrow, 1))
    (hRf : 5 < R.frames) (hRl : (rest.map fun v => v.category).sum + 82 ≤ R.locals) (hRc : cells + 1 ≤ R.cells) (hRs : slots + 6 ≤ R.slots) (hlocks : meth.locks = false) (hc : cells + 1 ≤ 1) (hs : slots + 6 ≤ 6) :
    W p l e R s m args below meth c H locs cells slots (vx_MQ below Qc (mmXC G A μ cls) args s 1 6 A) (F0 m pc ls rest) := by
  obtain ⟨ho, t1, t2, t3, t4, t5, t6⟩ := T
  subst ho
  have hts := S.2.2.2.2.1
  obtain ⟨sa, hsa⟩ := hX.2.2 _ t4
  refine vx_throwSW S.1 S.2.1 hl (names := exNames) (text := text) (sa := sa) S.2.2.2.1 t1 (by decide +kernel) (hts _ t2) (hts _ t3) hsa (fun w hw => hts _ (t5 w hw)) t6 hX.1 hX.2.1 hS (by rw [hls, S.2.2.1]) d0 d3 d4 d6 d9 (fun x hx => (hno x hx).elim) hRf hRl hRc hRs hlocks (fun t hv hz hk => ⟨rfl, ?_, ?_⟩) hS.2.2 hc hs
  · exact ⟨⟨hR.1.1, rfl⟩, fun a ha => ⟨(hR.2 a ha).1, (hR.2 a ha).2.kept (hk a (hR.2 a ha).2.lt)⟩⟩
  · exact ⟨Nat.le_trans hS.1 hz, fun q h1 h2 => by rw [hk q (Nat.lt_of_lt_of_le h1 hS.1)]; exact hS.2.1 q h1 h2⟩
theorem mm_ofX {l : Launch} {y : MethodName} {cc : ByteArray} {maxL : Nat} {ret : Option FieldType} {rm : Room} {G : mmG} {A : Nat → Prop} {μ : MM} {av : List Value} {Qc : Array Value → State → Outcome → State → Prop} {XC : String → State → State → Prop} {mc ms : Nat}
    (hy : plainName y.cls = true) (hL : (lg_sl av).length ≤ maxL)
    (body : ∀ (p : Program) (e : Env) (s : State) (m : MethodId) (below : List Frame) (meth : Method) (c : Code) (ls : Array Slot), mmS p m c cc maxL s av.toArray y.cls G → mmR G A μ s.heap → (∀ q, s.heap.size ≤ q → A q) → va_S A s.heap s.heap [] → meth.sig.returnType = ret → meth.locks = false → lv_has ls maxL (lv_args 0 av) → mmXU A s → (∀ x ∈ c.exceptionTable.toList, False) →
      W p l e rm s m av.toArray below meth c s.heap [] 0 0 (vx_MQ below Qc XC av.toArray s mc ms A) (F0 m 0 ls [])) : vx_Met l y [.code y cc maxL ret] rm (mmPx G A μ av) Qc XC mc ms A := by
  refine vx_ofW (cc := cc) (maxL := maxL) (ret := ret) hy rfl ?_
  intro p e s m args below meth c s₁ B hml hno hv
  obtain ⟨rfl, hw, hA, hX⟩ := hv
  have hl := lv_entry av (n := maxL) hL
  rw [lg_entry_eq]
  exact body p e s m below meth c _ ⟨B.exec, B.bytes, hml, findClass_of_methodNamed B.named, fun w hw' => mmUse (List.mem_filter.mp hw').2 (hw.2.2 w hw'), hw.2.1⟩ hw.1 hA va_S.rf B.returns B.notSynchronized hl hX hno
theorem mm_th {own : String} {ik is ic : Nat} {cls text : String} (h : own = RX6 ∧ Bundle.fit cls = true ∧ (Cond.classLink own ik cls ∈ lw_tbl ∧ mmGood (Cond.classLink own ik cls) = true) ∧ (Cond.initialized cls ∈ lw_tbl ∧ mmGood (Cond.initialized cls) = true) ∧ (is, text) ∈ mmTxt ∧ (∀ w ∈ vx_atS own ic cls exNames, w ∈ lw_tbl ∧ mmGood w = true) ∧ (∀ w ∈ Cond.classLink own ik cls :: Cond.initialized cls :: vx_atS own ic cls exNames, vx_ot w = true)) : mmTh own ik is ic cls text :=
  ⟨h.1, h.2.1, List.mem_filter.mpr h.2.2.1, List.mem_filter.mpr h.2.2.2.1, h.2.2.2.2.1, fun w hw => List.mem_filter.mpr (h.2.2.2.2.2.1 w hw), h.2.2.2.2.2.2⟩
end MM5
