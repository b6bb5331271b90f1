/-! ROWS for the law's own methods: rows of flags, rows of rows, rests, what a table of handlers catches -/
section MM8
variable {p : Program} {l : Launch} {e : Env} {R : Room} {s : State} {m : MethodId} {args : Array Value} {below : List Frame} {meth : Method} {c : Code} {H : Heap} {locs : List Loc} {cells slots : Nat} {Q : State → Prop}
variable {cc : ByteArray} {pc nL : Nat} {ls : Array Slot} {rest st0 : List Value} {own : String} {G : mmG} {A : Nat → Prop} {μ μ' : MM}
theorem wAbool : Cond.arrayClass .boolean ∈ WL := wl_in2 (by decide +kernel)
theorem wAover1 : Cond.arrayOver (.array .int) ∈ WL := wl_in2 (by decide +kernel)
theorem wAover2 : Cond.arrayOver (.array (.array .int)) ∈ WL := wl_in2 (by decide +kernel)
abbrev mmGoalA (p : Program) (l : Launch) (e : Env) (rm : Room) (s : State) (m : MethodId) (args : Array Value) (below : List Frame) (meth : Method) (c : Code) (G : mmG) (A : Nat → Prop) (ce sl mc ms : Nat) (pc nL : Nat) (lv : List (Nat × Value)) (μ : MM) (Qc : Array Value → State → Outcome → State → Prop) : Prop :=
  ∀ (H : Heap) (locs : List Loc) (ls : Array Slot), mmR G A μ H → va_S A s.heap H locs → lv_has ls nL lv → W p l e rm s m args below meth c H locs ce sl (MQ below Qc args s mc ms A) (F0 m pc ls [])
theorem mm_alen20 (S : mmS p m c cc nL s args own G) (hR : mmR G A μ H) {h : Nat} (hk : mK μ h = 20) (hdg : decode cc pc = .ok (.arraylength, 1))
    (kk : W p l e R s m args below meth c H locs cells slots Q (F0 m (pc + 1) ls (.int (Int32.ofNat (mN μ h)) :: rest))) : W p l e R s m args below meth c H locs cells slots Q (F0 m pc ls (rf h :: rest)) := by
  obtain ⟨hx, hb, -, hown, hts, hK⟩ := S
  obtain ⟨a, rfl, -, hat⟩ := hR.ref hk
  rw [mmE_int hk] at hat
  exact va_alen hx hb hK (mm_one hat) 0 0 rfl rfl rfl hdg kk
theorem mm_zald (S : mmS p m c cc nL s args own G) (hR : mmR G A μ H) {h : Nat} (hk : mK μ h = 23) {i : Int32} (hin : vp_in i (mN μ h)) (hdg : decode cc pc = .ok (.baload, 1))
    (kk : W p l e R s m args below meth c H locs cells slots Q (F0 m (pc + 1) ls (.int (mI μ h i.toNatClampNeg) :: rest))) : W p l e R s m args below meth c H locs cells slots Q (F0 m pc ls (.int i :: rf h :: rest)) := by
  obtain ⟨hx, hb, -, hown, hts, hK⟩ := S
  obtain ⟨a, rfl, -, hat⟩ := hR.ref hk
  rw [mmE_bool hk] at hat
  exact va_zald hx hb hK (mm_one hat) 0 3 rfl rfl hin hdg kk
theorem mm_zast (S : mmS p m c cc nL s args own G) (hR : mmR G A μ H) (hS : va_S A s.heap H locs) {h : Nat} (hk : mK μ h = 23) {i v : Int32} (hin : vp_in i (mN μ h)) (hv : v = 0 ∨ v = 1) (hdg : decode cc pc = .ok (.bastore, 1))
    (kk : ∀ (H1 : Heap) (locs1 : List Loc), mmR G A (sI μ h i.toNatClampNeg v) H1 → va_S A s.heap H1 locs1 → W p l e R s m args below meth c H1 locs1 cells slots Q (F0 m (pc + 1) ls rest)) : W p l e R s m args below meth c H locs cells slots Q (F0 m pc ls (.int v :: .int i :: rf h :: rest)) := by
  obtain ⟨hx, hb, -, hown, hts, hK⟩ := S
  obtain ⟨a, rfl, hAa, hat⟩ := hR.ref hk
  rw [mmE_bool hk] at hat
  refine W.zast hx hb hat ((hK.2 3 _ rfl).1 (mN μ (a + 1)) (fun j => .int (mI μ (a + 1) j))) (fun q => by cases q) (by show ¬ (i < 0 ∨ (arrV _ _ _).slots.size ≤ _); rw [arrV_size]; exact hin) rfl rfl hdg fun H1 e z oq => ?_
  refine kk H1 _ (hR.setI ?_ z oq) (hS.put z oq hAa)
  rw [mmE_bool (μ := sI μ (a + 1) i.toNatClampNeg v) hk]
  show H1[a]? = some (vp_cell _ _)
  have hnv : narrow .boolean (.int v) = .int v := nb_ok hv
  rw [e]
  show some ((vp_cell _ _).setSlot _ _) = _
  rw [hnv, vp_cell_i, vp_cell_i, arrV_store]
  congr 2
  funext q
  by_cases hq : q = i.toNatClampNeg
  · subst hq
    simp [updV, mI_sI]
  · simp [updV, mI_sI, hq]
theorem mm_aaldA (S : mmS p m c cc nL s args own G) (hR : mmR G A μ H) {h k t : Nat} {ty : FieldType} (hk : mK μ h = k) (hk20 : 20 ≤ k) (hap : mmAp k = true) (ht : (mmTys G.2)[t]? = some (G.2 k, .array ty)) {i : Int32} (hin : vp_in i (mN μ h)) (hdg : decode cc pc = .ok (.aaload, 1))
    (kk : W p l e R s m args below meth c H locs cells slots Q (F0 m (pc + 1) ls (rf (mP μ h i.toNatClampNeg) :: rest))) : W p l e R s m args below meth c H locs cells slots Q (F0 m pc ls (.int i :: rf h :: rest)) := by
  obtain ⟨hx, hb, -, hown, hts, hK⟩ := S
  obtain ⟨a, rfl, -, hat⟩ := hR.ref (h := h) (k := k - 1) (by omega)
  rw [mmE_ptr hk hk20 hap] at hat
  have hlt : i.toNatClampNeg < mN μ (a + 1) := Nat.not_le.mp fun q => hin (Or.inr q)
  exact W.aald (v := va_rf (op (mP μ (a + 1) i.toNatClampNeg))) hx hb hat ((hK.2 t _ ht).1 _ (fun j => va_rf (op (mP μ (a + 1) j)))) rfl (fun q => by cases q) (by show ¬ (i < 0 ∨ (arrV _ _ _).slots.size ≤ _); rw [arrV_size]; exact hin) (by show (arrV _ _ _).slots[_]? = _; rw [arrV_read _ _ hlt]) rfl rfl hdg kk
theorem mm_asg (vm : Vm) (c : ClassId) : vm.assignable c c = true := by
  show vm.assignableAux (255 + 1) c c = true
  rw [Vm.assignableAux]
  simp only [beq_self_eq_true, Bool.true_or]
/-- a row of ints into a row of rows -/
theorem mm_astA (S : mmS p m c cc nL s args own G) (hR : mmR G A μ H) (hS : va_S A s.heap H locs) {h v : Nat} (hk : mK μ h = 24) (hv : mK μ v = 20) {i : Int32} (hin : vp_in i (mN μ h)) (hdg : decode cc pc = .ok (.aastore, 1))
    (kk : ∀ (H1 : Heap) (locs1 : List Loc), mmR G A (sP μ h i.toNatClampNeg v) H1 → va_S A s.heap H1 locs1 → W p l e R s m args below meth c H1 locs1 cells slots Q (F0 m (pc + 1) ls rest)) : W p l e R s m args below meth c H locs cells slots Q (F0 m pc ls (rf v :: .int i :: rf h :: rest)) := by
  obtain ⟨hx, hb, -, hown, hts, hK⟩ := S
  obtain ⟨a, rfl, hAa, hat⟩ := hR.ref hk
  obtain ⟨b, rfl, -, hatv⟩ := hR.ref hv
  rw [mmE_ptr hk (by omega) (by decide)] at hat
  rw [mmE_int hv] at hatv
  have hlt : i.toNatClampNeg < mN μ (a + 1) := Nat.not_le.mp fun q => hin (Or.inr q)
  have h0 : ¬ i < 0 := fun q => hin (Or.inl q)
  obtain ⟨comp, c24, k24, a1, a2, a3, a4, a5⟩ := ao_spec (hts _ wAover1)
  have e24 : c24 = G.2 24 := Option.some.inj (a5.symm.trans (hK.2 4 _ rfl).2)
  have e20 : comp = G.2 20 := Option.some.inj (a1.symm.trans (hK.2 0 _ rfl).2)
  subst e24
  subst e20
  obtain ⟨-, k20, hk20, comp20, hkind20⟩ := (hK.2 0 _ rfl).1 (mN μ (b + 1)) (fun j => .int (mI μ (b + 1) j))
  have hk20' : s.vm.classes[G.2 20]? = some k20 := hk20
  refine W.aast hx hb hat (fun q h => by cases h) (fun h => by cases h) a3 a4 rfl hk20' ⟨h0, by show _ < (arrV _ _ _).slots.size; rw [arrV_size]; exact hlt⟩ hatv (fun q h => by cases h) hk20' (mm_asg _ _) rfl rfl hdg fun H1 e z oq => ?_
  refine kk H1 _ (hR.setP ?_ z oq) (hS.put z oq hAa)
  rw [mmE_ptr (μ := sP μ (a + 1) i.toNatClampNeg (b + 1)) hk (by omega) (by decide)]
  show H1[a]? = some (vp_cell _ _)
  rw [e]
  show some ((vp_cell _ _).setSlot _ _) = _
  rw [vp_cell_q, vp_cell_q, arrV_store]
  congr 2
  funext q
  by_cases hq : q = i.toNatClampNeg
  · subst hq
    simp [updV, mP_sP, op, va_rf]
  · simp [updV, mP_sP, hq]
theorem mm_newzK (S : mmS p m c cc nL s args own G) (hR : mmR G A μ H) (hS : va_S A s.heap H locs) (hA : ∀ q, s.heap.size ≤ q → A q) {n : Int32} {N : Nat} (hn : ¬ n < 0) (hN : n.toNatClampNeg = N) (hbytes : N * 1 ≤ 536870912) (hcells : cells + 1 ≤ R.cells) (hslots : slots + N ≤ R.slots) (hdg : decode cc pc = .ok (.newarray .boolean, 2))
    (kk : ∀ (H1 : Heap) (locs1 : List Loc), mmR G A (sN μ 23 N) H1 → va_S A s.heap H1 locs1 → W p l e R s m args below meth c H1 locs1 (cells + 1) (slots + N) Q (F0 m (pc + 2) ls (rf (mX μ) :: rest))) : W p l e R s m args below meth c H locs cells slots Q (F0 m pc ls (.int n :: rest)) := by
  subst hN
  obtain ⟨hx, hb, -, hown, hts, hK⟩ := S
  have hX : mX μ = H.size + 1 := hR.1.2
  refine va_newaK (atype := .boolean) hx hb (hts _ wAbool) rfl hdg rfl hn rfl hbytes hcells hslots rfl fun H1 cA e1 z1 o1 hAr hNm => ?_
  have hcA : cA = G.2 23 := Option.some.inj (hNm.symm.trans (hK.2 3 _ rfl).2)
  subst hcA
  have h2 := kk H1 locs (hR.new ?_ z1 o1 (hA _ hS.1)) (hS.grow z1 o1)
  · rw [hX] at h2
    exact h2
  · rw [mmE_bool (by rw [mK_sN, if_pos (by omega)])]
    show H1[H.size]? = some (vp_cell _ _)
    rw [e1, vp_cell_i]
    have e9 : H.size + 1 = mX μ := hX.symm
    simp [mN_sN, mI_sN, e9]
    rfl
def mmMa (own : String) (idx : Nat) : Prop := Cond.methodLink own idx Lib.Math.abs.name ∈ WL ∧ Cond.static Lib.Math.abs.name ∈ WL ∧ Cond.initialized "java/lang/Math" ∈ WL ∧ Cond.code Lib.Math.abs.name Lib.Math.abs.code 1 (some .int) ∈ WL
def jabs (x : Int32) : Int32 := if 0 ≤ x then x else 0 - x
theorem mm_abs (S : mmS p m c cc nL s args own G) {idx : Nat} (C : mmMa own idx) (hl : ls.size = nL) (hframes : 1 ≤ R.frames) (hlocals : (rest.map fun v => v.category).sum + 13 ≤ R.locals) (hc : cells ≤ R.cells ∧ slots ≤ R.slots) {x : Int32} (hdg : decode cc pc = .ok (.invokestatic idx, 3))
    (kk : W p l e R s m args below meth c H locs cells slots Q (F0 m (pc + 3) ls (.int (jabs x) :: rest))) : W p l e R s m args below meth c H locs cells slots Q (F0 m pc ls (.int x :: rest)) :=
  va_mabs S.1 S.2.1 (by rw [S.2.2.1, hl]) S.2.2.2.1 (S.2.2.2.2.1 _ C.1) (S.2.2.2.2.1 _ C.2.1) (S.2.2.2.2.1 _ C.2.2.1) (S.2.2.2.2.1 _ C.2.2.2) hframes hlocals hc.1 hc.2 hdg kk
/-- a call whose callee makes cells -/
theorem mm_callViA (S : mmS p m c cc nL s args own G) (hR : mmR G A μ H) (hS : va_S A s.heap H locs) (hA : ∀ q, s.heap.size ≤ q → A q) {idx ci n maxL h mc ms : Nat} {y : MethodName} {bytes : ByteArray} {ret : Option FieldType} {rm : Room} {As : List Value} {r : Int32} (C : mmCV own idx ci y bytes maxL ret n) (hk : mK μ h = ci + 1)
    (hM : Met l y [.code y bytes maxL ret] rm (mmPc G A μ (rf h :: As)) (mmQ G A μ' (some (.int r))) mc ms A) (hc : rm.cells = mc) (hs : rm.slots = ms) (hroom : rm.frames + 1 ≤ R.frames ∧ 8 + (maxL + 11) + rm.locals ≤ R.locals) (hn : As.length = n) (hl : ls.size = nL) (hst : st0 = As.reverse ++ rf h :: rest)
    (hW : 2 * (F0 m pc ls st0).monitorRoom + (rest.map fun v => v.category).sum ≤ 8) (hdg : decode cc pc = .ok (.invokevirtual idx, 3)) (hf : cells + mc ≤ R.cells ∧ slots + ms ≤ R.slots)
    (kk : ∀ (H1 : Heap) (locs1 : List Loc), mmR G A μ' H1 → va_S A s.heap H1 locs1 → W p l e R s m args below meth c H1 locs1 (cells + mc) (slots + ms) Q (F0 m (pc + 3) ls (.int r :: rest))) : W p l e R s m args below meth c H locs cells slots Q (F0 m pc ls st0) :=
  mm_callV S hR hS hA C hk hM hc hs hroom hn hl hst hW hdg hf (fun H1 locs1 a b _ => kk H1 locs1 a b)
theorem mm_ofWT {l : Launch} {y : MethodName} {cc : ByteArray} {maxL : Nat} {ret : Option FieldType} {hh : List (Nat × Nat × Nat × Nat)} {rm : Room} {Pc : Array Value → State → Prop} {Qc : Array Value → State → Outcome → State → Prop} {mc ms : Nat} {free : Addr → Prop}
    (hy : plainName y.cls = true)
    (body : ∀ p e s m args below meth c s₁, BodyLoose p l y (headSpec [.codeWith y cc maxL ret hh] rm) cc maxL ret e s m args below meth c s₁ → c.maxLocals = maxL → c.exceptionTable.toList = tableOf hh → Pc args s →
      W p l e (headSpec [.codeWith y cc maxL ret hh] rm).room s m args below meth c s.heap [] 0 0 (MQ below Qc args s mc ms free) (entryFrame m args maxL)) : Met l y [.codeWith y cc maxL ret hh] rm Pc Qc mc ms free := by
  refine MetFree.of_bodyS (code := cc) (maxLocals := maxL) (ret := ret) hy ?_ ?_
  · intro args s m h hn
    obtain ⟨m9, meth, c, hn9, h1, h2, h3, h4, -, h5, h6, -⟩ := Cond.codeWith_spec (atoms_spec (ws := [.codeWith y cc maxL ret hh]) h _ List.mem_cons_self)
    cases hn.symm.trans hn9
    exact ⟨meth, c, h1, h2, h3, h4, h5, h6⟩
  · intro p e s m args below meth c s₁ B hml hP _
    have hh0 : s₁.heap = s.heap := by rw [B.state]; rfl
    have ht : c.exceptionTable.toList = tableOf hh := vx_table (x := y) B (atoms_spec (ws := [.codeWith y cc maxL ret hh]) B.pre _ List.mem_cons_self)
    obtain ⟨t, a1, o, b1, b2, b3⟩ := body p e s m args below meth c s₁ B hml ht hP s₁ hh0 (Stand.of_body B)
    exact ⟨t, o, a1, b1, b2, ⟨b3.1, b3.2⟩⟩
end MM8
