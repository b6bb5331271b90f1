/-! MAKING: new cells in the memory -/
section MM6
variable {p : Program} {l : Launch} {e : Env} {R : Room} {s : State} {m : MethodId} {args : Array Value} {below : List Frame} {meth : Method} {c : Code} {H : Heap} {locs : List Loc} {cells slots : Nat} {Q : State → Prop}
variable {cc : ByteArray} {pc nL : Nat} {ls : Array Slot} {rest st0 : List Value} {own : String} {G : mmG} {A : Nat → Prop} {μ μ' : MM}
def sN (μ : MM) (k n : Nat) : MM := (fun a => if a = μ.2.2.2.2 then k else μ.1 a, fun a => if a = μ.2.2.2.2 then n else μ.2.1 a, fun a i => if a = μ.2.2.2.2 then 0 else μ.2.2.1 a i, fun a i => if a = μ.2.2.2.2 then 0 else μ.2.2.2.1 a i, μ.2.2.2.2 + 1)
theorem mK_sN (μ : MM) (k n a : Nat) : mK (sN μ k n) a = if a = mX μ then k else mK μ a := rfl
theorem mN_sN (μ : MM) (k n a : Nat) : mN (sN μ k n) a = if a = mX μ then n else mN μ a := rfl
theorem mI_sN (μ : MM) (k n a i : Nat) : mI (sN μ k n) a i = if a = mX μ then 0 else mI μ a i := rfl
theorem mP_sN (μ : MM) (k n a i : Nat) : mP (sN μ k n) a i = if a = mX μ then 0 else mP μ a i := rfl
theorem mX_sN (μ : MM) (k n : Nat) : mX (sN μ k n) = mX μ + 1 := rfl
theorem mmE_neN {dA : Nat → ClassId} {μ : MM} {a k n : Nat} (hne : a ≠ mX μ) : mmE dA (sN μ k n) a = mmE dA μ a := by
  simp [mmE, mmF, mK_sN, mN_sN, mP_sN, mI_sN, hne]
theorem mmR.fresh (hR : mmR G A μ H) {a : Nat} (h : H.size < a) : mK μ a = 0 := by
  cases a with
  | zero => exact hR.1.1
  | succ b =>
    by_cases hb : mK μ (b + 1) = 0
    · exact hb
    · have := (hR.2 b hb).2.lt
      simp at this
      omega
theorem mmR.new {H1 : Heap} {k n : Nat} (hR : mmR G A μ H) (he : va_at G.1 vwCl (H.size, mmE G.2 (sN μ k n) (H.size + 1)) H1) (z : H1.size = H.size + 1) (oq : ∀ q, q < H.size → H1[q]? = H[q]?) (hA : A H.size) : mmR G A (sN μ k n) H1 := by
  have hx : mX μ = H.size + 1 := hR.1.2
  refine ⟨⟨?_, by rw [mX_sN, hx, z]⟩, fun b hb => ?_⟩
  · rw [mK_sN, if_neg (by omega)]; exact hR.1.1
  · by_cases h : b = H.size
    · subst h; exact ⟨hA, he⟩
    · have hne : b + 1 ≠ mX μ := by omega
      rw [mK_sN, if_neg hne] at hb
      rw [mmE_neN hne]
      have h2 := hR.2 b hb
      exact ⟨h2.1, h2.2.kept (oq b h2.2.lt)⟩
theorem va_S.grow {A : Nat → Prop} {H0 H H1 : Heap} {locs : List Loc} (hS : va_S A H0 H locs) (z : H1.size = H.size + 1) (oq : ∀ q, q < H.size → H1[q]? = H[q]?) : va_S A H0 H1 locs :=
  ⟨Nat.le_trans hS.1 (by omega), fun x h1 h2 => (oq x (Nat.lt_of_lt_of_le h1 hS.1)).trans (hS.2.1 x h1 h2), hS.2.2⟩
def mmNw (own : String) (idx ci n : Nat) : Prop := ∃ (C : String) (T : u_T) (ty : Nat → FieldType), vwCl[ci]? = some (C, T, n) ∧ ci < 19 ∧ (∀ w ∈ u_ws C T n, w ∈ WL) ∧ (∀ k, k < n → parseFieldDescriptor (T k).2.2.1 = some (ty k)) ∧ Cond.classLink own idx C ∈ WL ∧ Cond.instantiable C n ∈ WL ∧ Cond.initialized C ∈ WL ∧ (∀ k, k < n → (mmFt ci)[k]?.map (fun b => if b then Value.null else .int 0) = some (defaultValue (ty k)))
theorem mm_new (S : mmS p m c cc nL s args own G) (hR : mmR G A μ H) (hS : va_S A s.heap H locs) (hA : ∀ q, s.heap.size ≤ q → A q) {idx ci n : Nat} (f : mmNw own idx ci n) (hcells : cells + 1 ≤ R.cells) (hslots : slots + n ≤ R.slots) (hdg : decode cc pc = .ok (.new idx, 3))
    (kk : ∀ (H1 : Heap) (locs1 : List Loc), mmR G A (sN μ (ci + 1) 0) H1 → va_S A s.heap H1 locs1 → W p l e R s m args below meth c H1 locs1 (cells + 1) (slots + n) Q (F0 m (pc + 3) ls (rf (mX μ) :: rest))) : W p l e R s m args below meth c H locs cells slots Q (F0 m pc ls rest) := by
  obtain ⟨hx, hb, -, hown, hts, hK⟩ := S
  obtain ⟨C, T, ty, hc, hci, hin, hty, c1, c2, c3, hdf⟩ := f
  have hKn := hK.1 ci _ hc
  have hX : mX μ = H.size + 1 := hR.1.2
  refine W.newcK hx hb hown (hts _ c1) (hts _ c2) (hts _ c3) rfl hdg hcells hslots hKn.2.1 rfl fun H1 kC hkC e1 z1 o1 => ?_
  have h2 := kk H1 locs (hR.new ?_ z1 o1 (hA _ hS.1)) (hS.grow z1 o1)
  · rw [hX] at h2
    exact h2
  · rw [mmE_obj (ci := ci) (by rw [mK_sN, if_pos (by omega)]) hci]
    refine ⟨_, hc, (u_born ty hts hin hKn hkC e1 hty).to (fun k hk => ?_)⟩
    have h3 := hdf k hk
    cases hb2 : (mmFt ci)[k]? with
    | none => rw [hb2] at h3; cases h3
    | some b =>
      rw [hb2] at h3
      have h4 := mmF_get (μ := sN μ (ci + 1) 0) (h := H.size + 1) hb2
      have h5 : (if b then Value.null else .int 0) = defaultValue (ty k) := Option.some.inj h3
      rw [← h5]
      show _ = (mmF (mmFt ci) (sN μ (ci + 1) 0) (H.size + 1)).getD k .null
      rw [List.getD_eq_getElem?_getD, h4]
      have e9 : H.size + 1 = mX μ := hX.symm
      cases b
      · simp [mI_sN, e9]
      · simp [mP_sN, e9, rf, op, va_rf]
theorem mm_newi (S : mmS p m c cc nL s args own G) (hR : mmR G A μ H) (hS : va_S A s.heap H locs) (hA : ∀ q, s.heap.size ≤ q → A q) (hw : Cond.arrayClass .int ∈ WL) {n : Int32} (hn : ¬ n < 0) (hbytes : n.toNatClampNeg * 4 ≤ 536870912) (hcells : cells + 1 ≤ R.cells) (hslots : slots + n.toNatClampNeg ≤ R.slots) (hdg : decode cc pc = .ok (.newarray .int, 2))
    (kk : ∀ (H1 : Heap) (locs1 : List Loc), mmR G A (sN μ 20 n.toNatClampNeg) H1 → va_S A s.heap H1 locs1 → W p l e R s m args below meth c H1 locs1 (cells + 1) (slots + n.toNatClampNeg) Q (F0 m (pc + 2) ls (rf (mX μ) :: rest))) : W p l e R s m args below meth c H locs cells slots Q (F0 m pc ls (.int n :: rest)) := by
  obtain ⟨hx, hb, -, hown, hts, hK⟩ := S
  have hX : mX μ = H.size + 1 := hR.1.2
  refine va_newaK (atype := .int) hx hb (hts _ hw) rfl hdg rfl hn rfl hbytes hcells hslots rfl fun H1 cA e1 z1 o1 hAr hNm => ?_
  have hcA : cA = G.2 20 := Option.some.inj (hNm.symm.trans (hK.2 0 _ rfl).2)
  subst hcA
  have h2 := kk H1 locs (hR.new ?_ z1 o1 (hA _ hS.1)) (hS.grow z1 o1)
  · rw [hX] at h2
    exact h2
  · rw [mmE_int (by rw [mK_sN, if_pos (by omega)])]
    show H1[H.size]? = some (vp_cell _ _)
    rw [e1, vp_cell_i]
    have e9 : H.size + 1 = mX μ := hX.symm
    simp [mN_sN, mI_sN, e9]
    rfl
theorem mm_newq (S : mmS p m c cc nL s args own G) (hR : mmR G A μ H) (hS : va_S A s.heap H locs) (hA : ∀ q, s.heap.size ≤ q → A q) {idx k t : Nat} {C : String} (hcl : Cond.classLink own idx C ∈ WL) (hov : Cond.arrayOver (.object C) ∈ WL) (hk : 20 ≤ k) (hap : mmAp k = true) (ht : (mmTys G.2)[t]? = some (G.2 k, .object C)) {n : Int32} (hn : ¬ n < 0) (hbytes : n.toNatClampNeg * 4 ≤ 536870912) (hcells : cells + 1 ≤ R.cells) (hslots : slots + n.toNatClampNeg ≤ R.slots) (hdg : decode cc pc = .ok (.anewarray idx, 3))
    (kk : ∀ (H1 : Heap) (locs1 : List Loc), mmR G A (sN μ k n.toNatClampNeg) H1 → va_S A s.heap H1 locs1 → W p l e R s m args below meth c H1 locs1 (cells + 1) (slots + n.toNatClampNeg) Q (F0 m (pc + 3) ls (rf (mX μ) :: rest))) : W p l e R s m args below meth c H locs cells slots Q (F0 m pc ls (.int n :: rest)) := by
  obtain ⟨hx, hb, -, hown, hts, hK⟩ := S
  have hX : mX μ = H.size + 1 := hR.1.2
  refine W.anew hx hb hown (hts _ hcl) (hts _ hov) rfl hdg rfl hn hbytes hcells hslots fun cA kA comp f1 f2 f3 f4 => ?_
  obtain ⟨kA', comp', g1, g2, g3, g4⟩ := (hK.2 t _ ht).2
  have hcA : cA = G.2 k := Option.some.inj (f1.symm.trans g4)
  subst hcA
  generalize hH1 : H.push ({ cls := G.2 k, slots := Array.replicate n.toNatClampNeg .null, vm := .none } : Cell) = H1
  have z1 : H1.size = H.size + 1 := by rw [← hH1, Array.size_push]
  have e1 : H1[H.size]? = some (arrV (G.2 k) n.toNatClampNeg (fun _ => .null)) := by rw [← hH1, Array.getElem?_push_size, ← arrV_new]
  have o1 : ∀ q : Nat, q < H.size → H1[q]? = H[q]? := fun q hq => by rw [← hH1, Array.getElem?_push, if_neg (Nat.ne_of_lt hq)]
  have h2 := kk H1 locs (hR.new ?_ z1 o1 (hA _ hS.1)) (hS.grow z1 o1)
  · rw [hX] at h2
    exact h2
  · rw [mmE_ptr (k := k) (by rw [mK_sN, if_pos (by omega)]) hk hap]
    show H1[H.size]? = some (vp_cell _ _)
    rw [e1, vp_cell_q]
    have e9 : H.size + 1 = mX μ := hX.symm
    simp [mN_sN, mP_sN, e9, op, va_rf]
theorem mm_astq (S : mmS p m c cc nL s args own G) (hR : mmR G A μ H) (hS : va_S A s.heap H locs) {h v k t ci : Nat} {C : String} {T : u_T} {N : Nat} (hk : mK μ h = k) (hk20 : 20 ≤ k) (hap : mmAp k = true) (ht : (mmTys G.2)[t]? = some (G.2 k, .object C)) (hv : mK μ v = ci + 1) (hci : ci < 19) (hc : vwCl[ci]? = some (C, T, N)) {i : Int32} (hin : vp_in i (mN μ h)) (hdg : decode cc pc = .ok (.aastore, 1))
    (kk : ∀ (H1 : Heap) (locs1 : List Loc), mmR G A (sP μ h i.toNatClampNeg v) H1 → va_S A s.heap H1 locs1 → W p l e R s m args below meth c H1 locs1 cells slots Q (F0 m (pc + 1) ls rest)) : W p l e R s m args below meth c H locs cells slots Q (F0 m pc ls (rf v :: .int i :: rf h :: rest)) := by
  obtain ⟨hx, hb, -, hown, hts, hK⟩ := S
  obtain ⟨a, rfl, hAa, hat⟩ := hR.ref (h := h) (k := k - 1) (by omega)
  obtain ⟨b, rfl, -, hatv⟩ := hR.ref hv
  rw [mmE_ptr hk hk20 hap] at hat
  rw [mmE_obj hv hci] at hatv
  have hlt : i.toNatClampNeg < mN μ (a + 1) := Nat.not_le.mp fun q => hin (Or.inr q)
  have h0 : ¬ i < 0 := fun q => hin (Or.inl q)
  obtain ⟨r', hr', cellV, g1, g2, g3, -⟩ := hatv
  have hcls := (hK.1 ci _ hc).2
  obtain ⟨kA, comp, k1, k2, k3, -⟩ := (hK.2 t _ ht).2
  have hcomp : comp = G.1.1 ci := Option.some.inj (k3.symm.trans hcls.1)
  subst hcomp
  obtain ⟨kC, hkC, -⟩ := hcls.2
  refine W.aast hx hb hat (fun q h => by cases h) (fun h => by cases h) k1 k2 rfl hkC ⟨h0, by show _ < (arrV _ _ _).slots.size; rw [arrV_size]; exact hlt⟩ g1 (fun q h => by rw [g3] at h; cases h) (by rw [g2]; exact hkC) (by rw [g2]; exact va_assign hcls) rfl rfl hdg fun H1 e z oq => ?_
  refine kk H1 _ (hR.setP ?_ z oq) (hS.put z oq hAa)
  rw [mmE_ptr (μ := sP μ (a + 1) i.toNatClampNeg (b + 1)) hk hk20 hap]
  show H1[a]? = some (vp_cell _ _)
  rw [e]
  show some ((vp_cell _ _).setSlot _ _) = _
  rw [vp_cell_q, vp_cell_q, arrV_store]
  congr 2
  funext q
  by_cases hq : q = i.toNatClampNeg
  · subst hq
    simp [updV, mP_sP, op, va_rf]
  · simp [updV, mP_sP, hq]
def mmFF (own : String) (idx ci j : Nat) (ty : FieldType) : Prop := ∃ (C : String) (T : u_T) (N : Nat) (ty0 : Nat → FieldType), vwCl[ci]? = some (C, T, N) ∧ ci < 19 ∧ j < N ∧ (T j).1 = C ∧ C = own ∧ (∀ w ∈ u_ws C T N, w ∈ WL) ∧ Cond.fieldLink own idx C (T j).2.1 (T j).2.2.1 ∈ WL ∧
  (∀ k, k < N → parseFieldDescriptor (T k).2.2.1 = some (ty0 k)) ∧ (∀ a, a < N → ∀ b, b < N → a ≠ b → (T a).2.1 ≠ (T b).2.1) ∧ (T j).2.2.2 = true ∧ parseFieldDescriptor (T j).2.2.1 = some ty
theorem mm_putF (S : mmS p m c cc nL s args own G) (hR : mmR G A μ H) (hS : va_S A s.heap H locs) {h idx ci j : Nat} {ty : FieldType} (f : mmFF own idx ci j ty) (hin2 : meth.name = "<init>") (hk : mK μ h = ci + 1) {v : Value} (hn : narrow ty v = v) (hfit : fits ty v = true) (hl : j < (mmFt ci).length) (hdg : decode cc pc = .ok (.putfield idx, 3))
    (kk : ∀ (a : Nat) (H1 : Heap) (locs1 : List Loc), h = a + 1 → va_at G.1 vwCl (a, .inr (ci, (mmF (mmFt ci) μ h).set j v)) H1 → H1.size = H.size → (∀ q, q ≠ a → H1[q]? = H[q]?) → va_S A s.heap H1 locs1 → W p l e R s m args below meth c H1 locs1 cells slots Q (F0 m (pc + 3) ls rest)) : W p l e R s m args below meth c H locs cells slots Q (F0 m pc ls (v :: rf h :: rest)) := by
  obtain ⟨hx, hb, -, hown, hts, hK⟩ := S
  obtain ⟨a, rfl, hAa, hat⟩ := hR.ref hk
  obtain ⟨C, T, N, ty0, hc, hci, hj, hC, hCo, hin, hlink, hty, hnm, hfin, hd⟩ := f
  rw [mmE_obj hk hci] at hat
  have hap := va_apart (own := own) hts hin ty0 hty hnm hK hc
  obtain ⟨r, h1, cell, q1, q2, q3, q4⟩ := hat
  have hr : r = (C, T, N) := Option.some.inj (h1.symm.trans hc)
  subst hr
  obtain ⟨hSl, hfc, kC, hkC, hkind⟩ := hK.1 ci _ hc
  obtain ⟨cf, kf, fi, f, hi, hsl⟩ := hSl j hj
  have hlay := hts _ (hin _ (u_in_lay hj))
  unfold u_lay at hlay
  rw [if_pos hfin] at hlay
  have hst := (u_facts hfc hkC (u_lays hts hin hj) hi).1
  have hcf : m.cls = cf := by
    obtain ⟨_, _, c', _, _, _, -, -, hf', -, -, -, hown2, -⟩ := Cond.laysFinal_spec hlay
    have e1 : c' = cf := by have := hi.symm.trans hf'; simp at this; exact this.1.symm
    rw [hC, hCo] at hown2
    rw [← e1]; exact Option.some.inj (hown.symm.trans hown2)
  have h6 := u_fits hfc hkC hkind (Or.inr hlay) hi hd hn hfit
  have hi' : s.fieldFound? C (T j).2.1 (T j).2.2.1 = some (cf, kf, fi, f) := by rw [← hC]; exact hi
  refine W.putFinK hx hb hown (hts _ hlink) hi' hst hcf hin2 (by rw [q2]; exact h6) q1 q3 (by rw [hsl]; exact k2_hasslot (q4 j hj)) rfl rfl hdg fun H' e1 e2 e3 => ?_
  rw [hsl] at e1 ⊢
  exact kk a H' _ rfl ⟨_, hc, t_OB.to (V := updV (vp_V (mmF (mmFt ci) μ (a + 1))) j v) ⟨_, e1, q2, q3, t_set q4 hap hj v⟩ (fun i _ => vp_updV_set (by rw [mmF_len]; exact hl) v i)⟩ e2 e3 (hS.put e2 e3 hAa)
theorem mm_putFi (S : mmS p m c cc nL s args own G) (hR : mmR G A μ H) (hS : va_S A s.heap H locs) {h idx ci j : Nat} {ty : FieldType} (f : mmFF own idx ci j ty) (hin2 : meth.name = "<init>") (hk : mK μ h = ci + 1) (hf : (mmFt ci)[j]? = some false) {v : Int32} (hn : narrow ty (.int v) = .int v) (hfit : fits ty (.int v) = true) (hdg : decode cc pc = .ok (.putfield idx, 3))
    (kk : ∀ (H1 : Heap) (locs1 : List Loc), mmR G A (sI μ h j v) H1 → va_S A s.heap H1 locs1 → W p l e R s m args below meth c H1 locs1 cells slots Q (F0 m (pc + 3) ls rest)) : W p l e R s m args below meth c H locs cells slots Q (F0 m pc ls (.int v :: rf h :: rest)) := by
  have hci : ci < 19 := f.choose_spec.choose_spec.choose_spec.choose_spec.2.1
  refine mm_putF S hR hS f hin2 hk hn hfit (List.getElem?_eq_some_iff.mp hf).1 hdg (fun a H1 locs1 ha hat z oq hS1 => kk H1 locs1 ?_ hS1)
  subst ha
  refine hR.setI ?_ z oq
  rw [mmE_obj (μ := sI μ (a + 1) j v) hk hci, ← mmF_setI hf]
  exact hat
theorem mm_putFp (S : mmS p m c cc nL s args own G) (hR : mmR G A μ H) (hS : va_S A s.heap H locs) {h idx ci j : Nat} {ty : FieldType} (f : mmFF own idx ci j ty) (hin2 : meth.name = "<init>") (hk : mK μ h = ci + 1) (hf : (mmFt ci)[j]? = some true) {v : Nat} (hn : narrow ty (rf v) = rf v) (hfit : fits ty (rf v) = true) (hdg : decode cc pc = .ok (.putfield idx, 3))
    (kk : ∀ (H1 : Heap) (locs1 : List Loc), mmR G A (sP μ h j v) H1 → va_S A s.heap H1 locs1 → W p l e R s m args below meth c H1 locs1 cells slots Q (F0 m (pc + 3) ls rest)) : W p l e R s m args below meth c H locs cells slots Q (F0 m pc ls (rf v :: rf h :: rest)) := by
  have hci : ci < 19 := f.choose_spec.choose_spec.choose_spec.choose_spec.2.1
  refine mm_putF S hR hS f hin2 hk hn hfit (List.getElem?_eq_some_iff.mp hf).1 hdg (fun a H1 locs1 ha hat z oq hS1 => kk H1 locs1 ?_ hS1)
  subst ha
  refine hR.setP ?_ z oq
  rw [mmE_obj (μ := sP μ (a + 1) j v) hk hci, ← mmF_setP hf]
  exact hat
theorem nra_ok {t : FieldType} {v : Nat} : narrow (.array t) (rf v) = rf v := by cases v <;> rfl
theorem fra_ok {t : FieldType} {v : Nat} : fits (.array t) (rf v) = true := by cases v <;> rfl
/-- Object.<init>() -/
theorem mm_obj (S : mmS p m c cc nL s args own G) (hR : mmR G A μ H) {idx h k : Nat} (hlink : Cond.methodLink own idx Lib.objectInit ∈ WL) (hinst : Cond.instanceMethod Lib.objectInit ∈ WL) (hcode : Cond.code Lib.objectInit ⟨#[0xb1]⟩ 1 none ∈ WL) (hk : mK μ h = k + 1) (hl : ls.size = nL) (hframes : 1 ≤ R.frames) (hlocals : (rest.map fun v => v.category).sum + 12 ≤ R.locals) (hdg : decode cc pc = .ok (.invokespecial idx, 3))
    (kk : W p l e R s m args below meth c H locs cells slots Q (F0 m (pc + 3) ls rest)) : W p l e R s m args below meth c H locs cells slots Q (F0 m pc ls (rf h :: rest)) := by
  obtain ⟨a, rfl, -, -⟩ := hR.ref hk
  obtain ⟨hx, hb, hml, hown, hts, hK⟩ := S
  exact W.objInit hx hb hown (hts _ hlink) (hts _ hinst) (hts _ hcode) rfl (by rw [hml]; exact hl) rfl hdg hframes (by show 2 * 0 + _ + _ ≤ _; omega) kk
def mmCI (own : String) (idx : Nat) (y : MethodName) (bytes : ByteArray) (maxL : Nat) (n : Nat) : Prop :=
  (Cond.methodLink own idx y ∈ WL ∨ ∃ host, Cond.methodLinkNest own idx y host ∈ WL) ∧ Cond.instanceMethod y ∈ WL ∧ Cond.initialized y.cls ∈ WL ∧ Cond.code y bytes maxL none ∈ WL ∧ (Cond.code y bytes maxL none).onTables = true ∧ (Cond.code y bytes maxL none).keeps = true ∧ y.name = "<init>" ∧
  (y.cls ≠ "java/lang/invoke/MethodHandle" ∧ y.cls ≠ "java/lang/invoke/VarHandle") ∧ (parseMethodDescriptor y.desc).map (fun d => d.parameters.length) = some n
theorem mm_callI (S : mmS p m c cc nL s args own G) (hR : mmR G A μ H) (hS : va_S A s.heap H locs) (hA : ∀ q, s.heap.size ≤ q → A q) {idx n maxL h k mc ms : Nat} {y : MethodName} {bytes : ByteArray} {rm : Room} {As : List Value} (C : mmCI own idx y bytes maxL n) (hk : mK μ h = k + 1)
    (hM : Met l y [.code y bytes maxL none] rm (mmPc G A μ (rf h :: As)) (mmQ G A μ' none) mc ms A) (hc : rm.cells = mc) (hs : rm.slots = ms) (hroom : rm.frames + 1 ≤ R.frames ∧ 8 + (maxL + 11) + rm.locals ≤ R.locals) (hn : As.length = n) (hl : ls.size = nL) (hst : st0 = As.reverse ++ rf h :: rest)
    (hW : 2 * (F0 m pc ls st0).monitorRoom + (rest.map fun v => v.category).sum ≤ 8) (hdg : decode cc pc = .ok (.invokespecial idx, 3)) (hf : cells + mc ≤ R.cells ∧ slots + ms ≤ R.slots)
    (kk : ∀ (H1 : Heap) (locs1 : List Loc), mmR G A μ' H1 → va_S A s.heap H1 locs1 → W p l e R s m args below meth c H1 locs1 (cells + mc) (slots + ms) Q (F0 m (pc + 3) ls rest)) : W p l e R s m args below meth c H locs cells slots Q (F0 m pc ls st0) := by
  obtain ⟨c1, c2, c4, c5, c6, c7, c3, c8, c9⟩ := C
  obtain ⟨a, rfl, -, -⟩ := hR.ref hk
  have hts := S.2.2.2.2.1
  have hpre : PreS s H (mmPc G A μ (rf (a + 1) :: As)) (.ref a :: As) := ⟨mmPc_blind, fun U hU hW => ⟨rfl, mm_w S hR hU hW, fun q hq => hA q (Nat.le_trans hS.1 (by rw [hU] at hq; exact hq))⟩⟩
  rcases c1 with c1 | ⟨host, c1⟩
  · have hB := mm_callB (R := R) S c1 c4 c5 c6 c7 c8 c9 hc hs hroom
    exact mm_go (va_runI (As := As) (rest := rest) ⟨S.1, S.2.1, S.2.2.1, S.2.2.2.1, S.2.2.2.2.1⟩ hM ⟨hB, c3, hts _ c2⟩ hpre rfl hn hl hst hW hdg hf) hS (fun H1 locs1 a b _ => kk H1 locs1 a b)
  · have hcw : va_CN R s args own idx y host bytes maxL none [.code y bytes maxL none] rm mc ms n := by
      refine ⟨⟨hc, hs, hroom.1, hroom.2, fun w hw a' U hW => ?_, List.mem_cons_self⟩, hts _ c5, hts _ c4, c8, fun sig h => ?_, hts _ c1⟩
      · rw [List.mem_singleton.mp hw]
        exact word_at hW (Or.inl (by rw [c6, c7]; rfl)) (hts _ c5)
      · rw [h] at c9
        exact (Option.some.inj c9).symm
    exact mm_go (va_runIN (As := As) (rest := rest) ⟨S.1, S.2.1, S.2.2.1, S.2.2.2.1, S.2.2.2.2.1⟩ hM ⟨hcw, c3, hts _ c2⟩ hpre rfl hn hl hst hW hdg hf) hS (fun H1 locs1 a b _ => kk H1 locs1 a b)
end MM6
