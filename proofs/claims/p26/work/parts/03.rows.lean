/-! ROWS over the memory: fields, arrays, ends, calls -/
section MM1
variable {p : Program} {l : Launch} {e : Env} {R : Room} {s : State} {m : MethodId} {args : Array Value} {below : List Frame} {meth : Method} {c : Code} {H : Heap} {locs : List Loc} {cells slots : Nat} {Q : State → Prop}
variable {cc : ByteArray} {pc nL : Nat} {ls : Array Slot} {rest : List Value} {own : String} {G : mmG} {A : Nat → Prop} {μ : MM}
def mmFd (own : String) (idx ci j : Nat) : Prop := ∃ (C : String) (T : u_T) (N : Nat), vwCl[ci]? = some (C, T, N) ∧ ci < 19 ∧ j < N ∧ (T j).1 = C ∧ (∀ w ∈ u_ws C T N, w ∈ WL) ∧ (Cond.fieldLink own idx C (T j).2.1 (T j).2.2.1 ∈ WL ∨ ∃ host, Cond.fieldLinkNest own idx C (T j).2.1 (T j).2.2.1 host ∈ WL)
def mmFp (own : String) (idx ci j : Nat) (ty : FieldType) : Prop := ∃ (C : String) (T : u_T) (N : Nat) (ty0 : Nat → FieldType), vwCl[ci]? = some (C, T, N) ∧ ci < 19 ∧ j < N ∧ (T j).1 = C ∧ (∀ w ∈ u_ws C T N, w ∈ WL) ∧ (Cond.fieldLink own idx C (T j).2.1 (T j).2.2.1 ∈ WL ∨ ∃ host, Cond.fieldLinkNest own idx C (T j).2.1 (T j).2.2.1 host ∈ WL) ∧
  (∀ k, k < N → parseFieldDescriptor (T k).2.2.1 = some (ty0 k)) ∧ (∀ a, a < N → ∀ b, b < N → a ≠ b → (T a).2.1 ≠ (T b).2.1) ∧ (T j).2.2.2 = false ∧ parseFieldDescriptor (T j).2.2.1 = some ty
theorem mm_one {D : va_G} {cl : List vw_C} {q : Nat × va_E} {H : Heap} (h : va_at D cl q H) : va_P D cl [q] H := by
  intro k x hk
  cases k with
  | zero => cases hk; exact h
  | succ k => cases hk
theorem mm_geti (S : mmS p m c cc nL s args own G) (hR : mmR G A μ H) {h idx ci j : Nat} (f : mmFd own idx ci j) (hk : mK μ h = ci + 1) (hf : (mmFt ci)[j]? = some false) (hdg : decode cc pc = .ok (.getfield idx, 3))
    (kk : W p l e R s m args below meth c H locs cells slots Q (F0 m (pc + 3) ls (.int (mI μ h j) :: rest))) : W p l e R s m args below meth c H locs cells slots Q (F0 m pc ls (rf h :: rest)) := by
  obtain ⟨hx, hb, -, hown, hts, hK⟩ := S
  obtain ⟨a, rfl, -, hat⟩ := hR.ref hk
  obtain ⟨C, T, N, hc, hci, hj, hC, hin, hlink⟩ := f
  rw [mmE_obj hk hci] at hat
  rcases hlink with hl | ⟨host, hl⟩
  · exact va_get hx hb hts hin hown hK (mm_one hat) 0 rfl hc j hj (hts _ hl) (by rw [hC]; exact fun _ h => h) (mmF_get hf) hdg kk
  · exact va_getN hx hb hts hin hown hK (mm_one hat) 0 rfl hc j hj (hts _ hl) (by rw [hC]; exact fun _ h => h) (mmF_get hf) hdg kk
theorem mm_getp (S : mmS p m c cc nL s args own G) (hR : mmR G A μ H) {h idx ci j : Nat} (f : mmFd own idx ci j) (hk : mK μ h = ci + 1) (hf : (mmFt ci)[j]? = some true) (hdg : decode cc pc = .ok (.getfield idx, 3))
    (kk : W p l e R s m args below meth c H locs cells slots Q (F0 m (pc + 3) ls (rf (mP μ h j) :: rest))) : W p l e R s m args below meth c H locs cells slots Q (F0 m pc ls (rf h :: rest)) := by
  obtain ⟨hx, hb, -, hown, hts, hK⟩ := S
  obtain ⟨a, rfl, -, hat⟩ := hR.ref hk
  obtain ⟨C, T, N, hc, hci, hj, hC, hin, hlink⟩ := f
  rw [mmE_obj hk hci] at hat
  rcases hlink with hl | ⟨host, hl⟩
  · exact va_get hx hb hts hin hown hK (mm_one hat) 0 rfl hc j hj (hts _ hl) (by rw [hC]; exact fun _ h => h) (mmF_get hf) hdg kk
  · exact va_getN hx hb hts hin hown hK (mm_one hat) 0 rfl hc j hj (hts _ hl) (by rw [hC]; exact fun _ h => h) (mmF_get hf) hdg kk
/-- a store into a field, of any value; what the cell holds then -/
theorem mm_put (S : mmS p m c cc nL s args own G) (hR : mmR G A μ H) (hS : va_S A s.heap H locs) {h idx ci j : Nat} {ty : FieldType} (f : mmFp own idx ci j ty) (hk : mK μ h = ci + 1) {v : Value} (hn : narrow ty v = v) (hfit : fits ty v = true) (hl : j < (mmFt ci).length) (hdg : decode cc pc = .ok (.putfield idx, 3))
    (kk : ∀ (a : Nat) (H1 : Heap) (locs1 : List Loc), h = a + 1 → va_at G.1 vwCl (a, .inr (ci, (mmF (mmFt ci) μ h).set j v)) H1 → H1.size = H.size → (∀ q, q ≠ a → H1[q]? = H[q]?) → va_S A s.heap H1 locs1 → W p l e R s m args below meth c H1 locs1 cells slots Q (F0 m (pc + 3) ls rest)) : W p l e R s m args below meth c H locs cells slots Q (F0 m pc ls (v :: rf h :: rest)) := by
  obtain ⟨hx, hb, -, hown, hts, hK⟩ := S
  obtain ⟨a, rfl, hAa, hat⟩ := hR.ref hk
  obtain ⟨C, T, N, ty0, hc, hci, hj, hC, hin, hlink, hty, hnm, hfin, hd⟩ := f
  rw [mmE_obj hk hci] at hat
  have hap := va_apart (own := own) hts hin ty0 hty hnm hK hc
  obtain ⟨r, h1, cell, q1, q2, q3, q4⟩ := hat
  have hr : r = (C, T, N) := Option.some.inj (h1.symm.trans hc)
  subst hr
  obtain ⟨hSl, hfc, kC, hkC, hkind⟩ := hK.1 ci _ hc
  obtain ⟨cf, kf, fi, f, hi, hsl⟩ := hSl j hj
  have hlay := hts _ (hin _ (u_in_lay hj))
  unfold u_lay at hlay
  rw [if_neg (by rw [hfin]; decide)] at hlay
  have hst := (u_facts hfc hkC (u_lays hts hin hj) hi).1
  have h6 := u_store hfc hkC hkind hlay hi hd hn hfit
  have hi' : s.fieldFound? C (T j).2.1 (T j).2.2.1 = some (cf, kf, fi, f) := by rw [← hC]; exact hi
  rcases hlink with hlk | ⟨host, hlk⟩
  · refine W.putK hx hb (f := f) ⟨hown, hts _ hlk, ⟨_, _, _, hi'⟩, hst⟩ (by rw [q2]; exact h6) q1 q3 (by rw [hsl]; exact k2_hasslot (q4 j hj)) rfl rfl hdg fun H' e1 e2 e3 => ?_
    rw [hsl] at e1 ⊢
    exact kk a H' _ rfl ⟨_, hc, t_OB.to (V := updV (vp_V (mmF (mmFt ci) μ (a + 1))) j v) ⟨_, e1, q2, q3, t_set q4 hap hj v⟩ (fun i _ => vp_updV_set (by rw [mmF_len]; exact hl) v i)⟩ e2 e3 (hS.put e2 e3 hAa)
  · refine va_WputK hx hb (f := f) hown (hts _ hlk) hi' hst (by rw [q2]; exact h6) q1 q3 (by rw [hsl]; exact k2_hasslot (q4 j hj)) rfl rfl hdg fun H' e1 e2 e3 => ?_
    rw [hsl] at e1 ⊢
    exact kk a H' _ rfl ⟨_, hc, t_OB.to (V := updV (vp_V (mmF (mmFt ci) μ (a + 1))) j v) ⟨_, e1, q2, q3, t_set q4 hap hj v⟩ (fun i _ => vp_updV_set (by rw [mmF_len]; exact hl) v i)⟩ e2 e3 (hS.put e2 e3 hAa)
theorem mm_puti (S : mmS p m c cc nL s args own G) (hR : mmR G A μ H) (hS : va_S A s.heap H locs) {h idx ci j : Nat} {ty : FieldType} (f : mmFp own idx ci j ty) (hk : mK μ h = ci + 1) (hf : (mmFt ci)[j]? = some false) {v : Int32} (hn : narrow ty (.int v) = .int v) (hfit : fits ty (.int v) = true) (hdg : decode cc pc = .ok (.putfield idx, 3))
    (kk : ∀ (H1 : Heap) (locs1 : List Loc), mmR G A (sI μ h j v) H1 → va_S A s.heap H1 locs1 → W p l e R s m args below meth c H1 locs1 cells slots Q (F0 m (pc + 3) ls rest)) : W p l e R s m args below meth c H locs cells slots Q (F0 m pc ls (.int v :: rf h :: rest)) := by
  have hci : ci < 19 := f.choose_spec.choose_spec.choose_spec.choose_spec.2.1
  refine mm_put S hR hS f hk hn hfit (List.getElem?_eq_some_iff.mp hf).1 hdg (fun a H1 locs1 ha hat z oq hS1 => kk H1 locs1 ?_ hS1)
  subst ha
  refine hR.setI ?_ z oq
  rw [mmE_obj (μ := sI μ (a + 1) j v) hk hci, ← mmF_setI hf]
  exact hat
theorem mm_putp (S : mmS p m c cc nL s args own G) (hR : mmR G A μ H) (hS : va_S A s.heap H locs) {h idx ci j : Nat} {ty : FieldType} (f : mmFp own idx ci j ty) (hk : mK μ h = ci + 1) (hf : (mmFt ci)[j]? = some true) {v : Nat} (hn : narrow ty (rf v) = rf v) (hfit : fits ty (rf v) = true) (hdg : decode cc pc = .ok (.putfield idx, 3))
    (kk : ∀ (H1 : Heap) (locs1 : List Loc), mmR G A (sP μ h j v) H1 → va_S A s.heap H1 locs1 → W p l e R s m args below meth c H1 locs1 cells slots Q (F0 m (pc + 3) ls rest)) : W p l e R s m args below meth c H locs cells slots Q (F0 m pc ls (rf v :: rf h :: rest)) := by
  have hci : ci < 19 := f.choose_spec.choose_spec.choose_spec.choose_spec.2.1
  refine mm_put S hR hS f hk hn hfit (List.getElem?_eq_some_iff.mp hf).1 hdg (fun a H1 locs1 ha hat z oq hS1 => kk H1 locs1 ?_ hS1)
  subst ha
  refine hR.setP ?_ z oq
  rw [mmE_obj (μ := sP μ (a + 1) j v) hk hci, ← mmF_setP hf]
  exact hat
theorem mm_iald (S : mmS p m c cc nL s args own G) (hR : mmR G A μ H) {h : Nat} (hk : mK μ h = 20) {i : Int32} (hin : vp_in i (mN μ h)) (hdg : decode cc pc = .ok (.iaload, 1))
    (kk : W p l e R s m args below meth c H locs cells slots Q (F0 m (pc + 1) ls (.int (mI μ h i.toNatClampNeg) :: rest))) : W p l e R s m args below meth c H locs cells slots Q (F0 m pc ls (.int i :: rf h :: rest)) := by
  obtain ⟨hx, hb, -, hown, hts, hK⟩ := S
  obtain ⟨a, rfl, -, hat⟩ := hR.ref hk
  rw [mmE_int hk] at hat
  exact va_iald hx hb hK (mm_one hat) 0 0 rfl rfl hin hdg kk
theorem mm_iast (S : mmS p m c cc nL s args own G) (hR : mmR G A μ H) (hS : va_S A s.heap H locs) {h : Nat} (hk : mK μ h = 20) {i v : Int32} (hin : vp_in i (mN μ h)) (hdg : decode cc pc = .ok (.iastore, 1))
    (kk : ∀ (H1 : Heap) (locs1 : List Loc), mmR G A (sI μ h i.toNatClampNeg v) H1 → va_S A s.heap H1 locs1 → W p l e R s m args below meth c H1 locs1 cells slots Q (F0 m (pc + 1) ls rest)) : W p l e R s m args below meth c H locs cells slots Q (F0 m pc ls (.int v :: .int i :: rf h :: rest)) := by
  obtain ⟨hx, hb, -, hown, hts, hK⟩ := S
  obtain ⟨a, rfl, hAa, hat⟩ := hR.ref hk
  rw [mmE_int hk] at hat
  refine W.iast hx hb hat ((hK.2 0 _ rfl).1 (mN μ (a + 1)) (fun j => .int (mI μ (a + 1) j))) (fun q => by cases q) (by show ¬ (i < 0 ∨ (arrV _ _ _).slots.size ≤ _); rw [arrV_size]; exact hin) rfl rfl hdg fun H1 e z oq => ?_
  refine kk H1 _ (hR.setI ?_ z oq) (hS.put z oq hAa)
  rw [mmE_int (μ := sI μ (a + 1) i.toNatClampNeg v) hk]
  show H1[a]? = some (vp_cell _ _)
  rw [e]
  show some ((vp_cell _ _).setSlot _ _) = _
  rw [vp_cell_i, vp_cell_i, arrV_store]
  congr 2
  funext q
  by_cases hq : q = i.toNatClampNeg
  · subst hq
    simp [updV, mI_sI]
  · simp [updV, mI_sI, hq]
theorem mm_aald21 (S : mmS p m c cc nL s args own G) (hR : mmR G A μ H) {h : Nat} (hk : mK μ h = 21) {i : Int32} (hin : vp_in i (mN μ h)) (hdg : decode cc pc = .ok (.aaload, 1))
    (kk : W p l e R s m args below meth c H locs cells slots Q (F0 m (pc + 1) ls (rf (mP μ h i.toNatClampNeg) :: rest))) : W p l e R s m args below meth c H locs cells slots Q (F0 m pc ls (.int i :: rf h :: rest)) := by
  obtain ⟨hx, hb, -, hown, hts, hK⟩ := S
  obtain ⟨a, rfl, -, hat⟩ := hR.ref hk
  rw [mmE_ptr hk (by omega) (by decide)] at hat
  exact va_aldq hx hb hK (mm_one hat) 0 1 rfl rfl hin hdg kk
theorem mm_aald22 (S : mmS p m c cc nL s args own G) (hR : mmR G A μ H) {h : Nat} (hk : mK μ h = 22) {i : Int32} (hin : vp_in i (mN μ h)) (hdg : decode cc pc = .ok (.aaload, 1))
    (kk : W p l e R s m args below meth c H locs cells slots Q (F0 m (pc + 1) ls (rf (mP μ h i.toNatClampNeg) :: rest))) : W p l e R s m args below meth c H locs cells slots Q (F0 m pc ls (.int i :: rf h :: rest)) := by
  obtain ⟨hx, hb, -, hown, hts, hK⟩ := S
  obtain ⟨a, rfl, -, hat⟩ := hR.ref hk
  rw [mmE_ptr hk (by omega) (by decide)] at hat
  exact va_aldq hx hb hK (mm_one hat) 0 2 rfl rfl hin hdg kk
-- handles on locals and stack
theorem mm_aload_n (S : mmS p m c cc nL s args own G) {k : Fin 4} {i h : Nat} (hdg : decode cc pc = .ok (.aload_n k, 1)) (hi : (k : Nat) = i) (hl : ls[i]? = some (.val (rf h)))
    (kk : W p l e R s m args below meth c H locs cells slots Q (F0 m (pc + 1) ls (rf h :: rest))) : W p l e R s m args below meth c H locs cells slots Q (F0 m pc ls rest) := by
  cases h with
  | zero => exact lv_aload_nN S.1 S.2.1 hdg hi hl kk
  | succ a => exact lv_aload_n S.1 S.2.1 hdg hi hl kk
theorem mm_aload (S : mmS p m c cc nL s args own G) {i h : Nat} (hdg : decode cc pc = .ok (.aload i, 2)) (hl : ls[i]? = some (.val (rf h)))
    (kk : W p l e R s m args below meth c H locs cells slots Q (F0 m (pc + 2) ls (rf h :: rest))) : W p l e R s m args below meth c H locs cells slots Q (F0 m pc ls rest) := by
  cases h with
  | zero => exact lv_aloadN S.1 S.2.1 hdg hl kk
  | succ a => exact lv_aload S.1 S.2.1 hdg hl kk
theorem mm_astore_n (S : mmS p m c cc nL s args own G) {k : Fin 4} {i n h : Nat} {lv lv' : List (Nat × Value)} (hdg : decode cc pc = .ok (.astore_n k, 1)) (hi : (k : Nat) = i) (hh : lv_has ls n lv) (hn : i < n) (hl : (i, rf h) :: lv.filter (fun q => !(q.1 == i) && !(q.1 + 1 == i && q.2.category == 2)) = lv')
    (kk : ∀ ls' : Array Slot, lv_has ls' n lv' → W p l e R s m args below meth c H locs cells slots Q (F0 m (pc + 1) ls' rest)) : W p l e R s m args below meth c H locs cells slots Q (F0 m pc ls (rf h :: rest)) := by
  cases h with
  | zero => exact lv_astore_nN S.1 S.2.1 hdg hi hh hn hl kk
  | succ a => exact lv_astore_n S.1 S.2.1 hdg hi hh hn hl kk
theorem mm_astore (S : mmS p m c cc nL s args own G) {i n h : Nat} {lv lv' : List (Nat × Value)} (hdg : decode cc pc = .ok (.astore i, 2)) (hh : lv_has ls n lv) (hn : i < n) (hl : (i, rf h) :: lv.filter (fun q => !(q.1 == i) && !(q.1 + 1 == i && q.2.category == 2)) = lv')
    (kk : ∀ ls' : Array Slot, lv_has ls' n lv' → W p l e R s m args below meth c H locs cells slots Q (F0 m (pc + 2) ls' rest)) : W p l e R s m args below meth c H locs cells slots Q (F0 m pc ls (rf h :: rest)) := by
  cases h with
  | zero => exact lv_astoreN S.1 S.2.1 hdg hh hn hl kk
  | succ a => exact lv_astore S.1 S.2.1 hdg hh hn hl kk
theorem op_inj {a b : Nat} : op a = op b ↔ a = b := by
  cases a <;> cases b <;> simp [op]
theorem mm_acmp_eq (S : mmS p m c cc nL s args own G) {x y : Nat} {off : Int} {tgt : Nat} (hdg : decode cc pc = .ok (.if_acmp .eq off, 3)) (ht : (pc : Int) + off = (tgt : Int))
    (kt : x = y → W p l e R s m args below meth c H locs cells slots Q (F0 m tgt ls rest)) (kf : ¬ x = y → W p l e R s m args below meth c H locs cells slots Q (F0 m (pc + 3) ls rest)) : W p l e R s m args below meth c H locs cells slots Q (F0 m pc ls (rf y :: rf x :: rest)) :=
  lv_acmp_eq S.1 S.2.1 hdg ht (fun h => kt (op_inj.mp h)) (fun h => kf (fun e => h (op_inj.mpr e)))
-- a method's body and its end
theorem mm_nw {s : State} {args : Array Value} (hts : ∀ w ∈ WL, w.before args s = true) : ∀ w ∈ WL, va_Nw w s := fun w hw => mmOf (List.mem_filter.mp hw).2 (hts w hw)
theorem mm_w (S : mmS p m c cc nL s args own G) (hR : mmR G A μ H) {t : State} (ht : t.heap = H) (hW : s.WarmedH t.vm) : mmW G A μ t :=
  ⟨by rw [ht]; exact hR, va_K.moved hW.alike S.2.2.2.2.2, fun w hw => mmWarm hW (List.mem_filter.mp hw).2 (mm_nw S.2.2.2.2.1 w hw)⟩
theorem mm_iret (S : mmS p m c cc nL s args own G) (hR : mmR G A μ H) (hS : va_S A s.heap H locs) (hr : meth.sig.returnType = some .int) (hlocks : meth.locks = false) {v : Int32} (hdg : decode cc pc = .ok (.ireturn, 1)) : W p l e R s m args below meth c H locs cells slots (MQ below (mmQ G A μ (some (.int v))) args s cells slots A) (F0 m pc ls [.int v]) :=
  W.iret S.1 S.2.1 hr (fun t ht hW => ⟨rfl, mm_w S hR ht hW, hS.F ht⟩) hS.2.2 hdg hlocks
theorem mm_zret (S : mmS p m c cc nL s args own G) (hR : mmR G A μ H) (hS : va_S A s.heap H locs) (hr : meth.sig.returnType = some .boolean) (hlocks : meth.locks = false) {v : Int32} (hv : v = 0 ∨ v = 1) (hdg : decode cc pc = .ok (.ireturn, 1)) : W p l e R s m args below meth c H locs cells slots (MQ below (mmQ G A μ (some (.int v))) args s cells slots A) (F0 m pc ls [.int v]) :=
  W.zret S.1 S.2.1 hr (by rcases hv with rfl | rfl <;> rfl) (fun t ht hW => ⟨rfl, mm_w S hR ht hW, hS.F ht⟩) hS.2.2 hdg hlocks
theorem mm_vret (S : mmS p m c cc nL s args own G) (hR : mmR G A μ H) (hS : va_S A s.heap H locs) (hr : meth.sig.returnType = none) (hlocks : meth.locks = false) (hdg : decode cc pc = .ok (.return_, 1)) : W p l e R s m args below meth c H locs cells slots (MQ below (mmQ G A μ none) args s cells slots A) (F0 m pc ls []) :=
  W.vret S.1 S.2.1 hr (fun t ht hW => ⟨rfl, mm_w S hR ht hW, hS.F ht⟩) hS.2.2 hdg hlocks
theorem mm_aret (S : mmS p m c cc nL s args own G) (hR : mmR G A μ H) (hS : va_S A s.heap H locs) {C : String} (hr : meth.sig.returnType = some (.object C)) (hlocks : meth.locks = false) {h : Nat} (hdg : decode cc pc = .ok (.areturn, 1)) : W p l e R s m args below meth c H locs cells slots (MQ below (mmQ G A μ (some (rf h))) args s cells slots A) (F0 m pc ls [rf h]) :=
  W.aret S.1 S.2.1 hr (Or.inl ⟨C, rfl⟩) (rf_or h) (fun t ht hW => ⟨rfl, mm_w S hR ht hW, hS.F ht⟩) hS.2.2 hdg hlocks
end MM1
