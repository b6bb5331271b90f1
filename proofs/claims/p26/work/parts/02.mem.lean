/-! MEMORY: handles (0: null, a + 1: the cell a), kinds, lengths, whole numbers and handles in them -/
section MM0
def op : Nat → Option Nat := fun h => match h with
  | 0 => none
  | a + 1 => some a
def rf (h : Nat) : Value := va_rf (op h)
theorem rf_cat (h : Nat) : (rf h).category = 1 := by cases h <;> rfl
theorem rf_or (h : Nat) : rf h = .null ∨ ∃ a, rf h = .ref a := by cases h with
  | zero => exact Or.inl rfl
  | succ a => exact Or.inr ⟨a, rfl⟩
abbrev MM : Type := (Nat → Nat) × (Nat → Nat) × (Nat → Nat → Int32) × (Nat → Nat → Nat) × Nat
def mK (μ : MM) : Nat → Nat := μ.1
def mN (μ : MM) : Nat → Nat := μ.2.1
def mI (μ : MM) : Nat → Nat → Int32 := μ.2.2.1
def mP (μ : MM) : Nat → Nat → Nat := μ.2.2.2.1
/-- the next handle -/
def mX (μ : MM) : Nat := μ.2.2.2.2
def sI (μ : MM) (h j : Nat) (v : Int32) : MM := (μ.1, μ.2.1, fun a i => if a = h ∧ i = j then v else μ.2.2.1 a i, μ.2.2.2.1, μ.2.2.2.2)
def sP (μ : MM) (h j : Nat) (v : Nat) : MM := (μ.1, μ.2.1, μ.2.2.1, fun a i => if a = h ∧ i = j then v else μ.2.2.2.1 a i, μ.2.2.2.2)
theorem mK_sI (μ : MM) (h j : Nat) (v : Int32) : mK (sI μ h j v) = mK μ := rfl
theorem mN_sI (μ : MM) (h j : Nat) (v : Int32) : mN (sI μ h j v) = mN μ := rfl
theorem mP_sI (μ : MM) (h j : Nat) (v : Int32) : mP (sI μ h j v) = mP μ := rfl
theorem mI_sI (μ : MM) (h j : Nat) (v : Int32) (a i : Nat) : mI (sI μ h j v) a i = if a = h ∧ i = j then v else mI μ a i := rfl
theorem mX_sI (μ : MM) (h j : Nat) (v : Int32) : mX (sI μ h j v) = mX μ := rfl
theorem mX_sP (μ : MM) (h j : Nat) (v : Nat) : mX (sP μ h j v) = mX μ := rfl
theorem mK_sP (μ : MM) (h j : Nat) (v : Nat) : mK (sP μ h j v) = mK μ := rfl
theorem mN_sP (μ : MM) (h j : Nat) (v : Nat) : mN (sP μ h j v) = mN μ := rfl
theorem mI_sP (μ : MM) (h j : Nat) (v : Nat) : mI (sP μ h j v) = mI μ := rfl
theorem mP_sP (μ : MM) (h j : Nat) (v : Nat) (a i : Nat) : mP (sP μ h j v) a i = if a = h ∧ i = j then v else mP μ a i := rfl
/-- which fields are references -/
def mmFt : Nat → List Bool := fun c => match c with
  | 0 => [true, true, false]
  | 1 => [true, true, true, false]
  | 2 => [false, true, true, false, false, false, false, false, false, false, false, false, false, false, false, false, false]
  | 3 => [true, true, true, true, true, false, false, false, true, false, false, false, false]
  | 4 => [true, false]
  | 5 => [true, true, false]
  | 6 => [true, true, true]
  | 7 => [true, true, false]
  | _ => []
/-- which rows hold references -/
def mmAp (k : Nat) : Bool := k != 20 && k != 23
def mmTys (dA : Nat → ClassId) : List (ClassId × FieldType) := [(dA 20, .int), (dA 21, .object "YieldMoor$Body"), (dA 22, .object "YieldMoor$Coroutine"), (dA 23, .boolean), (dA 24, .array .int), (dA 25, .array (.array .int))]
def mmF (l : List Bool) (μ : MM) (h : Nat) : List Value := l.zipIdx.map (fun q => if q.1 then rf (mP μ h q.2) else .int (mI μ h q.2))
def mmE (dA : Nat → ClassId) (μ : MM) (h : Nat) : va_E :=
  if mK μ h < 20 then .inr (mK μ h - 1, mmF (mmFt (mK μ h - 1)) μ h)
  else if mmAp (mK μ h) then .inl (dA (mK μ h), mN μ h, .inr (.inr (.inr (.inr (fun i => op (mP μ h i))))))
  else .inl (dA (mK μ h), mN μ h, .inl (fun i => mI μ h i))
theorem mmF_get {l : List Bool} {μ : MM} {h j : Nat} {b : Bool} (hj : l[j]? = some b) : (mmF l μ h)[j]? = some (if b then rf (mP μ h j) else .int (mI μ h j)) := by
  simp [mmF, List.getElem?_map, List.getElem?_zipIdx, hj]
theorem mmF_len (l : List Bool) (μ : MM) (h : Nat) : (mmF l μ h).length = l.length := by simp [mmF]
theorem mmF_setI {l : List Bool} {μ : MM} {h j : Nat} (hj : l[j]? = some false) (v : Int32) : (mmF l μ h).set j (.int v) = mmF l (sI μ h j v) h := by
  apply List.ext_getElem?
  intro i
  rw [List.getElem?_set]
  have hl : j < l.length := (List.getElem?_eq_some_iff.mp hj).1
  by_cases hij : j = i
  · subst hij
    rw [if_pos rfl, if_pos (by rw [mmF_len]; exact hl), mmF_get hj]
    simp [mI_sI]
  · rw [if_neg hij]
    cases hb : l[i]? with
    | none =>
      have h1 : l.length ≤ i := List.getElem?_eq_none_iff.mp hb
      rw [List.getElem?_eq_none (by rw [mmF_len]; exact h1), List.getElem?_eq_none (by rw [mmF_len]; exact h1)]
    | some b =>
      rw [mmF_get hb, mmF_get hb]
      have hne : ¬ (i = j) := fun e => hij e.symm
      simp [mI_sI, mP_sI, hne]
theorem mmF_setP {l : List Bool} {μ : MM} {h j : Nat} (hj : l[j]? = some true) (v : Nat) : (mmF l μ h).set j (rf v) = mmF l (sP μ h j v) h := by
  apply List.ext_getElem?
  intro i
  rw [List.getElem?_set]
  have hl : j < l.length := (List.getElem?_eq_some_iff.mp hj).1
  by_cases hij : j = i
  · subst hij
    rw [if_pos rfl, if_pos (by rw [mmF_len]; exact hl), mmF_get hj]
    simp [mP_sP]
  · rw [if_neg hij]
    cases hb : l[i]? with
    | none =>
      have h1 : l.length ≤ i := List.getElem?_eq_none_iff.mp hb
      rw [List.getElem?_eq_none (by rw [mmF_len]; exact h1), List.getElem?_eq_none (by rw [mmF_len]; exact h1)]
    | some b =>
      rw [mmF_get hb, mmF_get hb]
      have hne : ¬ (i = j) := fun e => hij e.symm
      simp [mI_sP, mP_sP, hne]
theorem mmF_neI {l : List Bool} {μ : MM} {h a j : Nat} {v : Int32} (hne : a ≠ h) : mmF l (sI μ h j v) a = mmF l μ a := by
  simp [mmF, mI_sI, mP_sI, hne]
theorem mmF_neP {l : List Bool} {μ : MM} {h a j : Nat} {v : Nat} (hne : a ≠ h) : mmF l (sP μ h j v) a = mmF l μ a := by
  simp [mmF, mI_sP, mP_sP, hne]
theorem mmE_neI {dA : Nat → ClassId} {μ : MM} {h a j : Nat} {v : Int32} (hne : a ≠ h) : mmE dA (sI μ h j v) a = mmE dA μ a := by
  simp [mmE, mK_sI, mN_sI, mP_sI, mI_sI, hne, mmF_neI]
theorem mmE_neP {dA : Nat → ClassId} {μ : MM} {h a j : Nat} {v : Nat} (hne : a ≠ h) : mmE dA (sP μ h j v) a = mmE dA μ a := by
  simp [mmE, mK_sP, mN_sP, mP_sP, mI_sP, hne, mmF_neP]
theorem mmE_obj {dA : Nat → ClassId} {μ : MM} {h ci : Nat} (hk : mK μ h = ci + 1) (hc : ci < 19) : mmE dA μ h = .inr (ci, mmF (mmFt ci) μ h) := by
  unfold mmE
  rw [hk, if_pos (by omega)]
  rfl
theorem mmE_int {dA : Nat → ClassId} {μ : MM} {h : Nat} (hk : mK μ h = 20) : mmE dA μ h = .inl (dA 20, mN μ h, .inl (fun i => mI μ h i)) := by
  unfold mmE
  rw [hk, if_neg (by omega), if_neg (by decide)]
theorem mmE_bool {dA : Nat → ClassId} {μ : MM} {h : Nat} (hk : mK μ h = 23) : mmE dA μ h = .inl (dA 23, mN μ h, .inl (fun i => mI μ h i)) := by
  unfold mmE
  rw [hk, if_neg (by omega), if_neg (by decide)]
theorem mmE_ptr {dA : Nat → ClassId} {μ : MM} {h k : Nat} (hk : mK μ h = k) (h20 : 20 ≤ k) (hp : mmAp k = true) : mmE dA μ h = .inl (dA k, mN μ h, .inr (.inr (.inr (.inr (fun i => op (mP μ h i)))))) := by
  unfold mmE
  rw [hk, if_neg (by omega), if_pos hp]
/-- the words that every state's tables keep -/
def mmNest : Cond → Bool
  | .fieldLinkNest .. => true
  | .methodLinkNest .. => true
  | .castable .. => true
  | .declares .. => true
  | .arrayClass .. => true
  | .arrayOver (.object _) => true
  | .arrayOver (.array _) => true
  | _ => false
def mmGood (w : Cond) : Bool := (w.onTables && w.keeps) || mmNest w
def WL : List Cond := lw_tbl.filter mmGood
theorem ao_spec {args : Array Value} {s : State} {t : FieldType} (h : (Cond.arrayOver (.array t)).before args s = true) :
    ∃ comp c k, s.vm.findClass (FieldType.array t).toString = some comp ∧ (s.vm.classes.findIdx? fun x => match x.kind with | .array component _ => component == comp | _ => false) = some c ∧ s.vm.classes[c]? = some k ∧ k.kind = .array comp (.array t) ∧ s.vm.findClass ("[" ++ (FieldType.array t).toString) = some c := by
  unfold Cond.before at h
  simp only [Cond.holds, Cond.value, beq_iff_eq] at h
  cases hc : s.vm.findClass (FieldType.array t).toString with
  | none => simp [hc] at h
  | some comp =>
    simp only [hc, Option.bind_some, Option.bind_eq_some_iff, Option.map_eq_some_iff] at h
    obtain ⟨c, hi, k, hk, hb⟩ := h
    obtain ⟨hlt, hp, -⟩ := Array.findIdx?_eq_some_iff_getElem.mp hi
    have hkk : s.vm.classes[c] = k := (Array.getElem?_eq_some_iff.mp hk).2
    rw [hkk] at hp
    cases hkind : k.kind with
    | array component ty =>
      rw [hkind] at hb hp
      simp at hb hp
      exact ⟨comp, c, k, rfl, hi, hk, by rw [hkind, hp, hb.1], hb.2⟩
    | _ => rw [hkind] at hb; simp at hb
theorem ao_moved {t : FieldType} {u U : State} (hal : u.vm.Alike U.vm) (h : va_Nw (.arrayOver (.array t)) u) : va_Nw (.arrayOver (.array t)) U := by
  obtain ⟨comp, c, k, hcomp, hidx, hk, hkind, hname⟩ := ao_spec h
  obtain ⟨k', hk', hek'⟩ := hal.2.2 _ _ hk
  have hkind' : k'.kind = .array comp (.array t) := by rw [hek']; exact hkind
  have hname' : U.vm.findClass ("[" ++ (FieldType.array t).toString) = some c := by rw [hal.findClass]; exact hname
  have hcomp' : U.vm.findClass (FieldType.array t).toString = some comp := by rw [hal.findClass]; exact hcomp
  unfold va_Nw Cond.before
  simp only [Cond.holds, Cond.value, hcomp', Option.bind_some, beq_iff_eq]
  rw [Option.bind_eq_some_iff]
  refine ⟨c, (hal.findIdx?_eqK _ (fun _ => rfl)).trans hidx, ?_⟩
  simp [hk', hkind', hname']
theorem mmGood_or {w : Cond} (h : mmGood w = true) : w.onTables = true ∨ (∃ ty, w = .arrayClass ty) ∨ (∃ C, w = .arrayOver (.object C)) ∨ ∃ t, w = .arrayOver (.array t) := by
  unfold mmGood at h
  rcases Bool.or_eq_true_iff.mp h with h | h
  · exact Or.inl (Bool.and_eq_true_iff.mp h).1
  · cases w with
    | arrayOver ty => cases ty <;> first | exact Or.inr (Or.inr (Or.inl ⟨_, rfl⟩)) | exact Or.inr (Or.inr (Or.inr ⟨_, rfl⟩)) | (simp [mmNest] at h; done)
    | _ => first | exact Or.inr (Or.inl ⟨_, rfl⟩) | exact Or.inl rfl | (simp [mmNest] at h; done)
theorem mmUse {w : Cond} (h : mmGood w = true) {U : State} {args : Array Value} (k : va_Nw w U) : w.before args U = true := by
  rcases mmGood_or h with h | ⟨ty, rfl⟩ | ⟨C, rfl⟩ | ⟨t, rfl⟩
  · exact va_Nw.use h k
  · exact word_at (State.WarmedH.refl U) (Or.inr ⟨_, rfl⟩) k
  · exact va_AO.use k
  · exact k
theorem mmOf {w : Cond} (h : mmGood w = true) {U : State} {args : Array Value} (k : w.before args U = true) : va_Nw w U := by
  rcases mmGood_or h with h | ⟨ty, rfl⟩ | ⟨C, rfl⟩ | ⟨t, rfl⟩
  · exact va_Nw.of h k
  · exact word_at (State.WarmedH.refl U) (Or.inr ⟨_, rfl⟩) k
  · exact va_AO.of k
  · exact k
theorem mmWarm {s U : State} (hW : s.WarmedH U.vm) {w : Cond} (hg : mmGood w = true) (h : va_Nw w s) : va_Nw w U := by
  unfold mmGood at hg
  rcases Bool.or_eq_true_iff.mp hg with hg | hg
  · exact word_at hW (Or.inl hg) h
  · cases w with
    | arrayOver ty => cases ty <;> first | exact va_AO.moved hW.alike h | exact ao_moved hW.alike h | (simp [mmNest] at hg; done)
    | fieldLinkNest => exact va_Nw.warmF hW h
    | methodLinkNest => exact va_Nw.warmM hW h
    | castable => exact va_Nw.warmC hW h
    | declares => exact va_Nw.warmD hW h
    | arrayClass => exact word_at hW (Or.inr ⟨_, rfl⟩) h
    | _ => simp [mmNest] at hg; done
theorem mmSame {w : Cond} (h : mmGood w = true) {U V : State} (e : V.vm = U.vm) (k : va_Nw w U) : va_Nw w V := mmWarm (s := U) (by rw [e]; exact State.WarmedH.refl U) h k
theorem wl_in {w : Cond} (i : Nat) (h : lw_tbl[i]? = some w) (hg : mmGood w = true) : w ∈ WL := List.mem_filter.mpr ⟨List.mem_of_getElem? h, hg⟩
theorem wl_t {w : Cond} (i : Nat) (h : tables_1[i]? = some w) (hg : mmGood w = true) : w ∈ WL := List.mem_filter.mpr ⟨List.mem_append_right _ (List.mem_of_getElem? h), hg⟩
theorem wl_s {w : Cond} (i : Nat) (h : (k2_sels lw_privs)[i]? = some w) (hg : mmGood w = true) : w ∈ WL := List.mem_filter.mpr ⟨List.mem_append_left _ (List.mem_of_getElem? h), hg⟩
abbrev mmG : Type := va_G × (Nat → ClassId)
/-- the memory is in the heap, within A -/
def mmR (G : mmG) (A : Nat → Prop) (μ : MM) (H : Heap) : Prop := (mK μ 0 = 0 ∧ mX μ = H.size + 1) ∧ ∀ a, mK μ (a + 1) ≠ 0 → A a ∧ va_at G.1 vwCl (a, mmE G.2 μ (a + 1)) H
def mmW (G : mmG) (A : Nat → Prop) (μ : MM) (U : State) : Prop := mmR G A μ U.heap ∧ va_K G.1 vwCl (mmTys G.2) U ∧ ∀ w ∈ WL, va_Nw w U
def mmPc (G : mmG) (A : Nat → Prop) (μ : MM) (av : List Value) : Array Value → State → Prop := va_Pc av (fun U => mmW G A μ U ∧ ∀ q, U.heap.size ≤ q → A q)
def mmQ (G : mmG) (A : Nat → Prop) (μ : MM) (ov : Option Value) : Array Value → State → Outcome → State → Prop := fun _ st oc t => oc = .returned ov ∧ mmW G A μ t ∧ va_F A st t
abbrev mmS (p : Program) (m : MethodId) (c : Code) (cc : ByteArray) (nL : Nat) (s : State) (args : Array Value) (own : String) (G : mmG) : Prop :=
  p.tables.exec = Jvm.exec ∧ c.code = cc ∧ c.maxLocals = nL ∧ s.vm.findClass own = some m.cls ∧ (∀ w ∈ WL, w.before args s = true) ∧ va_K G.1 vwCl (mmTys G.2) s
theorem mmR.setI {G : mmG} {A : Nat → Prop} {μ : MM} {H H1 : Heap} {a j : Nat} {v : Int32} (hR : mmR G A μ H) (he : va_at G.1 vwCl (a, mmE G.2 (sI μ (a + 1) j v) (a + 1)) H1) (z : H1.size = H.size) (oq : ∀ q, q ≠ a → H1[q]? = H[q]?) : mmR G A (sI μ (a + 1) j v) H1 := by
  refine ⟨⟨hR.1.1, by rw [z]; exact hR.1.2⟩, fun b hb => ⟨(hR.2 b hb).1, ?_⟩⟩
  by_cases h : b = a
  · subst h; exact he
  · rw [mmE_neI (fun e => h (by omega))]
    exact (hR.2 b hb).2.kept (oq b h)
theorem mmR.setP {G : mmG} {A : Nat → Prop} {μ : MM} {H H1 : Heap} {a j : Nat} {v : Nat} (hR : mmR G A μ H) (he : va_at G.1 vwCl (a, mmE G.2 (sP μ (a + 1) j v) (a + 1)) H1) (z : H1.size = H.size) (oq : ∀ q, q ≠ a → H1[q]? = H[q]?) : mmR G A (sP μ (a + 1) j v) H1 := by
  refine ⟨⟨hR.1.1, by rw [z]; exact hR.1.2⟩, fun b hb => ⟨(hR.2 b hb).1, ?_⟩⟩
  by_cases h : b = a
  · subst h; exact he
  · rw [mmE_neP (fun e => h (by omega))]
    exact (hR.2 b hb).2.kept (oq b h)
theorem mmR.ref {G : mmG} {A : Nat → Prop} {μ : MM} {H : Heap} {h k : Nat} (hR : mmR G A μ H) (hk : mK μ h = k + 1) : ∃ a, h = a + 1 ∧ A a ∧ va_at G.1 vwCl (a, mmE G.2 μ (a + 1)) H := by
  cases h with
  | zero => rw [hR.1.1] at hk; cases hk
  | succ a => exact ⟨a, rfl, hR.2 a (by rw [hk]; omega)⟩
end MM0
