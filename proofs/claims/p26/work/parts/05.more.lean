/-! ROWS over the memory: System.arraycopy of ints from 0 to 0, Math.min, Math.max, switches -/
section MM3
variable {p : Program} {l : Launch} {e : Env} {R : Room} {s : State} {m : MethodId} {args : Array Value} {below : List Frame} {meth : Method} {c : Code} {H : Heap} {locs : List Loc} {cells slots : Nat} {Q : State → Prop}
variable {cc : ByteArray} {pc nL : Nat} {ls : Array Slot} {rest : List Value} {own : String} {G : mmG} {A : Nat → Prop} {μ : MM}
def sC (μ : MM) (src dst n : Nat) : MM := (μ.1, μ.2.1, fun a i => if a = dst ∧ i < n then μ.2.2.1 src i else μ.2.2.1 a i, μ.2.2.2.1, μ.2.2.2.2)
theorem mK_sC (μ : MM) (src dst n : Nat) : mK (sC μ src dst n) = mK μ := rfl
theorem mN_sC (μ : MM) (src dst n : Nat) : mN (sC μ src dst n) = mN μ := rfl
theorem mX_sC (μ : MM) (src dst n : Nat) : mX (sC μ src dst n) = mX μ := rfl
theorem mP_sC (μ : MM) (src dst n : Nat) : mP (sC μ src dst n) = mP μ := rfl
theorem mI_sC (μ : MM) (src dst n a i : Nat) : mI (sC μ src dst n) a i = if a = dst ∧ i < n then mI μ src i else mI μ a i := rfl
theorem mmE_neC {dA : Nat → ClassId} {μ : MM} {src h a n : Nat} (hne : a ≠ h) : mmE dA (sC μ src h n) a = mmE dA μ a := by
  have h1 : ∀ i, mI (sC μ src h n) a i = mI μ a i := fun i => by rw [mI_sC, if_neg (fun e => hne e.1)]
  simp [mmE, mmF, mK_sC, mN_sC, mP_sC, h1]
def mmCp (own : String) (idx : Nat) : Prop := Cond.methodLink own idx arraycopyName ∈ WL ∧ Cond.native arraycopyName ∈ WL ∧ Cond.static arraycopyName ∈ WL ∧ Cond.initialized "java/lang/System" ∈ WL
theorem mm_copy (S : mmS p m c cc nL s args own G) (hR : mmR G A μ H) (hS : va_S A s.heap H locs) {idx src dst : Nat} (C : mmCp own idx) (hk0 : mK μ src = 20) (hk1 : mK μ dst = 20) {n : Int32} (h3 : ¬ n < 0) (hn0 : n.toNatClampNeg ≤ mN μ src) (hn1 : n.toNatClampNeg ≤ mN μ dst) (hl : ls.size = nL)
    (hframes : 1 ≤ R.frames) (hlocals : (rest.map fun v => v.category).sum + 18 ≤ R.locals) (hdg : decode cc pc = .ok (.invokestatic idx, 3))
    (kk : ∀ (H1 : Heap) (locs1 : List Loc), mmR G A (sC μ src dst n.toNatClampNeg) H1 → va_S A s.heap H1 locs1 → W p l e R s m args below meth c H1 locs1 cells slots Q (F0 m (pc + 3) ls rest)) : W p l e R s m args below meth c H locs cells slots Q (F0 m pc ls (.int n :: .int 0 :: rf dst :: .int 0 :: rf src :: rest)) := by
  obtain ⟨hx, hb, hml, hown, hts, hK⟩ := S
  obtain ⟨a0, rfl, -, hat0⟩ := hR.ref hk0
  obtain ⟨a, rfl, hAa, hat1⟩ := hR.ref hk1
  rw [mmE_int hk0] at hat0
  rw [mmE_int hk1] at hat1
  obtain ⟨hlink, hnat, hstat, hini⟩ := C
  have z0 : (0 : Int32).toNatClampNeg = 0 := by decide
  have nn : ∀ z : Int32, ¬ z < 0 → z.toInt = (z.toNatClampNeg : Int) := by
    intro z hz
    have hz0 : (0 : Int) ≤ z.toInt := by
      have := Int32.not_lt.mp hz
      simpa using Int32.le_iff_toInt_le.mp this
    show z.toInt = ((z.toInt.toNat : Nat) : Int)
    omega
  have h18 : nativeFrameWords "java/lang/System" "arraycopy" 5 = 7 := by decide +kernel
  intro T hT X
  have hc0 : H[a0]? = some (vp_cell (G.2 20) (mN μ (a0 + 1), .inl (fun i => mI μ (a0 + 1) i))) := hat0
  have hc1 : H[a]? = some (vp_cell (G.2 20) (mN μ (a + 1), .inl (fun i => mI μ (a + 1) i))) := hat1
  obtain ⟨-, k0, hk0', cm0, hkk0⟩ := (hK.2 0 _ rfl).1 (mN μ (a0 + 1)) (fun j => .int (mI μ (a0 + 1) j))
  obtain ⟨-, k1, hk1', cm1, hkk1⟩ := (hK.2 0 _ rfl).1 (mN μ (a + 1)) (fun j => .int (mI μ (a + 1) j))
  have hneg0 : ¬ (0 : Int32) < 0 := by decide
  have h4 : (0 : Int32).toNatClampNeg + n.toNatClampNeg ≤ mN μ (a0 + 1) := by rw [z0]; omega
  have h5 : (0 : Int32).toNatClampNeg + n.toNatClampNeg ≤ mN μ (a + 1) := by rw [z0]; omega
  obtain ⟨vm', X', step⟩ := X.arraycopy hx hown (hts _ hlink) (hts _ hnat) (hts _ hstat) (hts _ hini) (src := a0) (dst := a) (cs := vp_cell (G.2 20) (mN μ (a0 + 1), .inl (fun i => mI μ (a0 + 1) i))) (cd := vp_cell (G.2 20) (mN μ (a + 1), .inl (fun i => mI μ (a + 1) i))) (srcPos := 0) (destPos := 0) (n := n) (by rw [hT]; exact hc0) (by rw [hT]; exact hc1)
    (fun _ h => by cases h) (fun _ h => by cases h) (fun h => by cases h) (fun h => by cases h) hk0' hk1' hkk0 hkk1 rfl hneg0 hneg0 h3
    (by rw [nn 0 hneg0, nn n h3]; show ¬ _ > ((arrV (G.2 20) (mN μ (a0 + 1)) (fun j => .int (mI μ (a0 + 1) j))).slots.size : Int); rw [arrV_size]; omega)
    (by rw [nn 0 hneg0, nn n h3]; show ¬ _ > ((arrV (G.2 20) (mN μ (a + 1)) (fun j => .int (mI μ (a + 1) j))).slots.size : Int); rw [arrV_size]; omega)
    (fun vm₁ _ i hi => by
      have e : (vp_cell (G.2 20) (mN μ (a0 + 1), .inl (fun i => mI μ (a0 + 1) i))).slots.getD ((0 : Int32).toNatClampNeg + i) .null = .int (mI μ (a0 + 1) ((0 : Int32).toNatClampNeg + i)) := by
        show (arrV (G.2 20) (mN μ (a0 + 1)) (fun j => .int (mI μ (a0 + 1) j))).slots.getD _ _ = _
        rw [Array.getD_eq_getD_getElem?, arrV_read _ _ (by omega)]
        rfl
      refine ⟨?_, ?_⟩
      · rw [e]
        rfl
      · rw [e]
        exact trivial)
    (g := F0 m pc ls (.int n :: .int 0 :: .ref a :: .int 0 :: .ref a0 :: rest)) rfl (by rw [hml]; exact hl) (rest := rest) rfl (by rw [hb]; exact hdg) hframes (by show 2 * 0 + _ + _ ≤ _; rw [h18]; omega)
  have e1 : copied (vp_cell (G.2 20) (mN μ (a0 + 1), .inl (fun i => mI μ (a0 + 1) i))) (vp_cell (G.2 20) (mN μ (a + 1), .inl (fun i => mI μ (a + 1) i))) 0 0 n = vp_cell (G.2 20) (mN μ (a + 1), .inl (va_cpy (fun i => mI μ (a0 + 1) i) (fun i => mI μ (a + 1) i) (0 : Int32).toNatClampNeg (0 : Int32).toNatClampNeg n.toNatClampNeg)) := va_copied (fun z => .int z) (G.2 20) (G.2 20) (fun i => mI μ (a0 + 1) i) (fun i => mI μ (a + 1) i) h4
  rw [e1] at X' step
  have hl : a < H.size := (Array.getElem?_eq_some_iff.mp hc1).1
  have hheap : ((T.setVm vm').setCell a (vp_cell (G.2 20) (mN μ (a + 1), .inl (va_cpy (fun i => mI μ (a0 + 1) i) (fun i => mI μ (a + 1) i) (0 : Int32).toNatClampNeg (0 : Int32).toNatClampNeg n.toNatClampNeg)))).heap = H.setIfInBounds a (vp_cell (G.2 20) (mN μ (a + 1), .inl (va_cpy (fun i => mI μ (a0 + 1) i) (fun i => mI μ (a + 1) i) (0 : Int32).toNatClampNeg (0 : Int32).toNatClampNeg n.toNatClampNeg))) := by rw [← hT]; rfl
  have oq : ∀ q : Nat, q ≠ a → (H.setIfInBounds a (vp_cell (G.2 20) (mN μ (a + 1), .inl (va_cpy (fun i => mI μ (a0 + 1) i) (fun i => mI μ (a + 1) i) (0 : Int32).toNatClampNeg (0 : Int32).toNatClampNeg n.toNatClampNeg))))[q]? = H[q]? := fun q hq => by simp [Array.getElem?_setIfInBounds, Ne.symm hq]
  have hR1 : mmR G A (sC μ (a0 + 1) (a + 1) n.toNatClampNeg) (H.setIfInBounds a (vp_cell (G.2 20) (mN μ (a + 1), .inl (va_cpy (fun i => mI μ (a0 + 1) i) (fun i => mI μ (a + 1) i) (0 : Int32).toNatClampNeg (0 : Int32).toNatClampNeg n.toNatClampNeg)))) := by
    refine ⟨⟨hR.1.1, by simp; exact hR.1.2⟩, fun b hb' => ⟨(hR.2 b hb').1, ?_⟩⟩
    by_cases hba : b = a
    · subst hba
      rw [mmE_int (μ := sC μ (a0 + 1) (b + 1) n.toNatClampNeg) hk1]
      show (H.setIfInBounds b _)[b]? = some (vp_cell _ _)
      rw [Array.getElem?_setIfInBounds_self_of_lt hl]
      congr 3
      congr 1
      funext i
      simp [va_cpy, mI_sC, z0]
    · rw [mmE_neC (fun e => hba (by omega))]
      exact (hR.2 b hb').2.kept (oq b hba)
  obtain ⟨t, a1, b1⟩ := kk _ _ hR1 ⟨by simp; exact hS.1, fun q g1 g2 => by
      rw [oq q (fun e => g2 (by rw [e]; exact hAa))]
      exact hS.2.1 q g1 g2, fun q hq => by
      rcases List.mem_append.mp hq with h | h
      · exact hS.2.2 q h
      · obtain ⟨z, -, hz⟩ := List.mem_map.mp h
        rw [← hz]
        exact hAa⟩ _ hheap X'
  exact ⟨t, step t a1, b1⟩
def mmMn (own : String) (idx : Nat) : Prop := Cond.methodLink own idx Lib.Math.min.name ∈ WL ∧ Cond.static Lib.Math.min.name ∈ WL ∧ Cond.initialized "java/lang/Math" ∈ WL ∧ Cond.code Lib.Math.min.name Lib.Math.min.code 2 (some .int) ∈ WL
def mmMx (own : String) (idx : Nat) : Prop := Cond.methodLink own idx Lib.Math.max.name ∈ WL ∧ Cond.static Lib.Math.max.name ∈ WL ∧ Cond.initialized "java/lang/Math" ∈ WL ∧ Cond.code Lib.Math.max.name Lib.Math.max.code 2 (some .int) ∈ WL
def jmin (x y : Int32) : Int32 := if y < x then y else x
def jmax (x y : Int32) : Int32 := if x < y then y else x
theorem mm_min (S : mmS p m c cc nL s args own G) {idx : Nat} (C : mmMn own idx) (hl : ls.size = nL) (hframes : 1 ≤ R.frames) (hlocals : (rest.map fun v => v.category).sum + 13 ≤ R.locals) (hc : cells ≤ R.cells ∧ slots ≤ R.slots) {x y : Int32} (hdg : decode cc pc = .ok (.invokestatic idx, 3))
    (kk : W p l e R s m args below meth c H locs cells slots Q (F0 m (pc + 3) ls (.int (jmin x y) :: rest))) : W p l e R s m args below meth c H locs cells slots Q (F0 m pc ls (.int y :: .int x :: rest)) :=
  va_mmin S.1 S.2.1 (by rw [S.2.2.1, hl]) S.2.2.2.1 (S.2.2.2.2.1 _ C.1) (S.2.2.2.2.1 _ C.2.1) (S.2.2.2.2.1 _ C.2.2.1) (S.2.2.2.2.1 _ C.2.2.2) hframes hlocals hc.1 hc.2 hdg kk
theorem mm_max (S : mmS p m c cc nL s args own G) {idx : Nat} (C : mmMx own idx) (hl : ls.size = nL) (hframes : 1 ≤ R.frames) (hlocals : (rest.map fun v => v.category).sum + 13 ≤ R.locals) (hc : cells ≤ R.cells ∧ slots ≤ R.slots) {x y : Int32} (hdg : decode cc pc = .ok (.invokestatic idx, 3))
    (kk : W p l e R s m args below meth c H locs cells slots Q (F0 m (pc + 3) ls (.int (jmax x y) :: rest))) : W p l e R s m args below meth c H locs cells slots Q (F0 m pc ls (.int y :: .int x :: rest)) :=
  va_mmax S.1 S.2.1 (by rw [S.2.2.1, hl]) S.2.2.2.1 (S.2.2.2.2.1 _ C.1) (S.2.2.2.2.1 _ C.2.1) (S.2.2.2.2.1 _ C.2.2.1) (S.2.2.2.2.1 _ C.2.2.2) hframes hlocals hc.1 hc.2 hdg kk
/-- a switch: at x = v the row goes to tgt; else it is none of lo .. hi -/
theorem mm_swIn (S : mmS p m c cc nL s args own G) {dflt lo hi : Int} {offs : Array Int} {len : Nat} {x v : Int32} {off : Int} {tgt : Nat} (hdg : decode cc pc = .ok (.tableswitch dflt lo hi offs, len)) (hx : x = v) (h1 : ¬ v.toInt < lo) (h2 : ¬ hi < v.toInt) (ho : offs[(v.toInt - lo).toNat]? = some off) (ht : (pc : Int) + off = (tgt : Int))
    (k : W p l e R s m args below meth c H locs cells slots Q (F0 m tgt ls rest)) : W p l e R s m args below meth c H locs cells slots Q (F0 m pc ls (.int x :: rest)) := by
  subst hx
  exact lv_tableIn S.1 S.2.1 hdg h1 h2 ho ht k
theorem mm_swOut (S : mmS p m c cc nL s args own G) {dflt lo hi : Int} {offs : Array Int} {len : Nat} {x : Int32} {tgt : Nat} (hdg : decode cc pc = .ok (.tableswitch dflt lo hi offs, len)) (h : ∀ k : Nat, k < (hi - lo + 1).toNat → ¬ x = Int32.ofInt (lo + k)) (ht : (pc : Int) + dflt = (tgt : Int))
    (k : W p l e R s m args below meth c H locs cells slots Q (F0 m tgt ls rest)) : W p l e R s m args below meth c H locs cells slots Q (F0 m pc ls (.int x :: rest)) := by
  refine lv_tableOut S.1 S.2.1 hdg ?_ ht k
  by_cases h1 : x.toInt < lo
  · exact Or.inl h1
  by_cases h2 : hi < x.toInt
  · exact Or.inr h2
  exact absurd (by
    have e : lo + ((x.toInt - lo).toNat : Int) = x.toInt := by omega
    rw [e, Int32.ofInt_toInt]) (h (x.toInt - lo).toNat (by omega))
end MM3
