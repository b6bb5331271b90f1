/-! NEW ROWS OF ROWS (two dimensions): the outer one at the next handle, the inner ones behind it -/
theorem vr_outer9 (c : ClassId) (N h0 : Nat) : ∀ i : Nat, Jvm.Free.Multi.outerC c N h0 i = arrV c N (fun j => va_rf (if j < i then some (h0 + 1 + j) else none))
  | 0 => by
    show ({ cls := c, slots := Array.replicate N .null, vm := .none } : Cell) = _
    rw [arrV_new]
    refine congrArg (arrV c N) (funext fun j => ?_)
    simp [va_rf]
  | i + 1 => by
    show (Jvm.Free.Multi.outerC c N h0 i).setSlot i (.ref (h0 + 1 + i)) = _
    rw [vr_outer9 c N h0 i, arrV_store]
    refine congrArg (arrV c N) (funext fun j => ?_)
    by_cases e : j = i
    · subst e
      simp [updV, va_rf]
    · by_cases h : j < i
      · simp [updV, e, h, Nat.lt_succ_of_lt h]
      · simp [updV, e, h, show ¬ j < i + 1 by omega]
section MM11
variable {p : Program} {l : Launch} {e : Env} {R : Room} {s : State} {m : MethodId} {args : Array Value} {below : List Frame} {meth : Method} {c : Code} {H : Heap} {locs : List Loc} {cells slots : Nat} {Q Q' : State → Prop}
variable {cc : ByteArray} {pc nL : Nat} {ls : Array Slot} {rest st0 : List Value} {own : String} {G : mmG} {A : Nat → Prop} {μ μ' : MM}
def sM (μ : MM) (ko ki n k : Nat) : MM :=
  (fun a => if a = μ.2.2.2.2 then ko else if μ.2.2.2.2 < a ∧ a ≤ μ.2.2.2.2 + n then ki else μ.1 a,
   fun a => if a = μ.2.2.2.2 then n else if μ.2.2.2.2 < a ∧ a ≤ μ.2.2.2.2 + n then k else μ.2.1 a,
   fun a i => if μ.2.2.2.2 ≤ a ∧ a ≤ μ.2.2.2.2 + n then 0 else μ.2.2.1 a i,
   fun a i => if a = μ.2.2.2.2 then (if i < n then μ.2.2.2.2 + 1 + i else 0) else if μ.2.2.2.2 < a ∧ a ≤ μ.2.2.2.2 + n then 0 else μ.2.2.2.1 a i,
   μ.2.2.2.2 + 1 + n)
theorem mK_sM (μ : MM) (ko ki n k a : Nat) : mK (sM μ ko ki n k) a = if a = mX μ then ko else if mX μ < a ∧ a ≤ mX μ + n then ki else mK μ a := rfl
theorem mN_sM (μ : MM) (ko ki n k a : Nat) : mN (sM μ ko ki n k) a = if a = mX μ then n else if mX μ < a ∧ a ≤ mX μ + n then k else mN μ a := rfl
theorem mI_sM (μ : MM) (ko ki n k a i : Nat) : mI (sM μ ko ki n k) a i = if mX μ ≤ a ∧ a ≤ mX μ + n then 0 else mI μ a i := rfl
theorem mP_sM (μ : MM) (ko ki n k a i : Nat) : mP (sM μ ko ki n k) a i = if a = mX μ then (if i < n then mX μ + 1 + i else 0) else if mX μ < a ∧ a ≤ mX μ + n then 0 else mP μ a i := rfl
theorem mX_sM (μ : MM) (ko ki n k : Nat) : mX (sM μ ko ki n k) = mX μ + 1 + n := rfl
theorem mmE_neM {dA : Nat → ClassId} {μ : MM} {ko ki n k a : Nat} (h : ¬ (mX μ ≤ a ∧ a ≤ mX μ + n)) : mmE dA (sM μ ko ki n k) a = mmE dA μ a := by
  have h1 : ¬ a = mX μ := fun e => h ⟨by omega, by omega⟩
  have h2 : ¬ (mX μ < a ∧ a ≤ mX μ + n) := fun e => h ⟨by omega, e.2⟩
  simp only [mmE, mmF, mK_sM, mN_sM, mP_sM, mI_sM, h, h1, h2, if_false]
theorem wArr2 (S : mmS p m c cc nL s args own G) : (Cond.arrayClass (.array .int)).before args s = true := by
  obtain ⟨comp, c24, k24, a1, a2, a3, a4, a5⟩ := ao_spec (S.2.2.2.2.1 _ wAover1)
  unfold Cond.before Cond.holds
  simp only [Cond.value]
  rw [a5, Option.bind_some, a3]
  simp [a4]
theorem mm_mna (S : mmS p m c cc nL s args own G) (hR : mmR G A μ H) (hS : va_S A s.heap H locs) (hA : ∀ q, s.heap.size ≤ q → A q) {ko ki : Nat} {ty : FieldType} (hk9 : (ko = 24 ∧ ki = 20 ∧ ty = .int) ∨ (ko = 25 ∧ ki = 24 ∧ ty = .array .int)) {idx : Nat} (hclink : Cond.classLink own idx ("[" ++ (FieldType.array ty).toString) ∈ WL) {n k : Int32} {N K : Nat} (hn : ¬ n < 0) (hk : ¬ k < 0) (hN : n.toNatClampNeg = N) (hM : k.toNatClampNeg = K)
    (hb1 : N * 4 ≤ 536870912) (hb2 : K * 4 ≤ 536870912) (hcells : cells + (1 + N) ≤ R.cells) (hslots : slots + (N + N * K) ≤ R.slots) (hdg : decode cc pc = .ok (.multianewarray idx 2, 4))
    (kk : ∀ (H1 : Heap) (locs1 : List Loc), mmR G A (sM μ ko ki N K) H1 → va_S A s.heap H1 locs1 → W p l e R s m args below meth c H1 locs1 (cells + 1 + N) (slots + N + N * K) Q (F0 m (pc + 4) ls (rf (mX μ) :: rest))) : W p l e R s m args below meth c H locs cells slots Q (F0 m pc ls (.int k :: .int n :: rest)) := by
  subst hN
  subst hM
  have hX : mX μ = H.size + 1 := hR.1.2
  have S0 := S
  obtain ⟨hx, hb, -, hown, hts, hK⟩ := S
  have hover : (Cond.arrayOver (.array ty)).before args s = true := by
    rcases hk9 with ⟨-, -, rfl⟩ | ⟨-, -, rfl⟩
    · exact hts _ wAover1
    · exact hts _ wAover2
  have harr : (Cond.arrayClass ty).before args s = true := by
    rcases hk9 with ⟨-, -, rfl⟩ | ⟨-, -, rfl⟩
    · exact hts _ wAint
    · exact wArr2 S0
  have hcb : componentBytes ty = 4 := by rcases hk9 with ⟨-, -, rfl⟩ | ⟨-, -, rfl⟩ <;> rfl
  intro T hT Xs
  obtain ⟨vm₁, cA, comp, -, fA, fC, hO, -, X', step⟩ := Xs.multianewarray2F hx hown (hts _ hclink) hover harr (g := F0 m pc ls (.int k :: .int n :: rest)) rfl (by rw [hb]; exact hdg) rfl hn hk hb1 (by rw [hcb]; exact hb2) (by omega) (by rcases hk9 with ⟨-, -, rfl⟩ | ⟨-, -, rfl⟩ <;> rfl) (by rcases hk9 with ⟨-, -, rfl⟩ | ⟨-, -, rfl⟩ <;> rfl) hcells hslots
  have ecA : cA = G.2 ko := by
    rcases hk9 with ⟨rfl, -, rfl⟩ | ⟨rfl, -, rfl⟩
    · exact Option.some.inj (fA.symm.trans (hK.2 4 _ rfl).2)
    · exact Option.some.inj (fA.symm.trans (hK.2 5 _ rfl).2)
  have ecC : comp = G.2 ki := by
    rcases hk9 with ⟨-, rfl, rfl⟩ | ⟨-, rfl, rfl⟩
    · exact Option.some.inj (fC.symm.trans (hK.2 0 _ rfl).2)
    · exact Option.some.inj (fC.symm.trans (hK.2 4 _ rfl).2)
  subst ecA
  subst ecC
  generalize hF : Jvm.Free.Multi.fill (T.setVm vm₁) (G.2 ko) (G.2 ki) n.toNatClampNeg k.toNatClampNeg (defaultValue ty) n.toNatClampNeg = F at X' step
  have hTh : (T.setVm vm₁).heap = H := hT
  obtain ⟨f1, f2, -, -⟩ := Jvm.Free.Multi.fill_facts (T.setVm vm₁) (G.2 ko) (G.2 ki) n.toNatClampNeg k.toNatClampNeg (defaultValue ty) n.toNatClampNeg
  rw [hF, hTh] at f1 f2
  have hold : ∀ x : Nat, x < H.size → F.heap[x]? = H[x]? := fun x hx => by
    have := Jvm.Free.Multi.fill_old (T.setVm vm₁) (G.2 ko) (G.2 ki) n.toNatClampNeg k.toNatClampNeg (defaultValue ty) (a := x) (by rw [hTh]; exact hx) n.toNatClampNeg
    rw [hF, hTh] at this
    exact this
  have hrow : ∀ j : Nat, j < n.toNatClampNeg → F.heap[H.size + 1 + j]? = some (Jvm.Free.Multi.innerC (G.2 ki) k.toNatClampNeg (defaultValue ty)) := fun j hj => by
    have := Jvm.Free.Multi.fill_inner (T.setVm vm₁) (G.2 ko) (G.2 ki) n.toNatClampNeg k.toNatClampNeg (defaultValue ty) n.toNatClampNeg j hj
    rw [hF, hTh] at this
    exact this
  rw [vr_outer9] at f2
  have hR1 : mmR G A (sM μ ko ki n.toNatClampNeg k.toNatClampNeg) F.heap := by
    refine ⟨⟨by rw [mK_sM, if_neg (by omega), if_neg (by omega)]; exact hR.1.1, by rw [mX_sM, hX, f1]; omega⟩, fun b hb9 => ?_⟩
    by_cases h1 : b = H.size
    · subst h1
      refine ⟨hA _ hS.1, ?_⟩
      rw [mmE_ptr (k := ko) (by rw [mK_sM, if_pos (by omega)]) (by rcases hk9 with ⟨rfl, -⟩ | ⟨rfl, -⟩ <;> omega) (by rcases hk9 with ⟨rfl, -⟩ | ⟨rfl, -⟩ <;> decide)]
      show F.heap[H.size]? = some (vp_cell _ _)
      rw [f2, vp_cell_q, mN_sM, if_pos (by omega)]
      congr 2
      funext i
      rw [mP_sM, if_pos (show H.size + 1 = mX μ by omega)]
      by_cases hi : i < n.toNatClampNeg
      · rw [if_pos hi, if_pos hi, hX, show H.size + 1 + 1 + i = (H.size + 1 + i) + 1 by omega]
        rfl
      · rw [if_neg hi, if_neg hi]
        rfl
    · by_cases h2 : H.size < b ∧ b ≤ H.size + n.toNatClampNeg
      · refine ⟨hA _ (by have := hS.1; omega), ?_⟩
        have e9 := hrow (b - (H.size + 1)) (by omega)
        rw [show H.size + 1 + (b - (H.size + 1)) = b by omega] at e9
        have hk1 : mK (sM μ ko ki n.toNatClampNeg k.toNatClampNeg) (b + 1) = ki := by rw [mK_sM, if_neg (by omega), if_pos (by omega)]
        have hn1 : mN (sM μ ko ki n.toNatClampNeg k.toNatClampNeg) (b + 1) = k.toNatClampNeg := by rw [mN_sM, if_neg (by omega), if_pos (by omega)]
        rcases hk9 with ⟨rfl, rfl, rfl⟩ | ⟨rfl, rfl, rfl⟩
        · rw [mmE_int hk1]
          show F.heap[b]? = some (vp_cell _ _)
          rw [e9, vp_cell_i, hn1]
          congr 1
          show ({ cls := G.2 20, slots := Array.replicate k.toNatClampNeg (defaultValue .int), vm := .none } : Cell) = _
          rw [arrV_new]
          congr 1
          funext i
          rw [mI_sM, if_pos (by omega)]
          rfl
        · rw [mmE_ptr (k := 24) hk1 (by omega) (by decide)]
          show F.heap[b]? = some (vp_cell _ _)
          rw [e9, vp_cell_q, hn1]
          congr 1
          show ({ cls := G.2 24, slots := Array.replicate k.toNatClampNeg (defaultValue (.array .int)), vm := .none } : Cell) = _
          rw [arrV_new]
          congr 1
          funext i
          rw [mP_sM, if_neg (by omega), if_pos (by omega)]
          rfl
      · have h3 : ¬ (mX μ ≤ b + 1 ∧ b + 1 ≤ mX μ + n.toNatClampNeg) := by omega
        rw [mK_sM, if_neg (by omega), if_neg (by omega)] at hb9
        rw [mmE_neM h3]
        have h4 := hR.2 b hb9
        exact ⟨h4.1, h4.2.kept (hold b h4.2.lt)⟩
  obtain ⟨t, a1, b1⟩ := kk F.heap locs hR1 ⟨by rw [f1]; have := hS.1; omega, fun x h1 h2 => (hold x (Nat.lt_of_lt_of_le h1 hS.1)).trans (hS.2.1 x h1 h2), hS.2.2⟩ F rfl X'
  refine ⟨t, step t ?_, b1⟩
  have e : T.heap.size = H.size := by rw [hT]
  rw [e]
  rw [hX] at a1
  exact a1
end MM11
