/-! THE TIE: a memory holds the model's machine at the handle c of a Machine. Its objects lie behind each other as its constructor laid them: the machine c, its row c + 1, nobody c + 2 (5 handles), ready c + 7, awaiting c + 9 (2 each), coroutine n at c + 11 + 5 n (itself, locals, stack, signs, marks): 131 handles. -/
def tCo (c n : Nat) : Nat := if n = 24 then c + 2 else c + 11 + 5 * n
/-- what never changes: kinds, lengths, handles (but running's) -/
def tLayC (q : Nat) (μ : MM) : Prop := mK μ q = 3 ∧ mP μ q 1 = q + 1 ∧ mP μ q 2 = q + 2 ∧ mK μ (q + 1) = 20 ∧ mN μ (q + 1) = 4 ∧ mK μ (q + 2) = 6 ∧ mP μ (q + 2) 0 = q + 3 ∧ mP μ (q + 2) 1 = q + 4 ∧ mK μ (q + 3) = 20 ∧ mN μ (q + 3) = 6 ∧ mK μ (q + 4) = 20 ∧ mN μ (q + 4) = 6
def tLayQ (q : Nat) (μ : MM) : Prop := mK μ q = 5 ∧ mP μ q 0 = q + 1 ∧ mK μ (q + 1) = 20 ∧ mN μ (q + 1) = 24
def tLay (c : Nat) (μ : MM) : Prop := (mK μ c = 4 ∧ mP μ c 1 = c + 1 ∧ mP μ c 2 = c + 2 ∧ mP μ c 3 = c + 7 ∧ mP μ c 4 = c + 9 ∧ mK μ (c + 1) = 22 ∧ mN μ (c + 1) = 24) ∧ (∀ n, n < 24 → mP μ (c + 1) n = tCo c n) ∧ (∀ n, n ≤ 24 → tLayC (tCo c n) μ) ∧ tLayQ (c + 7) μ ∧ tLayQ (c + 9) μ
/-- a queue's data -/
def tQ (q : Nat) (μ : MM) (l : List Int32) : Prop := l.length ≤ 24 ∧ mI μ q 1 = Int32.ofNat l.length ∧ ∀ (i : Nat) (v : Int32), l[i]? = some v → mI μ (q + 1) i = v
/-- a stack's data, its top first; marks of thrown ways say nothing -/
def tK (q : Nat) (μ : MM) (k : List (Int32 × Int32)) : Prop := k.length ≤ 6 ∧ mI μ (q + 2) 2 = Int32.ofNat k.length ∧
  ∀ (i : Nat) (s w : Int32), k.reverse[i]? = some (s, w) → mI μ (q + 3) i = s ∧ (s ≤ 0 → mI μ (q + 4) i = w)
def tC (q : Nat) (μ : MM) (n : Nat) (x : gCo) : Prop := mI μ q 0 = gNum n ∧ (∀ j, 3 ≤ j → j ≤ 16 → j ≠ 8 → mI μ q j = x.1 j) ∧ (∀ i, i < 4 → mI μ (q + 1) i = x.2.1 i) ∧ tK q μ x.2.2
def tD (c : Nat) (μ : MM) (M : gM) : Prop := (mI μ c 5 = gcnt M ∧ mI μ c 6 = gnow M ∧ mI μ c 7 = gtrn M) ∧ tQ (c + 7) μ (grq M) ∧ tQ (c + 9) μ (gaq M) ∧ ∀ n, n ≤ 24 → tC (tCo c n) μ n (M.1 n)
def tM (c : Nat) (μ : MM) (M : gM) : Prop := tLay c μ ∧ tD c μ M
/-- what a call of the machine leaves as it was: kinds, lengths, all outside, all handles but running's -/
def tF (c : Nat) (μ ν : MM) : Prop := mK ν = mK μ ∧ mN ν = mN μ ∧ mX ν = mX μ ∧ (∀ a j, (a < c ∨ c + 131 ≤ a) → mI ν a j = mI μ a j) ∧ ∀ a j, ¬ (a = c ∧ j = 8) → mP ν a j = mP μ a j
theorem tF.rf {c : Nat} {μ : MM} : tF c μ μ := ⟨rfl, rfl, rfl, fun _ _ _ => rfl, fun _ _ _ => rfl⟩
theorem tF.tr {c : Nat} {μ ν ω : MM} (h : tF c μ ν) (g : tF c ν ω) : tF c μ ω :=
  ⟨g.1.trans h.1, g.2.1.trans h.2.1, g.2.2.1.trans h.2.2.1, fun a j q => (g.2.2.2.1 a j q).trans (h.2.2.2.1 a j q), fun a j q => (g.2.2.2.2 a j q).trans (h.2.2.2.2 a j q)⟩
theorem tCo_in {c n : Nat} (h : n ≤ 24) : c + 2 ≤ tCo c n ∧ tCo c n + 5 ≤ c + 131 := by
  unfold tCo
  split <;> omega
theorem tLay.fr {c : Nat} {μ ν : MM} (L : tLay c μ) (F : tF c μ ν) : tLay c ν := by
  obtain ⟨f1, f2, -, -, f5⟩ := F
  obtain ⟨⟨a1, a2, a3, a4, a5, a6, a7⟩, b, d, ⟨e1, e2, e3, e4⟩, ⟨g1, g2, g3, g4⟩⟩ := L
  have hp : ∀ a j, ¬ (a = c ∧ j = 8) → mP ν a j = mP μ a j := f5
  refine ⟨⟨by rw [f1]; exact a1, ?_, ?_, ?_, ?_, by rw [f1]; exact a6, by rw [f2]; exact a7⟩, fun n hn => ?_, fun n hn => ?_, ⟨by rw [f1]; exact e1, ?_, by rw [f1]; exact e3, by rw [f2]; exact e4⟩, ⟨by rw [f1]; exact g1, ?_, by rw [f1]; exact g3, by rw [f2]; exact g4⟩⟩
  · rw [hp _ _ (by omega)]; exact a2
  · rw [hp _ _ (by omega)]; exact a3
  · rw [hp _ _ (by omega)]; exact a4
  · rw [hp _ _ (by omega)]; exact a5
  · rw [hp _ _ (by omega)]; exact b n hn
  · have h1 := tCo_in (c := c) hn
    obtain ⟨d1, d2, d3, d4, d5, d6, d7, d8, d9, d10, d11, d12⟩ := d n hn
    refine ⟨by rw [f1]; exact d1, ?_, ?_, by rw [f1]; exact d4, by rw [f2]; exact d5, by rw [f1]; exact d6, ?_, ?_, by rw [f1]; exact d9, by rw [f2]; exact d10, by rw [f1]; exact d11, by rw [f2]; exact d12⟩
    · rw [hp _ _ (by omega)]; exact d2
    · rw [hp _ _ (by omega)]; exact d3
    · rw [hp _ _ (by omega)]; exact d7
    · rw [hp _ _ (by omega)]; exact d8
  · rw [hp _ _ (by omega)]; exact e2
  · rw [hp _ _ (by omega)]; exact g2
theorem gAt_le (x : Int32) : gAt x ≤ 24 := by
  unfold gAt
  split
  · exact Nat.le_refl _
  · rename_i h
    have h1 : x < 24 := Int32.not_le.mp (fun q => h (Or.inr q))
    have h2 : (24 : Int32).toInt = 24 := rfl
    have h3 := Int32.lt_iff_toInt_lt.mp h1
    have h4 : x.toNatClampNeg = x.toInt.toNat := rfl
    omega
theorem r_at {c : Nat} {μ : MM} (L : tLay c μ) (x : Int32) : fX3_at c x μ = some (tCo c (gAt x), μ) := by
  obtain ⟨⟨a1, a2, a3, a4, a5, a6, a7⟩, b, -⟩ := L
  unfold fX3_at
  by_cases h1 : x < 0
  · rw [if_pos h1, a3, gAt, if_pos (Or.inl h1)]; rfl
  · rw [if_neg h1]
    by_cases h2 : (24 : Int32) ≤ x
    · rw [if_pos h2, a3, gAt, if_pos (Or.inr h2)]; rfl
    · have e : gAt x = x.toNatClampNeg := by rw [gAt, if_neg (fun h => h.elim h1 h2)]
      have h3 : x.toNatClampNeg < 24 := by
        have q1 := Int32.lt_iff_toInt_lt.mp (Int32.not_le.mp h2)
        have q2 : (24 : Int32).toInt = 24 := rfl
        have q3 : x.toNatClampNeg = x.toInt.toNat := rfl
        omega
      rw [if_neg h2, a2, a6, a7, if_pos rfl, if_pos (fun h => h.elim h1 (fun h => by omega)), b _ h3, e]
