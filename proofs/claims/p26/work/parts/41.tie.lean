/-! THE TIE: a memory holds the model's machine at the handle of a Machine -/
/-- a queue (kind 5): numbers, size -/
def tQ (μ : MM) (h : Nat) (q : List Int32) : Prop := mK μ h = 5 ∧ mK μ (mP μ h 0) = 20 ∧ mN μ (mP μ h 0) = 24 ∧ q.length ≤ 24 ∧ mI μ h 1 = Int32.ofNat q.length ∧ ∀ (i : Nat) (v : Int32), q[i]? = some v → mI μ (mP μ h 0) i = v
/-- a stack (kind 6): its top first; marks of thrown ways say nothing -/
def tK (μ : MM) (h : Nat) (k : List (Int32 × Int32)) : Prop := mK μ h = 6 ∧ mK μ (mP μ h 0) = 20 ∧ mN μ (mP μ h 0) = 6 ∧ mK μ (mP μ h 1) = 20 ∧ mN μ (mP μ h 1) = 6 ∧ k.length ≤ 6 ∧ mI μ h 2 = Int32.ofNat k.length ∧
  ∀ (i : Nat) (s w : Int32), k.reverse[i]? = some (s, w) → mI μ (mP μ h 0) i = s ∧ (s ≤ 0 → mI μ (mP μ h 1) i = w)
