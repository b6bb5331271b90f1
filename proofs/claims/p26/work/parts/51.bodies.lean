/-! THE BODIES in the memory, as their constructor lays them: Bodies d, rows d + 1, the empty one d + 2, body k at d + 6 + 4 k (itself, kinds, firsts, seconds): 38 handles -/
def tBh (d k : Nat) : Nat := if k = 8 then d + 2 else d + 6 + 4 * k
def tLayB (d : Nat) (μ : MM) : Prop := (mK μ d = 1 ∧ mP μ d 0 = d + 1 ∧ mP μ d 1 = d + 2 ∧ mK μ (d + 1) = 21 ∧ mN μ (d + 1) = 8) ∧ (∀ k, k < 8 → mP μ (d + 1) k = tBh d k) ∧
  ∀ k, k ≤ 8 → mK μ (tBh d k) = 2 ∧ mP μ (tBh d k) 0 = tBh d k + 1 ∧ mP μ (tBh d k) 1 = tBh d k + 2 ∧ mP μ (tBh d k) 2 = tBh d k + 3 ∧ mK μ (tBh d k + 1) = 20 ∧ mN μ (tBh d k + 1) = 12 ∧ mK μ (tBh d k + 2) = 20 ∧ mN μ (tBh d k + 2) = 12 ∧ mK μ (tBh d k + 3) = 20 ∧ mN μ (tBh d k + 3) = 12
def tDB (d : Nat) (μ : MM) (B : gB) : Prop := mI μ d 2 = B.1 ∧ ∀ k, k ≤ 8 → (B.2 k).length ≤ 12 ∧ mI μ (tBh d k) 3 = Int32.ofNat (B.2 k).length ∧ ∀ (i : Nat) (x : Int32 × Int32 × Int32), (B.2 k)[i]? = some x → mI μ (tBh d k + 1) i = x.1 ∧ mI μ (tBh d k + 2) i = x.2.1 ∧ mI μ (tBh d k + 3) i = x.2.2
def tB (d : Nat) (μ : MM) (B : gB) : Prop := tLayB d μ ∧ tDB d μ B
theorem tBh_in {d k : Nat} (h : k ≤ 8) : d + 2 ≤ tBh d k ∧ tBh d k + 4 ≤ d + 38 := by
  unfold tBh
  split <;> omega
theorem tB.fr {c d : Nat} {μ ν : MM} {B : gB} (h : tB d μ B) (F : tF c μ ν) (hd : d + 38 ≤ c ∨ c + 131 ≤ d) : tB d ν B := by
  obtain ⟨⟨⟨a1, a2, a3, a4, a5⟩, b, e⟩, g1, g2⟩ := h
  obtain ⟨f1, f2, -, f4, f5⟩ := F
  refine ⟨⟨⟨by rw [f1]; exact a1, by rw [f5 _ _ (by omega)]; exact a2, by rw [f5 _ _ (by omega)]; exact a3, by rw [f1]; exact a4, by rw [f2]; exact a5⟩, fun k hk => by rw [f5 _ _ (by omega)]; exact b k hk, fun k hk => ?_⟩, by rw [f4 _ _ (by omega)]; exact g1, fun k hk => ?_⟩
  · have := tBh_in (d := d) hk
    rw [f1, f2, f5 _ _ (by omega), f5 _ _ (by omega), f5 _ _ (by omega)]
    exact e k hk
  · have := tBh_in (d := d) hk
    obtain ⟨k1, k2, k3⟩ := g2 k hk
    refine ⟨k1, by rw [f4 _ _ (by omega)]; exact k2, fun i x hx => ?_⟩
    rw [f4 _ _ (by omega), f4 _ _ (by omega), f4 _ _ (by omega)]
    exact k3 i x hx
theorem gBody_le (x : Int32) : gBody x ≤ 8 := by
  unfold gBody
  split
  · exact Nat.le_refl _
  · rename_i h
    have h1 : x < 8 := Int32.not_le.mp (fun q => h (Or.inr q))
    have h2 : (8 : Int32).toInt = 8 := rfl
    have h3 := Int32.lt_iff_toInt_lt.mp h1
    have h4 : x.toNatClampNeg = x.toInt.toNat := rfl
    omega
theorem r_bat {d : Nat} {μ : MM} {B : gB} (h : tB d μ B) (x : Int32) : fX0_at d x μ = some (tBh d (gBody x), μ) := by
  obtain ⟨⟨⟨a1, a2, a3, a4, a5⟩, b, -⟩, -⟩ := h
  unfold fX0_at
  by_cases h1 : x < 0
  · rw [if_pos h1, a3, gBody, if_pos (Or.inl h1)]; rfl
  · rw [if_neg h1]
    by_cases h2 : (8 : Int32) ≤ x
    · rw [if_pos h2, a3, gBody, if_pos (Or.inr h2)]; rfl
    · have e : gBody x = x.toNatClampNeg := by rw [gBody, if_neg (fun h => h.elim h1 h2)]
      have h3 : x.toNatClampNeg < 8 := by
        have q1 := Int32.lt_iff_toInt_lt.mp (Int32.not_le.mp h2)
        have q2 : (8 : Int32).toInt = 8 := rfl
        have q3 : x.toNatClampNeg = x.toInt.toNat := rfl
        omega
      rw [if_neg h2, a2, a4, a5, if_pos rfl, if_pos (fun h => h.elim h1 (fun h => by omega)), b _ h3, e]
theorem f_hasLine {d k : Nat} {μ : MM} {B : gB} (h : tB d μ B) (hk : k ≤ 8) (n : Int32) : fX1_hasLine (tBh d k) n μ = some (if gHL (B.2 k) n then 1 else 0, μ) := by
  unfold fX1_hasLine gHL
  rw [(h.2.2 k hk).2.1]
  by_cases h1 : n < 0
  · rw [if_pos h1, if_neg (by simp; intro q; exact absurd q (Int32.not_le.mpr h1))]
  · rw [if_neg h1]
    by_cases h2 : Int32.ofNat (B.2 k).length ≤ n
    · rw [if_pos h2, if_neg (by simp; intro _; exact h2)]
    · rw [if_neg h2, if_pos (by simp; exact ⟨Int32.not_lt.mp h1, Int32.not_le.mp h2⟩)]
theorem gHL_at {l : List (Int32 × Int32 × Int32)} {n : Int32} (hl : l.length ≤ 12) : (gHL l n = true → ∃ x, l[n.toNatClampNeg]? = some x ∧ gLn l n = x ∧ ¬ n < 0 ∧ n.toNatClampNeg < 12) ∧ (¬ gHL l n = true → gLn l n = (11, 0, 0)) := by
  have q3 : n.toNatClampNeg = n.toInt.toNat := rfl
  have q4 : (0 : Int32).toInt = 0 := rfl
  have q5 : (Int32.ofNat l.length).toInt = l.length := Int32.toInt_ofNat_of_lt (by omega)
  unfold gHL gLn
  constructor
  · intro h
    simp at h
    have h1 := Int32.le_iff_toInt_le.mp h.1
    have h2 := Int32.lt_iff_toInt_lt.mp h.2
    have h3 : n.toNatClampNeg < l.length := by omega
    refine ⟨l[n.toNatClampNeg], List.getElem?_eq_getElem h3, ?_, Int32.not_lt.mpr h.1, by omega⟩
    rw [if_pos h.1, List.getElem?_eq_getElem h3]; rfl
  · intro h
    by_cases h1 : 0 ≤ n
    · rw [if_pos h1]
      have h2 : Int32.ofNat l.length ≤ n := by
        simp at h
        exact h h1
      have h3 := Int32.le_iff_toInt_le.mp h2
      rw [List.getElem?_eq_none (by omega)]; rfl
    · rw [if_neg h1]
theorem r_line {d k : Nat} {μ : MM} {B : gB} (h : tB d μ B) (hk : k ≤ 8) (n : Int32) : fX1_kindAt (tBh d k) n μ = some ((gLn (B.2 k) n).1, μ) ∧ fX1_aAt (tBh d k) n μ = some ((gLn (B.2 k) n).2.1, μ) ∧ fX1_bAt (tBh d k) n μ = some ((gLn (B.2 k) n).2.2, μ) := by
  obtain ⟨e1, e2, e3, e4, e5, e6, e7, e8, e9, e10⟩ := h.1.2.2 k hk
  obtain ⟨p1, p2⟩ := gHL_at (l := B.2 k) (n := n) (h.2.2 k hk).1
  unfold fX1_kindAt fX1_aAt fX1_bAt
  rw [f_hasLine h hk]
  simp only [Option.bind_some]
  by_cases q : gHL (B.2 k) n = true
  · obtain ⟨x, x1, x2, x3, x4⟩ := p1 q
    obtain ⟨y1, y2, y3⟩ := (h.2.2 k hk).2.2 _ x x1
    have n9 : ¬ (n < 0 ∨ 12 ≤ n.toNatClampNeg) := fun z => z.elim x3 (by omega)
    have n1 : ¬ (1 : Int32) = 0 := by decide
    rw [if_pos q, if_neg n1, if_neg n1, if_neg n1, e2, e3, e4, e6, e8, e10, if_pos e5, if_pos e7, if_pos e9, if_pos n9, if_pos n9, if_pos n9, y1, y2, y3, x2]
    exact ⟨rfl, rfl, rfl⟩
  · have n0 : (0 : Int32) = 0 := rfl
    rw [if_neg q, if_pos n0, if_pos n0, if_pos n0, p2 q]
    exact ⟨rfl, rfl, rfl⟩
