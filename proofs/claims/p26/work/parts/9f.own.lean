/-! BUILDING: the bodies and the own rows -/
theorem w_in {x lo hi : Int32} (h1 : lo.toInt ≤ x.toInt) (h2 : x.toInt ≤ hi.toInt) (μ : MM) : fX6_within x lo hi μ = some (1, μ) := by
  unfold fX6_within
  rw [if_neg (fun q => by have := Int32.lt_iff_toInt_lt.mp q; omega), if_neg (fun q => by have := Int32.lt_iff_toInt_lt.mp q; omega)]
/-- a line that fits a body of so many lines -/
def gFit (len : Nat) (kd a b : Int32) : Prop :=
  (kd = 0 ∧ (-99 ≤ a.toInt ∧ a.toInt ≤ 99) ∧ b = 0) ∨ ((kd = 1 ∨ kd = 2) ∧ (0 ≤ a.toInt ∧ a.toInt ≤ 3) ∧ b = 0) ∨ ((kd = 3 ∨ kd = 8 ∨ kd = 11 ∨ kd = 13) ∧ a = 0 ∧ b = 0) ∨ (kd = 4 ∧ (0 ≤ a.toInt ∧ a.toInt ≤ 3) ∧ 0 ≤ b.toInt ∧ b.toInt ≤ len) ∨ ((kd = 5 ∨ kd = 7) ∧ a = 0 ∧ (len : Int) + 1 ≤ b.toInt ∧ b.toInt ≤ 12) ∨ (kd = 6 ∧ (0 ≤ a.toInt ∧ a.toInt ≤ 1) ∧ (len : Int) + 1 ≤ b.toInt ∧ b.toInt ≤ 12) ∨ (kd = 9 ∧ (1 ≤ a.toInt ∧ a.toInt ≤ 7) ∧ b = 0) ∨ ((kd = 10 ∨ kd = 14) ∧ (0 ≤ a.toInt ∧ a.toInt ≤ 7) ∧ b = 0) ∨ (kd = 12 ∧ (1 ≤ a.toInt ∧ a.toInt ≤ 9) ∧ b = 0) ∨ (kd = 15 ∧ (0 ≤ a.toInt ∧ a.toInt ≤ 1) ∧ b = 0)
theorem gFit.ln {len : Nat} {kd a b : Int32} (h : gFit len kd a b) : okLn (kd, a, b) := by
  refine ⟨fun q => ?_, fun q => ?_⟩
  · have q : kd = 9 := q
    show 1 ≤ a.toInt ∧ a.toInt ≤ 11
    rcases h with ⟨e, z⟩ | ⟨e, z⟩ | ⟨e, z⟩ | ⟨e, z⟩ | ⟨e, z⟩ | ⟨e, z⟩ | ⟨e, z, -⟩ | ⟨e, z⟩ | ⟨e, z⟩ | ⟨e, z⟩
    · rw [q] at e; exact absurd e (by decide)
    · rw [q] at e; exact absurd e (by decide)
    · rw [q] at e; exact absurd e (by decide)
    · rw [q] at e; exact absurd e (by decide)
    · rw [q] at e; exact absurd e (by decide)
    · rw [q] at e; exact absurd e (by decide)
    · omega
    · rw [q] at e; exact absurd e (by decide)
    · rw [q] at e; exact absurd e (by decide)
    · rw [q] at e; exact absurd e (by decide)
  · have q : kd = 12 := q
    show 1 ≤ a.toInt ∧ a.toInt ≤ 9
    rcases h with ⟨e, z⟩ | ⟨e, z⟩ | ⟨e, z⟩ | ⟨e, z⟩ | ⟨e, z⟩ | ⟨e, z⟩ | ⟨e, z⟩ | ⟨e, z⟩ | ⟨e, z, -⟩ | ⟨e, z⟩
    · rw [q] at e; exact absurd e (by decide)
    · rw [q] at e; exact absurd e (by decide)
    · rw [q] at e; exact absurd e (by decide)
    · rw [q] at e; exact absurd e (by decide)
    · rw [q] at e; exact absurd e (by decide)
    · rw [q] at e; exact absurd e (by decide)
    · rw [q] at e; exact absurd e (by decide)
    · rw [q] at e; exact absurd e (by decide)
    · exact z
    · rw [q] at e; exact absurd e (by decide)
theorem fits_ok {q len : Nat} {μ : MM} {kd a b : Int32} (hl : mI μ q 3 = Int32.ofNat len) (h12 : len < 12) (h : gFit len kd a b) : fX1_fits q kd a b μ = some (1, μ) := by
  have c3 : (3 : Int32).toInt = 3 := rfl
  have c0 : (0 : Int32).toInt = 0 := rfl
  have c1 : (1 : Int32).toInt = 1 := rfl
  have c7 : (7 : Int32).toInt = 7 := rfl
  have c9 : (9 : Int32).toInt = 9 := rfl
  have c12 : (12 : Int32).toInt = 12 := rfl
  have c99 : (99 : Int32).toInt = 99 := rfl
  have d99 : (-99 : Int32).toInt = -99 := rfl
  have lt : (Int32.ofNat len).toInt = len := Int32.toInt_ofNat_of_lt (by omega)
  have lt1 : (Int32.ofNat len + 1).toInt = len + 1 := by rw [g_suc, Int32.toInt_ofNat_of_lt (by omega)]; omega
  have n10 : ¬ (1 : Int32) = 0 := by decide
  unfold fX1_fits
  rcases h with ⟨rfl, z, rfl⟩ | ⟨e, z, rfl⟩ | ⟨e, rfl, rfl⟩ | ⟨rfl, z, y⟩ | ⟨e, rfl, y⟩ | ⟨rfl, z, y⟩ | ⟨rfl, z, rfl⟩ | ⟨e, z, rfl⟩ | ⟨rfl, z, rfl⟩ | ⟨rfl, z, rfl⟩
  · rw [if_pos rfl, w_in (by omega) (by omega), Option.bind_some, if_neg n10, if_pos rfl]
  · rw [if_neg (by rcases e with e | e <;> rw [e] <;> decide), if_pos e, w_in (by omega) (by omega), Option.bind_some, if_neg n10, if_pos rfl]
  · rw [if_neg (by rcases e with e | e | e | e <;> rw [e] <;> decide), if_neg (by rcases e with e | e | e | e <;> rw [e] <;> decide), if_pos e, if_pos rfl, if_pos rfl]
  · rw [if_neg (by decide), if_neg (by decide), if_neg (by decide), if_pos rfl, w_in (by omega) (by omega), Option.bind_some, if_neg n10, hl, w_in (by omega) (by omega), Option.bind_some, if_neg n10]
  · rw [if_neg (by rcases e with e | e <;> rw [e] <;> decide), if_neg (by rcases e with e | e <;> rw [e] <;> decide), if_neg (by rcases e with e | e <;> rw [e] <;> decide), if_neg (by rcases e with e | e <;> rw [e] <;> decide), if_pos e, if_pos rfl, hl, w_in (by omega) (by omega), Option.bind_some, if_neg n10]
  · rw [if_neg (by decide), if_neg (by decide), if_neg (by decide), if_neg (by decide), if_neg (by decide), if_pos rfl, w_in (by omega) (by omega), Option.bind_some, if_neg n10, hl, w_in (by omega) (by omega), Option.bind_some, if_neg n10]
  · rw [if_neg (by decide), if_neg (by decide), if_neg (by decide), if_neg (by decide), if_neg (by decide), if_neg (by decide), if_pos rfl, w_in (by omega) (by omega), Option.bind_some, if_neg n10, if_pos rfl]
  · rw [if_neg (by rcases e with e | e <;> rw [e] <;> decide), if_neg (by rcases e with e | e <;> rw [e] <;> decide), if_neg (by rcases e with e | e <;> rw [e] <;> decide), if_neg (by rcases e with e | e <;> rw [e] <;> decide), if_neg (by rcases e with e | e <;> rw [e] <;> decide), if_neg (by rcases e with e | e <;> rw [e] <;> decide), if_neg (by rcases e with e | e <;> rw [e] <;> decide), if_pos e, w_in (by omega) (by omega), Option.bind_some, if_neg n10, if_pos rfl]
  · rw [if_neg (by decide), if_neg (by decide), if_neg (by decide), if_neg (by decide), if_neg (by decide), if_neg (by decide), if_neg (by decide), if_neg (by decide), if_pos rfl, w_in (by omega) (by omega), Option.bind_some, if_neg n10, if_pos rfl]
  · rw [if_neg (by decide), if_neg (by decide), if_neg (by decide), if_neg (by decide), if_neg (by decide), if_neg (by decide), if_neg (by decide), if_neg (by decide), if_neg (by decide), if_pos rfl, w_in (by omega) (by omega), Option.bind_some, if_neg n10, if_pos rfl]
/-- one more line of body k -/
def addL (B : gB) (k : Nat) (L : Int32 × Int32 × Int32) : gB := (B.1, fun j => if j = k then B.2 k ++ [L] else B.2 j)
theorem r_addLine {d k : Nat} {μ : MM} {B : gB} {x a b : Int32} (h : tB d μ B) (hk : k < 8) (hl : (B.2 k).length < 12) : ∃ ν, fX1_addLine (tBh d k) x a b μ = some (Int32.ofNat (B.2 k).length, ν) ∧ tB d ν (addL B k (x, a, b)) ∧ mK ν = mK μ ∧ mN ν = mN μ ∧ mX ν = mX μ ∧ mP ν = mP μ ∧ ∀ c j, (c < d + 6 ∨ d + 38 ≤ c) → mI ν c j = mI μ c j := by
  obtain ⟨⟨⟨a1, a2, a3, a4, a5⟩, bb, e⟩, g1, g2⟩ := h
  obtain ⟨e1, e2, e3, e4, e5, e6, e7, e8, e9, e10⟩ := e k (by omega)
  obtain ⟨k1, k2, k3⟩ := g2 k (by omega)
  have hd : tBh d k = d + 6 + 4 * k := by unfold tBh; rw [if_neg (by omega)]
  have lo : ∀ j, j ≤ 8 → j ≠ k → tBh d j + 4 ≤ tBh d k ∨ tBh d k + 4 ≤ tBh d j := fun j h1 h2 => by
    rw [hd]
    unfold tBh
    split <;> omega
  generalize eq : tBh d k = q at *
  generalize el : (B.2 k).length = len at *
  have gl : (Int32.ofNat len).toNatClampNeg = len := g_nat (by omega)
  refine ⟨sI (sI (sI (sI μ (q + 1) len x) (q + 2) len a) (q + 3) len b) q 3 (Int32.ofNat len + 1), ?_, ⟨⟨⟨a1, a2, a3, a4, a5⟩, bb, e⟩, ?_, fun j hj => ?_⟩, rfl, rfl, rfl, rfl, fun c j hc => ?_⟩
  · unfold fX1_addLine
    have z : ¬ (Int32.ofNat len < 0 ∨ 12 ≤ len) := fun z => z.elim (lt0_nat (by omega)) (by omega)
    rw [k2, gl, if_neg (show ¬ (12 : Int32) ≤ Int32.ofNat len from mt (g_le (a := 12) (by omega) (by omega)).mp (by omega)), e2, if_pos e5, e6, if_pos z, st_ap, show mP (sI μ (q + 1) len x) q 1 = q + 2 from e3, if_pos e7, show mN (sI μ (q + 1) len x) (q + 2) = 12 from e8, if_pos z, st_ap, show mP (sI (sI μ (q + 1) len x) (q + 2) len a) q 2 = q + 3 from e4, if_pos e9, show mN (sI (sI μ (q + 1) len x) (q + 2) len a) (q + 3) = 12 from e10, if_pos z, st_ap, st_ap]
  · rw [mI_sI, if_neg (by omega), mI_sI, if_neg (by omega), mI_sI, if_neg (by omega), mI_sI, if_neg (by omega)]
    exact g1
  · by_cases ej : j = k
    · subst ej
      show ((if j = j then B.2 j ++ [(x, a, b)] else B.2 j).length ≤ 12) ∧ mI _ (tBh d j) 3 = Int32.ofNat (if j = j then B.2 j ++ [(x, a, b)] else B.2 j).length ∧ ∀ (i : Nat) (y : Int32 × Int32 × Int32), (if j = j then B.2 j ++ [(x, a, b)] else B.2 j)[i]? = some y → _
      rw [if_pos rfl, List.length_append, el, eq]
      refine ⟨by show len + 1 ≤ 12; omega, ?_, fun i y hy => ?_⟩
      · rw [mI_sI, if_pos ⟨rfl, rfl⟩, g_suc]
        rfl
      · by_cases hi : i < len
        · rw [List.getElem?_append_left (by omega)] at hy
          have := k3 i y hy
          rw [mI_sI, if_neg (by omega), mI_sI, if_neg (by omega), mI_sI, if_neg (by omega), mI_sI, if_neg (by omega), mI_sI, if_neg (by omega), mI_sI, if_neg (by omega), mI_sI, if_neg (by omega), mI_sI, if_neg (by omega), mI_sI, if_neg (by omega), mI_sI, if_neg (by omega), mI_sI, if_neg (by omega), mI_sI, if_neg (by omega)]
          exact this
        · rw [List.getElem?_append_right (by omega), el] at hy
          have hi2 : i = len := by
            have := List.getElem?_eq_some_iff.mp hy
            obtain ⟨h1, -⟩ := this
            have : ([(x, a, b)] : List (Int32 × Int32 × Int32)).length = 1 := rfl
            omega
          subst hi2
          rw [Nat.sub_self] at hy
          have hy : (x, a, b) = y := Option.some.inj hy
          subst hy
          refine ⟨?_, ?_, ?_⟩
          · rw [mI_sI, if_neg (by omega), mI_sI, if_neg (by omega), mI_sI, if_neg (by omega), mI_sI, if_pos ⟨rfl, rfl⟩]
          · rw [mI_sI, if_neg (by omega), mI_sI, if_neg (by omega), mI_sI, if_pos ⟨rfl, rfl⟩]
          · rw [mI_sI, if_neg (by omega), mI_sI, if_pos ⟨rfl, rfl⟩]
    · obtain ⟨m1, m2, m3⟩ := g2 j hj
      have := lo j hj ej
      show ((if j = k then B.2 k ++ [(x, a, b)] else B.2 j).length ≤ 12) ∧ mI _ (tBh d j) 3 = Int32.ofNat (if j = k then B.2 k ++ [(x, a, b)] else B.2 j).length ∧ ∀ (i : Nat) (y : Int32 × Int32 × Int32), (if j = k then B.2 k ++ [(x, a, b)] else B.2 j)[i]? = some y → _
      rw [if_neg ej]
      refine ⟨m1, ?_, fun i y hy => ?_⟩
      · rw [mI_sI, if_neg (by omega), mI_sI, if_neg (by omega), mI_sI, if_neg (by omega), mI_sI, if_neg (by omega)]
        exact m2
      · have := m3 i y hy
        rw [mI_sI, if_neg (by omega), mI_sI, if_neg (by omega), mI_sI, if_neg (by omega), mI_sI, if_neg (by omega), mI_sI, if_neg (by omega), mI_sI, if_neg (by omega), mI_sI, if_neg (by omega), mI_sI, if_neg (by omega), mI_sI, if_neg (by omega), mI_sI, if_neg (by omega), mI_sI, if_neg (by omega), mI_sI, if_neg (by omega)]
        exact this
  · rw [mI_sI, if_neg (by omega), mI_sI, if_neg (by omega), mI_sI, if_neg (by omega), mI_sI, if_neg (by omega)]
