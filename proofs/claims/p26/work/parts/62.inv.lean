/-! INVARIANTS of the machine, at rest and in a call -/
def cN (M : gM) : Nat := (gcnt M).toNatClampNeg
def okWt (B : gB) (c : Nat) (x : gCo) : Prop :=
  gHL (B.2 (gBody (x.1 3))) (x.1 6) = true ∧
  ((gLn (B.2 (gBody (x.1 3))) (x.1 6)).1 = 3 ∨ (gLn (B.2 (gBody (x.1 3))) (x.1 6)).1 = 10 ∨ (gLn (B.2 (gBody (x.1 3))) (x.1 6)).1 = 12 ∨ (gLn (B.2 (gBody (x.1 3))) (x.1 6)).1 = 13) ∧
  ((gLn (B.2 (gBody (x.1 3))) (x.1 6)).1 = 10 ↔ x.1 9 ≠ -1) ∧ (x.1 4 = 0 → (gLn (B.2 (gBody (x.1 3))) (x.1 6)).1 = 3 ∨ (gLn (B.2 (gBody (x.1 3))) (x.1 6)).1 = 10) ∧
  ((gLn (B.2 (gBody (x.1 3))) (x.1 6)).1 = 13 → ∃ j, x.1 7 = Int32.ofNat j ∧ j < c)
/-- of one that was made -/
def okR (B : gB) (c : Nat) (x : gCo) : Prop := okX x ∧ (x.1 5 = 0 → x.2.2 = [] ∧ x.1 11 = 0) ∧ (x.1 5 = 0 ∨ x.1 5 = 1 ∨ x.1 5 = 2 ∨ x.1 5 = 3 ∨ x.1 5 = 4) ∧ (x.1 5 = 1 → okWt B c x) ∧ (x.1 5 ≠ 1 → x.1 9 = -1)
def okC (k : Nat) (x : gCo) : Prop := (0 ≤ (x.1 3).toInt ∧ (x.1 3).toInt < 5) ∧ (x.1 4 = 0 ∨ x.1 4 = 1 ∨ x.1 4 = 2) ∧ (x.1 16).toInt < k ∧ 0 ≤ (x.1 14).toInt ∧ (x.1 15 = 0 ∨ x.1 15 = 1)
def okN (B : gB) (M : gM) (k : Nat) : Prop := gf M k 9 ≠ -1 → ∃ j, gf M k 9 = Int32.ofNat j ∧ k < j ∧ j < cN M ∧ gf M j 4 = 2 ∧ gf M j 10 = Int32.ofNat k ∧ gf M j 3 = (gAtLn B M k).2.1
def IV0 (B : gB) (M : gM) : Prop := gcnt M = Int32.ofNat (cN M) ∧ cN M ≤ 24 ∧ ∀ k, k < cN M → okR B (cN M) (M.1 k) ∧ okC k (M.1 k) ∧ okN B M k
def IRest (M : gM) : Prop := ∀ k, k < cN M → gf M k 5 ≠ 2 ∧ ∀ j, j < cN M → gf M k 9 = Int32.ofNat j → gf M j 5 = 1
def ICall (M : gM) (r : Nat) : Prop := r < cN M ∧ (gf M r 5 = 2 ∨ gf M r 5 = 3 ∨ gf M r 5 = 4) ∧ ∀ k, k < cN M → k ≠ r → gf M k 5 ≠ 2 ∧ ∀ j, j < cN M → gf M k 9 = Int32.ofNat j → j = r ∨ gf M j 5 = 1
/-- the way from a down to b, from one to its inner one, each made behind -/
def gP (f : Nat → Int32) : Nat → Nat → Nat → Prop
  | 0, a, b => a = b
  | n + 1, a, b => ∃ o, gP f n a o ∧ f o = Int32.ofNat b ∧ o < b
/-- the row of those that each awaits ends -/
def gTm (f : Nat → Int32) (c : Nat) : Nat → Nat → Prop
  | 0, k => f k = -1
  | n + 1, k => ∃ j, f k = Int32.ofNat j ∧ j < c ∧ gTm f c n j
/-- what holds of the tasks; t: the one whose turn it is -/
def IQ (M : gM) (t : Int32) : Prop :=
  (0 ≤ (gnow M).toInt ∧ (gnow M).toInt ≤ 1000000) ∧
  ((grq M).Nodup ∧ ∀ x ∈ grq M, x ≠ t ∧ ∃ k, x = Int32.ofNat k ∧ k < cN M ∧ gf M k 4 = 1 ∧ gOver M k = false ∧ gf M k 12 = -1 ∧ gf M k 13 = -1) ∧
  ((gaq M).Nodup ∧ ∀ x ∈ gaq M, ∃ k, x = Int32.ofNat k ∧ k < cN M ∧ gf M k 13 ≠ -1) ∧
  (∀ k, k < cN M → gf M k 13 ≠ -1 → gf M k 4 = 1 ∧ gOver M k = false ∧ Int32.ofNat k ≠ t ∧ gf M k 12 = -1 ∧ Int32.ofNat k ∈ gaq M ∧ ∃ j, gf M k 13 = Int32.ofNat j ∧ j < cN M ∧ gf M j 4 = 1 ∧ (gOver M j = false ∨ Int32.ofNat j = t)) ∧
  (∀ k, k < cN M → gf M k 12 ≠ -1 → gf M k 4 = 1 ∧ gOver M k = false ∧ Int32.ofNat k ≠ t ∧ (gnow M).toInt < (gf M k 12).toInt) ∧
  (∀ k, k < cN M → gf M k 4 = 1 → gOver M k = false → Int32.ofNat k ≠ t → gf M k 12 = -1 → gf M k 13 = -1 → Int32.ofNat k ∈ grq M) ∧
  (∀ k, k < cN M → ∃ n, gTm (fun k => gf M k 13) (cN M) n k)
def IVR (B : gB) (M : gM) : Prop := IV0 B M ∧ IRest M ∧ IQ M (-1)
def ITop (M : gM) (top : Nat) (t : Int32) : Prop := top < cN M ∧ ((gf M top 4 = 1 ∧ t = Int32.ofNat top) ∨ (gf M top 4 ≠ 1 ∧ t = -1))
def IVC (B : gB) (T : gT) (top : Nat) : Prop := IV0 B T.1 ∧ ICall T.1 T.2.1 ∧ (∃ n, gP (fun k => gf T.1 k 9) n top T.2.1) ∧ IQ T.1 T.2.2.1.1 ∧ ITop T.1 top T.2.2.1.1 ∧ (0 ≤ T.2.2.1.2.toInt ∧ T.2.2.1.2.toInt ≤ 300)
/-- what a line must be -/
def okLn (L : Int32 × Int32 × Int32) : Prop := (L.1 = 9 → okW L.2.1) ∧ (L.1 = 12 → 1 ≤ L.2.1.toInt ∧ L.2.1.toInt ≤ 9)
def IB (B : gB) : Prop := B.1 = 5 ∧ ∀ k, k ≤ 8 → (B.2 k).length ≤ 12 ∧ ∀ L ∈ B.2 k, okLn L
theorem okLn_at {B : gB} (h : IB B) {k : Nat} (hk : k ≤ 8) (n : Int32) : okLn (gLn (B.2 k) n) := by
  have h0 : okLn (11, 0, 0) := ⟨fun e => absurd (show (11 : Int32) = 9 from e) (by decide), fun e => absurd (show (11 : Int32) = 12 from e) (by decide)⟩
  unfold gLn
  split
  · cases e : (B.2 k)[n.toNatClampNeg]? with
    | none => exact h0
    | some L => exact (h.2 k hk).2 L (List.mem_of_getElem? e)
  · exact h0
theorem n_inj {a b : Nat} (ha : a < 2 ^ 31) (hb : b < 2 ^ 31) (h : Int32.ofNat a = Int32.ofNat b) : a = b := by
  rw [← g_nat ha, ← g_nat hb, h]
theorem n_neg {a : Nat} (ha : a < 2 ^ 31) : Int32.ofNat a ≠ -1 := fun h => by
  have h1 : (Int32.ofNat a).toInt = a := Int32.toInt_ofNat_of_lt ha
  rw [h] at h1
  have : (-1 : Int32).toInt = -1 := rfl
  omega
theorem n_at {k : Nat} (h : k < 24) : gAt (Int32.ofNat k) = k := by
  have h1 : (Int32.ofNat k).toInt = k := Int32.toInt_ofNat_of_lt (by omega)
  have z : ¬ Int32.ofNat k < 0 := by
    have := mt (g_lt (a := k) (b := 0) (by omega) (by omega)).mp (by omega)
    exact this
  have z2 : ¬ (24 : Int32) ≤ Int32.ofNat k := by
    have := mt (g_le (a := 24) (b := k) (by omega) (by omega)).mp (by omega)
    exact this
  unfold gAt
  rw [if_neg (fun q => q.elim z z2), g_nat (by omega)]
theorem n_num {k : Nat} (h : k < 24) : gNum k = Int32.ofNat k := by
  unfold gNum
  rw [if_neg (by omega)]
theorem gf_co {M : gM} {n k j : Nat} {x : gCo} : gf (gCoS M n x) k j = if k = n then x.1 j else gf M k j := by
  unfold gf gCoS
  by_cases h : k = n <;> simp [h]
theorem gf_at {M : gM} {k j : Nat} : (M.1 k).1 j = gf M k j := rfl
theorem over_f {M M' : gM} {k : Nat} (h : gf M' k 5 = gf M k 5) : gOver M' k = gOver M k := by
  unfold gOver
  rw [h]
theorem gTm.fr {f g : Nat → Int32} {c d : Nat} (hcd : c ≤ d) (h : ∀ k, k < c → g k = f k) : ∀ (n k : Nat), k < c → gTm f c n k → gTm g d n k := by
  intro n
  induction n with
  | zero => intro k hk q; exact (h k hk).trans q
  | succ n ih =>
    intro k hk q
    obtain ⟨j, e, hj, q⟩ := q
    exact ⟨j, (h k hk).trans e, by omega, ih j hj q⟩
theorem gP.lt {f : Nat → Int32} : ∀ (n a b : Nat), gP f n a b → a ≤ b := by
  intro n
  induction n with
  | zero => intro a b h; exact Nat.le_of_eq h
  | succ n ih =>
    intro a b h
    obtain ⟨o, h1, -, h2⟩ := h
    have := ih a o h1
    omega
theorem gP.fr {f g : Nat → Int32} : ∀ (n a b : Nat), (∀ k, a ≤ k → k < b → g k = f k) → gP f n a b → gP g n a b := by
  intro n
  induction n with
  | zero => intro a b _ h; exact h
  | succ n ih =>
    intro a b hh h
    obtain ⟨o, h1, h2, h3⟩ := h
    have := gP.lt _ _ _ h1
    exact ⟨o, ih a o (fun k q1 q2 => hh k q1 (by omega)) h1, (hh o this h3).trans h2, h3⟩
theorem gP.stay {f : Nat → Int32} {a : Nat} (h : f a = -1) : ∀ (n b : Nat), gP f n a b → b < 2 ^ 31 → b = a := by
  intro n
  induction n with
  | zero => intro b q _; exact q.symm
  | succ n ih =>
    intro b q hb
    obtain ⟨o, q1, q2, q3⟩ := q
    have := ih o q1 (by omega)
    subst this
    rw [q2] at h
    exact absurd h (n_neg hb)
/-- the running one is the top one, or an inner one -/
theorem IVC.inn {B : gB} {T : gT} {top : Nat} (h : IVC B T top) : T.2.1 = top ∨ (gf T.1 T.2.1 4 = 2 ∧ ∃ o, o < T.2.1 ∧ top ≤ o ∧ o < cN T.1 ∧ gf T.1 o 9 = Int32.ofNat T.2.1 ∧ gf T.1 T.2.1 10 = Int32.ofNat o ∧ ∃ n, gP (fun k => gf T.1 k 9) n top o) := by
  obtain ⟨h0, hc, ⟨n, hp⟩, -⟩ := h
  cases n with
  | zero => exact Or.inl hp.symm
  | succ n =>
    obtain ⟨o, h1, h2, h3⟩ := hp
    have hr := hc.1
    have h24 := h0.2.1
    have ho : o < cN T.1 := by omega
    obtain ⟨j, e1, e2, e3, e4, e5, -⟩ := (h0.2.2 o ho).2.2 (by rw [show gf T.1 o 9 = Int32.ofNat T.2.1 from h2]; exact n_neg (by omega))
    have : j = T.2.1 := n_inj (by omega) (by omega) (e1.symm.trans h2)
    subst this
    exact Or.inr ⟨e4, o, h3, gP.lt _ _ _ h1, ho, h2, e5, n, h1⟩
theorem IVC.task {B : gB} {T : gT} {top : Nat} (h : IVC B T top) (hs : gf T.1 T.2.1 4 = 1) : Int32.ofNat T.2.1 = T.2.2.1.1 := by
  rcases h.inn with e | e
  · obtain ⟨-, -, -, -, ⟨-, ht⟩, -⟩ := h
    rw [e] at hs ⊢
    rcases ht with q | q
    · exact q.2.symm
    · exact absurd hs q.1
  · rw [e.1] at hs; exact absurd hs (by decide)
/-- the running one does something by itself -/
theorem IVC.upd {B : gB} {T T' : gT} {top : Nat} {x : gCo} (h : IVC B T top) (hs : sameC x (T.1.1 T.2.1)) (hx : okX x) (h5 : x.1 5 = 2 ∨ x.1 5 = 3 ∨ x.1 5 = 4) (e1 : T'.1 = gCoS T.1 T.2.1 x) (e2 : T'.2.1 = T.2.1) (e3 : T'.2.2.1.1 = T.2.2.1.1) (hl : 0 ≤ T'.2.2.1.2.toInt ∧ T'.2.2.1.2.toInt ≤ 300) : IVC B T' top := by
  have htask := h.task
  obtain ⟨h0, hc, ⟨n, hp⟩, hq, ht, -⟩ := h
  obtain ⟨M, r, ⟨t, lb⟩, b1, b2⟩ := T
  dsimp only at *
  obtain ⟨M', r', ⟨t', lb'⟩, c1, c2⟩ := T'
  dsimp only at *
  subst e1
  subst r'
  subst t'
  have hcn : cN (gCoS M r x) = cN M := rfl
  have n5 : x.1 5 ≠ 1 ∧ x.1 5 ≠ 0 := by rcases h5 with q | q | q <;> rw [q] <;> decide
  have m5 : gf M r 5 ≠ 1 := by rcases hc.2.1 with q | q | q <;> rw [q] <;> decide
  have hr9 : gf M r 9 = -1 := (h0.2.2 r hc.1).1.2.2.2.2 m5
  have x9 : x.1 9 = -1 := (hs 9 (by omega) (by omega) (by omega) (by omega)).trans hr9
  have sm : ∀ k j, j ≠ 5 → j ≠ 6 → j ≠ 7 → j ≠ 11 → gf (gCoS M r x) k j = gf M k j := fun k j a b c d => by
    rw [gf_co]
    split
    · rename_i e; rw [e]; exact hs j a b c d
    · rfl
  have ne : ∀ k j, k ≠ r → gf (gCoS M r x) k j = gf M k j := fun k j a => by rw [gf_co, if_neg a]
  have ov : ∀ k, k ≠ r → gOver (gCoS M r x) k = gOver M k := fun k a => over_f (ne k 5 a)
  refine ⟨⟨h0.1, h0.2.1, fun k hk => ?_⟩, ⟨hc.1, by rw [gf_co, if_pos rfl]; exact h5, fun k hk hkr => ?_⟩, ⟨n, gP.fr n top r (fun k _ _ => sm k 9 (by omega) (by omega) (by omega) (by omega)) hp⟩, ?_, ⟨ht.1, ?_⟩, hl⟩
  · obtain ⟨a1, a2, a3⟩ := h0.2.2 k hk
    refine ⟨?_, ?_, fun q => ?_⟩
    · by_cases e : k = r
      · subst e
        rw [co_at]
        exact ⟨hx, fun z => absurd z n5.2, Or.inr (Or.inr h5), fun z => absurd z n5.1, fun _ => x9⟩
      · rw [co_ne e]; exact a1
    · obtain ⟨b1, b2, b3, b4, b5⟩ := a2
      unfold okC
      simp only [gf_at] at *
      rw [sm k 3 (by omega) (by omega) (by omega) (by omega), sm k 4 (by omega) (by omega) (by omega) (by omega), sm k 14 (by omega) (by omega) (by omega) (by omega), sm k 16 (by omega) (by omega) (by omega) (by omega), sm k 15 (by omega) (by omega) (by omega) (by omega)]
      exact ⟨b1, b2, b3, b4, b5⟩
    · rw [sm k 9 (by omega) (by omega) (by omega) (by omega)] at q ⊢
      have hkr : k ≠ r := fun e => by subst e; exact q hr9
      obtain ⟨j, d1, d2, d3, d4, d5, d6⟩ := a3 q
      refine ⟨j, d1, d2, d3, ?_, ?_, ?_⟩
      · rw [sm j 4 (by omega) (by omega) (by omega) (by omega)]; exact d4
      · rw [sm j 10 (by omega) (by omega) (by omega) (by omega)]; exact d5
      · rw [sm j 3 (by omega) (by omega) (by omega) (by omega), d6]
        unfold gAtLn
        rw [ne k 3 hkr, ne k 6 hkr]
  · obtain ⟨a1, a2⟩ := hc.2.2 k hk hkr
    refine ⟨by rw [ne k 5 hkr]; exact a1, fun j hj e => ?_⟩
    rw [ne k 9 hkr] at e
    rcases a2 j hj e with q | q
    · exact Or.inl q
    · by_cases z : j = r
      · exact Or.inl z
      · exact Or.inr (by rw [ne j 5 z]; exact q)
  · obtain ⟨q0, ⟨q1, q2⟩, ⟨q3, q4⟩, q5, q6, q7, q8⟩ := hq
    have s4 := fun k => sm k 4 (by omega) (by omega) (by omega) (by omega)
    have s12 := fun k => sm k 12 (by omega) (by omega) (by omega) (by omega)
    have s13 := fun k => sm k 13 (by omega) (by omega) (by omega) (by omega)
    refine ⟨q0, ⟨q1, fun y hy => ?_⟩, ⟨q3, fun y hy => ?_⟩, fun k hk e => ?_, fun k hk e => ?_, fun k hk f1 f2 f3 f4 f5 => ?_, fun k hk => ?_⟩
    · obtain ⟨p1, k, p2, p3, p4, p5, p6, p7⟩ := q2 y hy
      refine ⟨p1, k, p2, p3, by rw [s4]; exact p4, ?_, by rw [s12]; exact p6, by rw [s13]; exact p7⟩
      rw [ov k (fun z => by subst z; exact p1 (p2.trans (htask p4)))]
      exact p5
    · obtain ⟨k, p2, p3, p4⟩ := q4 y hy
      exact ⟨k, p2, p3, by rw [s13]; exact p4⟩
    · rw [s13] at e
      obtain ⟨p1, p2, p3, p4, p5, j, p6, p7, p8, p9⟩ := q5 k hk e
      refine ⟨by rw [s4]; exact p1, ?_, p3, by rw [s12]; exact p4, p5, j, by rw [s13]; exact p6, p7, by rw [s4]; exact p8, ?_⟩
      · rw [ov k (fun z => by subst z; exact p3 (htask p1))]
        exact p2
      · by_cases z : j = r
        · subst z; exact Or.inr (htask p8)
        · rw [ov j z]; exact p9
    · rw [s12] at e
      obtain ⟨p1, p2, p3, p4⟩ := q6 k hk e
      refine ⟨by rw [s4]; exact p1, ?_, p3, by rw [s12]; exact p4⟩
      rw [ov k (fun z => by subst z; exact p3 (htask p1))]
      exact p2
    · rw [s4] at f1
      have hkr : k ≠ r := fun z => by subst z; exact f3 (htask f1)
      rw [ov k hkr] at f2
      rw [s12] at f4
      rw [s13] at f5
      exact q7 k hk f1 f2 f3 f4 f5
    · obtain ⟨m, hm⟩ := q8 k hk
      exact ⟨m, gTm.fr (Nat.le_refl _) (fun k _ => s13 k) m k hk hm⟩
  · rw [sm top 4 (by omega) (by omega) (by omega) (by omega)]
    exact ht.2
