/-! what holds of a coroutine by itself, and what leave and the plain lines keep of it -/
def okT (v : Int32) : Prop := -9999 ≤ v.toInt ∧ v.toInt ≤ 9999
def okW (v : Int32) : Prop := 1 ≤ v.toInt ∧ v.toInt ≤ 11
def okS (x : Int32 × Int32) : Prop := x.1 = -1 ∨ x.1 = -2 ∨ x.1 = -3 ∨ (x.1 = -4 ∧ okT x.2) ∨ okW x.1
def okK (k : List (Int32 × Int32)) : Prop := k.length ≤ 6 ∧ ∀ s ∈ k, okS s
/-- a way, with what it returns -/
def okY (w v : Int32) : Prop := okW w ∨ (w = -4 ∧ okT v)
def okX (x : gCo) : Prop := okT (x.1 7) ∧ (∀ i, i < 4 → okT (x.2.1 i)) ∧ okK x.2.2 ∧ (x.1 5 = 3 ∨ x.1 5 = 4 → x.2.2 = []) ∧ (x.1 5 = 4 → okW (x.1 7))
def isBl (s : Int32 × Int32) : Bool := s.1 == -1 || s.1 == -2
def bl (k : List (Int32 × Int32)) : Nat := (k.filter isBl).length
def sameC (x y : gCo) : Prop := ∀ j, j ≠ 5 → j ≠ 6 → j ≠ 7 → j ≠ 11 → x.1 j = y.1 j
theorem sameC.rf {x : gCo} : sameC x x := fun _ _ _ _ _ => rfl
theorem sameC.tr {x y z : gCo} (h : sameC x y) (g : sameC y z) : sameC x z := fun j a b c d => (h j a b c d).trans (g j a b c d)
theorem sameC.F {x : gCo} {j : Nat} {v : Int32} (h : j = 5 ∨ j = 6 ∨ j = 7 ∨ j = 11) : sameC (cF x j v) x := fun i a b c d => by rw [cF_f, if_neg (by omega)]
theorem sameC.K {x : gCo} {k : List (Int32 × Int32)} : sameC (cK x k) x := fun _ _ _ _ _ => rfl
theorem bl_cons {s : Int32 × Int32} {k : List (Int32 × Int32)} : bl (s :: k) = (if isBl s then 1 else 0) + bl k := by
  unfold bl
  rw [List.filter_cons]
  split <;> simp [Nat.add_comm]
theorem bl_up {s : Int32 × Int32} {k : List (Int32 × Int32)} : bl (s :: k) ≤ bl k + 1 := by
  rw [bl_cons]
  split <;> omega
theorem bl_le {k : List (Int32 × Int32)} : bl k ≤ k.length := List.length_filter_le _ _
theorem okW.T {w : Int32} (h : okW w) : okT w := ⟨by have := h.1; omega, by have := h.2; omega⟩
theorem okT.z : okT 0 := ⟨by decide, by decide⟩
theorem okW.n4 {w : Int32} (h : okW w) : w ≠ -4 := fun e => by subst e; exact absurd h.1 (by decide)
theorem okW.nb {w : Int32} (h : okW w) : w ≠ -1 ∧ w ≠ -2 ∧ w ≠ -3 ∧ w ≠ 0 := ⟨fun e => by subst e; exact absurd h.1 (by decide), fun e => by subst e; exact absurd h.1 (by decide), fun e => by subst e; exact absurd h.1 (by decide), fun e => by subst e; exact absurd h.1 (by decide)⟩
theorem okK.nil : okK [] := ⟨by decide, fun s h => by cases h⟩
theorem okK.tail {s : Int32 × Int32} {k : List (Int32 × Int32)} (h : okK (s :: k)) : okK k := ⟨by have := h.1; simp at this; omega, fun t ht => h.2 t (List.mem_cons_of_mem _ ht)⟩
theorem okK.sw {s t : Int32 × Int32} {k : List (Int32 × Int32)} (h : okK (s :: k)) (ht : okS t) : okK (t :: k) := ⟨h.1, fun u hu => by
  rcases List.mem_cons.mp hu with e | e
  · rw [e]; exact ht
  · exact h.2 u (List.mem_cons_of_mem _ e)⟩
theorem find_ok {way val : Int32} (hw : okY way val) : ∀ (k : List (Int32 × Int32)), okK k → ∀ (h : Int32) (r : List (Int32 × Int32)) (c : Bool), gFind way val k = some (h, r, c) → okK r ∧ bl r + 1 ≤ bl k ∧ (c = true → okW way) := by
  intro k
  induction k with
  | nil => intro _ h r c e; cases e
  | cons y k ih =>
    obtain ⟨s, m⟩ := y
    intro hk h r c e
    unfold gFind at e
    by_cases h2 : s = -2
    · rw [if_pos h2] at e
      injection e with e
      injection e with e1 e2
      injection e2 with e2 e3
      subst e2 e3
      have hs : okS (way, if way = -4 then val else 0) := by
        rcases hw with q | q
        · exact Or.inr (Or.inr (Or.inr (Or.inr q)))
        · refine Or.inr (Or.inr (Or.inr (Or.inl ⟨q.1, ?_⟩)))
          show okT (if way = -4 then val else 0)
          rw [if_pos q.1]; exact q.2
      refine ⟨hk.sw hs, ?_, fun q => by cases q⟩
      have n1 : isBl (way, if way = -4 then val else 0) = false := by
        unfold isBl
        rcases hw with q | q
        · have := q.nb
          simp [this.1, this.2.1]
        · simp [q.1]
      have n2 : isBl (s, m) = true := by simp [isBl, h2]
      rw [bl_cons, bl_cons, n1, n2]
      simp
      omega
    · rw [if_neg h2] at e
      by_cases h1 : s = -1 ∧ 1 ≤ way ∧ way ≤ 9
      · rw [if_pos h1] at e
        injection e with e
        injection e with e1 e2
        injection e2 with e2 e3
        subst e2 e3
        have n2 : isBl (s, m) = true := by simp [isBl, h1.1]
        refine ⟨hk.tail, by rw [bl_cons, n2]; simp; omega, fun _ => ?_⟩
        rcases hw with q | q
        · exact q
        · have := h1.2.1
          rw [q.1] at this
          exact absurd this (by decide)
      · rw [if_neg h1] at e
        obtain ⟨a, b, d⟩ := ih hk.tail h r c e
        exact ⟨a, by rw [bl_cons]; omega, d⟩
theorem cLeave_ok {x : gCo} {way val : Int32} (hw : okY way val) (h : okX x) : okX (cLeave x way val) ∧ sameC (cLeave x way val) x ∧ (cLeave x way val).1 11 = x.1 11 ∧
    (((cLeave x way val).1 5 = 2 ∧ bl (cLeave x way val).2.2 + 1 ≤ bl x.2.2) ∨ ((cLeave x way val).1 5 = 3 ∨ (cLeave x way val).1 5 = 4) ∧ bl (cLeave x way val).2.2 = 0) := by
  obtain ⟨h1, h2, h3, h4, h5⟩ := h
  unfold cLeave
  cases e : gFind way val x.2.2 with
  | none =>
    dsimp only
    by_cases q : way = -4
    · rw [if_pos q]
      have hv : okT val := by
        rcases hw with w | w
        · exact absurd q w.n4
        · exact w.2
      exact ⟨⟨hv, h2, okK.nil, fun _ => rfl, fun z => absurd (show (3 : Int32) = 4 from z) (by decide)⟩, ((sameC.F (Or.inr (Or.inr (Or.inl rfl)))).tr (sameC.F (Or.inl rfl))).tr sameC.K, rfl, Or.inr ⟨Or.inl rfl, rfl⟩⟩
    · rw [if_neg q]
      have hv : okW way := by
        rcases hw with w | w
        · exact w
        · exact absurd w.1 q
      exact ⟨⟨hv.T, h2, okK.nil, fun _ => rfl, fun z => hv⟩, ((sameC.F (Or.inr (Or.inr (Or.inl rfl)))).tr (sameC.F (Or.inl rfl))).tr sameC.K, rfl, Or.inr ⟨Or.inr rfl, rfl⟩⟩
  | some y =>
    obtain ⟨hd, r, c⟩ := y
    obtain ⟨f1, f2, f3⟩ := find_ok hw x.2.2 h3 hd r c e
    have no : ∀ {P : Prop}, ((2 : Int32) = 3 ∨ (2 : Int32) = 4) → P := fun z => absurd z (by decide)
    cases c with
    | true =>
      dsimp only
      rw [if_pos rfl]
      exact ⟨⟨(f3 rfl).T, h2, f1, fun z => no z, fun z => no (Or.inr z)⟩, (((sameC.F (Or.inr (Or.inl rfl))).tr (sameC.F (Or.inl rfl))).tr (sameC.F (Or.inr (Or.inr (Or.inl rfl))))).tr sameC.K, rfl, Or.inl ⟨rfl, f2⟩⟩
    | false =>
      dsimp only
      rw [if_neg (by decide)]
      exact ⟨⟨h1, h2, f1, fun z => no z, fun z => no (Or.inr z)⟩, ((sameC.F (Or.inr (Or.inl rfl))).tr (sameC.F (Or.inl rfl))).tr sameC.K, rfl, Or.inl ⟨rfl, f2⟩⟩
theorem i_add {a b : Int32} (h1 : -2147483648 ≤ a.toInt + b.toInt) (h2 : a.toInt + b.toInt < 2147483648) : (a + b).toInt = a.toInt + b.toInt := by
  rw [Int32.toInt_add]
  simp only [Int.bmod]
  split <;> omega
theorem i_sub {a b : Int32} (h1 : -2147483648 ≤ a.toInt - b.toInt) (h2 : a.toInt - b.toInt < 2147483648) : (a - b).toInt = a.toInt - b.toInt := by
  rw [Int32.toInt_sub]
  simp only [Int.bmod]
  split <;> omega
theorem jmax_T {a b : Int32} : (jmax a b).toInt = if a.toInt < b.toInt then b.toInt else a.toInt := by
  unfold jmax
  by_cases h : a < b
  · rw [if_pos h, if_pos (Int32.lt_iff_toInt_lt.mp h)]
  · rw [if_neg h, if_neg (fun q => h (Int32.lt_iff_toInt_lt.mpr q))]
theorem jmin_T {a b : Int32} : (jmin a b).toInt = if b.toInt < a.toInt then b.toInt else a.toInt := by
  unfold jmin
  by_cases h : b < a
  · rw [if_pos h, if_pos (Int32.lt_iff_toInt_lt.mp h)]
  · rw [if_neg h, if_neg (fun q => h (Int32.lt_iff_toInt_lt.mpr q))]
theorem okT_clamp (v : Int32) : okT (jmax (-9999) (jmin 9999 v)) := by
  unfold okT
  rw [jmax_T, jmin_T, show (-9999 : Int32).toInt = -9999 from rfl, show (9999 : Int32).toInt = 9999 from rfl]
  constructor <;> split <;> (try split) <;> omega
theorem cLoc_ok {x : gCo} (h : okX x) (a : Int32) : okT (cLoc x a) := by
  unfold cLoc
  split
  · exact okT.z
  · rename_i q
    have h1 : a < 4 := Int32.not_le.mp (fun z => q (Or.inr z))
    have h3 := Int32.lt_iff_toInt_lt.mp h1
    have h4 : a.toNatClampNeg = a.toInt.toNat := rfl
    have h2 : (4 : Int32).toInt = 4 := rfl
    exact h.2.1 _ (by omega)
theorem cLocS_ok {x : gCo} (h : okX x) (a v : Int32) (hv : okT v) : okX (cLocS x a v) ∧ (cLocS x a v).1 = x.1 ∧ (cLocS x a v).2.2 = x.2.2 := by
  unfold cLocS
  split
  · exact ⟨h, rfl, rfl⟩
  · refine ⟨⟨h.1, fun i hi => ?_, h.2.2⟩, rfl, rfl⟩
    show okT (if i = a.toNatClampNeg then v else x.2.1 i)
    split
    · exact hv
    · exact h.2.1 i hi
theorem okX.F6 {x : gCo} (h : okX x) (v : Int32) : okX (cF x 6 v) := ⟨h.1, h.2.1, h.2.2.1, h.2.2.2.1, h.2.2.2.2⟩
theorem okX.F7 {x : gCo} (h : okX x) (v : Int32) (hs : x.1 5 = 2) (hv : okT v) : okX (cF x 7 v) := ⟨hv, h.2.1, h.2.2.1, h.2.2.2.1, fun z => absurd (hs.symm.trans (show x.1 5 = 4 from z)) (by decide)⟩
theorem okX.K {x : gCo} (h : okX x) {k : List (Int32 × Int32)} (hk : okK k) (hs : x.1 5 = 2) : okX (cK x k) := ⟨h.1, h.2.1, hk, fun z => absurd (show x.1 5 = 3 ∨ x.1 5 = 4 from z) (by rw [hs]; decide), h.2.2.2.2⟩
/-- the plain lines, as a coroutine runs -/
theorem cPlain_ok {x : gCo} {kind a b : Int32} (h : okX x) (hs : x.1 5 = 2) (h9 : kind = 9 → okW a) : okX (cPlain x kind a b).2.2 ∧ sameC (cPlain x kind a b).2.2 x ∧ (cPlain x kind a b).2.2.1 5 = 2 ∧ (cPlain x kind a b).2.2.1 11 = x.1 11 ∧ bl (cPlain x kind a b).2.2.2.2 ≤ bl x.2.2 + 1 ∧ ((cPlain x kind a b).1 = 0 ∨ okY (cPlain x kind a b).1 (cPlain x kind a b).2.1) := by
  have six : ∀ {j : Nat}, j = 6 → j = 5 ∨ j = 6 ∨ j = 7 ∨ j = 11 := fun h => Or.inr (Or.inl h)
  have sev : ∀ {j : Nat}, j = 7 → j = 5 ∨ j = 6 ∨ j = 7 ∨ j = 11 := fun h => Or.inr (Or.inr (Or.inl h))
  unfold cPlain
  by_cases k0 : kind = 0
  · rw [if_pos k0]
    exact ⟨(h.F7 _ hs (okT_clamp _)).F6 _, (sameC.F (six rfl)).tr (sameC.F (sev rfl)), hs, rfl, Nat.le_succ _, Or.inl rfl⟩
  rw [if_neg k0]
  by_cases k1 : kind = 1
  · rw [if_pos k1]
    exact ⟨(h.F7 _ hs (cLoc_ok h _)).F6 _, (sameC.F (six rfl)).tr (sameC.F (sev rfl)), hs, rfl, Nat.le_succ _, Or.inl rfl⟩
  rw [if_neg k1]
  have hl : ∀ (v w : Int32), okT v → okX (cF (cLocS x a v) 6 w) ∧ sameC (cF (cLocS x a v) 6 w) x ∧ (cF (cLocS x a v) 6 w).1 5 = 2 ∧ (cF (cLocS x a v) 6 w).1 11 = x.1 11 ∧ bl (cF (cLocS x a v) 6 w).2.2 ≤ bl x.2.2 + 1 := fun v w hv => by
    obtain ⟨a1, a2, a3⟩ := cLocS_ok h a v hv
    refine ⟨a1.F6 _, fun j q1 q2 q3 q4 => ?_, ?_, ?_, ?_⟩
    · rw [cF_f, if_neg q2, a2]
    · rw [cF_f, if_neg (by omega), a2]; exact hs
    · rw [cF_f, if_neg (by omega), a2]
    · show bl (cLocS x a v).2.2 ≤ _
      rw [a3]; omega
  by_cases k2 : kind = 2
  · rw [if_pos k2]
    obtain ⟨b1, b2, b3, b4, b5⟩ := hl (x.1 7) (x.1 6 + 1) h.1
    exact ⟨b1, b2, b3, b4, b5, Or.inl rfl⟩
  rw [if_neg k2]
  by_cases k4 : kind = 4
  · rw [if_pos k4]
    by_cases q : cLoc x a ≤ 0
    · rw [if_pos q]
      exact ⟨h.F6 _, sameC.F (six rfl), hs, rfl, Nat.le_succ _, Or.inl rfl⟩
    · rw [if_neg q]
      have hc := cLoc_ok h a
      have hc0 : 0 < (cLoc x a).toInt := by
        have := Int32.lt_iff_toInt_lt.mp (Int32.not_le.mp q)
        exact this
      have hd : okT (cLoc x a - 1) := by
        have e : (cLoc x a - 1).toInt = (cLoc x a).toInt - 1 := i_sub (by show _ ≤ (cLoc x a).toInt - 1; have := hc.1; omega) (by show (cLoc x a).toInt - 1 < _; have := hc.2; omega)
        exact ⟨by rw [e]; omega, by rw [e]; have := hc.2; omega⟩
      obtain ⟨b1, b2, b3, b4, b5⟩ := hl (cLoc x a - 1) b hd
      exact ⟨b1, b2, b3, b4, b5, Or.inl rfl⟩
  rw [if_neg k4]
  by_cases k5 : kind = 5
  · rw [if_pos k5]
    by_cases q : 0 < x.1 7
    · rw [if_pos q]
      exact ⟨h.F6 _, sameC.F (six rfl), hs, rfl, Nat.le_succ _, Or.inl rfl⟩
    · rw [if_neg q]
      exact ⟨h.F6 _, sameC.F (six rfl), hs, rfl, Nat.le_succ _, Or.inl rfl⟩
  rw [if_neg k5]
  by_cases k6 : kind = 6
  · rw [if_pos k6]
    by_cases q : 6 ≤ x.2.2.length
    · rw [if_pos q]
      exact ⟨h, sameC.rf, hs, rfl, Nat.le_succ _, Or.inr (Or.inl (show okW 5 from ⟨by decide, by decide⟩))⟩
    · rw [if_neg q]
      have hn : okK (((if a = 0 then -1 else -2 : Int32), b) :: x.2.2) := by
        refine ⟨by simp; omega, fun s hm => ?_⟩
        rcases List.mem_cons.mp hm with e | e
        · rw [e]
          by_cases z : a = 0
          · rw [if_pos z]; exact Or.inl rfl
          · rw [if_neg z]; exact Or.inr (Or.inl rfl)
        · exact h.2.2.1.2 s e
      refine ⟨(h.K hn hs).F6 _, (sameC.F (six rfl)).tr sameC.K, hs, rfl, ?_, Or.inl rfl⟩
      exact bl_up
  rw [if_neg k6]
  by_cases k7 : kind = 7
  · rw [if_pos k7]
    have : okX (cDone7 x b).2 ∧ sameC (cDone7 x b).2 x ∧ (cDone7 x b).2.1 = x.1 ∧ bl (cDone7 x b).2.2.2 ≤ bl x.2.2 := by
      unfold cDone7
      cases e : x.2.2 with
      | nil => exact ⟨h, sameC.rf, rfl, by rw [e]; exact Nat.le_refl _⟩
      | cons y r =>
        obtain ⟨s, m⟩ := y
        have hk := h.2.2.1
        rw [e] at hk
        dsimp only
        by_cases h1 : s = -1
        · rw [if_pos h1]
          exact ⟨h.K hk.tail hs, sameC.K, rfl, by rw [bl_cons]; exact Nat.le_add_left _ _⟩
        · rw [if_neg h1]
          by_cases h2 : s = -2
          · rw [if_pos h2]
            refine ⟨h.K (hk.sw (Or.inr (Or.inr (Or.inl rfl)))) hs, sameC.K, rfl, ?_⟩
            show bl ((-3, b) :: r) ≤ _
            rw [bl_cons, bl_cons, show isBl (-3, b) = false from rfl]
            simp
          · rw [if_neg h2]
            exact ⟨h, sameC.rf, rfl, by rw [e]; exact Nat.le_refl _⟩
    obtain ⟨a1, a2, a3, a4⟩ := this
    refine ⟨a1.F6 _, (sameC.F (six rfl)).tr a2, ?_, ?_, Nat.le_succ_of_le a4, Or.inl rfl⟩
    · rw [cF_f, if_neg (by omega), a3]; exact hs
    · rw [cF_f, if_neg (by omega), a3]
  rw [if_neg k7]
  by_cases k8 : kind = 8
  · rw [if_pos k8]
    unfold cLast
    cases e : x.2.2 with
    | nil => exact ⟨h.F6 _, sameC.F (six rfl), hs, rfl, by show bl x.2.2 ≤ _; rw [e]; exact Nat.le_succ _, Or.inl rfl⟩
    | cons y r =>
      obtain ⟨s, m⟩ := y
      have hk := h.2.2.1
      rw [e] at hk
      dsimp only
      by_cases h1 : s = 0 ∨ s = -1 ∨ s = -2
      · rw [if_pos h1]
        exact ⟨h.F6 _, sameC.F (six rfl), hs, rfl, by show bl x.2.2 ≤ _; rw [e]; exact Nat.le_succ _, Or.inl rfl⟩
      · rw [if_neg h1]
        have hb : bl r ≤ bl ((s, m) :: r) + 1 := by rw [bl_cons]; omega
        by_cases h2 : s = -3
        · rw [if_pos h2]
          exact ⟨(h.K hk.tail hs).F6 _, (sameC.F (six rfl)).tr sameC.K, hs, rfl, hb, Or.inl rfl⟩
        · rw [if_neg h2]
          refine ⟨h.K hk.tail hs, sameC.K, hs, rfl, hb, Or.inr ?_⟩
          rcases hk.2 (s, m) List.mem_cons_self with q | q | q | q | q
          · exact absurd (Or.inr (Or.inl q)) h1
          · exact absurd (Or.inr (Or.inr q)) h1
          · exact absurd q h2
          · exact Or.inr q
          · exact Or.inl q
  rw [if_neg k8]
  by_cases k9 : kind = 9
  · rw [if_pos k9]
    exact ⟨h, sameC.rf, hs, rfl, Nat.le_succ _, Or.inr (Or.inl (h9 k9))⟩
  rw [if_neg k9]
  by_cases k11 : kind = 11
  · rw [if_pos k11]
    exact ⟨h, sameC.rf, hs, rfl, Nat.le_succ _, Or.inr (Or.inr ⟨rfl, h.1⟩)⟩
  rw [if_neg k11]
  exact ⟨h.F6 _, sameC.F (six rfl), hs, rfl, Nat.le_succ _, Or.inl rfl⟩
