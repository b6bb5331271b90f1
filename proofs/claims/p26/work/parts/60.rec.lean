/-! INVARIANTS: a coroutine by itself, as a record; what leave and the plain lines make of it -/
def cF (x : gCo) (j : Nat) (v : Int32) : gCo := (fun i => if i = j then v else x.1 i, x.2)
def cK (x : gCo) (k : List (Int32 × Int32)) : gCo := (x.1, x.2.1, k)
def cL (x : gCo) (i : Nat) (v : Int32) : gCo := (x.1, fun k => if k = i then v else x.2.1 k, x.2.2)
theorem co_at {M : gM} {n : Nat} {x : gCo} : (gCoS M n x).1 n = x := by simp [gCoS]
theorem co_ne {M : gM} {n k : Nat} {x : gCo} (h : k ≠ n) : (gCoS M n x).1 k = M.1 k := by simp [gCoS, h]
theorem co_co {M : gM} {n : Nat} {x y : gCo} : gCoS (gCoS M n x) n y = gCoS M n y := by
  unfold gCoS
  refine Prod.ext (funext fun k => ?_) rfl
  by_cases h : k = n <;> simp [h]
theorem co_self {M : gM} {n : Nat} : gCoS M n (M.1 n) = M := by
  unfold gCoS
  refine Prod.ext (funext fun k => ?_) rfl
  by_cases h : k = n
  · subst h; simp
  · simp [h]
theorem co_fF {M : gM} {n j : Nat} {x : gCo} {v : Int32} : gfS (gCoS M n x) n j v = gCoS M n (cF x j v) := by
  unfold gfS
  rw [co_co, co_at]
  rfl
theorem co_kK {M : gM} {n : Nat} {x : gCo} {k : List (Int32 × Int32)} : gkS (gCoS M n x) n k = gCoS M n (cK x k) := by
  unfold gkS
  rw [co_co, co_at]
  rfl
theorem co_F {M : gM} {n j : Nat} {v : Int32} : gfS M n j v = gCoS M n (cF (M.1 n) j v) := rfl
theorem co_K {M : gM} {n : Nat} {k : List (Int32 × Int32)} : gkS M n k = gCoS M n (cK (M.1 n) k) := rfl
theorem co_L {M : gM} {n i : Nat} {v : Int32} : glS M n i v = gCoS M n (cL (M.1 n) i v) := rfl
theorem cF_f {x : gCo} {j i : Nat} {v : Int32} : (cF x j v).1 i = if i = j then v else x.1 i := rfl
theorem cF_k {x : gCo} {j : Nat} {v : Int32} : (cF x j v).2 = x.2 := rfl
theorem cK_f {x : gCo} {k : List (Int32 × Int32)} : (cK x k).1 = x.1 := rfl
theorem cK_l {x : gCo} {k : List (Int32 × Int32)} : (cK x k).2.1 = x.2.1 := rfl
theorem cK_k {x : gCo} {k : List (Int32 × Int32)} : (cK x k).2.2 = k := rfl
theorem cL_f {x : gCo} {i : Nat} {v : Int32} : (cL x i v).1 = x.1 := rfl
theorem cL_k {x : gCo} {i : Nat} {v : Int32} : (cL x i v).2.2 = x.2.2 := rfl
theorem co_FF {M : gM} {n i j : Nat} {v w : Int32} : gfS (gfS M n i v) n j w = gCoS M n (cF (cF (M.1 n) i v) j w) := co_fF
def cGo (x : gCo) (line : Int32) : gCo := cF (cF x 5 2) 6 line
def cEnd (x : gCo) (st wi : Int32) : gCo := cF (cF x 5 st) 7 wi
theorem go_co {M : gM} {n : Nat} {l : Int32} : gGo M n l = gCoS M n (cGo (M.1 n) l) := by
  unfold gGo
  exact co_FF
theorem end_co {M : gM} {n : Nat} {s w : Int32} : gEnd M n s w = gCoS M n (cEnd (M.1 n) s w) := by
  unfold gEnd
  exact co_FF
def cLeave (x : gCo) (way val : Int32) : gCo := match gFind way val x.2.2 with
  | none => if way = -4 then cEnd (cK x []) 3 val else cEnd (cK x []) 4 way
  | some (h, k, c) => cGo (if c then cF (cK x k) 7 way else cK x k) h
theorem leave_co {M : gM} {n : Nat} {w v : Int32} : gLeave M n w v = gCoS M n (cLeave (M.1 n) w v) := by
  unfold gLeave cLeave
  show (match gFind w v (M.1 n).2.2 with | none => _ | some (h, k, c) => _) = _
  cases gFind w v (M.1 n).2.2 with
  | none =>
    by_cases q : w = -4
    · simp only [if_pos q]
      rw [end_co, co_K, co_co, co_at]
    · simp only [if_neg q]
      rw [end_co, co_K, co_co, co_at]
  | some y =>
    obtain ⟨h, k, c⟩ := y
    cases c with
    | true =>
      simp only [if_true]
      rw [go_co, co_K, co_fF, co_co, co_at]
    | false =>
      simp only [Bool.false_eq_true, if_false]
      rw [go_co, co_K, co_co, co_at]
def cLoc (x : gCo) (a : Int32) : Int32 := if a < 0 ∨ 4 ≤ a then 0 else x.2.1 a.toNatClampNeg
def cLocS (x : gCo) (a v : Int32) : gCo := if a < 0 ∨ 4 ≤ a then x else cL x a.toNatClampNeg v
theorem locS_co {M : gM} {n : Nat} {a v : Int32} : gLocS M n a v = gCoS M n (cLocS (M.1 n) a v) := by
  unfold gLocS cLocS
  split
  · exact co_self.symm
  · rfl
def cDone7 (x : gCo) (b : Int32) : Int32 × gCo := match x.2.2 with
  | (s, m) :: r => if s = -1 then (b, cK x r) else if s = -2 then (m, cK x ((-3, b) :: r)) else (b, x)
  | [] => (b, x)
theorem done_co {M : gM} {n : Nat} {b : Int32} : gDone7 M n b = ((cDone7 (M.1 n) b).1, gCoS M n (cDone7 (M.1 n) b).2) := by
  unfold gDone7 cDone7
  show (match (M.1 n).2.2 with | (s, m) :: r => _ | [] => _) = _
  cases h : (M.1 n).2.2 with
  | nil => simp only [co_self]
  | cons y r =>
    obtain ⟨s, m⟩ := y
    dsimp only
    by_cases h1 : s = -1
    · rw [if_pos h1, if_pos h1]; rfl
    · rw [if_neg h1, if_neg h1]
      by_cases h2 : s = -2
      · rw [if_pos h2, if_pos h2]; rfl
      · rw [if_neg h2, if_neg h2, co_self]
def cLast (x : gCo) : Int32 × Int32 × gCo := match x.2.2 with
  | (s, m) :: r => if s = 0 ∨ s = -1 ∨ s = -2 then (0, 0, cF x 6 (x.1 6 + 1)) else if s = -3 then (0, 0, cF (cK x r) 6 m) else (s, m, cK x r)
  | [] => (0, 0, cF x 6 (x.1 6 + 1))
theorem last_co {M : gM} {n : Nat} : gLast M n = ((cLast (M.1 n)).1, (cLast (M.1 n)).2.1, gCoS M n (cLast (M.1 n)).2.2) := by
  unfold gLast cLast
  show (match (M.1 n).2.2 with | (s, m) :: r => _ | [] => _) = _
  cases h : (M.1 n).2.2 with
  | nil => rfl
  | cons y r =>
    obtain ⟨s, m⟩ := y
    dsimp only
    by_cases h1 : s = 0 ∨ s = -1 ∨ s = -2
    · rw [if_pos h1, if_pos h1]; rfl
    · rw [if_neg h1, if_neg h1]
      by_cases h2 : s = -3
      · rw [if_pos h2, if_pos h2, co_K, co_fF]
      · rw [if_neg h2, if_neg h2]; rfl
def cPlain (x : gCo) (kind a b : Int32) : Int32 × Int32 × gCo :=
  if kind = 0 then (0, 0, cF (cF x 7 (jmax (-9999) (jmin 9999 (x.1 7 + a)))) 6 (x.1 6 + 1))
  else if kind = 1 then (0, 0, cF (cF x 7 (cLoc x a)) 6 (x.1 6 + 1))
  else if kind = 2 then (0, 0, cF (cLocS x a (x.1 7)) 6 (x.1 6 + 1))
  else if kind = 4 then (if cLoc x a ≤ 0 then (0, 0, cF x 6 (x.1 6 + 1)) else (0, 0, cF (cLocS x a (cLoc x a - 1)) 6 b))
  else if kind = 5 then (if 0 < x.1 7 then (0, 0, cF x 6 (x.1 6 + 1)) else (0, 0, cF x 6 b))
  else if kind = 6 then (if 6 ≤ x.2.2.length then (5, 0, x) else (0, 0, cF (cK x ((if a = 0 then -1 else -2, b) :: x.2.2)) 6 (x.1 6 + 1)))
  else if kind = 7 then (0, 0, cF (cDone7 x b).2 6 (cDone7 x b).1)
  else if kind = 8 then cLast x
  else if kind = 9 then (a, 0, x)
  else if kind = 11 then (-4, x.1 7, x)
  else (0, 0, cF x 6 (x.1 6 + 1))
theorem plain_co {M : gM} {n : Nat} {kind a b : Int32} : gPlain M n kind a b = ((cPlain (M.1 n) kind a b).1, (cPlain (M.1 n) kind a b).2.1, gCoS M n (cPlain (M.1 n) kind a b).2.2) := by
  unfold gPlain cPlain
  have e6 : gf M n 6 = (M.1 n).1 6 := rfl
  have e7 : gf M n 7 = (M.1 n).1 7 := rfl
  have el : gLoc M n a = cLoc (M.1 n) a := rfl
  have ek : gk M n = (M.1 n).2.2 := rfl
  simp only [e6, e7, el, ek]
  by_cases k0 : kind = 0
  · simp only [if_pos k0]; rw [co_FF]
  simp only [if_neg k0]
  by_cases k1 : kind = 1
  · simp only [if_pos k1]; rw [co_FF]
  simp only [if_neg k1]
  by_cases k2 : kind = 2
  · simp only [if_pos k2]; rw [locS_co, co_fF]
  simp only [if_neg k2]
  by_cases k4 : kind = 4
  · simp only [if_pos k4]
    by_cases q : cLoc (M.1 n) a ≤ 0
    · simp only [if_pos q]; rw [co_F]
    · simp only [if_neg q]; rw [locS_co, co_fF]
  simp only [if_neg k4]
  by_cases k5 : kind = 5
  · simp only [if_pos k5]
    by_cases q : 0 < (M.1 n).1 7
    · simp only [if_pos q]; rw [co_F]
    · simp only [if_neg q]; rw [co_F]
  simp only [if_neg k5]
  by_cases k6 : kind = 6
  · simp only [if_pos k6]
    by_cases q : 6 ≤ (M.1 n).2.2.length
    · simp only [if_pos q]; rw [co_self]
    · simp only [if_neg q]; rw [co_K, co_fF]
  simp only [if_neg k6]
  by_cases k7 : kind = 7
  · simp only [if_pos k7]; rw [done_co, co_fF]
  simp only [if_neg k7]
  by_cases k8 : kind = 8
  · simp only [if_pos k8]; rw [last_co]
  simp only [if_neg k8]
  by_cases k9 : kind = 9
  · simp only [if_pos k9]; rw [co_self]
  simp only [if_neg k9]
  by_cases k11 : kind = 11
  · simp only [if_pos k11]; rw [co_self]
  simp only [if_neg k11]
  rw [co_F]
