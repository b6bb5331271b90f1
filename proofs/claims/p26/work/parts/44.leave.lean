/-- what is of a call alone stays -/
def tT (c : Nat) (μ ν : MM) : Prop := (∀ j, 8 ≤ j → mI ν c j = mI μ c j) ∧ mP ν c 8 = mP μ c 8
theorem tT.rf {c : Nat} {μ : MM} : tT c μ μ := ⟨fun _ _ => rfl, rfl⟩
theorem tT.tr {c : Nat} {μ ν ω : MM} (h : tT c μ ν) (g : tT c ν ω) : tT c μ ω := ⟨fun j q => (g.1 j q).trans (h.1 j q), g.2.trans h.2⟩
theorem tT.I {c : Nat} {μ : MM} {a j : Nat} {v : Int32} (h : a ≠ c) : tT c μ (sI μ a j v) := ⟨fun i _ => by rw [mI_sI, if_neg (fun q => h q.1.symm)], rfl⟩
theorem tM.lay {c n : Nat} {μ : MM} {M : gM} (h : tM c μ M) (hn : n ≤ 24) : tLayC (tCo c n) μ := h.1.2.2.1 n hn
theorem tM.stk {c n : Nat} {μ : MM} {M : gM} (h : tM c μ M) (hn : n ≤ 24) : tK (tCo c n) μ (gk M n) := (h.2.2.2.2 n hn).2.2.2
theorem tK.top {q : Nat} {μ : MM} {s w : Int32} {r : List (Int32 × Int32)} (h : tK q μ ((s, w) :: r)) : mI μ (q + 3) r.length = s ∧ (s ≤ 0 → mI μ (q + 4) r.length = w) :=
  h.2.2 r.length s w (by rw [List.reverse_cons, List.getElem?_append_right (by simp)]; simp)
theorem tK.pop {q : Nat} {μ : MM} {x : Int32 × Int32} {r : List (Int32 × Int32)} (h : tK q μ (x :: r)) : tK q (sI μ (q + 2) 2 (Int32.ofNat r.length)) r := by
  have h1 : r.length + 1 ≤ 6 := h.1
  refine ⟨by omega, by rw [mI_sI, if_pos ⟨rfl, rfl⟩], fun i s w hi => ?_⟩
  have hl : i < r.length := by
    have := (List.getElem?_eq_some_iff.mp hi).1
    rwa [List.length_reverse] at this
  obtain ⟨k1, k2⟩ := h.2.2 i s w (by rw [List.reverse_cons, List.getElem?_append_left (by simpa using hl)]; exact hi)
  exact ⟨by rw [mI_sI, if_neg (by omega)]; exact k1, fun hs => by rw [mI_sI, if_neg (by omega)]; exact k2 hs⟩
theorem tK.put {q : Nat} {μ : MM} {s w w' : Int32} {k : List (Int32 × Int32)} (h : tK q μ k) (hk : k.length < 6) (hw : s ≤ 0 → w = w') : tK q (sI (sI (sI μ (q + 3) k.length s) (q + 4) k.length w) (q + 2) 2 (Int32.ofNat (k.length + 1))) ((s, w') :: k) := by
  refine ⟨hk, by rw [mI_sI, if_pos ⟨rfl, rfl⟩]; rfl, fun i a b hi => ?_⟩
  rw [List.reverse_cons] at hi
  rcases Nat.lt_or_ge i k.length with hl | hl
  · rw [List.getElem?_append_left (by simpa using hl)] at hi
    obtain ⟨k1, k2⟩ := h.2.2 i a b hi
    exact ⟨by rw [mI_sI, if_neg (by omega), mI_sI, if_neg (by omega), mI_sI, if_neg (by omega)]; exact k1, fun hs => by rw [mI_sI, if_neg (by omega), mI_sI, if_neg (by omega), mI_sI, if_neg (by omega)]; exact k2 hs⟩
  · rw [List.getElem?_append_right (by simpa using hl)] at hi
    have hz : i - k.reverse.length < 1 := (List.getElem?_eq_some_iff.mp hi).1
    rw [List.length_reverse] at hz
    have hi2 : i = k.length := by omega
    subst hi2
    simp at hi
    obtain ⟨rfl, rfl⟩ := hi
    exact ⟨by rw [mI_sI, if_neg (by omega), mI_sI, if_neg (by omega), mI_sI, if_pos ⟨rfl, rfl⟩], fun hs => by rw [mI_sI, if_neg (by omega), mI_sI, if_pos ⟨rfl, rfl⟩]; exact hw hs⟩
theorem f_last {q len : Nat} {μ : MM} (hL : tLayC q μ) (hs : mI μ (q + 2) 2 = Int32.ofNat (len + 1)) (hl : len < 6) : fX5_lastSign (q + 2) μ = some (mI μ (q + 3) len, μ) ∧ fX5_lastMark (q + 2) μ = some (mI μ (q + 4) len, μ) ∧ fX5_takeOff (q + 2) μ = some (sI μ (q + 2) 2 (Int32.ofNat len)) := by
  obtain ⟨-, -, -, -, -, h6, h7, h8, h9, h10, h11, h12⟩ := hL
  have z : ¬ Int32.ofNat (len + 1) ≤ 0 := by
    have := mt (g_le (a := len + 1) (b := 0) (by omega) (by omega)).mp (by omega)
    exact this
  have z6 : ¬ (6 : Int32) < Int32.ofNat (len + 1) := by
    have := mt (g_lt (a := 6) (b := len + 1) (by omega) (by omega)).mp (by omega)
    exact this
  have e1 : Int32.ofNat (len + 1) - 1 = Int32.ofNat len := g_prd (by omega)
  have zz : ¬ Int32.ofNat len < 0 := by
    have := mt (g_lt (a := len) (b := 0) (by omega) (by omega)).mp (by omega)
    exact this
  have zn : (Int32.ofNat len).toNatClampNeg = len := g_nat (by omega)
  have n6 : ¬ (Int32.ofNat len < 0 ∨ 6 ≤ len) := fun h => h.elim zz (by omega)
  refine ⟨?_, ?_, ?_⟩
  · unfold fX5_lastSign
    rw [hs, h7, h9, h10, e1, zn, if_neg z, if_neg z6, if_pos rfl, if_pos n6]
  · unfold fX5_lastMark
    rw [hs, h8, h11, h12, e1, zn, if_neg z, if_neg z6, if_pos rfl, if_pos n6]
  · unfold fX5_takeOff st
    rw [hs, e1, if_neg z]
theorem gkS_gkS {M : gM} {n : Nat} {a b : List (Int32 × Int32)} : gkS (gkS M n a) n b = gkS M n b := by
  unfold gkS gCoS
  refine Prod.ext (funext fun k => ?_) rfl
  by_cases h : k = n <;> simp [h]
theorem gk_gkS {M : gM} {n : Nat} {a : List (Int32 × Int32)} : gk (gkS M n a) n = a := by simp [gk, gkS, gCoS]
theorem gk_self {M : gM} {n : Nat} : gkS M n (gk M n) = M := by
  unfold gkS gCoS gk
  refine Prod.ext (funext fun k => ?_) rfl
  by_cases h : k = n
  · subst h; simp
  · simp [h]
theorem r_go {c n : Nat} {μ : MM} {M : gM} (h : tM c μ M) (hn : n ≤ 24) (x : Int32) : ∃ ν, fX2_goOnAt (tCo c n) x μ = some ν ∧ tM c ν (gGo M n x) ∧ tF c μ ν ∧ tT c μ ν := by
  obtain ⟨a1, a2⟩ := h.F (v := 2) hn (j := 5) (by omega) (by omega) (by omega)
  obtain ⟨b1, b2⟩ := a1.F (v := x) hn (j := 6) (by omega) (by omega) (by omega)
  have hc : tCo c n ≠ c := by have := tCo_in (c := c) hn; omega
  exact ⟨_, rfl, b1, a2.tr b2, (tT.I hc).tr (tT.I hc)⟩
theorem r_end {c n : Nat} {μ : MM} {M : gM} (h : tM c μ M) (hn : n ≤ 24) (x y : Int32) : ∃ ν, fX2_end (tCo c n) x y μ = some ν ∧ tM c ν (gEnd M n x y) ∧ tF c μ ν ∧ tT c μ ν := by
  obtain ⟨a1, a2⟩ := h.F (v := x) hn (j := 5) (by omega) (by omega) (by omega)
  obtain ⟨b1, b2⟩ := a1.F (v := y) hn (j := 7) (by omega) (by omega) (by omega)
  have hc : tCo c n ≠ c := by have := tCo_in (c := c) hn; omega
  exact ⟨_, rfl, b1, a2.tr b2, (tT.I hc).tr (tT.I hc)⟩
/-- take a stack's top off -/
theorem r_pop {c n : Nat} {μ : MM} {M : gM} (h : tM c μ M) (hn : n ≤ 24) {s w : Int32} {r : List (Int32 × Int32)} (hk : gk M n = (s, w) :: r) :
    fX5_lastSign (tCo c n + 2) μ = some (s, μ) ∧ (∃ w2, fX5_lastMark (tCo c n + 2) μ = some (w2, μ) ∧ (s ≤ 0 → w2 = w)) ∧ ∃ ν, fX5_takeOff (tCo c n + 2) μ = some ν ∧ tM c ν (gkS M n r) ∧ tF c μ ν ∧ tT c μ ν ∧ ∀ k, mI ν (tCo c k) 8 = mI μ (tCo c k) 8 := by
  have hK := h.stk hn
  rw [hk] at hK
  have hlen : r.length + 1 ≤ 6 := hK.1
  obtain ⟨f1, f2, f3⟩ := f_last (h.lay hn) (len := r.length) hK.2.1 (by omega)
  obtain ⟨t1, t2⟩ := hK.top
  have hin := tCo_in (c := c) hn
  rw [t1] at f1
  refine ⟨f1, ⟨_, f2, t2⟩, _, f3, ?_, tF.I (by omega) (by omega), tT.I (by omega), fun k => by rw [mI_sI, if_neg (by omega)]⟩
  exact h.step (tF.I (by omega) (by omega)) (h.2.setK hn hK.pop fun a j hj => by rw [mI_sI, if_neg (by omega)])
