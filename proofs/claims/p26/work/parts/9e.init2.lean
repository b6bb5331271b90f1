def tLayL (q : Nat) (μ : MM) : Prop := mK μ q = 2 ∧ mP μ q 0 = q + 1 ∧ mP μ q 1 = q + 2 ∧ mP μ q 2 = q + 3 ∧ mK μ (q + 1) = 20 ∧ mN μ (q + 1) = 12 ∧ mK μ (q + 2) = 20 ∧ mN μ (q + 2) = 12 ∧ mK μ (q + 3) = 20 ∧ mN μ (q + 3) = 12
theorem tLayL.sm {q : Nat} {μ ν : MM} (L : tLayL q μ) (s : ∀ a, q ≤ a → a < q + 4 → sm4 μ ν a) : tLayL q ν := by
  obtain ⟨d1, d2, d3, d4, d5, d6, d7, d8, d9, d10⟩ := L
  exact ⟨(s q (by omega) (by omega)).1.trans d1, ((s q (by omega) (by omega)).2.2.2 0).trans d2, ((s q (by omega) (by omega)).2.2.2 1).trans d3, ((s q (by omega) (by omega)).2.2.2 2).trans d4, (s (q + 1) (by omega) (by omega)).1.trans d5, (s (q + 1) (by omega) (by omega)).2.1.trans d6, (s (q + 2) (by omega) (by omega)).1.trans d7, (s (q + 2) (by omega) (by omega)).2.1.trans d8, (s (q + 3) (by omega) (by omega)).1.trans d9, (s (q + 3) (by omega) (by omega)).2.1.trans d10⟩
/-- the bodies, with k of them made -/
def i0J (d k : Nat) (μ0 μ : MM) : Prop := mX μ = d + 6 + 4 * k ∧ (mK μ d = 1 ∧ mP μ d 0 = d + 1 ∧ mP μ d 1 = d + 2 ∧ mK μ (d + 1) = 21 ∧ mN μ (d + 1) = 8) ∧ (∀ n, n < k → mP μ (d + 1) n = tBh d n) ∧ (∀ n, n < k ∨ n = 8 → tLayL (tBh d n) μ) ∧ (∀ a j, d ≤ a → a < d + 6 + 4 * k → j ≠ 0 → mI μ a j = 0) ∧ ∀ a, a < d → sm4 μ0 μ a
theorem i0_step {d k : Nat} {x : Int32} {μ0 μ : MM} (J : i0J d k μ0 μ) (hk : k < 8) (hx : x = Int32.ofNat k) : ∃ ν, i0J d (k + 1) μ0 ν ∧ (∀ R : MM → Option MM, (st (sN μ 2 0) fun μ21 => if mK μ21 (mX μ) = 2 then (fX1_init (mX μ) μ21).bind fun y23 => if mK y23 (mP μ d 0) = 21 then if mK y23 (mX μ) = 2 then if ¬ (x < 0 ∨ mN y23 (mP μ d 0) ≤ x.toNatClampNeg) then st (sP y23 (mP μ d 0) x.toNatClampNeg (mX μ)) fun μ27 => if mK y23 d = 1 then R μ27 else none else none else none else none else none) = R ν) ∧ (∀ R : MM → Option MM, (st (sN μ 2 0) fun μ21 => if mK μ21 (mX μ) = 2 then (fX1_init (mX μ) μ21).bind fun y23 => if mK y23 (mP μ d 0) = 21 then if mK y23 (mX μ) = 2 then if ¬ (x < 0 ∨ mN y23 (mP μ d 0) ≤ x.toNatClampNeg) then st (sP y23 (mP μ d 0) x.toNatClampNeg (mX μ)) fun μ27 => R μ27 else none else none else none else none) = R ν) := by
  obtain ⟨j1, ⟨a1, a2, a3, a4, a5⟩, j3, j4, j7, j8⟩ := J
  obtain ⟨y, e, x1, L, z, s⟩ := i1_spec j1
  have xk : x.toNatClampNeg = k := by rw [hx, g_nat (by omega)]
  have qk : tBh d k = d + 6 + 4 * k := by unfold tBh; rw [if_neg (by omega)]
  have lo : ∀ n, n < k ∨ n = 8 → d + 2 ≤ tBh d n ∧ tBh d n + 4 ≤ d + 6 + 4 * k := fun n hn => by
    unfold tBh
    split <;> omega
  have s' : ∀ a, a < d + 6 + 4 * k → a ≠ d + 1 → sm4 μ (sP y (d + 1) k (d + 6 + 4 * k)) a := fun a h1 h2 => (s a h1).tr (sm4.P h2)
  have s1 := s (d + 1) (by omega)
  have s0 := s' d (by omega) (by omega)
  have g1 : mK (sN μ 2 0) (d + 6 + 4 * k) = 2 := by rw [mK_sN, if_pos j1.symm]
  have g2 : mK y (d + 1) = 21 := by rw [s1.1]; exact a4
  have g3 : ¬ (x < 0 ∨ mN y (d + 1) ≤ k) := fun q => q.elim (by rw [hx]; exact lt0_nat (by omega)) (by rw [s1.2.1, a5]; omega)
  have g4 : mK y d = 1 := by rw [(s d (by omega)).1]; exact a1
  refine ⟨sP y (d + 1) k (d + 6 + 4 * k), ⟨by rw [mX_sP, x1]; omega, ⟨s0.1.trans a1, (s0.2.2.2 0).trans a2, (s0.2.2.2 1).trans a3, by rw [mK_sP, s1.1]; exact a4, by rw [mN_sP, s1.2.1]; exact a5⟩, fun n hn => ?_, fun n hn => ?_, fun a j p q r => ?_, fun a p => (j8 a p).tr (s' a (by omega) (by omega))⟩, fun R => ?_, fun R => ?_⟩
  · rw [mP_sP]
    by_cases e : n = k
    · rw [if_pos ⟨rfl, e⟩, e, qk]
    · rw [if_neg (fun q => e q.2), s1.2.2.2]
      exact j3 n (by omega)
  · by_cases e : n = k
    · subst e
      rw [qk]
      exact tLayL.sm L fun a p q => sm4.P (by omega)
    · have := lo n (by omega)
      exact (j4 n (by omega)).sm fun a p q => s' a (by omega) (by omega)
  · by_cases e : a < d + 6 + 4 * k
    · by_cases e1 : a = d + 1
      · subst e1
        rw [mI_sP, s1.2.2.1]
        exact j7 _ j (by omega) e r
      · rw [(s' a e e1).2.2.1]
        exact j7 _ j p e r
    · rw [mI_sP]
      exact z a j (by omega) (by omega) r
  · rw [st_ap, j1, if_pos g1, e, Option.bind_some, a2, if_pos g2, if_pos L.1, xk, if_pos g3, st_ap, if_pos g4]
  · rw [st_ap, j1, if_pos g1, e, Option.bind_some, a2, if_pos g2, if_pos L.1, xk, if_pos g3, st_ap]
set_option maxRecDepth 20000 in
set_option maxHeartbeats 4000000 in
theorem i0_ok {h : Nat} {μ : MM} (hx : mX μ = h + 1) (hk : mK μ h = 1) (hz : ∀ j, j ≠ 0 → mI μ h j = 0) : ∃ ν, fX0_init h μ = some ν ∧ i0J h 8 μ ν := by
  have e3 : mX (sP (sN μ 21 8) h 0 (h + 1)) = h + 2 := by rw [mX_sP, mX_sN, hx]
  obtain ⟨y6, r6, x6, L6, z6, s6⟩ := i1_spec e3
  have f3 : mK (sP (sN μ 21 8) h 0 (h + 1)) h = 1 := by rw [mK_sP, mK_sN, if_neg (by omega)]; exact hk
  have k6 : mK y6 h = 1 := (s6 h (by omega)).1.trans f3
  have J0 : i0J h 0 μ (sP y6 h 1 (h + 2)) := by
    have sC : ∀ a, a ≠ h → sm4 y6 (sP y6 h 1 (h + 2)) a := fun a q => sm4.P q
    have sD : ∀ a, a ≠ h → a < h + 2 → sm4 (sN μ 21 8) (sP y6 h 1 (h + 2)) a := fun a q r => ((sm4.P q).tr (s6 a r)).tr (sC a q)
    have hI : ∀ j, mI (sP y6 h 1 (h + 2)) h j = mI μ h j := fun j => by
      rw [mI_sP, (s6 h (by omega)).2.2.1, mI_sP, mI_sN, if_neg (by omega)]
    refine ⟨x6, ⟨k6, ?_, ?_, ?_, ?_⟩, fun n hn => absurd hn (Nat.not_lt_zero _), fun n hn => ?_, fun a j p q r => ?_, fun a p => ?_⟩
    · rw [mP_sP, if_neg (by omega), (s6 h (by omega)).2.2.2, mP_sP, if_pos ⟨rfl, rfl⟩]
    · rw [mP_sP, if_pos ⟨rfl, rfl⟩]
    · rw [(sD (h + 1) (by omega) (by omega)).1, mK_sN, if_pos hx.symm]
    · rw [(sD (h + 1) (by omega) (by omega)).2.1, mN_sN, if_pos hx.symm]
    · have e : n = 8 := by omega
      subst e
      show tLayL (h + 2) _
      exact tLayL.sm L6 fun a p q => sC a (by omega)
    · by_cases e0 : a = h
      · subst e0
        rw [hI]
        exact hz j r
      · by_cases e1 : a < h + 2
        · rw [(sD a e0 e1).2.2.1, mI_sN, if_pos (by omega)]
        · rw [(sC a e0).2.2.1]
          exact z6 a j (by omega) (by omega) r
    · exact (sm4.N (by omega)).tr (sD a (by omega) (by omega))
  obtain ⟨μ1, J1, E1, -⟩ := i0_step (x := 0) J0 (by omega) rfl
  obtain ⟨μ2, J2, E2, -⟩ := i0_step (x := 1) J1 (by omega) rfl
  obtain ⟨μ3, J3, E3, -⟩ := i0_step (x := 2) J2 (by omega) rfl
  obtain ⟨μ4, J4, E4, -⟩ := i0_step (x := 3) J3 (by omega) rfl
  obtain ⟨μ5, J5, E5, -⟩ := i0_step (x := 4) J4 (by omega) rfl
  obtain ⟨μ6, J6, E6, -⟩ := i0_step (x := 5) J5 (by omega) rfl
  obtain ⟨μ7, J7, E7, -⟩ := i0_step (x := 6) J6 (by omega) rfl
  obtain ⟨μ8, J8, -, E8⟩ := i0_step (x := 7) J7 (by omega) rfl
  refine ⟨μ8, ?_, J8⟩
  have x6' : mX (sP y6 h 1 (h + 2)) = h + 6 := x6
  unfold fX0_init
  rw [st_ap, if_pos (show mK (sN μ 21 8) h = 1 by rw [mK_sN, if_neg (by omega)]; exact hk), st_ap, st_ap, hx, e3, if_pos (show mK (sN (sP (sN μ 21 8) h 0 (h + 1)) 2 0) (h + 2) = 2 by rw [mK_sN, if_pos e3.symm]), r6, Option.bind_some, if_pos k6, st_ap]
  refine (E1 _).trans ?_
  refine (E2 _).trans ?_
  refine (E3 _).trans ?_
  refine (E4 _).trans ?_
  refine (E5 _).trans ?_
  refine (E6 _).trans ?_
  refine (E7 _).trans ?_
  exact E8 some
def b0B : gB := (0, fun _ => [])
theorem i0_tie {d : Nat} {μ0 μ : MM} (J : i0J d 8 μ0 μ) : tB d μ b0B := by
  obtain ⟨j1, a, j3, j4, j7, j8⟩ := J
  refine ⟨⟨a, j3, fun k hk => j4 k (by omega)⟩, j7 d 2 (by omega) (by omega) (by decide), fun k hk => ⟨by show 0 ≤ 12; omega, ?_, fun i x q => absurd q (by show ¬ ([] : List (Int32 × Int32 × Int32))[i]? = some x; rw [List.getElem?_nil]; exact nofun)⟩⟩
  have := tBh_in (d := d) hk
  exact j7 (tBh d k) 3 (by omega) (by omega) (by decide)
theorem sm4s.yS {h : Nat} {μ ν : MM} (s : ∀ a, h ≤ a → a < h + 301 → sm4 μ ν a) : yS h μ ν := s
theorem i6_ok {h : Nat} {μ : MM} (hx : mX μ = h + 1) (hk : mK μ h = 7) : ∃ ν M, fX6_init h μ = some ν ∧ mX ν = h + 301 ∧ yT h ν b0B M ∧ (gcnt M = 0 ∧ gnow M = 0 ∧ grq M = [] ∧ gaq M = []) ∧ ∀ a, a < h → sm4 μ ν a := by
  have x1 : mX (sN μ 1 0) = h + 1 + 1 := by rw [mX_sN, hx]
  obtain ⟨y3, r3, J3⟩ := i0_ok (h := h + 1) (μ := sN μ 1 0) x1 (by rw [mK_sN, if_pos hx.symm]) (fun j _ => by rw [mI_sN, if_pos hx.symm])
  have k3 : mK y3 h = 7 := by rw [(J3.2.2.2.2.2 h (by omega)).1, mK_sN, if_neg (by omega)]; exact hk
  have X3 : mX (sP y3 h 0 (h + 1)) = h + 39 := J3.1
  have x5 : mX (sN (sP y3 h 0 (h + 1)) 4 0) = h + 39 + 1 := by rw [mX_sN, X3]
  obtain ⟨y9, r9, J9⟩ := i3_ok (h := h + 39) (b := h + 1) (μ := sN (sP y3 h 0 (h + 1)) 4 0) x5 (by rw [mK_sN, if_pos X3.symm]) (fun j _ => by rw [mI_sN, if_pos X3.symm])
  have s9 := J9.2.2.2.2.2.2.2
  have k9 : mK y9 h = 7 := by rw [(s9 h (by omega)).1, mK_sN, if_neg (by omega)]; exact k3
  have X9 : mX (sP y9 h 1 (h + 39)) = h + 170 := J9.1
  have x11 : mX (sN (sP y9 h 1 (h + 39)) 4 0) = h + 170 + 1 := by rw [mX_sN, X9]
  obtain ⟨y15, r15, J15⟩ := i3_ok (h := h + 170) (b := h + 1) (μ := sN (sP y9 h 1 (h + 39)) 4 0) x11 (by rw [mK_sN, if_pos X9.symm]) (fun j _ => by rw [mI_sN, if_pos X9.symm])
  have s15 := J15.2.2.2.2.2.2.2
  have k15 : mK y15 h = 7 := by rw [(s15 h (by omega)).1, mK_sN, if_neg (by omega)]; exact k9
  have a0 : mP (sN (sP y3 h 0 (h + 1)) 4 0) h 0 = h + 1 := by rw [mP_sN, if_neg (by omega), mP_sP, if_pos ⟨rfl, rfl⟩]
  have a1 : mP (sN (sP y9 h 1 (h + 39)) 4 0) h 0 = h + 1 := by rw [mP_sN, if_neg (by omega), mP_sP, if_neg (by omega), (s9 h (by omega)).2.2.2, a0]
  have sA : ∀ a, a ≠ h → sm4 y15 (sP y15 h 2 (h + 170)) a := fun a q => sm4.P q
  have sB : ∀ a, a ≠ h → a < h + 170 → sm4 y9 (sP y15 h 2 (h + 170)) a := fun a q r => (((sm4.P q).tr (sm4.N (by rw [X9]; omega))).tr (s15 a r)).tr (sA a q)
  have sC : ∀ a, a ≠ h → a < h + 39 → sm4 y3 (sP y15 h 2 (h + 170)) a := fun a q r => (((sm4.P q).tr (sm4.N (by rw [X3]; omega))).tr (s9 a r)).tr (sB a q (by omega))
  refine ⟨sP y15 h 2 (h + 170), m0 (h + 39) y9, ?_, J15.1, ⟨⟨k15, ?_, ?_, ?_⟩, (i0_tie J3).agree fun a p q => sC a (by omega) (by omega), (i3_tie J9).agree fun a p q => sB a (by omega) (by omega), ?_, ?_, _, (i3_tie J15).agree fun a p q => sA a (by omega)⟩, ⟨rfl, rfl, rfl, rfl⟩, fun a q => ?_⟩
  · unfold fX6_init
    rw [st_ap, hx, if_pos (show mK (sN μ 1 0) (h + 1) = 1 by rw [mK_sN, if_pos hx.symm]), r3, Option.bind_some, if_pos k3, st_ap, st_ap, X3, if_pos (show mK (sN (sP y3 h 0 (h + 1)) 4 0) h = 7 by rw [mK_sN, if_neg (by omega)]; exact k3), if_pos (show mK (sN (sP y3 h 0 (h + 1)) 4 0) (h + 39) = 4 by rw [mK_sN, if_pos X3.symm]), a0, r9, Option.bind_some, if_pos k9, st_ap, st_ap, X9, if_pos (show mK (sN (sP y9 h 1 (h + 39)) 4 0) h = 7 by rw [mK_sN, if_neg (by omega)]; exact k9), if_pos (show mK (sN (sP y9 h 1 (h + 39)) 4 0) (h + 170) = 4 by rw [mK_sN, if_pos X9.symm]), a1, r15, Option.bind_some, if_pos k15, st_ap]
  · rw [mP_sP, if_neg (by omega), (s15 h (by omega)).2.2.2, a1]
  · rw [mP_sP, if_neg (by omega), (s15 h (by omega)).2.2.2, mP_sN, if_neg (by omega), mP_sP, if_pos ⟨rfl, rfl⟩]
  · rw [mP_sP, if_pos ⟨rfl, rfl⟩]
  · rw [(sB (h + 39) (by omega) (by omega)).2.2.2]
    exact J9.2.1.2.1
  · rw [(sA (h + 170) (by omega)).2.2.2]
    exact J15.2.1.2.1
  · exact ((sm4.N (by omega)).tr (J3.2.2.2.2.2 a (by omega))).tr (sC a (by omega) (by omega))
