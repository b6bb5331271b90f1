/-- a coroutine that holds the data of a new one -/
theorem tD.newC {c n : Nat} {μ : MM} {M : gM} {b so sp : Int32} (hn : n ≤ 24) (h : tD c μ (gfS (gfS (gfS (gfS (gfS (gfS (gfS (gfS (gfS (gfS (gfS (gfS (gfS (gkS (glS (glS (glS (glS M n 0 0) n 1 0) n 2 0) n 3 0) n []) n 3 b) n 4 so) n 5 0) n 6 0) n 7 0) n 9 (-1)) n 10 (-1)) n 11 0) n 12 (-1)) n 13 (-1)) n 14 0) n 15 0) n 16 sp)) : tD c μ (gNewM M n b so sp) := by
  obtain ⟨h1, h2, h3, hc⟩ := h
  refine ⟨h1, h2, h3, fun k hk => ?_⟩
  have hk2 := hc k hk
  by_cases q : k = n
  · subst q
    obtain ⟨k1, k2, k3, k4⟩ := hk2
    have e0 : (gNewM M k b so sp).1 k = gNewC b so sp := by simp [gNewM, gCoS]
    rw [e0]
    refine ⟨k1, fun j j3 j16 j8 => ?_, fun i hi => ?_, ?_⟩
    · rw [k2 j j3 j16 j8]
      obtain rfl | rfl | rfl | rfl | rfl | rfl | rfl | rfl | rfl | rfl | rfl | rfl | rfl : j = 3 ∨ j = 4 ∨ j = 5 ∨ j = 6 ∨ j = 7 ∨ j = 9 ∨ j = 10 ∨ j = 11 ∨ j = 12 ∨ j = 13 ∨ j = 14 ∨ j = 15 ∨ j = 16 := by omega
      all_goals simp [gfS, gCoS, gNewC]
    · rw [k3 i hi]
      obtain rfl | rfl | rfl | rfl : i = 0 ∨ i = 1 ∨ i = 2 ∨ i = 3 := by omega
      all_goals simp [gfS, gCoS, gkS, glS, gNewC]
    · have : ((gfS (gfS (gfS (gfS (gfS (gfS (gfS (gfS (gfS (gfS (gfS (gfS (gfS (gkS (glS (glS (glS (glS M k 0 0) k 1 0) k 2 0) k 3 0) k []) k 3 b) k 4 so) k 5 0) k 6 0) k 7 0) k 9 (-1)) k 10 (-1)) k 11 0) k 12 (-1)) k 13 (-1)) k 14 0) k 15 0) k 16 sp).1 k).2.2 = [] := by simp [gfS, gCoS, gkS]
      rw [this] at k4
      exact k4
  · have e0 : (gNewM M n b so sp).1 k = M.1 k := by simp [gNewM, gCoS, q]
    have e1 : (gfS (gfS (gfS (gfS (gfS (gfS (gfS (gfS (gfS (gfS (gfS (gfS (gfS (gkS (glS (glS (glS (glS M n 0 0) n 1 0) n 2 0) n 3 0) n []) n 3 b) n 4 so) n 5 0) n 6 0) n 7 0) n 9 (-1)) n 10 (-1)) n 11 0) n 12 (-1)) n 13 (-1)) n 14 0) n 15 0) n 16 sp).1 k = M.1 k := by simp [gfS, gCoS, gkS, glS, q]
    rw [e0]
    rw [e1] at hk2
    exact hk2
theorem r_new {c n : Nat} {μ : MM} {M : gM} (h : tM c μ M) (hn : n ≤ 24) (b so sp : Int32) : ∃ ν, fX2_becomeNew (tCo c n) b so sp μ = some ν ∧ tM c ν (gNewM M n b so sp) ∧ tF c μ ν ∧ tT c μ ν := by
  have hin := tCo_in (c := c) hn
  obtain ⟨l1, l2, l3, l4, l5, l6, -⟩ := h.lay hn
  have sl : ∀ {ν : MM} {N : gM} (i : Nat), tM c ν N → tM c (sI ν (tCo c n + 1) i 0) (glS N n i 0) ∧ tF c ν (sI ν (tCo c n + 1) i 0) ∧ tT c ν (sI ν (tCo c n + 1) i 0) := fun i t => ⟨t.step (tF.I (by omega) (by omega)) (t.2.setL hn), tF.I (by omega) (by omega), tT.I (by omega)⟩
  obtain ⟨a1, a2, a3⟩ := sl 0 h
  obtain ⟨b1, b2, b3⟩ := sl 1 a1
  obtain ⟨c1, c2, c3⟩ := sl 2 b1
  obtain ⟨d1, d2, d3⟩ := sl 3 c1
  have k0 : tM c (sI (sI (sI (sI (sI μ (tCo c n + 1) 0 0) (tCo c n + 1) 1 0) (tCo c n + 1) 2 0) (tCo c n + 1) 3 0) (tCo c n + 2) 2 0) (gkS (glS (glS (glS (glS M n 0 0) n 1 0) n 2 0) n 3 0) n []) := d1.step (tF.I (by omega) (by omega)) (d1.2.setK hn ⟨by decide, by rw [mI_sI, if_pos ⟨rfl, rfl⟩]; rfl, fun i s w hi => by simp at hi⟩ fun a j hj => by rw [mI_sI, if_neg (by omega)])
  obtain ⟨e3, f3, g3⟩ := r_F k0 hn 3 b (by omega) (by omega) (by omega)
  obtain ⟨e4, f4, g4⟩ := r_F e3 hn 4 so (by omega) (by omega) (by omega)
  obtain ⟨e5, f5, g5⟩ := r_F e4 hn 5 0 (by omega) (by omega) (by omega)
  obtain ⟨e6, f6, g6⟩ := r_F e5 hn 6 0 (by omega) (by omega) (by omega)
  obtain ⟨e7, f7, g7⟩ := r_F e6 hn 7 0 (by omega) (by omega) (by omega)
  obtain ⟨e9, f9, g9⟩ := r_F e7 hn 9 (-1) (by omega) (by omega) (by omega)
  obtain ⟨e10, f10, g10⟩ := r_F e9 hn 10 (-1) (by omega) (by omega) (by omega)
  obtain ⟨e11, f11, g11⟩ := r_F e10 hn 11 0 (by omega) (by omega) (by omega)
  obtain ⟨e12, f12, g12⟩ := r_F e11 hn 12 (-1) (by omega) (by omega) (by omega)
  obtain ⟨e13, f13, g13⟩ := r_F e12 hn 13 (-1) (by omega) (by omega) (by omega)
  obtain ⟨e14, f14, g14⟩ := r_F e13 hn 14 0 (by omega) (by omega) (by omega)
  obtain ⟨e15, f15, g15⟩ := r_F e14 hn 15 0 (by omega) (by omega) (by omega)
  obtain ⟨e16, f16, g16⟩ := r_F e15 hn 16 sp (by omega) (by omega) (by omega)
  refine ⟨_, ?_, ⟨e16.1, e16.2.newC hn⟩, ((((a2.tr b2).tr c2).tr d2).tr (tF.I (by omega) (by omega))).tr ((((((((((((f3.tr f4).tr f5).tr f6).tr f7).tr f9).tr f10).tr f11).tr f12).tr f13).tr f14).tr f15).tr f16), ((((a3.tr b3).tr c3).tr d3).tr (tT.I (by omega))).tr ((((((((((((g3.tr g4).tr g5).tr g6).tr g7).tr g9).tr g10).tr g11).tr g12).tr g13).tr g14).tr g15).tr g16)⟩
  unfold fX2_becomeNew
  have one : ∀ (f i : Nat) (ν : MM), i < 4 → mK ν (tCo c n) = 3 → mP ν (tCo c n) 1 = tCo c n + 1 → mK ν (tCo c n + 1) = 20 → mN ν (tCo c n + 1) = 4 → lX2_becomeNew_3 (f + 1) (tCo c n) b so sp (Int32.ofNat i) ν = lX2_becomeNew_3 f (tCo c n) b so sp (Int32.ofNat (i + 1)) (sI ν (tCo c n + 1) i 0) := fun f i ν hi q1 q2 q3 q4 => by
    have z : ¬ (4 : Int32) ≤ Int32.ofNat i := by
      have := mt (g_le (a := 4) (b := i) (by omega) (by omega)).mp (by omega)
      exact this
    have z0 : ¬ Int32.ofNat i < 0 := by
      have := mt (g_lt (a := i) (b := 0) (by omega) (by omega)).mp (by omega)
      exact this
    show bX2_becomeNew_3 _ (tCo c n) b so sp (Int32.ofNat i) ν = _
    unfold bX2_becomeNew_3
    rw [if_neg z, if_pos q1, q2, if_pos q3, q4, g_nat (by omega), if_pos (fun q => q.elim z0 (by omega)), g_suc]
    rfl
  rw [show FU = 19995 + 1 + 1 + 1 + 1 + 1 from rfl]
  generalize (19995 : Nat) = f
  refine (one (f + 1 + 1 + 1 + 1) 0 μ (by omega) l1 l2 l4 l5).trans ?_
  refine (one (f + 1 + 1 + 1) 1 (sI μ (tCo c n + 1) 0 0) (by omega) l1 l2 l4 l5).trans ?_
  refine (one (f + 1 + 1) 2 (sI (sI μ (tCo c n + 1) 0 0) (tCo c n + 1) 1 0) (by omega) l1 l2 l4 l5).trans ?_
  refine (one (f + 1) 3 (sI (sI (sI μ (tCo c n + 1) 0 0) (tCo c n + 1) 1 0) (tCo c n + 1) 2 0) (by omega) l1 l2 l4 l5).trans ?_
  show bX2_becomeNew_3 _ (tCo c n) b so sp (Int32.ofNat 4) _ = _
  unfold bX2_becomeNew_3
  rw [if_pos (by decide), show mP (sI (sI (sI (sI μ (tCo c n + 1) 0 0) (tCo c n + 1) 1 0) (tCo c n + 1) 2 0) (tCo c n + 1) 3 0) (tCo c n) 2 = tCo c n + 2 from l3]
  refine (if_pos (show _ = _ from l1)).trans ?_
  refine (if_pos (show _ = _ from l6)).trans ?_
  rfl
theorem r_make {c : Nat} {μ : MM} {M : gM} (h : tM c μ M) (b so sp : Int32) : ∃ ν, fX3_make c b so sp μ = some (tCo c (gAt (gcnt M)), ν) ∧ tM c ν (gMake M b so sp) ∧ tF c μ ν ∧ tT c μ ν := by
  have hn := gAt_le (gcnt M)
  have e5 : mI μ c 5 = gcnt M := h.2.1.1
  unfold fX3_make gMake
  rw [e5, r_at h.1]
  simp only [Option.bind_some]
  rw [if_pos (h.lay hn).1]
  obtain ⟨ν, e, t1, F1, T1⟩ := r_new h hn b so sp
  rw [e]
  simp only [Option.bind_some]
  have e5' : mI ν c 5 = gcnt M := t1.2.1.1
  have t2 : tM c (sI ν c 5 (gcnt M + 1)) (gcntS (gNewM M (gAt (gcnt M)) b so sp) (gcnt M + 1)) := t1.step (tF.I (by omega) (by omega)) t1.2.cnt
  have F2 : tF c ν (sI ν c 5 (gcnt M + 1)) := tF.I (by omega) (by omega)
  have T2 : tT c ν (sI ν c 5 (gcnt M + 1)) := ⟨fun i hi => by rw [mI_sI, if_neg (by omega)], rfl⟩
  show ∃ ω, (if so = 1 then (if mK μ (mP (sI ν c 5 (mI ν c 5 + 1)) c 3) = 5 then (fX4_add (mP (sI ν c 5 (mI ν c 5 + 1)) c 3) (mI (sI ν c 5 (mI ν c 5 + 1)) (tCo c (gAt (gcnt M))) 0) (sI ν c 5 (mI ν c 5 + 1))).bind fun y6 => some (tCo c (gAt (gcnt M)), y6) else none) else some (tCo c (gAt (gcnt M)), sI ν c 5 (mI ν c 5 + 1))) = some (tCo c (gAt (gcnt M)), ω) ∧ _
  rw [e5']
  by_cases q : so = 1
  · rw [if_pos q, if_pos q, show mP (sI ν c 5 (gcnt M + 1)) c 3 = c + 7 from t2.1.1.2.2.2.1, if_pos h.1.2.2.2.1.1, show mI (sI ν c 5 (gcnt M + 1)) (tCo c (gAt (gcnt M))) 0 = gNum (gAt (gcnt M)) from (t2.2.2.2.2 _ hn).1]
    obtain ⟨ω, e2, t3, F3, T3⟩ := r_add7 t2 (gNum (gAt (gcnt M)))
    rw [e2]
    exact ⟨ω, rfl, t3, (F1.tr F2).tr F3, (T1.tr T2).tr T3⟩
  · rw [if_neg q, if_neg q]
    exact ⟨_, rfl, t2, F1.tr F2, T1.tr T2⟩
