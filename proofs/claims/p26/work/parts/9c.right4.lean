theorem cA.step {M : gM} {k s t a b : Nat} {μ : MM} (A : cA M k s t μ) (hst : s ≠ t) (ha : a < 5) (hb : b < 3) (e5 : gf M k 5 = Int32.ofNat a) (e4 : gf M k 4 = Int32.ofNat b) : cA M (k + 1) s t (sI (sI μ s a (mI μ s a + 1)) t b (mI (sI μ s a (mI μ s a + 1)) t b + 1)) := by
  obtain ⟨⟨a1, a2, a3⟩, a4, a5, a6⟩ := A
  refine ⟨⟨a1, a2, fun j hj => ?_⟩, a4, a5, fun j hj => ?_⟩
  · rw [mI_sI, if_neg (fun q => hst q.1), mI_sI, show gCt M 5 (Int32.ofNat j) (k + 1) = gCt M 5 (Int32.ofNat j) k + (if gf M k 5 = Int32.ofNat j then 1 else 0) from rfl, e5]
    by_cases e : j = a
    · subst e
      rw [if_pos ⟨rfl, rfl⟩, if_pos rfl, a3 j hj, g_suc]
    · rw [if_neg (fun q => e q.2), if_neg (fun q => e (n_inj (by omega) (by omega) q).symm), a3 j hj]
      rfl
  · have hk : mI (sI μ s a (mI μ s a + 1)) t b = mI μ t b := by rw [mI_sI, if_neg (fun q => hst q.1.symm)]
    have hk2 : mI (sI μ s a (mI μ s a + 1)) t j = mI μ t j := by rw [mI_sI, if_neg (fun q => hst q.1.symm)]
    rw [hk, mI_sI, hk2, show gCt M 4 (Int32.ofNat j) (k + 1) = gCt M 4 (Int32.ofNat j) k + (if gf M k 4 = Int32.ofNat j then 1 else 0) from rfl, e4]
    by_cases e : j = b
    · subst e
      rw [if_pos ⟨rfl, rfl⟩, if_pos rfl, a6 j hj, g_suc]
    · rw [if_neg (fun q => e q.2), if_neg (fun q => e (n_inj (by omega) (by omega) q).symm), a6 j hj]
      rfl
theorem cA.f {h k s t : Nat} {M : gM} {μ ν : MM} (A : cA M k s t μ) (F : yF h μ ν) (hs : h + 301 ≤ s) (ht : h + 301 ≤ t) : cA M k s t ν := by
  obtain ⟨⟨a1, a2, a3⟩, a4, a5, a6⟩ := A
  obtain ⟨f1, f2, -, f4, -⟩ := F
  exact ⟨⟨by rw [f1]; exact a1, by rw [f2]; exact a2, fun j hj => by rw [f4 _ _ (by omega)]; exact a3 j hj⟩, by rw [f1]; exact a4, by rw [f2]; exact a5, fun j hj => by rw [f4 _ _ (by omega)]; exact a6 j hj⟩
set_option maxHeartbeats 1000000 in
theorem c_14 {h N w s t : Nat} {μ0 : MM} {B : gB} {M : gM} (hs : h + 301 ≤ s) (ht : h + 301 ≤ t) (hNs : N ≤ s) (hNt : N ≤ t) (hst : s ≠ t) : ∀ (i f k : Nat) (μ : MM), k + i = cN M → i < f → yI h μ B M → yG h N μ0 μ → oR h N w μ B → cA M k s t μ → ∃ ν, lL_areCoroutinesRight_14 f h w s t (gSum M k) (Int32.ofNat k) μ = some (1, ν) ∧ yI h ν B M ∧ yG h N μ0 ν := by
  intro i
  induction i with
  | zero =>
    intro f k μ hk hf Y G C A
    obtain ⟨f, rfl⟩ : ∃ g, f = g + 1 := ⟨f - 1, by omega⟩
    obtain rfl : k = cN M := by omega
    obtain ⟨hc, h24⟩ := Y.cn
    have m1 : fX6_many h 1 μ = some (0, gcnt M, μ) := r_many Y.1 hc h24 1 (by decide)
    refine ⟨μ, ?_, Y, G⟩
    show bL_areCoroutinesRight_14 _ h w s t (gSum M (cN M)) (Int32.ofNat (cN M)) μ = _
    unfold bL_areCoroutinesRight_14
    rw [if_pos Y.1.1.1, m1, Option.bind_some, if_pos rfl, if_pos (show gcnt M ≤ Int32.ofNat (cN M) by rw [hc]; exact (g_le (by omega) (by omega)).mpr (Nat.le_of_eq (by show _ = cN M; rfl)))]
    exact c_485 Y A 5 FU 0 rfl (by unfold FU; omega)
  | succ i ih =>
    intro f k μ hk hf Y G C A
    obtain ⟨f, rfl⟩ : ∃ g, f = g + 1 := ⟨f - 1, by omega⟩
    obtain ⟨hc, h24⟩ := Y.cn
    have hkc : k < cN M := by omega
    have m1 : fX6_many h 1 μ = some (0, gcnt M, μ) := r_many Y.1 hc h24 1 (by decide)
    have o1 : fX6_of h (Int32.ofNat k) 1 μ = some (0, gf M k 5, μ) := r_of Y.1 hc h24 hkc 1 (by decide)
    have o3 : fX6_of h (Int32.ofNat k) 3 μ = some (0, gOfV M k 3, μ) := r_of Y.1 hc h24 hkc 3 (by decide)
    have o6 : fX6_of h (Int32.ofNat k) 6 μ = some (0, gf M k 9, μ) := r_of Y.1 hc h24 hkc 6 (by decide)
    have x2 := (Y.2.2.1.2.2 k hkc)
    have n2 : gf M k 5 ≠ 2 := (Y.2.2.2.1 k hkc).1
    obtain ⟨a, e5, ha⟩ : ∃ a, gf M k 5 = Int32.ofNat a ∧ a < 5 := by
      rcases x2.1.2.2.1 with q | q | q | q | q
      · exact ⟨0, q, by omega⟩
      · exact ⟨1, q, by omega⟩
      · exact ⟨2, q, by omega⟩
      · exact ⟨3, q, by omega⟩
      · exact ⟨4, q, by omega⟩
    obtain ⟨b, e4, hb⟩ : ∃ b, gf M k 4 = Int32.ofNat b ∧ b < 3 := by
      rcases x2.2.1.2.1 with q | q | q
      · exact ⟨0, q, by omega⟩
      · exact ⟨1, q, by omega⟩
      · exact ⟨2, q, by omega⟩
    have ga : (gf M k 5).toNatClampNeg = a := by rw [e5, g_nat (by omega)]
    have gb : (gf M k 4).toNatClampNeg = b := by rw [e4, g_nat (by omega)]
    have z1 : ¬ (gf M k 5 < 0 ∨ mN μ s ≤ a) := fun q => q.elim (by rw [e5]; exact lt0_nat (by omega)) (by rw [A.1.2.1]; omega)
    have Y1 : yI h (sI μ s a (mI μ s a + 1)) B M := Y.agree (yS.I hs)
    have o2 : fX6_of h (Int32.ofNat k) 2 (sI μ s a (mI μ s a + 1)) = some (0, gf M k 4, sI μ s a (mI μ s a + 1)) := r_of Y1.1 hc h24 hkc 2 (by decide)
    have z2 : ¬ (gf M k 4 < 0 ∨ mN (sI μ s a (mI μ s a + 1)) t ≤ b) := fun q => q.elim (by rw [e4]; exact lt0_nat (by omega)) (by rw [show mN (sI μ s a (mI μ s a + 1)) t = mN μ t from rfl, A.2.2.1]; omega)
    have A2 := A.step hst ha hb e5 e4
    have Y2 : yI h (sI (sI μ s a (mI μ s a + 1)) t b (mI (sI μ s a (mI μ s a + 1)) t b + 1)) B M := Y1.agree (yS.I ht)
    have G2 : yG h N μ (sI (sI μ s a (mI μ s a + 1)) t b (mI (sI μ s a (mI μ s a + 1)) t b + 1)) := (yG.I hNs).tr (yG.I hNt)
    have o7 : fX6_of h (Int32.ofNat k) 7 (sI (sI μ s a (mI μ s a + 1)) t b (mI (sI μ s a (mI μ s a + 1)) t b + 1)) = some (0, gf M k 11, sI (sI μ s a (mI μ s a + 1)) t b (mI (sI μ s a (mI μ s a + 1)) t b + 1)) := r_of Y2.1 hc h24 hkc 7 (by decide)
    show ∃ ν, bL_areCoroutinesRight_14 (fun h0 h1 h2 h3 x4 x5 μ => lL_areCoroutinesRight_14 f h0 h1 h2 h3 x4 x5 μ) h w s t (gSum M k) (Int32.ofNat k) μ = some (1, ν) ∧ _
    unfold bL_areCoroutinesRight_14
    rw [if_pos Y.1.1.1, m1, Option.bind_some, if_pos rfl, if_neg (show ¬ gcnt M ≤ Int32.ofNat k by rw [hc]; exact mt (g_le (by omega) (by omega)).mp (by omega)), o1, Option.bind_some, if_pos rfl, o3, Option.bind_some, if_pos rfl, o6, Option.bind_some, if_pos rfl]
    dsimp only
    rw [ga, if_pos A.1.1, if_pos z1, if_pos z1]
    unfold st
    dsimp only
    rw [o2, Option.bind_some, if_pos rfl]
    dsimp only
    rw [gb, if_pos A.2.1, if_pos z2, if_pos z2, o7, Option.bind_some, if_pos rfl, if_neg n2]
    dsimp only
    generalize sI (sI μ s a (mI μ s a + 1)) t b (mI (sI μ s a (mI μ s a + 1)) t b + 1) = μ2 at *
    obtain ⟨ν, e, Y3, F3⟩ := c_110 (kk14 := fun h0 h1 h2 h3 x4 x5 μ => lL_areCoroutinesRight_14 f h0 h1 h2 h3 x4 x5 μ) (w := w) (s := s) (t := t) (x4 := gSum M k + gf M k 11) hkc Y2 (C.g G2)
    obtain ⟨ω, r1, r2, r3⟩ := ih f (k + 1) ν (by omega) (by omega) Y3 ((G.tr G2).tr F3.g) ((C.g G2).g F3.g) (A2.f F3 hs ht)
    refine ⟨ω, ?_, r2, r3⟩
    have e := e.trans r1
    by_cases h5 : gf M k 5 = 1
    · rw [if_pos h5]
      exact e
    · rw [if_neg h5, if_pos (show gOfV M k 3 = -1 from by show (if gf M k 5 = 1 then gf M k 6 else -1) = _; rw [if_neg h5]), if_pos (show gf M k 9 = -1 from x2.1.2.2.2.2 h5)]
      exact e
theorem c_all {h N w : Nat} {μ : MM} {B : gB} {M : gM} (Y : yI h μ B M) (hN : N ≤ mX μ) (hh : h + 301 ≤ N) (C : oR h N w μ B) : ∃ ν, fL_areCoroutinesRight h w μ = some (1, ν) ∧ yI h ν B M ∧ yG h N μ ν := by
  unfold fL_areCoroutinesRight st
  have Y1 : yI h (sN μ 20 5) B M := Y.agree (yS.N (by omega))
  have G1 : yG h N μ (sN μ 20 5) := yG.N hN
  have eX : mX (sN μ 20 5) = mX μ + 1 := rfl
  have Y2 : yI h (sN (sN μ 20 5) 20 3) B M := Y1.agree (yS.N (by omega))
  have G2 : yG h N μ (sN (sN μ 20 5) 20 3) := G1.tr (yG.N (by omega))
  refine c_14 (by omega) (by omega) hN (by omega) (by omega) (cN M) FU 0 _ (Nat.zero_add _) (by have := Y.cn.2; unfold FU; omega) Y2 G2 (C.g G2) ⟨⟨?_, ?_, fun j _ => ?_⟩, ?_, ?_, fun j _ => ?_⟩
  · rw [mK_sN, if_neg (by omega), mK_sN, if_pos rfl]
  · rw [mN_sN, if_neg (by omega), mN_sN, if_pos rfl]
  · rw [mI_sN, if_neg (by omega), mI_sN, if_pos rfl]; rfl
  · rw [mK_sN, if_pos rfl]
  · rw [mN_sN, if_pos rfl]
  · rw [mI_sN, if_pos rfl]; rfl
