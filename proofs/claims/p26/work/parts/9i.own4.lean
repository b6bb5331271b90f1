theorem isTold_ok {h nb : Nat} {μ : MM} {B : gB} {M : gM} (I : bI h nb μ B M) (hn : nb < 5) : ∃ ν B', fX7_isTold (h + 301) h μ = some (1, ν) ∧ bI h (nb + 1) ν B' M := by
  obtain ⟨⟨⟨y1, y2, y3, y4⟩, y5, y6, y7, y8, M2, y9⟩, h0, ⟨b1, b2, b3, b4⟩, ⟨⟨o1, o2, o3, o4, o5⟩, ⟨p1, p2, p3⟩, ⟨q1, q2, q3⟩, r⟩, d1, d2, d3⟩ := I
  have g1 : mI μ (h + 1) 2 = B.1 := y5.2.1
  have e0 : ∃ ω, ω = sI (sI μ (h + 301) 2 (B.1 + 1)) (h + 1) 2 (B.1 + 1) := ⟨_, rfl⟩
  obtain ⟨ω, eω⟩ := e0
  have wK : mK ω = mK μ := by rw [eω]; rfl
  have wN : mN ω = mN μ := by rw [eω]; rfl
  have wX : mX ω = mX μ := by rw [eω]; rfl
  have wP : mP ω = mP μ := by rw [eω]; rfl
  have wI : ∀ p j, ¬ (p = h + 1 ∧ j = 2) → ¬ (p = h + 301 ∧ j = 2) → mI ω p j = mI μ p j := fun p j z1 z2 => by rw [eω, mI_sI, if_neg z1, mI_sI, if_neg z2]
  have wI1 : mI ω (h + 1) 2 = B.1 + 1 := by rw [eω, mI_sI, if_pos ⟨rfl, rfl⟩]
  have wI2 : mI ω (h + 301) 2 = B.1 + 1 := by rw [eω, mI_sI, if_neg (by omega), mI_sI, if_pos ⟨rfl, rfl⟩]
  have ag : ∀ p, p ≠ h + 1 → p ≠ h + 301 → mK ω p = mK μ p ∧ mN ω p = mN μ p ∧ (∀ j, mI ω p j = mI μ p j) ∧ ∀ j, mP ω p j = mP μ p j := fun p u v => ⟨by rw [wK], by rw [wN], fun j => wI p j (by omega) (by omega), fun j => by rw [wP]⟩
  refine ⟨ω, (B.1 + 1, B.2), ?_, ⟨⟨by rw [wK]; exact y1, by rw [wP]; exact y2, by rw [wP]; exact y3, by rw [wP]; exact y4⟩, ?_, y6.agree fun p u v => ag p (by omega) (by omega), by rw [wP]; exact y7, by rw [wP]; exact y8, M2, y9.agree fun p u v => ag p (by omega) (by omega)⟩, h0, ⟨by show B.1 + 1 = _; rw [b1, g_suc], by omega, b3, fun k hk => b4 k (by omega)⟩, ⟨⟨by rw [wX]; exact o1, by rw [wK]; exact o2, by rw [wP]; exact o3, by rw [wP]; exact o4, wI2⟩, ⟨by rw [wK]; exact p1, by rw [wN]; exact p2, fun b hb => by rw [wK, wN, wP]; exact p3 b hb⟩, ⟨by rw [wK]; exact q1, by rw [wN]; exact q2, fun b hb => by rw [wI _ _ (by omega) (by omega)]; exact q3 b hb⟩, fun b hb i x hx => ?_⟩, by rw [wK]; exact d1, by rw [wN]; exact d2, fun j hj => by rw [wI _ _ (by omega) (by omega)]; exact d3 j hj⟩
  · unfold fX7_isTold
    rw [st_ap, o5, if_pos (show mK μ h = 7 from y1)]
    unfold fX6_body fX0_addBody
    rw [show mP (sI μ (h + 301) 2 (B.1 + 1)) h 0 = h + 1 from y2, if_pos (show mK (sI μ (h + 301) 2 (B.1 + 1)) (h + 1) = 1 from y5.1.1.1), show mI (sI μ (h + 301) 2 (B.1 + 1)) (h + 1) 2 = B.1 by rw [mI_sI, if_neg (by omega)]; exact g1, if_pos (show B.1 < (8 : Int32) by rw [b1]; exact (g_lt (b := 8) (by omega) (by omega)).mpr (by omega)), st_ap, ← eω, Option.bind_some, Option.bind_some, if_pos rfl]
    dsimp only
    rw [wI2, if_pos (show B.1 = B.1 + 1 - 1 by rw [b1, g_suc, g_prd (by omega)]; rfl)]
  · obtain ⟨⟨⟨a1, a2, a3, a4, a5⟩, bb, e⟩, u1, u2⟩ := y5
    refine ⟨⟨⟨by rw [wK]; exact a1, by rw [wP]; exact a2, by rw [wP]; exact a3, by rw [wK]; exact a4, by rw [wN]; exact a5⟩, fun k hk => by rw [wP]; exact bb k hk, fun k hk => by rw [wK, wN, wP]; exact e k hk⟩, wI1, fun k hk => ?_⟩
    have lo := tBh_in (d := h + 1) hk
    obtain ⟨k1, k2, k3⟩ := u2 k hk
    refine ⟨k1, by rw [wI _ _ (by omega) (by omega)]; exact k2, fun i x hx => ?_⟩
    rw [wI _ _ (by omega) (by omega), wI _ _ (by omega) (by omega), wI _ _ (by omega) (by omega)]
    exact k3 i x hx
  · obtain ⟨⟨v1, v2⟩, v3, v4, v5, v6⟩ := r b hb i x hx
    rw [wP, wX, wK, wN]
    exact ⟨⟨v1, v2⟩, v3, v4, by rw [wI _ _ (by omega) (by omega)]; exact v5, by rw [wI _ _ (by omega) (by omega)]; exact v6⟩
theorem lcell_ok {L : Nat} {xs : Nat → Int32} {k : Int32} (hL : L < 2 ^ 31) (hk : 0 ≤ k.toInt) : ∃ y, lcell L xs k = some y := by
  unfold lcell
  by_cases h : Int32.ofNat L ≤ k
  · rw [if_pos h]
    exact ⟨_, rfl⟩
  · have lt : (Int32.ofNat L).toInt = L := Int32.toInt_ofNat_of_lt (by omega)
    have n : ¬ L ≤ k.toInt.toNat := fun q => h (Int32.le_iff_toInt_le.mpr (by omega))
    rw [if_neg h, if_pos (fun q => q.elim (fun z => by have := Int32.lt_iff_toInt_lt.mp z; have : (0 : Int32).toInt = 0 := rfl; omega) (fun z => n z))]
    exact ⟨_, rfl⟩
theorem p_149 {L h nb : Nat} {xs : Nat → Int32} {M : gM} {kk130 : Nat → Nat → Nat → Int32 → MM → Prop} (hL : L < 2 ^ 31) (hn : nb < 5) (K : ∀ ν B', bI h (nb + 1) ν B' M → kk130 h (h + 301) (h + 312) (Int32.ofNat (nb + 1)) ν) : ∀ (i f n : Nat) (μ : MM) (B : gB), n + i = 11 → i < f → bI h (nb + 1) μ B M → LL_149 L xs kk130 f h (h + 301) (h + 312) (Int32.ofNat nb) (Int32.ofNat n) μ := by
  have c7 : (7 : Int32).toInt = 7 := rfl
  have c21 : (21 : Int32).toInt = 21 := rfl
  have c5 : (5 : Int32).toInt = 5 := rfl
  have c8 : (8 : Int32).toInt = 8 := rfl
  have T : ∀ {n : Nat}, n < 100 → (Int32.ofNat n).toInt = n := fun hn => Int32.toInt_ofNat_of_lt (by omega)
  have main : ∀ (n : Nat) (μ : MM) (B : gB) (kk : Nat → Nat → Nat → Int32 → Int32 → MM → Prop), n ≤ 11 → bI h (nb + 1) μ B M → (n < 11 → ∀ ν B', bI h (nb + 1) ν B' M → kk h (h + 301) (h + 312) (Int32.ofNat nb) (Int32.ofNat (n + 1)) ν) → PL_149 L xs kk130 kk h (h + 301) (h + 312) (Int32.ofNat nb) (Int32.ofNat n) μ := fun n μ B kk hn11 I hk => by
    obtain ⟨y1, e1⟩ := lcell_ok (xs := xs) hL (k := Int32.ofNat nb) (by rw [T (by omega)]; omega)
    obtain ⟨g, eg, hg, -⟩ := bel (x := y1) (n := 8) 8 rfl (by omega) μ
    have e3 : (3 : Int32) + Int32.ofNat g = Int32.ofNat (3 + g) := (Int32.ofNat_add 3 g).symm
    refine ⟨y1, e1, (Int32.ofNat g, μ), eg, ?_, ?_⟩
    · intro _
      rw [g_suc]
      exact K μ B I
    · intro hle
      have hlt : n < 3 + g := by
        have := mt (fun q => hle (show (3 : Int32) + Int32.ofNat g ≤ Int32.ofNat n by rw [e3]; exact (g_le (by omega) (by omega)).mpr q)) (fun z => z)
        omega
      have m1 : (Int32.ofNat nb * 7 + Int32.ofNat n).toInt = nb * 7 + n := by
        have m0 : (Int32.ofNat nb * 7).toInt = nb * 7 := by rw [i_mul (by rw [T (by omega), c7]; omega) (by rw [T (by omega), c7]; omega), T (by omega), c7]
        rw [i_add (by rw [m0, T (by omega)]; omega) (by rw [m0, T (by omega)]; omega), m0, T (by omega)]
      have m2 := rem_ok (a := Int32.ofNat nb * 7 + Int32.ofNat n) (n := 21) (by omega) (by omega)
      have m3 := Int.emod_nonneg (Int32.ofNat nb * 7 + Int32.ofNat n).toInt (show (21 : Int32).toInt ≠ 0 by omega)
      have m4 := Int.emod_lt_of_pos (Int32.ofNat nb * 7 + Int32.ofNat n).toInt (show 0 < (21 : Int32).toInt by omega)
      obtain ⟨y4, e4⟩ := lcell_ok (xs := xs) hL (k := (5 : Int32) + (Int32.ofNat nb * 7 + Int32.ofNat n - (Int32.ofNat nb * 7 + Int32.ofNat n) / 21 * 21)) (by rw [i_add (by omega) (by omega)]; omega)
      obtain ⟨ν, B', e5, J⟩ := drawn_ok (y4 >>> ((Int32.ofNat nb + Int32.ofNat n - (Int32.ofNat nb + Int32.ofNat n) / 6 * 6) &&& 31)) I (show nb < nb + 1 by omega)
      refine ⟨y4, e4, I.2.2.2.1.1.2.1, (1, ν), e5, fun q => absurd (show (1 : Int32) = 0 from q) (by decide), fun _ => ?_⟩
      rw [g_suc]
      exact hk (by omega) ν B' J
  intro i
  induction i with
  | zero =>
    intro f n μ B h1 h2 I
    obtain ⟨f, rfl⟩ : ∃ g, f = g + 1 := ⟨f - 1, by omega⟩
    exact main n μ B _ (by omega) I (fun q => absurd q (by omega))
  | succ i ih =>
    intro f n μ B h1 h2 I
    obtain ⟨f, rfl⟩ : ∃ g, f = g + 1 := ⟨f - 1, by omega⟩
    exact main n μ B _ (by omega) I (fun _ ν B' J => ih f (n + 1) ν B' (by omega) (by omega) J)
theorem p_130 {L h : Nat} {xs : Nat → Int32} {M : gM} (hL : L < 2 ^ 31) (K : ∀ ν B', bI h 5 ν B' M → PL_218 L xs h (h + 301) ν) : ∀ (i f n : Nat) (μ : MM) (B : gB), n + i = 5 → i < f → bI h n μ B M → LL_130 L xs f h (h + 301) (h + 312) (Int32.ofNat n) μ := by
  intro i
  induction i with
  | zero =>
    intro f n μ B h1 h2 I
    obtain ⟨f, rfl⟩ : ∃ g, f = g + 1 := ⟨f - 1, by omega⟩
    obtain rfl : n = 5 := by omega
    exact ⟨fun _ => K μ B I, fun q => absurd (show (5 : Int32) ≤ Int32.ofNat 5 by decide) q⟩
  | succ i ih =>
    intro f n μ B h1 h2 I
    obtain ⟨f, rfl⟩ : ∃ g, f = g + 1 := ⟨f - 1, by omega⟩
    obtain ⟨ν, B', e, J⟩ := isTold_ok I (by omega)
    refine ⟨fun q => absurd q (show ¬ (5 : Int32) ≤ Int32.ofNat n from mt (g_le (a := 5) (by omega) (by omega)).mp (by omega)), fun _ => ⟨I.2.2.2.1.1.2.1, (1, ν), e, fun q => absurd (show (1 : Int32) = 0 from q) (by decide), fun _ => ?_⟩⟩
    exact p_149 hL (by omega) (fun ω B2 J2 => ih f (n + 1) ω B2 (by omega) (by omega) J2) 11 100 0 ν B' rfl (by omega) J
