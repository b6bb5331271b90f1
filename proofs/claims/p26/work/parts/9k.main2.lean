theorem p_273 {L h R : Nat} {xs : Nat → Int32} {B : gB} {M : gM} {x5 : Int32} {kk : Nat → Nat → Nat → Int32 → MM → Prop} (K : ∀ ν, pI h R ν B M → kk h (h + 301) R (x5 + 1) ν) : ∀ (i f k : Nat) (μ : MM), k + i = cN M → i < f → pI h R μ B M → LL_273 L xs kk f h (h + 301) R x5 (Int32.ofNat k) μ := by
  intro i
  induction i with
  | zero =>
    intro f k μ h1 h2 P
    obtain ⟨f, rfl⟩ : ∃ g, f = g + 1 := ⟨f - 1, by omega⟩
    obtain rfl : k = cN M := by omega
    obtain ⟨hc, h24⟩ := P.1.cn
    have m1 : fX6_many h 1 μ = some (0, gcnt M, μ) := r_many P.1.1 hc h24 1 (by decide)
    have le : gcnt M ≤ Int32.ofNat (cN M) := by rw [hc]; exact (g_le (by omega) (by omega)).mpr (Nat.le_of_eq (by show _ = cN M; rfl))
    exact ⟨P.1.1.1.1, (0, gcnt M, μ), m1, rfl, fun _ => p_364 P K, fun q => absurd le q⟩
  | succ i ih =>
    intro f k μ h1 h2 P
    obtain ⟨f, rfl⟩ : ∃ g, f = g + 1 := ⟨f - 1, by omega⟩
    obtain ⟨hc, h24⟩ := P.1.cn
    have hk : k < cN M := by omega
    have gk : (Int32.ofNat k).toNatClampNeg = k := g_nat (by omega)
    have m1 : fX6_many h 1 μ = some (0, gcnt M, μ) := r_many P.1.1 hc h24 1 (by decide)
    have o1 : fX6_of h (Int32.ofNat k) 1 μ = some (0, gf M k 5, μ) := r_of P.1.1 hc h24 hk 1 (by decide)
    have o4 : fX6_of h (Int32.ofNat k) 4 μ = some (0, gf M k 7, μ) := r_of P.1.1 hc h24 hk 4 (by decide)
    have nle : ¬ gcnt M ≤ Int32.ofNat k := by rw [hc]; exact mt (g_le (by omega) (by omega)).mp (by omega)
    obtain ⟨l1, l2, l3⟩ := P.2.2.2.1
    have V := P.2.2.2.2
    obtain ⟨ek, l4, l5⟩ := l3 k (by omega)
    have z0 : ¬ (Int32.ofNat k < 0 ∨ mN μ R ≤ k) := fun q => q.elim (lt0_nat (by omega)) (by rw [l2]; omega)
    have cK : mK μ (mP μ R k) = 20 := by rw [ek]; exact l4
    have c0 : ¬ ((0 : Int32) < 0 ∨ mN μ (mP μ R k) ≤ (0 : Int32).toNatClampNeg) := fun q => q.elim (by decide) (by rw [ek, l5]; decide)
    have c1 : ¬ ((1 : Int32) < 0 ∨ mN μ (mP μ R k) ≤ (1 : Int32).toNatClampNeg) := fun q => q.elim (by decide) (by rw [ek, l5]; decide)
    have Yw : yI h (sI μ (mP μ R k) 0 (gf M k 5)) B M := P.1.agree (yS.I (by rw [ek]; have := P.2.2.1.2; omega))
    have o4' : fX6_of h (Int32.ofNat k) 4 (sI μ (mP μ R k) 0 (gf M k 5)) = some (0, gf M k 7, sI μ (mP μ R k) 0 (gf M k 5)) := r_of Yw.1 hc h24 hk 4 (by decide)
    have N := ih f (k + 1) _ (by omega) (by omega) (last_set P hk)
    rw [← g_suc] at N
    show PL_273 L xs kk (LL_273 L xs kk f) h (h + 301) R x5 (Int32.ofNat k) μ
    unfold PL_273
    rw [gk]
    refine ⟨P.1.1.1.1, (0, gcnt M, μ), m1, rfl, fun q => absurd q nle, fun _ => ⟨l1, z0, cK, c0, fun _ => ?_, fun n => ?_⟩⟩
    · exact ⟨z0, (0, gf M k 5, μ), o1, rfl, c0, z0, (0, gf M k 7, sI μ (mP μ R k) 0 (gf M k 5)), o4', rfl, cK, c1, N⟩
    · have n' : ¬ mI μ (R + 1 + k) 0 ≤ 2 := by rw [← ek]; exact n
      obtain ⟨-, v2, v3⟩ := V k (by omega) n'
      rw [← ek] at v2 v3
      refine ⟨(0, gf M k 5, μ), o1, rfl, z0, cK, c0, fun _ => ?_, fun q => absurd v2 q⟩
      refine ⟨(0, gf M k 7, μ), o4, rfl, z0, cK, c1, fun _ => ?_, fun q => absurd v3 q⟩
      exact ⟨z0, (0, gf M k 5, μ), o1, rfl, c0, z0, (0, gf M k 7, sI μ (mP μ R k) 0 (gf M k 5)), o4', rfl, cK, c1, N⟩
theorem p_230 {L h R : Nat} {xs : Nat → Int32} {B : gB} (hL : L < 2 ^ 31) : ∀ (i f t : Nat) (μ : MM) (M : gM), t + i = 54 → i < f → pI h R μ B M → (gnow M).toInt ≤ 4 * t → LL_230 L xs f h (h + 301) R (Int32.ofNat t) μ := by
  have T : ∀ {n : Nat}, n < 100 → (Int32.ofNat n).toInt = n := fun hn => Int32.toInt_ofNat_of_lt (by omega)
  intro i
  induction i with
  | zero =>
    intro f t μ M h1 h2 P hn
    obtain ⟨f, rfl⟩ : ∃ g, f = g + 1 := ⟨f - 1, by omega⟩
    obtain rfl : t = 54 := by omega
    exact ⟨fun _ => trivial, fun q => absurd (show (54 : Int32) ≤ Int32.ofNat 54 by decide) q⟩
  | succ i ih =>
    intro f t μ M h1 h2 P hn
    obtain ⟨f, rfl⟩ : ∃ g, f = g + 1 := ⟨f - 1, by omega⟩
    have c26 : (26 : Int32).toInt = 26 := rfl
    have c3 : (3 : Int32).toInt = 3 := rfl
    have m2 := rem_ok (a := Int32.ofNat t) (n := 26) (by rw [T (by omega)]; omega) (by omega)
    have m3 := Int.emod_nonneg (Int32.ofNat t).toInt (show (26 : Int32).toInt ≠ 0 by omega)
    have m4 := Int.emod_lt_of_pos (Int32.ofNat t).toInt (show 0 < (26 : Int32).toInt by omega)
    obtain ⟨y2, e2⟩ := lcell_ok (xs := xs) hL (k := (3 : Int32) + (Int32.ofNat t - Int32.ofNat t / 26 * 26)) (by rw [i_add (by omega) (by omega)]; omega)
    obtain ⟨y3, e3, g3, A⟩ := a_all (N := R + 25) P.1 (by omega) (y2 >>> (((Int32.ofNat t / 26) * 9) &&& 31))
    refine ⟨fun q => absurd q (show ¬ (54 : Int32) ≤ Int32.ofNat t from mt (g_le (a := 54) (by omega) (by omega)).mp (by omega)), fun _ => ⟨y2, e2, y3, e3, g3, fun r hr => ?_⟩⟩
    obtain ⟨r1, M', Y', G', K'⟩ := A r hr
    refine ⟨fun q => absurd (r1.symm.trans q) (by decide), fun _ => ?_⟩
    have P' := P.g Y' G' K'
    refine p_273 (M := M') (B := B) (fun ν Q => ?_) (cN M') 100 0 r.2 (Nat.zero_add _) (by have := P'.1.cn.2; omega) P'
    rw [g_suc]
    exact ih f (t + 1) ν M' (by omega) (by omega) Q (by have := K'.2.2; omega)
theorem bI_yI {h : Nat} {μ : MM} {B : gB} {M : gM} (I : bI h 5 μ B M) (hM : gnow M = 0 ∧ grq M = [] ∧ gaq M = []) : yI h μ B M ∧ oR h (mX μ) (h + 301) μ B := by
  obtain ⟨Y, h0, ⟨b1, b2, b3, b4⟩, ⟨⟨o1, o2, o3, o4, o5⟩, ⟨p1, p2, p3⟩, ⟨q1, q2, q3⟩, r⟩, -⟩ := I
  obtain ⟨m1, m2, m3⟩ := hM
  have hc : cN M = 0 := by unfold cN; rw [h0]; rfl
  refine ⟨⟨Y, ⟨b1, fun k hk => b3 k hk⟩, ⟨by rw [h0, hc]; rfl, by omega, fun k hk => absurd hk (by omega)⟩, fun k hk => absurd hk (by omega), ⟨by rw [m1]; decide, ⟨by rw [m2]; exact List.nodup_nil, fun x hx => absurd hx (by rw [m2]; exact List.not_mem_nil)⟩, ⟨by rw [m3]; exact List.nodup_nil, fun x hx => absurd hx (by rw [m3]; exact List.not_mem_nil)⟩, fun k hk => absurd hk (by omega), fun k hk => absurd hk (by omega), fun k hk => absurd hk (by omega), fun k hk => absurd hk (by omega)⟩⟩, ⟨⟨⟨by omega, by omega⟩, o2⟩, ?_, fun b hb => ?_⟩⟩
  · rw [o3]
    exact ⟨⟨by omega, by omega⟩, p1, p2⟩
  · obtain ⟨s1, s2, s3⟩ := p3 b (by omega)
    rw [o3, s1]
    refine ⟨⟨⟨by omega, by omega⟩, s2, s3⟩, fun i x hx => ?_⟩
    obtain ⟨⟨v1, v2⟩, v3, v4, v5, v6⟩ := r b (by omega) i x hx
    exact ⟨⟨v2, by omega⟩, v3, v4, v5, v6⟩
theorem p_218 {L h : Nat} {xs : Nat → Int32} {μ : MM} {B : gB} {M : gM} (hL : L < 2 ^ 31) (I : bI h 5 μ B M) (hM : gnow M = 0 ∧ grq M = [] ∧ gaq M = []) : PL_218 L xs h (h + 301) μ := by
  obtain ⟨Y, C⟩ := bI_yI I hM
  have hX : h + 313 ≤ mX μ := I.2.2.2.1.1.1
  have hR : ∃ R, mX μ = R := ⟨_, rfl⟩
  obtain ⟨R, eR⟩ := hR
  rw [eR] at C hX
  have sS : ∀ a, a < R → mK (sM μ 24 20 24 2) a = mK μ a ∧ mN (sM μ 24 20 24 2) a = mN μ a ∧ (∀ j, mI (sM μ 24 20 24 2) a j = mI μ a j) ∧ ∀ j, mP (sM μ 24 20 24 2) a j = mP μ a j := fun a ha => ⟨by rw [mK_sM, eR, if_neg (by omega), if_neg (by omega)], by rw [mN_sM, eR, if_neg (by omega), if_neg (by omega)], fun j => by rw [mI_sM, eR, if_neg (by omega)], fun j => by rw [mP_sM, eR, if_neg (by omega), if_neg (by omega)]⟩
  have G : yG h R μ (sM μ 24 20 24 2) := ⟨by rw [mX_sM]; omega, fun a ha => ⟨(sS a ha).1, (sS a ha).2.1, fun _ => (sS a ha).2.2.1, fun j _ _ => (sS a ha).2.2.2 j⟩⟩
  unfold PL_218
  rw [st_ap, eR]
  refine p_230 hL 54 100 0 _ M rfl (by omega) ⟨Y.agree fun a p q => sS a (by omega), C.g G, ⟨by rw [mX_sM, eR]; omega, by omega⟩, ⟨?_, ?_, fun i hi => ⟨?_, ?_, ?_⟩⟩, fun k hk n => absurd ?_ n⟩ (by rw [hM.1]; decide)
  · rw [mK_sM, eR, if_pos rfl]
  · rw [mN_sM, eR, if_pos rfl]
  · rw [mP_sM, eR, if_pos rfl, if_pos hi]
  · rw [mK_sM, eR, if_neg (by omega), if_pos (by omega)]
  · rw [mN_sM, eR, if_neg (by omega), if_pos (by omega)]
  · rw [mI_sM, eR, if_pos (by omega)]
    decide
