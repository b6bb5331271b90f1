/-! THE LAW'S LOOPS -/
theorem yG.mono {h N N' : Nat} {μ ν : MM} (F : yG h N μ ν) (hN : N' ≤ N) : yG h N' μ ν := ⟨F.1, fun a ha => F.2 a (by omega)⟩
theorem oA.mono {h N N' a : Nat} (A : oA h N a) (hN : N ≤ N') : oA h N' a := ⟨by have := A.1; omega, A.2⟩
theorem oR.mono {h N N' w : Nat} {μ : MM} {B : gB} (C : oR h N w μ B) (hN : N ≤ N') : oR h N' w μ B := by
  obtain ⟨⟨c1, c2⟩, ⟨d1, d2⟩, e⟩ := C
  exact ⟨⟨c1.mono hN, c2⟩, ⟨d1.mono hN, d2⟩, fun b hb => ⟨⟨(e b hb).1.1.mono hN, (e b hb).1.2⟩, fun i x hx => ⟨((e b hb).2 i x hx).1.mono hN, ((e b hb).2 i x hx).2⟩⟩⟩
/-- last[k], as it was told -/
def pV (R : Nat) (μ : MM) (M : gM) : Prop := ∀ k, k < 24 → ¬ mI μ (R + 1 + k) 0 ≤ 2 → k < cN M ∧ gf M k 5 = mI μ (R + 1 + k) 0 ∧ gf M k 7 = mI μ (R + 1 + k) 1
def pL (R : Nat) (μ : MM) : Prop := mK μ R = 24 ∧ mN μ R = 24 ∧ ∀ i, i < 24 → mP μ R i = R + 1 + i ∧ mK μ (R + 1 + i) = 20 ∧ mN μ (R + 1 + i) = 2
def pI (h R : Nat) (μ : MM) (B : gB) (M : gM) : Prop := yI h μ B M ∧ oR h R (h + 301) μ B ∧ (R + 25 ≤ mX μ ∧ h + 302 ≤ R) ∧ pL R μ ∧ pV R μ M
theorem pI.g {h R : Nat} {μ ν : MM} {B : gB} {M M' : gM} (P : pI h R μ B M) (Y : yI h ν B M') (G : yG h (R + 25) μ ν) (K : kL M M') : pI h R ν B M' := by
  obtain ⟨Y0, C, ⟨r1, r2⟩, ⟨l1, l2, l3⟩, V⟩ := P
  have s : ∀ a, R ≤ a → a < R + 25 → mK ν a = mK μ a ∧ mN ν a = mN μ a ∧ (∀ j, mI ν a j = mI μ a j) ∧ ∀ j, mP ν a j = mP μ a j := fun a p q => by
    obtain ⟨g1, g2, g3, g4⟩ := G.2 a q
    exact ⟨g1, g2, g3 (by omega), fun j => g4 j (by omega) (by omega)⟩
  refine ⟨Y, C.g (G.mono (by omega)), ⟨by have := G.1; omega, r2⟩, ⟨(s R (by omega) (by omega)).1.trans l1, (s R (by omega) (by omega)).2.1.trans l2, fun i hi => ⟨((s R (by omega) (by omega)).2.2.2 i).trans (l3 i hi).1, (s (R + 1 + i) (by omega) (by omega)).1.trans (l3 i hi).2.1, (s (R + 1 + i) (by omega) (by omega)).2.1.trans (l3 i hi).2.2⟩⟩, fun k hk n => ?_⟩
  have t := (s (R + 1 + k) (by omega) (by omega)).2.2.1
  rw [t] at n ⊢
  rw [t]
  obtain ⟨v1, v2, v3⟩ := V k hk n
  have ho : gOver M k = true := by
    unfold gOver
    rcases (Y0.2.2.1.2.2 k v1).1.2.2.1 with q | q | q | q | q
    · exact absurd (show mI μ (R + 1 + k) 0 ≤ 2 by rw [← v2, show gf M k 5 = 0 from q]; decide) n
    · exact absurd (show mI μ (R + 1 + k) 0 ≤ 2 by rw [← v2, show gf M k 5 = 1 from q]; decide) n
    · exact absurd (show mI μ (R + 1 + k) 0 ≤ 2 by rw [← v2, show gf M k 5 = 2 from q]; decide) n
    · rw [show gf M k 5 = 3 from q]; rfl
    · rw [show gf M k 5 = 4 from q]; rfl
  obtain ⟨k1, k2⟩ := K.2.1 k v1 ho
  exact ⟨Nat.lt_of_lt_of_le v1 K.1, k1.trans v2, k2.trans v3⟩
theorem p_364 {L h R : Nat} {xs : Nat → Int32} {μ : MM} {B : gB} {M : gM} {x5 : Int32} {kk : Nat → Nat → Nat → Int32 → MM → Prop} (P : pI h R μ B M) (K : ∀ ν, pI h R ν B M → kk h (h + 301) R (x5 + 1) ν) : PL_364 L xs kk h (h + 301) R x5 μ := by
  refine ⟨fun _ => ⟨P.1.1.1.1, ?_⟩, fun _ => K μ P⟩
  obtain ⟨v, D⟩ := d_all (h := h) P.1.2.1 P.1.2.2
  obtain ⟨ν1, e1, Y1, F1⟩ := D μ P.1
  have P1 := P.g Y1 F1.g kL.rf
  obtain ⟨ν2, e2, Y2, F2⟩ := c_all (N := R + 25) P1.1 P1.2.2.1.1 (by have := P1.2.2.1.2; omega) (P1.2.1.mono (by omega))
  have P2 := P1.g Y2 F2 kL.rf
  obtain ⟨ν3, e3, Y3, F3⟩ := t_all (N := R + 25) P2.1 P2.2.2.1.1 (by have := P2.2.2.1.2; omega)
  have P3 := P2.g Y3 F3 kL.rf
  obtain ⟨ν4, e4, Y4, F4⟩ := D ν3 P3.1
  have P4 := P3.g Y4 F4.g kL.rf
  refine ⟨(v, ν1), e1, (1, ν2), e2, fun q => absurd (show (1 : Int32) = 0 from q) (by decide), fun _ => ⟨(1, ν3), e3, fun q => absurd (show (1 : Int32) = 0 from q) (by decide), fun _ => ⟨?_, (v, ν4), e4, fun _ => K ν4 P4, fun q => absurd ?_ q⟩⟩⟩
  · exact P3.1.1.1.1
  · show lg_cmp v v = 0
    unfold lg_cmp
    simp
theorem last_set {h R k : Nat} {μ : MM} {B : gB} {M : gM} (P : pI h R μ B M) (hk : k < cN M) : pI h R (sI (sI μ (mP μ R k) 0 (gf M k 5)) (mP μ R k) 1 (gf M k 7)) B M := by
  obtain ⟨Y, C, ⟨r1, r2⟩, ⟨l1, l2, l3⟩, V⟩ := P
  have h24 := Y.cn.2
  have ek := (l3 k (by omega)).1
  rw [ek]
  refine ⟨(Y.agree (yS.I (by omega))).agree (yS.I (by omega)), C.g ((yG.I (by omega)).tr (yG.I (by omega))), ⟨r1, r2⟩, ⟨l1, l2, l3⟩, fun i hi n => ?_⟩
  by_cases e : i = k
  · subst e
    refine ⟨hk, ?_, ?_⟩
    · rw [mI_sI, if_neg (by omega), mI_sI, if_pos ⟨rfl, rfl⟩]
    · rw [mI_sI, if_pos ⟨rfl, rfl⟩]
  · rw [mI_sI, if_neg (by omega), mI_sI, if_neg (by omega)] at n
    rw [mI_sI, if_neg (by omega), mI_sI, if_neg (by omega), mI_sI, if_neg (by omega), mI_sI, if_neg (by omega)]
    exact V i hi n
