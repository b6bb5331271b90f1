theorem i7_ok {w : Nat} {μ : MM} (hx : mX μ = w) : fX7_init w (sN μ 8 0) = some (sP (sN (sP (sM (sN μ 8 0) 25 24 8 12) w 0 (w + 1)) 20 8) w 1 (w + 10)) := by
  have k1 : mK (sM (sN μ 8 0) 25 24 8 12) w = 8 := by rw [mK_sM, mX_sN, hx, if_neg (by omega), if_neg (by omega), mK_sN, if_pos hx.symm]
  have x1 : mX (sN μ 8 0) = w + 1 := by rw [mX_sN, hx]
  have x3 : mX (sP (sM (sN μ 8 0) 25 24 8 12) w 0 (w + 1)) = w + 10 := by rw [mX_sP, mX_sM, x1]
  unfold fX7_init
  rw [st_ap, if_pos k1, st_ap, x1, st_ap, x3, if_pos (show mK (sN (sP (sM (sN μ 8 0) 25 24 8 12) w 0 (w + 1)) 20 8) w = 8 by rw [mK_sN, if_neg (by rw [x3]; omega)]; exact k1), st_ap]
/-- the memory where the drawn kinds are told -/
def d20 (μ : MM) (f : Nat) : MM := sI (sI (sI (sI (sI (sI (sI (sI (sI (sI (sI (sI (sI (sI (sI (sI (sI (sI (sI (sI μ f 0 0) f 1 1) f 2 2) f 3 3) f 4 4) f 5 5) f 6 6) f 7 7) f 8 8) f 9 9) f 10 10) f 11 11) f 12 12) f 13 13) f 14 14) f 15 15) f 16 3) f 17 12) f 18 6) f 19 0
theorem d20_I {μ : MM} {f a j : Nat} (h : a ≠ f) : mI (d20 μ f) a j = mI μ a j := by
  unfold d20
  simp only [mI_sI, h, false_and, if_false]
theorem d20_K {μ : MM} {f a : Nat} : mK (d20 μ f) a = mK μ a := by
  unfold d20
  simp only [mK_sI]
theorem d20_N {μ : MM} {f a : Nat} : mN (d20 μ f) a = mN μ a := by
  unfold d20
  simp only [mN_sI]
theorem d20_P {μ : MM} {f a j : Nat} : mP (d20 μ f) a j = mP μ a j := by
  unfold d20
  simp only [mP_sI]
theorem d20_X {μ : MM} {f : Nat} : mX (d20 μ f) = mX μ := by
  unfold d20
  simp only [mX_sI]
theorem d20_f {μ : MM} {f j : Nat} (h : j < 20) : ∃ v, mI (d20 μ f) f j = Int32.ofNat v ∧ v < 16 := by
  unfold d20
  have c : j = 0 ∨ j = 1 ∨ j = 2 ∨ j = 3 ∨ j = 4 ∨ j = 5 ∨ j = 6 ∨ j = 7 ∨ j = 8 ∨ j = 9 ∨ j = 10 ∨ j = 11 ∨ j = 12 ∨ j = 13 ∨ j = 14 ∨ j = 15 ∨ j = 16 ∨ j = 17 ∨ j = 18 ∨ j = 19 := by omega
  simp only [mI_sI, true_and]
  rcases c with e | e | e | e | e | e | e | e | e | e | e | e | e | e | e | e | e | e | e | e <;> rw [e]
  · exact ⟨0, by simp, by omega⟩
  · exact ⟨1, by simp, by omega⟩
  · exact ⟨2, by simp, by omega⟩
  · exact ⟨3, by simp, by omega⟩
  · exact ⟨4, by simp, by omega⟩
  · exact ⟨5, by simp, by omega⟩
  · exact ⟨6, by simp, by omega⟩
  · exact ⟨7, by simp, by omega⟩
  · exact ⟨8, by simp, by omega⟩
  · exact ⟨9, by simp, by omega⟩
  · exact ⟨10, by simp, by omega⟩
  · exact ⟨11, by simp, by omega⟩
  · exact ⟨12, by simp, by omega⟩
  · exact ⟨13, by simp, by omega⟩
  · exact ⟨14, by simp, by omega⟩
  · exact ⟨15, by simp, by omega⟩
  · exact ⟨3, by simp, by omega⟩
  · exact ⟨12, by simp, by omega⟩
  · exact ⟨6, by simp, by omega⟩
  · exact ⟨0, by simp, by omega⟩
theorem own_start {h : Nat} {μ : MM} {M : gM} (hx : mX μ = h + 301) (Y : yT h μ b0B M) (h0 : gcnt M = 0) : bI h 0 (d20 (sN (sP (sN (sP (sM (sN μ 8 0) 25 24 8 12) (h + 301) 0 (h + 301 + 1)) 20 8) (h + 301) 1 (h + 301 + 10)) 20 20) (h + 312)) b0B M := by
  have x1 : mX (sN μ 8 0) = h + 302 := by rw [mX_sN, hx]
  have e0 : ∃ ω, ω = sN (sP (sN (sP (sM (sN μ 8 0) 25 24 8 12) (h + 301) 0 (h + 301 + 1)) 20 8) (h + 301) 1 (h + 301 + 10)) 20 20 := ⟨_, rfl⟩
  obtain ⟨ω, eω⟩ := e0
  rw [← eω]
  have x3 : mX (sP (sM (sN μ 8 0) 25 24 8 12) (h + 301) 0 (h + 301 + 1)) = h + 311 := by rw [mX_sP, mX_sM, x1]
  have x5 : mX (sP (sN (sP (sM (sN μ 8 0) 25 24 8 12) (h + 301) 0 (h + 301 + 1)) 20 8) (h + 301) 1 (h + 301 + 10)) = h + 312 := by rw [mX_sP, mX_sN, x3]
  have X : mX ω = h + 313 := by rw [eω, mX_sN, x5]
  have K : ∀ a, mK ω a = if a = h + 312 then 20 else if a = h + 311 then 20 else if a = h + 302 then 25 else if h + 302 < a ∧ a ≤ h + 310 then 24 else if a = h + 301 then 8 else mK μ a := fun a => by
    rw [eω, mK_sN, x5, mK_sP, mK_sN, x3, mK_sP, mK_sM, x1, mK_sN, hx]
  have N : ∀ a, mN ω a = if a = h + 312 then 20 else if a = h + 311 then 8 else if a = h + 302 then 8 else if h + 302 < a ∧ a ≤ h + 310 then 12 else if a = h + 301 then 0 else mN μ a := fun a => by
    rw [eω, mN_sN, x5, mN_sP, mN_sN, x3, mN_sP, mN_sM, x1, mN_sN, hx]
  have I : ∀ a j, mI ω a j = if a = h + 312 then 0 else if a = h + 311 then 0 else if h + 302 ≤ a ∧ a ≤ h + 310 then 0 else if a = h + 301 then 0 else mI μ a j := fun a j => by
    rw [eω, mI_sN, x5, mI_sP, mI_sN, x3, mI_sP, mI_sM, x1, mI_sN, hx]
  have P : ∀ a j, mP ω a j = if a = h + 312 then 0 else if a = h + 301 ∧ j = 1 then h + 311 else if a = h + 311 then 0 else if a = h + 301 ∧ j = 0 then h + 302 else if a = h + 302 then (if j < 8 then h + 302 + 1 + j else 0) else if h + 302 < a ∧ a ≤ h + 310 then 0 else if a = h + 301 then 0 else mP μ a j := fun a j => by
    rw [eω, mP_sN, x5, mP_sP, mP_sN, x3, mP_sP, mP_sM, x1, mP_sN, hx]
  refine ⟨Y.agree fun a p q => ⟨?_, ?_, fun j => ?_, fun j => ?_⟩, h0, ⟨rfl, by omega, fun k _ => ⟨by show 0 ≤ 12; omega, fun Lx hx => absurd hx List.not_mem_nil⟩, fun _ _ => rfl⟩, ⟨⟨?_, ?_, ?_, ?_, ?_⟩, ⟨?_, ?_, fun b hb => ⟨?_, ?_, ?_⟩⟩, ⟨?_, ?_, fun b hb => ?_⟩, fun b hb i x q => absurd q (by show ¬ ([] : List (Int32 × Int32 × Int32))[i]? = some x; rw [List.getElem?_nil]; exact nofun)⟩, ?_, ?_, fun j hj => d20_f hj⟩
  · rw [d20_K, K, if_neg (by omega), if_neg (by omega), if_neg (by omega), if_neg (by omega), if_neg (by omega)]
  · rw [d20_N, N, if_neg (by omega), if_neg (by omega), if_neg (by omega), if_neg (by omega), if_neg (by omega)]
  · rw [d20_I (by omega), I, if_neg (by omega), if_neg (by omega), if_neg (by omega), if_neg (by omega)]
  · rw [d20_P, P, if_neg (by omega), if_neg (by omega), if_neg (by omega), if_neg (by omega), if_neg (by omega), if_neg (by omega), if_neg (by omega)]
  · rw [d20_X]
    omega
  · rw [d20_K, K, if_neg (by omega), if_neg (by omega), if_neg (by omega), if_neg (by omega), if_pos rfl]
  · rw [d20_P, P, if_neg (by omega), if_neg (by omega), if_neg (by omega), if_pos ⟨rfl, rfl⟩]
  · rw [d20_P, P, if_neg (by omega), if_pos ⟨rfl, rfl⟩]
  · rw [d20_I (by omega), I, if_neg (by omega), if_neg (by omega), if_neg (by omega), if_pos rfl]
    rfl
  · rw [d20_K, K, if_neg (by omega), if_neg (by omega), if_pos rfl]
  · rw [d20_N, N, if_neg (by omega), if_neg (by omega), if_pos rfl]
  · rw [d20_P, P, if_neg (by omega), if_neg (by omega), if_neg (by omega), if_neg (by omega), if_pos rfl, if_pos hb]
  · rw [d20_K, K, if_neg (by omega), if_neg (by omega), if_neg (by omega), if_pos (by omega)]
  · rw [d20_N, N, if_neg (by omega), if_neg (by omega), if_neg (by omega), if_pos (by omega)]
  · rw [d20_K, K, if_neg (by omega), if_pos rfl]
  · rw [d20_N, N, if_neg (by omega), if_pos rfl]
  · rw [d20_I (by omega), I, if_neg (by omega), if_pos rfl]
    rfl
  · rw [d20_K, K, if_pos rfl]
  · rw [d20_N, N, if_pos rfl]
set_option maxRecDepth 20000 in
theorem pl_all {L n : Nat} {xs : Nat → Int32} (hL : L < 2 ^ 31) : PL_0 L xs (mm0 n) := by
  have x0 : mX (mm0 n) = n + 1 := rfl
  obtain ⟨y2, M, e2, x2, Y2, ⟨h0, hM⟩, -⟩ := i6_ok (h := n + 1) (μ := sN (mm0 n) 7 0) (by rw [mX_sN, x0]) (by rw [mK_sN, x0, if_pos rfl])
  have e5 := i7_ok x2
  have I := own_start x2 Y2 h0
  have Z := p_130 (xs := xs) hL (fun ν B' J => p_218 hL J hM) 5 100 0 _ _ rfl (by omega) I
  have x5 : mX (sP (sN (sP (sM (sN y2 8 0) 25 24 8 12) (n + 1 + 301) 0 (n + 1 + 301 + 1)) 20 8) (n + 1 + 301) 1 (n + 1 + 301 + 10)) = n + 1 + 312 := by rw [mX_sP, mX_sN, mX_sP, mX_sM, mX_sN, x2]
  generalize ey : sP (sN (sP (sM (sN y2 8 0) 25 24 8 12) (n + 1 + 301) 0 (n + 1 + 301 + 1)) 20 8) (n + 1 + 301) 1 (n + 1 + 301 + 10) = y5 at *
  have f1 : mN (sN y5 20 20) (mX y5) = 20 := by rw [mN_sN, if_pos rfl]
  have G : ∀ z : Int32, z.toNatClampNeg < 20 → ¬ z < 0 → ¬ (z < 0 ∨ mN (sN y5 20 20) (mX y5) ≤ z.toNatClampNeg) := fun z z1 z2 q => q.elim z2 (by rw [f1]; omega)
  rw [← x5, ← x2] at Z
  unfold PL_0
  refine ⟨by rw [mK_sN, if_pos rfl], y2, e2, by rw [mK_sN, if_pos rfl], y5, by rw [x2]; exact e5, by rw [mK_sN, if_pos rfl], G 0 (by decide) (by decide), G 1 (by decide) (by decide), G 2 (by decide) (by decide), G 3 (by decide) (by decide), G 4 (by decide) (by decide), G 5 (by decide) (by decide), G 6 (by decide) (by decide), G 7 (by decide) (by decide), G 8 (by decide) (by decide), G 9 (by decide) (by decide), G 10 (by decide) (by decide), G 11 (by decide) (by decide), G 12 (by decide) (by decide), G 13 (by decide) (by decide), G 14 (by decide) (by decide), G 15 (by decide) (by decide), G 16 (by decide) (by decide), G 17 (by decide) (by decide), G 18 (by decide) (by decide), G 19 (by decide) (by decide), ?_⟩
  exact Z
