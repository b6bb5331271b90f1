/-- an answer that hangs on what was made alone -/
def yD (h : Nat) (B : gB) (M : gM) (f : MM → Option (Int64 × MM)) : Prop := ∃ v, ∀ μ, yI h μ B M → ∃ ν, f μ = some (v, ν) ∧ yI h ν B M ∧ yF h μ ν
theorem yD.of {h : Nat} {B : gB} {M : gM} {f g : MM → Option (Int64 × MM)} (d : yD h B M g) (e : ∀ μ, yI h μ B M → ∃ ν, f μ = g ν ∧ yI h ν B M ∧ yF h μ ν) : yD h B M f := by
  obtain ⟨v, hv⟩ := d
  refine ⟨v, fun μ Y => ?_⟩
  obtain ⟨ν, e1, Y1, F1⟩ := e μ Y
  obtain ⟨ω, e2, Y2, F2⟩ := hv ν Y1
  exact ⟨ω, e1.trans e2, Y2, F1.tr F2⟩
theorem yD.eq {h : Nat} {B : gB} {M : gM} {f g : MM → Option (Int64 × MM)} (d : yD h B M g) (e : ∀ μ, yI h μ B M → f μ = g μ) : yD h B M f := d.of fun μ Y => ⟨μ, e μ Y, Y, yF.rf⟩
theorem d_250 {h n : Nat} {B : gB} {M : gM} {kk82 : Nat → Int64 → Int32 → MM → Option (Int64 × MM)} (hn : n < cN M) (h4 : gf M n 4 = 1) (hk : ∀ z, yD h B M (kk82 h z (Int32.ofNat (n + 1)))) : ∀ (i f w : Nat) (z : Int64), w + i = 7 → i < f → yD h B M (lX6_digest_250 kk82 f h z (Int32.ofNat n) (Int32.ofNat w)) := by
  intro i
  induction i with
  | zero =>
    intro f w z hw hf
    obtain ⟨f, rfl⟩ : ∃ g, f = g + 1 := ⟨f - 1, by omega⟩
    refine (hk z).eq fun μ Y => ?_
    show bX6_digest_250 kk82 _ h z (Int32.ofNat n) (Int32.ofNat w) μ = _
    unfold bX6_digest_250
    rw [if_pos (by have : w = 7 := by omega
                   subst this; decide), g_suc]
  | succ i ih =>
    intro f w z hw hf
    obtain ⟨f, rfl⟩ : ∃ g, f = g + 1 := ⟨f - 1, by omega⟩
    have hz : ¬ (6 : Int32) < Int32.ofNat w := by
      have := mt (g_lt (a := 6) (b := w) (by omega) (by omega)).mp (by omega)
      exact this
    refine (ih f (w + 1) ((z * (31 : Int64)) + ((gOfT M n (Int32.ofNat w)).toInt64)) (by omega) (by omega)).eq fun μ Y => ?_
    show bX6_digest_250 kk82 (fun h0 z1 x3 x4 μ => lX6_digest_250 kk82 f h0 z1 x3 x4 μ) h z (Int32.ofNat n) (Int32.ofNat w) μ = _
    unfold bX6_digest_250
    rw [if_neg hz, if_pos Y.1.1.1, r_ofTask Y.1 Y.cn.1 Y.cn.2 hn h4 _ (by
      obtain rfl | rfl | rfl | rfl | rfl | rfl | rfl : w = 0 ∨ w = 1 ∨ w = 2 ∨ w = 3 ∨ w = 4 ∨ w = 5 ∨ w = 6 := by omega
      all_goals decide)]
    simp only [Option.bind_some]
    rw [if_pos trivial, g_suc]
theorem d_157 {h n : Nat} {B : gB} {M : gM} {kk82 : Nat → Int64 → Int32 → MM → Option (Int64 × MM)} (hl : (gk M n).length ≤ 6) (hn : n < cN M) (h24 : cN M ≤ 24) (hk : ∀ z, yD h B M (kk82 h z (Int32.ofNat (n + 1)))) : ∀ (i f w : Nat) (z : Int64), w + i = (gk M n).length → i < f → yD h B M (lX6_digest_157 kk82 f h z (Int32.ofNat n) (Int32.ofNat w)) := by
  intro i
  induction i with
  | zero =>
    intro f w z hw hf
    obtain ⟨f, rfl⟩ : ∃ g, f = g + 1 := ⟨f - 1, by omega⟩
    have st : ∀ μ, yI h μ B M → lX6_digest_157 kk82 (f + 1) h z (Int32.ofNat n) (Int32.ofNat w) μ = ((fX3_has (mP μ h 1) (Int32.ofNat n) 0 μ).bind fun y7 => if y7.1 = 0 then (if mK μ (mP y7.2 h 1) = 4 then (fX3_has (mP y7.2 h 1) (Int32.ofNat n) 1 y7.2).bind fun y10 => if y10.1 = 0 then (kk82 h z (Int32.ofNat (n + 1)) y10.2) else (lX6_digest_250 kk82 FU h z (Int32.ofNat n) 0 y10.2) else none) else ((fX6_left h (Int32.ofNat n) y7.2).bind fun y13 => if y13.1 = 0 then (fX6_wouldClose h (Int32.ofNat n) y13.2.2).bind fun y15 => if y15.1 = 0 then if mK μ (mP y15.2.2 h 1) = 4 then (fX3_has (mP y15.2.2 h 1) (Int32.ofNat n) 1 y15.2.2).bind fun y17 => if y17.1 = 0 then (kk82 h ((((z * (31 : Int64)) + ((y13.2.1).toInt64)) * (31 : Int64)) + ((y15.2.1).toInt64)) (Int32.ofNat (n + 1)) y17.2) else (lX6_digest_250 kk82 FU h ((((z * (31 : Int64)) + ((y13.2.1).toInt64)) * (31 : Int64)) + ((y15.2.1).toInt64)) (Int32.ofNat n) 0 y17.2) else none else none else none)) := fun μ Y => by
      have t := Y.1.2.2.1
      have n24 : n ≤ 24 := by omega
      show bX6_digest_157 kk82 _ h z (Int32.ofNat n) (Int32.ofNat w) μ = _
      unfold bX6_digest_157
      rw [if_pos Y.1.1.1, Y.1.1.2.2.1, if_pos t.1.1.1, r_at t.1, n_at (by omega)]
      simp only [Option.bind_some]
      rw [if_pos (t.lay n24).1, (t.lay n24).2.2.1, if_pos (t.lay n24).2.2.2.2.2.1, (t.stk n24).2.1, if_pos ((g_le (by omega) (by omega)).mpr (by omega)), Y.1.1.2.2.1, if_pos t.1.1.1, g_suc]
    by_cases q0 : gf M n 4 = 0
    · -- a generator
      refine yD.of (hk ((((z * (31 : Int64)) + ((Int32.ofNat (gLeft B M n)).toInt64)) * (31 : Int64)) + (((gClose B M (Int32.ofNat n)).1).toInt64))) fun μ Y => ?_
      have hh : gHas M (Int32.ofNat n) 0 = true := by rw [has_nat Y.cn.1 Y.cn.2 hn, q0]; rfl
      have hh1 : gHas M (Int32.ofNat n) 1 = false := by rw [has_nat Y.cn.1 Y.cn.2 hn, q0]; rfl
      obtain ⟨μ1, e1, Y1, F1⟩ := y_left Y hh (by omega)
      obtain ⟨μ2, e2, Y2, F2⟩ := (y_wouldClose Y1 (k := n) (by omega)).2 hh
      refine ⟨μ2, ?_, Y2, F1.tr F2⟩
      have t := Y.1.2.2.1
      rw [st μ Y, Y.1.1.2.2.1, f_has t, hh]
      simp only [Option.bind_some]
      rw [if_neg (by decide), e1]
      simp only [Option.bind_some]
      rw [if_pos trivial, e2]
      simp only [Option.bind_some]
      rw [if_pos trivial, Y2.1.1.2.2.1, if_pos t.1.1.1, f_has Y2.1.2.2.1, hh1]
      simp only [Option.bind_some]
      rw [if_pos b0]
    · by_cases q1 : gf M n 4 = 1
      · refine yD.eq (d_250 hn q1 hk 7 FU 0 z rfl (by unfold FU; omega)) fun μ Y => ?_
        have hh : gHas M (Int32.ofNat n) 0 = false := by rw [has_nat Y.cn.1 Y.cn.2 hn, q1]; rfl
        have hh1 : gHas M (Int32.ofNat n) 1 = true := by rw [has_nat Y.cn.1 Y.cn.2 hn, q1]; rfl
        have t := Y.1.2.2.1
        rw [st μ Y, Y.1.1.2.2.1, f_has t, hh]
        simp only [Option.bind_some]
        rw [if_pos b0, Y.1.1.2.2.1, if_pos t.1.1.1, f_has t, hh1]
        simp only [Option.bind_some]
        rw [if_neg (by decide)]
        rfl
      · refine yD.eq (hk z) fun μ Y => ?_
        have hh : gHas M (Int32.ofNat n) 0 = false := by rw [has_nat Y.cn.1 Y.cn.2 hn]; simpa using q0
        have hh1 : gHas M (Int32.ofNat n) 1 = false := by rw [has_nat Y.cn.1 Y.cn.2 hn]; simpa using q1
        have t := Y.1.2.2.1
        rw [st μ Y, Y.1.1.2.2.1, f_has t, hh]
        simp only [Option.bind_some]
        rw [if_pos b0, Y.1.1.2.2.1, if_pos t.1.1.1, f_has t, hh1]
        simp only [Option.bind_some]
        rw [if_pos b0]
  | succ i ih =>
    intro f w z hw hf
    obtain ⟨f, rfl⟩ : ∃ g, f = g + 1 := ⟨f - 1, by omega⟩
    have hwl : w < (gk M n).reverse.length := by rw [List.length_reverse]; omega
    obtain ⟨s, m, hs⟩ : ∃ s m, (gk M n).reverse[w]? = some (s, m) := ⟨(gk M n).reverse[w].1, (gk M n).reverse[w].2, List.getElem?_eq_getElem hwl⟩
    refine (ih f (w + 1) ((z * (31 : Int64)) + (s.toInt64)) (by omega) (by omega)).eq fun μ Y => ?_
    have t := Y.1.2.2.1
    have n24 : n ≤ 24 := by omega
    show bX6_digest_157 kk82 (fun h0 z1 x3 x4 μ => lX6_digest_157 kk82 f h0 z1 x3 x4 μ) h z (Int32.ofNat n) (Int32.ofNat w) μ = _
    unfold bX6_digest_157
    rw [if_pos Y.1.1.1, Y.1.1.2.2.1, if_pos t.1.1.1, r_at t.1, n_at (by omega)]
    simp only [Option.bind_some]
    rw [if_pos (t.lay n24).1, (t.lay n24).2.2.1, if_pos (t.lay n24).2.2.2.2.2.1, (t.stk n24).2.1, if_neg (mt (g_le (by omega) (by omega)).mp (by omega)), r_stack Y.1 Y.cn.1 Y.cn.2 hn hs]
    simp only [Option.bind_some]
    rw [if_pos trivial, g_suc]
theorem d_127 {h n : Nat} {B : gB} {M : gM} {kk82 : Nat → Int64 → Int32 → MM → Option (Int64 × MM)} (hl : (gk M n).length ≤ 6) (hn : n < cN M) (h24 : cN M ≤ 24) (hk : ∀ z, yD h B M (kk82 h z (Int32.ofNat (n + 1)))) : ∀ (i f w : Nat) (z : Int64), w + i = 4 → i < f → yD h B M (lX6_digest_127 kk82 f h z (Int32.ofNat n) (Int32.ofNat w)) := by
  intro i
  induction i with
  | zero =>
    intro f w z hw hf
    obtain ⟨f, rfl⟩ : ∃ g, f = g + 1 := ⟨f - 1, by omega⟩
    refine (d_157 hl hn h24 hk (gk M n).length FU 0 z (Nat.zero_add _) (by unfold FU; omega)).eq fun μ Y => ?_
    show bX6_digest_127 kk82 _ h z (Int32.ofNat n) (Int32.ofNat w) μ = _
    unfold bX6_digest_127
    rw [if_pos (by have : w = 4 := by omega
                   subst this; decide)]
    rfl
  | succ i ih =>
    intro f w z hw hf
    obtain ⟨f, rfl⟩ : ∃ g, f = g + 1 := ⟨f - 1, by omega⟩
    have hz : ¬ (4 : Int32) ≤ Int32.ofNat w := by
      have := mt (g_le (a := 4) (b := w) (by omega) (by omega)).mp (by omega)
      exact this
    refine (ih f (w + 1) ((z * (31 : Int64)) + ((gl M n w).toInt64)) (by omega) (by omega)).eq fun μ Y => ?_
    show bX6_digest_127 kk82 (fun h0 z1 x3 x4 μ => lX6_digest_127 kk82 f h0 z1 x3 x4 μ) h z (Int32.ofNat n) (Int32.ofNat w) μ = _
    unfold bX6_digest_127
    rw [if_neg hz, if_pos Y.1.1.1, r_loc Y.1 Y.cn.1 Y.cn.2 hn (by omega)]
    simp only [Option.bind_some]
    rw [if_pos trivial, g_suc]
theorem d_96 {h n : Nat} {B : gB} {M : gM} {kk82 : Nat → Int64 → Int32 → MM → Option (Int64 × MM)} (hl : (gk M n).length ≤ 6) (hn : n < cN M) (h24 : cN M ≤ 24) (hk : ∀ z, yD h B M (kk82 h z (Int32.ofNat (n + 1)))) : ∀ (i f w : Nat) (z : Int64), w + i = 8 → i < f → yD h B M (lX6_digest_96 kk82 f h z (Int32.ofNat n) (Int32.ofNat w)) := by
  intro i
  induction i with
  | zero =>
    intro f w z hw hf
    obtain ⟨f, rfl⟩ : ∃ g, f = g + 1 := ⟨f - 1, by omega⟩
    refine (d_127 hl hn h24 hk 4 FU 0 z (Nat.zero_add _) (by unfold FU; omega)).eq fun μ Y => ?_
    show bX6_digest_96 kk82 _ h z (Int32.ofNat n) (Int32.ofNat w) μ = _
    unfold bX6_digest_96
    rw [if_pos (by have : w = 8 := by omega
                   subst this; decide)]
    rfl
  | succ i ih =>
    intro f w z hw hf
    obtain ⟨f, rfl⟩ : ∃ g, f = g + 1 := ⟨f - 1, by omega⟩
    have hz : ¬ (7 : Int32) < Int32.ofNat w := by
      have := mt (g_lt (a := 7) (b := w) (by omega) (by omega)).mp (by omega)
      exact this
    refine (ih f (w + 1) ((z * (31 : Int64)) + ((gOfV M n (Int32.ofNat w)).toInt64)) (by omega) (by omega)).eq fun μ Y => ?_
    show bX6_digest_96 kk82 (fun h0 z1 x3 x4 μ => lX6_digest_96 kk82 f h0 z1 x3 x4 μ) h z (Int32.ofNat n) (Int32.ofNat w) μ = _
    unfold bX6_digest_96
    rw [if_neg hz, if_pos Y.1.1.1, r_of Y.1 Y.cn.1 Y.cn.2 hn _ (by
      obtain rfl | rfl | rfl | rfl | rfl | rfl | rfl | rfl : w = 0 ∨ w = 1 ∨ w = 2 ∨ w = 3 ∨ w = 4 ∨ w = 5 ∨ w = 6 ∨ w = 7 := by omega
      all_goals decide)]
    simp only [Option.bind_some]
    rw [if_pos trivial, g_suc]
theorem d_82 {h : Nat} {B : gB} {M : gM} (hI : IVR B M) : ∀ (i f n : Nat) (z : Int64), n + i = cN M → i < f → yD h B M (lX6_digest_82 f h z (Int32.ofNat n)) := by
  have hc := hI.1.1
  have h24 := hI.1.2.1
  intro i
  induction i with
  | zero =>
    intro f n z hn hf
    obtain ⟨f, rfl⟩ : ∃ g, f = g + 1 := ⟨f - 1, by omega⟩
    refine ⟨(z * (31 : Int64)) + ((Int32.ofNat (gOvIn B M 20)).toInt64), fun μ Y => ?_⟩
    obtain ⟨ν, e, Y1, F1⟩ := y_overIn Y (m := 20) ⟨by omega, by omega⟩
    refine ⟨ν, ?_, Y1, F1⟩
    have e : fX6_overIn h 20 μ = some (0, Int32.ofNat (gOvIn B M 20), ν) := e
    show bX6_digest_82 _ h z (Int32.ofNat n) μ = _
    unfold bX6_digest_82
    rw [if_pos Y.1.1.1, Y.1.1.2.2.1, if_pos Y.1.2.2.1.1.1.1, show mI μ (h + 39) 5 = gcnt M from Y.1.2.2.1.2.1.1, hc, if_pos ((g_le (by omega) (by omega)).mpr (by omega)), e]
    simp only [Option.bind_some]
    rw [if_pos trivial]
  | succ i ih =>
    intro f n z hn hf
    obtain ⟨f, rfl⟩ : ∃ g, f = g + 1 := ⟨f - 1, by omega⟩
    refine (d_96 (kk82 := fun h0 z1 x3 μ => lX6_digest_82 f h0 z1 x3 μ) ((hI.1.2.2 n (by omega)).1.1.2.2.1.1) (by omega) h24 (fun z => ih f (n + 1) z (by omega) (by omega)) 8 FU 0 z (Nat.zero_add _) (by unfold FU; omega)).eq fun μ Y => ?_
    show bX6_digest_82 (fun h0 z1 x3 μ => lX6_digest_82 f h0 z1 x3 μ) h z (Int32.ofNat n) μ = _
    unfold bX6_digest_82
    rw [if_pos Y.1.1.1, Y.1.1.2.2.1, if_pos Y.1.2.2.1.1.1.1, show mI μ (h + 39) 5 = gcnt M from Y.1.2.2.1.2.1.1, hc, if_neg (mt (g_le (by omega) (by omega)).mp (by omega))]
    rfl
theorem d_47 {h n : Nat} {B : gB} {M : gM} {kk33 : Nat → Int64 → Int32 → MM → Option (Int64 × MM)} (hB : IB B) (hn : n < 5) (hk : ∀ z, yD h B M (kk33 h z (Int32.ofNat (n + 1)))) : ∀ (i f w : Nat) (z : Int64), w + i = 3 → i < f → yD h B M (lX6_digest_47 kk33 f h z (Int32.ofNat n) (Int32.ofNat w)) := by
  intro i
  induction i with
  | zero =>
    intro f w z hw hf
    obtain ⟨f, rfl⟩ : ∃ g, f = g + 1 := ⟨f - 1, by omega⟩
    refine (hk z).eq fun μ Y => ?_
    show bX6_digest_47 kk33 _ h z (Int32.ofNat n) (Int32.ofNat w) μ = _
    unfold bX6_digest_47
    rw [if_pos (by have : w = 3 := by omega
                   subst this; decide), g_suc]
  | succ i ih =>
    intro f w z hw hf
    obtain ⟨f, rfl⟩ : ∃ g, f = g + 1 := ⟨f - 1, by omega⟩
    have hz : ¬ (2 : Int32) < Int32.ofNat w := by
      have := mt (g_lt (a := 2) (b := w) (by omega) (by omega)).mp (by omega)
      exact this
    obtain ⟨v, e⟩ := y_ofBody (h := h) (M := M) hB hn w (by omega)
    refine (ih f (w + 1) ((z * (31 : Int64)) + (v.toInt64)) (by omega) (by omega)).eq fun μ Y => ?_
    show bX6_digest_47 kk33 (fun h0 z1 x3 x4 μ => lX6_digest_47 kk33 f h0 z1 x3 x4 μ) h z (Int32.ofNat n) (Int32.ofNat w) μ = _
    unfold bX6_digest_47
    rw [if_neg hz, if_pos Y.1.1.1, e μ Y]
    simp only [Option.bind_some]
    rw [if_pos trivial, g_suc]
theorem d_33 {h : Nat} {B : gB} {M : gM} (hB : IB B) (hI : IVR B M) : ∀ (i f n : Nat) (z : Int64), n + i = 5 → i < f → yD h B M (lX6_digest_33 f h z (Int32.ofNat n)) := by
  have h24 := hI.1.2.1
  intro i
  induction i with
  | zero =>
    intro f n z hn hf
    obtain ⟨f, rfl⟩ : ∃ g, f = g + 1 := ⟨f - 1, by omega⟩
    have h5 : (5 : Int32) ≤ Int32.ofNat n := (g_le (a := 5) (b := n) (by omega) (by omega)).mpr (by omega)
    refine (d_82 hI (cN M) FU 0 z (Nat.zero_add _) (by unfold FU; omega)).eq fun μ Y => ?_
    show bX6_digest_33 _ h z (Int32.ofNat n) μ = _
    unfold bX6_digest_33
    rw [if_pos Y.1.1.1, Y.1.1.2.1, if_pos Y.1.2.1.1.1.1, Y.1.2.1.2.1, hB.1, if_pos h5]
    rfl
  | succ i ih =>
    intro f n z hn hf
    obtain ⟨f, rfl⟩ : ∃ g, f = g + 1 := ⟨f - 1, by omega⟩
    have hz : ¬ (5 : Int32) ≤ Int32.ofNat n := by
      have := mt (g_le (a := 5) (b := n) (by omega) (by omega)).mp (by omega)
      exact this
    refine (d_47 (kk33 := fun h0 z1 x3 μ => lX6_digest_33 f h0 z1 x3 μ) hB (by omega) (fun z => ih f (n + 1) z (by omega) (by omega)) 3 FU 0 z (Nat.zero_add _) (by unfold FU; omega)).eq fun μ Y => ?_
    show bX6_digest_33 (fun h0 z1 x3 μ => lX6_digest_33 f h0 z1 x3 μ) h z (Int32.ofNat n) μ = _
    unfold bX6_digest_33
    rw [if_pos Y.1.1.1, Y.1.1.2.1, if_pos Y.1.2.1.1.1.1, Y.1.2.1.2.1, hB.1, if_neg hz]
    rfl
theorem d_6 {h : Nat} {B : gB} {M : gM} (hB : IB B) (hI : IVR B M) : ∀ (i f w : Nat) (z : Int64), w + i = 12 → i < f → yD h B M (lX6_digest_6 f h z (Int32.ofNat w)) := by
  intro i
  induction i with
  | zero =>
    intro f w z hw hf
    obtain ⟨f, rfl⟩ : ∃ g, f = g + 1 := ⟨f - 1, by omega⟩
    refine (d_33 hB hI 5 FU 0 z (Nat.zero_add _) (by unfold FU; omega)).eq fun μ Y => ?_
    show bX6_digest_6 _ h z (Int32.ofNat w) μ = _
    unfold bX6_digest_6
    rw [if_pos (by have : w = 12 := by omega
                   subst this; decide)]
    rfl
  | succ i ih =>
    intro f w z hw hf
    obtain ⟨f, rfl⟩ : ∃ g, f = g + 1 := ⟨f - 1, by omega⟩
    have hz : ¬ (11 : Int32) < Int32.ofNat w := by
      have := mt (g_lt (a := 11) (b := w) (by omega) (by omega)).mp (by omega)
      exact this
    refine (ih f (w + 1) ((z * (31 : Int64)) + ((gMn B M (Int32.ofNat w)).toInt64)) (by omega) (by omega)).eq fun μ Y => ?_
    show bX6_digest_6 (fun h0 z1 x3 μ => lX6_digest_6 f h0 z1 x3 μ) h z (Int32.ofNat w) μ = _
    unfold bX6_digest_6
    rw [if_neg hz, if_pos Y.1.1.1, r_many Y.1 Y.cn.1 Y.cn.2 _ (by
      obtain rfl | rfl | rfl | rfl | rfl | rfl | rfl | rfl | rfl | rfl | rfl | rfl : w = 0 ∨ w = 1 ∨ w = 2 ∨ w = 3 ∨ w = 4 ∨ w = 5 ∨ w = 6 ∨ w = 7 ∨ w = 8 ∨ w = 9 ∨ w = 10 ∨ w = 11 := by omega
      all_goals decide)]
    simp only [Option.bind_some]
    rw [if_pos trivial, g_suc]
theorem d_all {h : Nat} {B : gB} {M : gM} (hB : IB B) (hI : IVR B M) : yD h B M (fX6_digest h) := d_6 hB hI 12 FU 0 7603 rfl (by unfold FU; omega)
