/-! DIGEST: what it answers hangs on what was made alone -/
/-- at how many lines of a body it can come to a wait -/
def yW (d : Nat) (B : gB) (f : MM → Option (Int32 × MM)) : Prop := ∃ v, ∀ μ, tB d μ B → f μ = some (v, μ)
theorem w_next {d k : Nat} {B : gB} (hk : k ≤ 8) (n : Int32) : yW d B (fX1_nextOf (tBh d k) n) := by
  by_cases q1 : (gLn (B.2 k) n).1 = 4 ∨ (gLn (B.2 k) n).1 = 5 ∨ (gLn (B.2 k) n).1 = 6
  · refine ⟨(1 <<< ((n + 1) &&& 31)) ||| (1 <<< ((gLn (B.2 k) n).2.2 &&& 31)), fun μ t => ?_⟩
    obtain ⟨l1, l2, l3⟩ := r_line t hk n
    unfold fX1_nextOf
    rw [l1]
    simp only [Option.bind_some]
    rw [if_pos q1, l3]
    rfl
  · by_cases q2 : (gLn (B.2 k) n).1 = 7
    · refine ⟨1 <<< ((gLn (B.2 k) n).2.2 &&& 31), fun μ t => ?_⟩
      obtain ⟨l1, l2, l3⟩ := r_line t hk n
      unfold fX1_nextOf
      rw [l1]
      simp only [Option.bind_some]
      rw [if_neg q1, if_pos q2, l3]
      rfl
    · by_cases q3 : (gLn (B.2 k) n).1 = 9 ∨ (gLn (B.2 k) n).1 = 11
      · refine ⟨0, fun μ t => ?_⟩
        obtain ⟨l1, l2, l3⟩ := r_line t hk n
        unfold fX1_nextOf
        rw [l1]
        simp only [Option.bind_some]
        rw [if_neg q1, if_neg q2, if_pos q3]
      · refine ⟨1 <<< ((n + 1) &&& 31), fun μ t => ?_⟩
        obtain ⟨l1, l2, l3⟩ := r_line t hk n
        unfold fX1_nextOf
        rw [l1]
        simp only [Option.bind_some]
        rw [if_neg q1, if_neg q2, if_neg q3]
theorem w_isWait (x : Int32) : ∃ v, ∀ μ, fX1_isWait x μ = some (v, μ) := by
  unfold fX1_isWait
  by_cases a : x = 3
  · exact ⟨1, fun μ => by rw [if_pos a]⟩
  by_cases b : x = 10
  · exact ⟨1, fun μ => by rw [if_neg a, if_pos b]⟩
  by_cases c : x = 12
  · exact ⟨1, fun μ => by rw [if_neg a, if_neg b, if_pos c]⟩
  by_cases d : x = 13
  · exact ⟨1, fun μ => by rw [if_neg a, if_neg b, if_neg c, if_pos d]⟩
  exact ⟨0, fun μ => by rw [if_neg a, if_neg b, if_neg c, if_neg d]⟩
theorem w_52 {d k : Nat} {B : gB} (hk : k ≤ 8) (hl : (B.2 k).length ≤ 12) : ∀ (i f n : Nat) (x1 x2 : Int32), n + i = (B.2 k).length → i < f → yW d B (lX1_howManyWaits_52 f (tBh d k) x1 x2 (Int32.ofNat n)) := by
  intro i
  induction i with
  | zero =>
    intro f n x1 x2 hn hf
    obtain ⟨f, rfl⟩ : ∃ g, f = g + 1 := ⟨f - 1, by omega⟩
    refine ⟨x2, fun μ t => ?_⟩
    show bX1_howManyWaits_52 _ (tBh d k) x1 x2 (Int32.ofNat n) μ = _
    unfold bX1_howManyWaits_52
    rw [if_pos (t.1.2.2 k hk).1, (t.2.2 k hk).2.1, if_pos ((g_le (by omega) (by omega)).mpr (by omega))]
  | succ i ih =>
    intro f n x1 x2 hn hf
    obtain ⟨f, rfl⟩ : ∃ g, f = g + 1 := ⟨f - 1, by omega⟩
    have st : ∀ μ, tB d μ B → lX1_howManyWaits_52 (f + 1) (tBh d k) x1 x2 (Int32.ofNat n) μ = (if ((x1 >>> (Int32.ofNat n &&& 31)) &&& 1) = 0 then (lX1_howManyWaits_52 f (tBh d k) x1 x2 (Int32.ofNat (n + 1)) μ) else ((fX1_kindAt (tBh d k) (Int32.ofNat n) μ).bind fun y4 => (fX1_isWait y4.1 y4.2).bind fun y5 => if y5.1 = 0 then (lX1_howManyWaits_52 f (tBh d k) x1 x2 (Int32.ofNat (n + 1)) y5.2) else (lX1_howManyWaits_52 f (tBh d k) x1 (x2 + 1) (Int32.ofNat (n + 1)) y5.2))) := fun μ t => by
      show bX1_howManyWaits_52 (fun h0 x1 x2 x3 μ => lX1_howManyWaits_52 f h0 x1 x2 x3 μ) (tBh d k) x1 x2 (Int32.ofNat n) μ = _
      unfold bX1_howManyWaits_52
      rw [if_pos (t.1.2.2 k hk).1, (t.2.2 k hk).2.1, if_neg (mt (g_le (by omega) (by omega)).mp (by omega)), g_suc]
    obtain ⟨v1, e1⟩ := ih f (n + 1) x1 x2 (by omega) (by omega)
    obtain ⟨v2, e2⟩ := ih f (n + 1) x1 (x2 + 1) (by omega) (by omega)
    by_cases q : ((x1 >>> (Int32.ofNat n &&& 31)) &&& 1) = 0
    · exact ⟨v1, fun μ t => by rw [st μ t, if_pos q, e1 μ t]⟩
    · obtain ⟨w, hw⟩ := w_isWait (gLn (B.2 k) (Int32.ofNat n)).1
      by_cases y : w = 0
      · refine ⟨v1, fun μ t => ?_⟩
        rw [st μ t, if_neg q, (r_line t hk _).1]
        simp only [Option.bind_some]
        rw [hw]
        simp only [Option.bind_some]
        rw [if_pos y, e1 μ t]
      · refine ⟨v2, fun μ t => ?_⟩
        rw [st μ t, if_neg q, (r_line t hk _).1]
        simp only [Option.bind_some]
        rw [hw]
        simp only [Option.bind_some]
        rw [if_neg y, e2 μ t]
theorem w_12 {d k : Nat} {B : gB} {x2 : Int32} {kk4 : Nat → Int32 → Int32 → MM → Option (Int32 × MM)} (hk : k ≤ 8) (hl : (B.2 k).length ≤ 12) (hkk : ∀ x1, yW d B (kk4 (tBh d k) x1 (x2 + 1))) : ∀ (i f n : Nat) (x1 : Int32), n + i = (B.2 k).length → i < f → yW d B (lX1_howManyWaits_12 kk4 f (tBh d k) x1 x2 (Int32.ofNat n)) := by
  intro i
  induction i with
  | zero =>
    intro f n x1 hn hf
    obtain ⟨f, rfl⟩ : ∃ g, f = g + 1 := ⟨f - 1, by omega⟩
    obtain ⟨v, e⟩ := hkk x1
    refine ⟨v, fun μ t => ?_⟩
    show bX1_howManyWaits_12 kk4 _ (tBh d k) x1 x2 (Int32.ofNat n) μ = _
    unfold bX1_howManyWaits_12
    rw [if_pos (t.1.2.2 k hk).1, (t.2.2 k hk).2.1, if_pos ((g_le (by omega) (by omega)).mpr (by omega)), e μ t]
  | succ i ih =>
    intro f n x1 hn hf
    obtain ⟨f, rfl⟩ : ∃ g, f = g + 1 := ⟨f - 1, by omega⟩
    have st : ∀ μ, tB d μ B → lX1_howManyWaits_12 kk4 (f + 1) (tBh d k) x1 x2 (Int32.ofNat n) μ = (if ((x1 >>> (Int32.ofNat n &&& 31)) &&& 1) = 0 then (lX1_howManyWaits_12 kk4 f (tBh d k) x1 x2 (Int32.ofNat (n + 1)) μ) else ((fX1_nextOf (tBh d k) (Int32.ofNat n) μ).bind fun y4 => lX1_howManyWaits_12 kk4 f (tBh d k) (x1 ||| y4.1) x2 (Int32.ofNat (n + 1)) y4.2)) := fun μ t => by
      show bX1_howManyWaits_12 kk4 (fun h0 x1 x2 x3 μ => lX1_howManyWaits_12 kk4 f h0 x1 x2 x3 μ) (tBh d k) x1 x2 (Int32.ofNat n) μ = _
      unfold bX1_howManyWaits_12
      rw [if_pos (t.1.2.2 k hk).1, (t.2.2 k hk).2.1, if_neg (mt (g_le (by omega) (by omega)).mp (by omega)), g_suc]
    by_cases q : ((x1 >>> (Int32.ofNat n &&& 31)) &&& 1) = 0
    · obtain ⟨v1, e1⟩ := ih f (n + 1) x1 (by omega) (by omega)
      exact ⟨v1, fun μ t => by rw [st μ t, if_pos q, e1 μ t]⟩
    · obtain ⟨w, hw⟩ := w_next (d := d) (B := B) hk (Int32.ofNat n)
      obtain ⟨v1, e1⟩ := ih f (n + 1) (x1 ||| w) (by omega) (by omega)
      refine ⟨v1, fun μ t => ?_⟩
      rw [st μ t, if_neg q, hw μ t]
      simp only [Option.bind_some]
      rw [e1 μ t]
theorem w_4 {d k : Nat} {B : gB} (hk : k ≤ 8) (hl : (B.2 k).length ≤ 12) : ∀ (i f n : Nat) (x1 : Int32), n + i = 12 → i < f → yW d B (lX1_howManyWaits_4 f (tBh d k) x1 (Int32.ofNat n)) := by
  intro i
  induction i with
  | zero =>
    intro f n x1 hn hf
    obtain ⟨f, rfl⟩ : ∃ g, f = g + 1 := ⟨f - 1, by omega⟩
    obtain ⟨v, e⟩ := w_52 (d := d) hk hl (B.2 k).length FU 0 x1 0 (Nat.zero_add _) (by unfold FU; omega)
    refine ⟨v, fun μ t => ?_⟩
    show bX1_howManyWaits_4 _ (tBh d k) x1 (Int32.ofNat n) μ = _
    unfold bX1_howManyWaits_4
    rw [if_pos (by have : n = 12 := by omega
                   subst this; decide)]
    exact e μ t
  | succ i ih =>
    intro f n x1 hn hf
    obtain ⟨f, rfl⟩ : ∃ g, f = g + 1 := ⟨f - 1, by omega⟩
    have z : ¬ (12 : Int32) ≤ Int32.ofNat n := by
      have := mt (g_le (a := 12) (b := n) (by omega) (by omega)).mp (by omega)
      exact this
    obtain ⟨v, e⟩ := w_12 (d := d) (B := B) (x2 := Int32.ofNat n) (kk4 := fun h0 x1 x2 μ => lX1_howManyWaits_4 f h0 x1 x2 μ) hk hl (fun y => by
      rw [g_suc]
      exact ih f (n + 1) y (by omega) (by omega)) (B.2 k).length FU 0 x1 (Nat.zero_add _) (by unfold FU; omega)
    refine ⟨v, fun μ t => ?_⟩
    show bX1_howManyWaits_4 (fun h0 x1 x2 μ => lX1_howManyWaits_4 f h0 x1 x2 μ) (tBh d k) x1 (Int32.ofNat n) μ = _
    unfold bX1_howManyWaits_4
    rw [if_neg z]
    exact e μ t
theorem w_all {d k : Nat} {B : gB} (hk : k ≤ 8) (hl : (B.2 k).length ≤ 12) : yW d B (fX1_howManyWaits (tBh d k)) := w_4 hk hl 12 FU 0 1 rfl (by unfold FU; omega)
/-- ofBody of 1 -/
theorem body_at {i : Nat} (h : i < 8) : gBody (Int32.ofNat i) = i := by
  have z : ¬ Int32.ofNat i < 0 := by
    have := mt (g_lt (a := i) (b := 0) (by omega) (by omega)).mp (by omega)
    exact this
  have z2 : ¬ (8 : Int32) ≤ Int32.ofNat i := by
    have := mt (g_le (a := 8) (b := i) (by omega) (by omega)).mp (by omega)
    exact this
  unfold gBody
  rw [if_neg (fun q => q.elim z z2), g_nat (by omega)]
theorem y_ofBody1 {h i : Nat} {μ : MM} {B : gB} {M : gM} (Y : yI h μ B M) (hi : i < 5) : fX6_ofBody h (Int32.ofNat i) 1 μ = some (0, Int32.ofNat (gCt M 3 (Int32.ofNat i) (cN M)), μ) := by
  obtain ⟨hc, h24⟩ := Y.cn
  obtain ⟨Y1, hB, hI⟩ := id Y
  unfold fX6_ofBody
  rw [Y1.1.2.1, if_pos Y1.2.1.1.1.1, b_in Y1 hB.1 hi]
  simp only [Option.bind_some]
  rw [if_neg (by decide), if_neg (by decide), if_pos trivial, Y1.1.2.2.1, if_pos Y1.2.2.1.1.1.1, r_howManyMadeOf Y1.2.2.1 hc h24]
  rfl
theorem y_ofBody {h i : Nat} {B : gB} {M : gM} (hB : IB B) (hi : i < 5) (w : Nat) (hw : w < 3) : ∃ v, ∀ μ, yI h μ B M → fX6_ofBody h (Int32.ofNat i) (Int32.ofNat w) μ = some (0, v, μ) := by
  obtain rfl | rfl | rfl : w = 0 ∨ w = 1 ∨ w = 2 := by omega
  · refine ⟨Int32.ofNat (B.2 i).length, fun μ Y => ?_⟩
    have Y1 := Y.1
    show fX6_ofBody h (Int32.ofNat i) 0 μ = _
    unfold fX6_ofBody
    rw [Y1.1.2.1, if_pos Y1.2.1.1.1.1, b_in Y1 hB.1 hi]
    simp only [Option.bind_some]
    rw [if_neg (by decide), if_pos trivial, Y1.1.2.1, if_pos Y1.2.1.1.1.1, r_bat Y1.2.1, body_at (by omega)]
    simp only [Option.bind_some]
    rw [if_pos (Y1.2.1.1.2.2 i (by omega)).1, (Y1.2.1.2.2 i (by omega)).2.1]
  · exact ⟨_, fun μ Y => y_ofBody1 Y hi⟩
  · obtain ⟨v, e⟩ := w_all (d := h + 1) (k := i) (B := B) (by omega) (hB.2 i (by omega)).1
    refine ⟨v, fun μ Y => ?_⟩
    have Y1 := Y.1
    show fX6_ofBody h (Int32.ofNat i) 2 μ = _
    unfold fX6_ofBody
    rw [Y1.1.2.1, if_pos Y1.2.1.1.1.1, b_in Y1 hB.1 hi]
    simp only [Option.bind_some]
    rw [if_neg (by decide), if_neg (by decide), if_neg (by decide), if_pos trivial, Y1.1.2.1, if_pos Y1.2.1.1.1.1, r_bat Y1.2.1, body_at (by omega)]
    simp only [Option.bind_some]
    rw [if_pos (Y1.2.1.1.2.2 i (by omega)).1, e μ Y1.2.1]
    rfl
