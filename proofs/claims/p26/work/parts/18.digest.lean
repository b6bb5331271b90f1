-- X6_digest
def bX6_digest_250 (kk82 : Nat → Int64 → Int32 → MM → Option (Int64 × MM)) (kk250 : Nat → Int64 → Int32 → Int32 → MM → Option (Int64 × MM)) (h0 : Nat) (z1 : Int64) (x3 : Int32) (x4 : Int32) (μ : MM) : Option (Int64 × MM) :=
  if (6 : Int32) < x4 then (kk82 h0 z1 (x3 + 1) μ) else (if mK μ h0 = 7 then (fX6_ofTask h0 x3 x4 μ).bind fun y2 => if y2.1 = 0 then kk250 h0 ((z1 * (31 : Int64)) + ((y2.2.1).toInt64)) x3 (x4 + 1) y2.2.2 else none else none)
def lX6_digest_250 (kk82 : Nat → Int64 → Int32 → MM → Option (Int64 × MM)) : Nat → Nat → Int64 → Int32 → Int32 → MM → Option (Int64 × MM)
  | 0, _, _, _, _, _ => none
  | n + 1, h0, z1, x3, x4, μ => bX6_digest_250 kk82 (fun h0 z1 x3 x4 μ => lX6_digest_250 kk82 n h0 z1 x3 x4 μ) h0 z1 x3 x4 μ
def bX6_digest_157 (kk82 : Nat → Int64 → Int32 → MM → Option (Int64 × MM)) (kk157 : Nat → Int64 → Int32 → Int32 → MM → Option (Int64 × MM)) (h0 : Nat) (z1 : Int64) (x3 : Int32) (x4 : Int32) (μ : MM) : Option (Int64 × MM) :=
  if mK μ h0 = 7 then if mK μ (mP μ h0 1) = 4 then (fX3_at (mP μ h0 1) x3 μ).bind fun y2 => if mK μ y2.1 = 3 then if mK μ (mP y2.2 y2.1 2) = 6 then if (mI y2.2 (mP y2.2 y2.1 2) 2) ≤ x4 then (if mK μ (mP y2.2 h0 1) = 4 then (fX3_has (mP y2.2 h0 1) x3 0 y2.2).bind fun y7 => if y7.1 = 0 then (if mK μ (mP y7.2 h0 1) = 4 then (fX3_has (mP y7.2 h0 1) x3 1 y7.2).bind fun y10 => if y10.1 = 0 then (kk82 h0 z1 (x3 + 1) y10.2) else (lX6_digest_250 kk82 FU h0 z1 x3 0 y10.2) else none) else ((fX6_left h0 x3 y7.2).bind fun y13 => if y13.1 = 0 then (fX6_wouldClose h0 x3 y13.2.2).bind fun y15 => if y15.1 = 0 then if mK μ (mP y15.2.2 h0 1) = 4 then (fX3_has (mP y15.2.2 h0 1) x3 1 y15.2.2).bind fun y17 => if y17.1 = 0 then (kk82 h0 ((((z1 * (31 : Int64)) + ((y13.2.1).toInt64)) * (31 : Int64)) + ((y15.2.1).toInt64)) (x3 + 1) y17.2) else (lX6_digest_250 kk82 FU h0 ((((z1 * (31 : Int64)) + ((y13.2.1).toInt64)) * (31 : Int64)) + ((y15.2.1).toInt64)) x3 0 y17.2) else none else none else none) else none) else ((fX6_stack h0 x3 x4 y2.2).bind fun y20 => if y20.1 = 0 then kk157 h0 ((z1 * (31 : Int64)) + ((y20.2.1).toInt64)) x3 (x4 + 1) y20.2.2 else none) else none else none else none else none
def lX6_digest_157 (kk82 : Nat → Int64 → Int32 → MM → Option (Int64 × MM)) : Nat → Nat → Int64 → Int32 → Int32 → MM → Option (Int64 × MM)
  | 0, _, _, _, _, _ => none
  | n + 1, h0, z1, x3, x4, μ => bX6_digest_157 kk82 (fun h0 z1 x3 x4 μ => lX6_digest_157 kk82 n h0 z1 x3 x4 μ) h0 z1 x3 x4 μ
def bX6_digest_127 (kk82 : Nat → Int64 → Int32 → MM → Option (Int64 × MM)) (kk127 : Nat → Int64 → Int32 → Int32 → MM → Option (Int64 × MM)) (h0 : Nat) (z1 : Int64) (x3 : Int32) (x4 : Int32) (μ : MM) : Option (Int64 × MM) :=
  if (4 : Int32) ≤ x4 then (lX6_digest_157 kk82 FU h0 z1 x3 0 μ) else (if mK μ h0 = 7 then (fX6_local h0 x3 x4 μ).bind fun y2 => if y2.1 = 0 then kk127 h0 ((z1 * (31 : Int64)) + ((y2.2.1).toInt64)) x3 (x4 + 1) y2.2.2 else none else none)
def lX6_digest_127 (kk82 : Nat → Int64 → Int32 → MM → Option (Int64 × MM)) : Nat → Nat → Int64 → Int32 → Int32 → MM → Option (Int64 × MM)
  | 0, _, _, _, _, _ => none
  | n + 1, h0, z1, x3, x4, μ => bX6_digest_127 kk82 (fun h0 z1 x3 x4 μ => lX6_digest_127 kk82 n h0 z1 x3 x4 μ) h0 z1 x3 x4 μ
def bX6_digest_96 (kk82 : Nat → Int64 → Int32 → MM → Option (Int64 × MM)) (kk96 : Nat → Int64 → Int32 → Int32 → MM → Option (Int64 × MM)) (h0 : Nat) (z1 : Int64) (x3 : Int32) (x4 : Int32) (μ : MM) : Option (Int64 × MM) :=
  if (7 : Int32) < x4 then (lX6_digest_127 kk82 FU h0 z1 x3 0 μ) else (if mK μ h0 = 7 then (fX6_of h0 x3 x4 μ).bind fun y2 => if y2.1 = 0 then kk96 h0 ((z1 * (31 : Int64)) + ((y2.2.1).toInt64)) x3 (x4 + 1) y2.2.2 else none else none)
def lX6_digest_96 (kk82 : Nat → Int64 → Int32 → MM → Option (Int64 × MM)) : Nat → Nat → Int64 → Int32 → Int32 → MM → Option (Int64 × MM)
  | 0, _, _, _, _, _ => none
  | n + 1, h0, z1, x3, x4, μ => bX6_digest_96 kk82 (fun h0 z1 x3 x4 μ => lX6_digest_96 kk82 n h0 z1 x3 x4 μ) h0 z1 x3 x4 μ
def bX6_digest_82 (kk82 : Nat → Int64 → Int32 → MM → Option (Int64 × MM)) (h0 : Nat) (z1 : Int64) (x3 : Int32) (μ : MM) : Option (Int64 × MM) :=
  if mK μ h0 = 7 then if mK μ (mP μ h0 1) = 4 then if (mI μ (mP μ h0 1) 5) ≤ x3 then ((fX6_overIn h0 20 μ).bind fun y4 => if y4.1 = 0 then some (((z1 * (31 : Int64)) + ((y4.2.1).toInt64)), y4.2.2) else none) else (lX6_digest_96 kk82 FU h0 z1 x3 0 μ) else none else none
def lX6_digest_82  : Nat → Nat → Int64 → Int32 → MM → Option (Int64 × MM)
  | 0, _, _, _, _ => none
  | n + 1, h0, z1, x3, μ => bX6_digest_82  (fun h0 z1 x3 μ => lX6_digest_82  n h0 z1 x3 μ) h0 z1 x3 μ
def bX6_digest_47 (kk33 : Nat → Int64 → Int32 → MM → Option (Int64 × MM)) (kk47 : Nat → Int64 → Int32 → Int32 → MM → Option (Int64 × MM)) (h0 : Nat) (z1 : Int64) (x3 : Int32) (x4 : Int32) (μ : MM) : Option (Int64 × MM) :=
  if (2 : Int32) < x4 then (kk33 h0 z1 (x3 + 1) μ) else (if mK μ h0 = 7 then (fX6_ofBody h0 x3 x4 μ).bind fun y2 => if y2.1 = 0 then kk47 h0 ((z1 * (31 : Int64)) + ((y2.2.1).toInt64)) x3 (x4 + 1) y2.2.2 else none else none)
def lX6_digest_47 (kk33 : Nat → Int64 → Int32 → MM → Option (Int64 × MM)) : Nat → Nat → Int64 → Int32 → Int32 → MM → Option (Int64 × MM)
  | 0, _, _, _, _, _ => none
  | n + 1, h0, z1, x3, x4, μ => bX6_digest_47 kk33 (fun h0 z1 x3 x4 μ => lX6_digest_47 kk33 n h0 z1 x3 x4 μ) h0 z1 x3 x4 μ
def bX6_digest_33 (kk33 : Nat → Int64 → Int32 → MM → Option (Int64 × MM)) (h0 : Nat) (z1 : Int64) (x3 : Int32) (μ : MM) : Option (Int64 × MM) :=
  if mK μ h0 = 7 then if mK μ (mP μ h0 0) = 1 then if (mI μ (mP μ h0 0) 2) ≤ x3 then (lX6_digest_82  FU h0 z1 0 μ) else (lX6_digest_47 kk33 FU h0 z1 x3 0 μ) else none else none
def lX6_digest_33  : Nat → Nat → Int64 → Int32 → MM → Option (Int64 × MM)
  | 0, _, _, _, _ => none
  | n + 1, h0, z1, x3, μ => bX6_digest_33  (fun h0 z1 x3 μ => lX6_digest_33  n h0 z1 x3 μ) h0 z1 x3 μ
def bX6_digest_6 (kk6 : Nat → Int64 → Int32 → MM → Option (Int64 × MM)) (h0 : Nat) (z1 : Int64) (x3 : Int32) (μ : MM) : Option (Int64 × MM) :=
  if (11 : Int32) < x3 then (lX6_digest_33  FU h0 z1 0 μ) else (if mK μ h0 = 7 then (fX6_many h0 x3 μ).bind fun y2 => if y2.1 = 0 then kk6 h0 ((z1 * (31 : Int64)) + ((y2.2.1).toInt64)) (x3 + 1) y2.2.2 else none else none)
def lX6_digest_6  : Nat → Nat → Int64 → Int32 → MM → Option (Int64 × MM)
  | 0, _, _, _, _ => none
  | n + 1, h0, z1, x3, μ => bX6_digest_6  (fun h0 z1 x3 μ => lX6_digest_6  n h0 z1 x3 μ) h0 z1 x3 μ
def fX6_digest (h0 : Nat) (μ : MM) : Option (Int64 × MM) :=
  lX6_digest_6  FU h0 (7603 : Int64) 0 μ
set_option maxRecDepth 100000 in
set_option maxHeartbeats 4000000 in
theorem knbX6_digest_250 (kk82 : Nat → Int64 → Int32 → MM → Option (Int64 × MM)) (hkk82 : ∀ (h0 : Nat) (z1 : Int64) (x3 : Int32) (μ : MM) (res : Int64 × MM), kk82 h0 z1 x3 μ = some res → mmKN μ res.2) (kk250 : Nat → Int64 → Int32 → Int32 → MM → Option (Int64 × MM)) (hkk250 : ∀ (h0 : Nat) (z1 : Int64) (x3 : Int32) (x4 : Int32) (μ : MM) (res : Int64 × MM), kk250 h0 z1 x3 x4 μ = some res → mmKN μ res.2) : ∀ (h0 : Nat) (z1 : Int64) (x3 : Int32) (x4 : Int32) (μ : MM) (res : Int64 × MM), bX6_digest_250 kk82 kk250 h0 z1 x3 x4 μ = some res → mmKN μ res.2 := by
  intro h0 z1 x3 x4 μ res hf
  have hK : mmKN μ μ := mmKN.rf
  unfold bX6_digest_250 at hf
  rcases it_or hf with ⟨c1, hf⟩ | ⟨c1, hf⟩
  · skip
    exact hK.tr (hkk82 h0 z1 (x3 + 1) μ _ hf)
  · skip
    obtain ⟨g4, hf⟩ := gd hf
    obtain ⟨y2, hy2, hf⟩ := bd hf
    obtain ⟨g3, hf⟩ := gd hf
    have hK : mmKN μ y2.2.2 := hK.tr (kX6_ofTask_kn hy2)
    exact hK.tr (hkk250 h0 ((z1 * (31 : Int64)) + ((y2.2.1).toInt64)) x3 (x4 + 1) y2.2.2 _ hf)
theorem knlX6_digest_250 (kk82 : Nat → Int64 → Int32 → MM → Option (Int64 × MM)) (hkk82 : ∀ (h0 : Nat) (z1 : Int64) (x3 : Int32) (μ : MM) (res : Int64 × MM), kk82 h0 z1 x3 μ = some res → mmKN μ res.2) : ∀ (n : Nat) (h0 : Nat) (z1 : Int64) (x3 : Int32) (x4 : Int32) (μ : MM) (res : Int64 × MM), lX6_digest_250 kk82 n h0 z1 x3 x4 μ = some res → mmKN μ res.2 := by
  intro n
  induction n with
  | zero => intro h0 z1 x3 x4 μ res hf; cases hf
  | succ n ih => intro h0 z1 x3 x4 μ res hf; exact knbX6_digest_250 kk82 hkk82 _ ih h0 z1 x3 x4 μ res hf
set_option maxRecDepth 100000 in
set_option maxHeartbeats 4000000 in
theorem knbX6_digest_157 (kk82 : Nat → Int64 → Int32 → MM → Option (Int64 × MM)) (hkk82 : ∀ (h0 : Nat) (z1 : Int64) (x3 : Int32) (μ : MM) (res : Int64 × MM), kk82 h0 z1 x3 μ = some res → mmKN μ res.2) (kk157 : Nat → Int64 → Int32 → Int32 → MM → Option (Int64 × MM)) (hkk157 : ∀ (h0 : Nat) (z1 : Int64) (x3 : Int32) (x4 : Int32) (μ : MM) (res : Int64 × MM), kk157 h0 z1 x3 x4 μ = some res → mmKN μ res.2) : ∀ (h0 : Nat) (z1 : Int64) (x3 : Int32) (x4 : Int32) (μ : MM) (res : Int64 × MM), bX6_digest_157 kk82 kk157 h0 z1 x3 x4 μ = some res → mmKN μ res.2 := by
  intro h0 z1 x3 x4 μ res hf
  have hK : mmKN μ μ := mmKN.rf
  unfold bX6_digest_157 at hf
  obtain ⟨g1, hf⟩ := gd hf
  obtain ⟨g3, hf⟩ := gd hf
  obtain ⟨y2, hy2, hf⟩ := bd hf
  have hK : mmKN μ y2.2 := hK.tr (kX3_at_kn hy2)
  obtain ⟨g4, hf⟩ := gd hf
  obtain ⟨g5, hf⟩ := gd hf
  rcases it_or hf with ⟨c6, hf⟩ | ⟨c6, hf⟩
  · skip
    obtain ⟨g8, hf⟩ := gd hf
    obtain ⟨y7, hy7, hf⟩ := bd hf
    have hK : mmKN μ y7.2 := hK.tr (kX3_has_kn hy7)
    rcases it_or hf with ⟨c9, hf⟩ | ⟨c9, hf⟩
    · skip
      obtain ⟨g11, hf⟩ := gd hf
      obtain ⟨y10, hy10, hf⟩ := bd hf
      have hK : mmKN μ y10.2 := hK.tr (kX3_has_kn hy10)
      rcases it_or hf with ⟨c12, hf⟩ | ⟨c12, hf⟩
      · skip
        exact hK.tr (hkk82 h0 z1 (x3 + 1) y10.2 _ hf)
      · skip
        exact hK.tr (knlX6_digest_250 kk82 hkk82 FU h0 z1 x3 0 y10.2 _ hf)
    · skip
      obtain ⟨y13, hy13, hf⟩ := bd hf
      obtain ⟨g14, hf⟩ := gd hf
      have hK : mmKN μ y13.2.2 := hK.tr (kX6_left_kn hy13)
      obtain ⟨y15, hy15, hf⟩ := bd hf
      obtain ⟨g16, hf⟩ := gd hf
      have hK : mmKN μ y15.2.2 := hK.tr (kX6_wouldClose_kn hy15)
      obtain ⟨g18, hf⟩ := gd hf
      obtain ⟨y17, hy17, hf⟩ := bd hf
      have hK : mmKN μ y17.2 := hK.tr (kX3_has_kn hy17)
      rcases it_or hf with ⟨c19, hf⟩ | ⟨c19, hf⟩
      · skip
        exact hK.tr (hkk82 h0 ((((z1 * (31 : Int64)) + ((y13.2.1).toInt64)) * (31 : Int64)) + ((y15.2.1).toInt64)) (x3 + 1) y17.2 _ hf)
      · skip
        exact hK.tr (knlX6_digest_250 kk82 hkk82 FU h0 ((((z1 * (31 : Int64)) + ((y13.2.1).toInt64)) * (31 : Int64)) + ((y15.2.1).toInt64)) x3 0 y17.2 _ hf)
  · skip
    obtain ⟨y20, hy20, hf⟩ := bd hf
    obtain ⟨g21, hf⟩ := gd hf
    have hK : mmKN μ y20.2.2 := hK.tr (kX6_stack_kn hy20)
    exact hK.tr (hkk157 h0 ((z1 * (31 : Int64)) + ((y20.2.1).toInt64)) x3 (x4 + 1) y20.2.2 _ hf)
theorem knlX6_digest_157 (kk82 : Nat → Int64 → Int32 → MM → Option (Int64 × MM)) (hkk82 : ∀ (h0 : Nat) (z1 : Int64) (x3 : Int32) (μ : MM) (res : Int64 × MM), kk82 h0 z1 x3 μ = some res → mmKN μ res.2) : ∀ (n : Nat) (h0 : Nat) (z1 : Int64) (x3 : Int32) (x4 : Int32) (μ : MM) (res : Int64 × MM), lX6_digest_157 kk82 n h0 z1 x3 x4 μ = some res → mmKN μ res.2 := by
  intro n
  induction n with
  | zero => intro h0 z1 x3 x4 μ res hf; cases hf
  | succ n ih => intro h0 z1 x3 x4 μ res hf; exact knbX6_digest_157 kk82 hkk82 _ ih h0 z1 x3 x4 μ res hf
set_option maxRecDepth 100000 in
set_option maxHeartbeats 4000000 in
theorem knbX6_digest_127 (kk82 : Nat → Int64 → Int32 → MM → Option (Int64 × MM)) (hkk82 : ∀ (h0 : Nat) (z1 : Int64) (x3 : Int32) (μ : MM) (res : Int64 × MM), kk82 h0 z1 x3 μ = some res → mmKN μ res.2) (kk127 : Nat → Int64 → Int32 → Int32 → MM → Option (Int64 × MM)) (hkk127 : ∀ (h0 : Nat) (z1 : Int64) (x3 : Int32) (x4 : Int32) (μ : MM) (res : Int64 × MM), kk127 h0 z1 x3 x4 μ = some res → mmKN μ res.2) : ∀ (h0 : Nat) (z1 : Int64) (x3 : Int32) (x4 : Int32) (μ : MM) (res : Int64 × MM), bX6_digest_127 kk82 kk127 h0 z1 x3 x4 μ = some res → mmKN μ res.2 := by
  intro h0 z1 x3 x4 μ res hf
  have hK : mmKN μ μ := mmKN.rf
  unfold bX6_digest_127 at hf
  rcases it_or hf with ⟨c1, hf⟩ | ⟨c1, hf⟩
  · skip
    exact hK.tr (knlX6_digest_157 kk82 hkk82 FU h0 z1 x3 0 μ _ hf)
  · skip
    obtain ⟨g4, hf⟩ := gd hf
    obtain ⟨y2, hy2, hf⟩ := bd hf
    obtain ⟨g3, hf⟩ := gd hf
    have hK : mmKN μ y2.2.2 := hK.tr (kX6_local_kn hy2)
    exact hK.tr (hkk127 h0 ((z1 * (31 : Int64)) + ((y2.2.1).toInt64)) x3 (x4 + 1) y2.2.2 _ hf)
theorem knlX6_digest_127 (kk82 : Nat → Int64 → Int32 → MM → Option (Int64 × MM)) (hkk82 : ∀ (h0 : Nat) (z1 : Int64) (x3 : Int32) (μ : MM) (res : Int64 × MM), kk82 h0 z1 x3 μ = some res → mmKN μ res.2) : ∀ (n : Nat) (h0 : Nat) (z1 : Int64) (x3 : Int32) (x4 : Int32) (μ : MM) (res : Int64 × MM), lX6_digest_127 kk82 n h0 z1 x3 x4 μ = some res → mmKN μ res.2 := by
  intro n
  induction n with
  | zero => intro h0 z1 x3 x4 μ res hf; cases hf
  | succ n ih => intro h0 z1 x3 x4 μ res hf; exact knbX6_digest_127 kk82 hkk82 _ ih h0 z1 x3 x4 μ res hf
set_option maxRecDepth 100000 in
set_option maxHeartbeats 4000000 in
theorem knbX6_digest_96 (kk82 : Nat → Int64 → Int32 → MM → Option (Int64 × MM)) (hkk82 : ∀ (h0 : Nat) (z1 : Int64) (x3 : Int32) (μ : MM) (res : Int64 × MM), kk82 h0 z1 x3 μ = some res → mmKN μ res.2) (kk96 : Nat → Int64 → Int32 → Int32 → MM → Option (Int64 × MM)) (hkk96 : ∀ (h0 : Nat) (z1 : Int64) (x3 : Int32) (x4 : Int32) (μ : MM) (res : Int64 × MM), kk96 h0 z1 x3 x4 μ = some res → mmKN μ res.2) : ∀ (h0 : Nat) (z1 : Int64) (x3 : Int32) (x4 : Int32) (μ : MM) (res : Int64 × MM), bX6_digest_96 kk82 kk96 h0 z1 x3 x4 μ = some res → mmKN μ res.2 := by
  intro h0 z1 x3 x4 μ res hf
  have hK : mmKN μ μ := mmKN.rf
  unfold bX6_digest_96 at hf
  rcases it_or hf with ⟨c1, hf⟩ | ⟨c1, hf⟩
  · skip
    exact hK.tr (knlX6_digest_127 kk82 hkk82 FU h0 z1 x3 0 μ _ hf)
  · skip
    obtain ⟨g4, hf⟩ := gd hf
    obtain ⟨y2, hy2, hf⟩ := bd hf
    obtain ⟨g3, hf⟩ := gd hf
    have hK : mmKN μ y2.2.2 := hK.tr (kX6_of_kn hy2)
    exact hK.tr (hkk96 h0 ((z1 * (31 : Int64)) + ((y2.2.1).toInt64)) x3 (x4 + 1) y2.2.2 _ hf)
theorem knlX6_digest_96 (kk82 : Nat → Int64 → Int32 → MM → Option (Int64 × MM)) (hkk82 : ∀ (h0 : Nat) (z1 : Int64) (x3 : Int32) (μ : MM) (res : Int64 × MM), kk82 h0 z1 x3 μ = some res → mmKN μ res.2) : ∀ (n : Nat) (h0 : Nat) (z1 : Int64) (x3 : Int32) (x4 : Int32) (μ : MM) (res : Int64 × MM), lX6_digest_96 kk82 n h0 z1 x3 x4 μ = some res → mmKN μ res.2 := by
  intro n
  induction n with
  | zero => intro h0 z1 x3 x4 μ res hf; cases hf
  | succ n ih => intro h0 z1 x3 x4 μ res hf; exact knbX6_digest_96 kk82 hkk82 _ ih h0 z1 x3 x4 μ res hf
set_option maxRecDepth 100000 in
set_option maxHeartbeats 4000000 in
theorem knbX6_digest_82 (kk82 : Nat → Int64 → Int32 → MM → Option (Int64 × MM)) (hkk82 : ∀ (h0 : Nat) (z1 : Int64) (x3 : Int32) (μ : MM) (res : Int64 × MM), kk82 h0 z1 x3 μ = some res → mmKN μ res.2) : ∀ (h0 : Nat) (z1 : Int64) (x3 : Int32) (μ : MM) (res : Int64 × MM), bX6_digest_82 kk82 h0 z1 x3 μ = some res → mmKN μ res.2 := by
  intro h0 z1 x3 μ res hf
  have hK : mmKN μ μ := mmKN.rf
  unfold bX6_digest_82 at hf
  obtain ⟨g1, hf⟩ := gd hf
  obtain ⟨g2, hf⟩ := gd hf
  rcases it_or hf with ⟨c3, hf⟩ | ⟨c3, hf⟩
  · skip
    obtain ⟨y4, hy4, hf⟩ := bd hf
    obtain ⟨g5, hf⟩ := gd hf
    have hK : mmKN μ y4.2.2 := hK.tr (kX6_overIn_kn hy4)
    obtain rfl := Option.some.inj hf
    exact hK
  · skip
    exact hK.tr (knlX6_digest_96 kk82 hkk82 FU h0 z1 x3 0 μ _ hf)
theorem knlX6_digest_82  : ∀ (n : Nat) (h0 : Nat) (z1 : Int64) (x3 : Int32) (μ : MM) (res : Int64 × MM), lX6_digest_82  n h0 z1 x3 μ = some res → mmKN μ res.2 := by
  intro n
  induction n with
  | zero => intro h0 z1 x3 μ res hf; cases hf
  | succ n ih => intro h0 z1 x3 μ res hf; exact knbX6_digest_82  _ ih h0 z1 x3 μ res hf
set_option maxRecDepth 100000 in
set_option maxHeartbeats 4000000 in
theorem knbX6_digest_47 (kk33 : Nat → Int64 → Int32 → MM → Option (Int64 × MM)) (hkk33 : ∀ (h0 : Nat) (z1 : Int64) (x3 : Int32) (μ : MM) (res : Int64 × MM), kk33 h0 z1 x3 μ = some res → mmKN μ res.2) (kk47 : Nat → Int64 → Int32 → Int32 → MM → Option (Int64 × MM)) (hkk47 : ∀ (h0 : Nat) (z1 : Int64) (x3 : Int32) (x4 : Int32) (μ : MM) (res : Int64 × MM), kk47 h0 z1 x3 x4 μ = some res → mmKN μ res.2) : ∀ (h0 : Nat) (z1 : Int64) (x3 : Int32) (x4 : Int32) (μ : MM) (res : Int64 × MM), bX6_digest_47 kk33 kk47 h0 z1 x3 x4 μ = some res → mmKN μ res.2 := by
  intro h0 z1 x3 x4 μ res hf
  have hK : mmKN μ μ := mmKN.rf
  unfold bX6_digest_47 at hf
  rcases it_or hf with ⟨c1, hf⟩ | ⟨c1, hf⟩
  · skip
    exact hK.tr (hkk33 h0 z1 (x3 + 1) μ _ hf)
  · skip
    obtain ⟨g4, hf⟩ := gd hf
    obtain ⟨y2, hy2, hf⟩ := bd hf
    obtain ⟨g3, hf⟩ := gd hf
    have hK : mmKN μ y2.2.2 := hK.tr (kX6_ofBody_kn hy2)
    exact hK.tr (hkk47 h0 ((z1 * (31 : Int64)) + ((y2.2.1).toInt64)) x3 (x4 + 1) y2.2.2 _ hf)
theorem knlX6_digest_47 (kk33 : Nat → Int64 → Int32 → MM → Option (Int64 × MM)) (hkk33 : ∀ (h0 : Nat) (z1 : Int64) (x3 : Int32) (μ : MM) (res : Int64 × MM), kk33 h0 z1 x3 μ = some res → mmKN μ res.2) : ∀ (n : Nat) (h0 : Nat) (z1 : Int64) (x3 : Int32) (x4 : Int32) (μ : MM) (res : Int64 × MM), lX6_digest_47 kk33 n h0 z1 x3 x4 μ = some res → mmKN μ res.2 := by
  intro n
  induction n with
  | zero => intro h0 z1 x3 x4 μ res hf; cases hf
  | succ n ih => intro h0 z1 x3 x4 μ res hf; exact knbX6_digest_47 kk33 hkk33 _ ih h0 z1 x3 x4 μ res hf
set_option maxRecDepth 100000 in
set_option maxHeartbeats 4000000 in
theorem knbX6_digest_33 (kk33 : Nat → Int64 → Int32 → MM → Option (Int64 × MM)) (hkk33 : ∀ (h0 : Nat) (z1 : Int64) (x3 : Int32) (μ : MM) (res : Int64 × MM), kk33 h0 z1 x3 μ = some res → mmKN μ res.2) : ∀ (h0 : Nat) (z1 : Int64) (x3 : Int32) (μ : MM) (res : Int64 × MM), bX6_digest_33 kk33 h0 z1 x3 μ = some res → mmKN μ res.2 := by
  intro h0 z1 x3 μ res hf
  have hK : mmKN μ μ := mmKN.rf
  unfold bX6_digest_33 at hf
  obtain ⟨g1, hf⟩ := gd hf
  obtain ⟨g2, hf⟩ := gd hf
  rcases it_or hf with ⟨c3, hf⟩ | ⟨c3, hf⟩
  · skip
    exact hK.tr (knlX6_digest_82  FU h0 z1 0 μ _ hf)
  · skip
    exact hK.tr (knlX6_digest_47 kk33 hkk33 FU h0 z1 x3 0 μ _ hf)
theorem knlX6_digest_33  : ∀ (n : Nat) (h0 : Nat) (z1 : Int64) (x3 : Int32) (μ : MM) (res : Int64 × MM), lX6_digest_33  n h0 z1 x3 μ = some res → mmKN μ res.2 := by
  intro n
  induction n with
  | zero => intro h0 z1 x3 μ res hf; cases hf
  | succ n ih => intro h0 z1 x3 μ res hf; exact knbX6_digest_33  _ ih h0 z1 x3 μ res hf
set_option maxRecDepth 100000 in
set_option maxHeartbeats 4000000 in
theorem knbX6_digest_6 (kk6 : Nat → Int64 → Int32 → MM → Option (Int64 × MM)) (hkk6 : ∀ (h0 : Nat) (z1 : Int64) (x3 : Int32) (μ : MM) (res : Int64 × MM), kk6 h0 z1 x3 μ = some res → mmKN μ res.2) : ∀ (h0 : Nat) (z1 : Int64) (x3 : Int32) (μ : MM) (res : Int64 × MM), bX6_digest_6 kk6 h0 z1 x3 μ = some res → mmKN μ res.2 := by
  intro h0 z1 x3 μ res hf
  have hK : mmKN μ μ := mmKN.rf
  unfold bX6_digest_6 at hf
  rcases it_or hf with ⟨c1, hf⟩ | ⟨c1, hf⟩
  · skip
    exact hK.tr (knlX6_digest_33  FU h0 z1 0 μ _ hf)
  · skip
    obtain ⟨g4, hf⟩ := gd hf
    obtain ⟨y2, hy2, hf⟩ := bd hf
    obtain ⟨g3, hf⟩ := gd hf
    have hK : mmKN μ y2.2.2 := hK.tr (kX6_many_kn hy2)
    exact hK.tr (hkk6 h0 ((z1 * (31 : Int64)) + ((y2.2.1).toInt64)) (x3 + 1) y2.2.2 _ hf)
theorem knlX6_digest_6  : ∀ (n : Nat) (h0 : Nat) (z1 : Int64) (x3 : Int32) (μ : MM) (res : Int64 × MM), lX6_digest_6  n h0 z1 x3 μ = some res → mmKN μ res.2 := by
  intro n
  induction n with
  | zero => intro h0 z1 x3 μ res hf; cases hf
  | succ n ih => intro h0 z1 x3 μ res hf; exact knbX6_digest_6  _ ih h0 z1 x3 μ res hf
set_option maxRecDepth 100000 in
set_option maxHeartbeats 4000000 in
theorem kX6_digest_kn {μ : MM} {res : Int64 × MM} {h0 : Nat} (hf : fX6_digest h0 μ = some res) : mmKN μ res.2 := by
  have hK : mmKN μ μ := mmKN.rf
  unfold fX6_digest at hf
  exact hK.tr (knlX6_digest_6  FU h0 (7603 : Int64) 0 μ _ hf)
abbrev rmX6_digest : Room := { frames := 7, cells := 0, slots := 0, locals := 167 }
set_option maxRecDepth 100000 in
set_option maxHeartbeats 4000000 in
theorem wbX6_digest_250 {p : Program} {l : Launch} {e : Env} {s : State} {m : MethodId} {args : Array Value} {below : List Frame} {meth : Method} {c : Code} {G : mmG} {A : Nat → Prop} {res : Int64 × MM} (E0 : mmEnv p m c cX6_digest 5 s args RX6 G A meth (some (.long))) (kk82 : Nat → Int64 → Int32 → MM → Option (Int64 × MM)) (hkk82 : ∀ (h0 : Nat) (z1 : Int64) (x3 : Int32) (μ : MM), kk82 h0 z1 x3 μ = some res → mmGoal p l e rmX6_digest s m args below meth c G A 82 5 [(0, rf h0), (1, .long z1), (3, .int x3)] μ (mmQ G A res.2 (some (.long res.1)))) (kk250 : Nat → Int64 → Int32 → Int32 → MM → Option (Int64 × MM)) (hkk250 : ∀ (h0 : Nat) (z1 : Int64) (x3 : Int32) (x4 : Int32) (μ : MM), kk250 h0 z1 x3 x4 μ = some res → mmGoal p l e rmX6_digest s m args below meth c G A 250 5 [(0, rf h0), (1, .long z1), (3, .int x3), (4, .int x4)] μ (mmQ G A res.2 (some (.long res.1)))) : ∀ (h0 : Nat) (z1 : Int64) (x3 : Int32) (x4 : Int32) (μ : MM), bX6_digest_250 kk82 kk250 h0 z1 x3 x4 μ = some res → mmGoal p l e rmX6_digest s m args below meth c G A 250 5 [(0, rf h0), (1, .long z1), (3, .int x3), (4, .int x4)] μ (mmQ G A res.2 (some (.long res.1))) := by
  obtain ⟨S, hA, hr, hlocks⟩ := id E0
  intro h0 z1 x3 x4 μ hf H locs ls hR hS hl
  have hK : mmKN μ μ := mmKN.rf
  unfold bX6_digest_250 at hf
  refine lv_iload S.1 S.2.1 dX6_digest_250 (lv_at hl 3 rfl) ?_
  refine lv_bipush (v := 6) S.1 S.2.1 dX6_digest_252 (by decide) ?_
  refine lv_icmp_gt (tgt := 278) S.1 S.2.1 dX6_digest_254 (by decide) (fun c1 => ?_) (fun c1 => ?_)
  · have hf := it_t hf c1
    refine lv_iinc (v := (x3 + 1)) (lv' := [(3, .int (x3 + 1)), (0, rf h0), (1, .long z1), (4, .int x4)]) S.1 S.2.1 dX6_digest_278 hl (k := 2) rfl (by rfl) (by decide) rfl (fun ls hl => ?_)
    refine lv_goto (tgt := 82) S.1 S.2.1 dX6_digest_281 (by decide) ?_
    exact hkk82 h0 z1 (x3 + 1) μ hf _ _ _ hR hS (lv_sub hl [1, 2, 0] rfl)
  · have hf := it_f hf c1
    refine lv_lload_n S.1 S.2.1 dX6_digest_257 rfl (lv_at hl 1 rfl) ?_
    refine lv_ldc2 (v := 31) S.1 S.2.1 S.2.2.2.1 (S.2.2.2.2.1 _ klX6_251) dX6_digest_258 ?_
    refine lv_lmul S.1 S.2.1 dX6_digest_261 ?_
    refine mm_aload_n S dX6_digest_262 rfl (lv_at hl 0 rfl) ?_
    refine lv_iload_n S.1 S.2.1 dX6_digest_263 rfl (lv_at hl 2 rfl) ?_
    refine lv_iload S.1 S.2.1 dX6_digest_264 (lv_at hl 3 rfl) ?_
    obtain ⟨g4, hf⟩ := gd hf
    obtain ⟨y2, hy2, hf⟩ := bd hf
    obtain ⟨g3, hf⟩ := gd hf
    refine mm_callVi S hR hS hA (As := [.int x3, .int x4]) (rest := [.long (z1 * (31 : Int64))]) cvX6_273 (hK.k g4) (kX6_ofTask_c l G A (hK.k g4) hy2 g3) rfl rfl ⟨Nat.le_of_ble_eq_true rfl, Nat.le_of_ble_eq_true rfl⟩ rfl hl.1 rfl (lv_room (by simp [rf_cat, int_cat, long_cat])) dX6_digest_266 ⟨Nat.zero_le _, Nat.zero_le _⟩ (fun H locs hR hS => ?_)
    have hK : mmKN μ y2.2.2 := hK.tr (kX6_ofTask_kn hy2)
    refine lv_i2l (v := (y2.2.1).toInt64) S.1 S.2.1 dX6_digest_269 rfl ?_
    refine lv_ladd S.1 S.2.1 dX6_digest_270 ?_
    refine lv_lstore_n (i := 1) (lv' := [(1, .long ((z1 * (31 : Int64)) + ((y2.2.1).toInt64))), (0, rf h0), (3, .int x3), (4, .int x4)]) S.1 S.2.1 dX6_digest_271 rfl hl (by decide) (by simp [rf_cat, int_cat, long_cat]) (fun ls hl => ?_)
    refine lv_iinc (v := (x4 + 1)) (lv' := [(4, .int (x4 + 1)), (1, .long ((z1 * (31 : Int64)) + ((y2.2.1).toInt64))), (0, rf h0), (3, .int x3)]) S.1 S.2.1 dX6_digest_272 hl (k := 3) rfl (by rfl) (by decide) rfl (fun ls hl => ?_)
    refine lv_goto (tgt := 250) S.1 S.2.1 dX6_digest_275 (by decide) ?_
    exact hkk250 h0 ((z1 * (31 : Int64)) + ((y2.2.1).toInt64)) x3 (x4 + 1) y2.2.2 hf _ _ _ hR hS (lv_sub hl [2, 1, 3, 0] rfl)
theorem wlX6_digest_250 {p : Program} {l : Launch} {e : Env} {s : State} {m : MethodId} {args : Array Value} {below : List Frame} {meth : Method} {c : Code} {G : mmG} {A : Nat → Prop} {res : Int64 × MM} (E0 : mmEnv p m c cX6_digest 5 s args RX6 G A meth (some (.long))) (kk82 : Nat → Int64 → Int32 → MM → Option (Int64 × MM)) (hkk82 : ∀ (h0 : Nat) (z1 : Int64) (x3 : Int32) (μ : MM), kk82 h0 z1 x3 μ = some res → mmGoal p l e rmX6_digest s m args below meth c G A 82 5 [(0, rf h0), (1, .long z1), (3, .int x3)] μ (mmQ G A res.2 (some (.long res.1)))) : ∀ (n : Nat) (h0 : Nat) (z1 : Int64) (x3 : Int32) (x4 : Int32) (μ : MM), lX6_digest_250 kk82 n h0 z1 x3 x4 μ = some res → mmGoal p l e rmX6_digest s m args below meth c G A 250 5 [(0, rf h0), (1, .long z1), (3, .int x3), (4, .int x4)] μ (mmQ G A res.2 (some (.long res.1))) := by
  intro n
  induction n with
  | zero => intro h0 z1 x3 x4 μ hf; cases hf
  | succ n ih => intro h0 z1 x3 x4 μ hf; exact wbX6_digest_250 E0 kk82 hkk82 _ ih h0 z1 x3 x4 μ hf
set_option maxRecDepth 100000 in
set_option maxHeartbeats 4000000 in
theorem wbX6_digest_157 {p : Program} {l : Launch} {e : Env} {s : State} {m : MethodId} {args : Array Value} {below : List Frame} {meth : Method} {c : Code} {G : mmG} {A : Nat → Prop} {res : Int64 × MM} (E0 : mmEnv p m c cX6_digest 5 s args RX6 G A meth (some (.long))) (kk82 : Nat → Int64 → Int32 → MM → Option (Int64 × MM)) (hkk82 : ∀ (h0 : Nat) (z1 : Int64) (x3 : Int32) (μ : MM), kk82 h0 z1 x3 μ = some res → mmGoal p l e rmX6_digest s m args below meth c G A 82 5 [(0, rf h0), (1, .long z1), (3, .int x3)] μ (mmQ G A res.2 (some (.long res.1)))) (kk157 : Nat → Int64 → Int32 → Int32 → MM → Option (Int64 × MM)) (hkk157 : ∀ (h0 : Nat) (z1 : Int64) (x3 : Int32) (x4 : Int32) (μ : MM), kk157 h0 z1 x3 x4 μ = some res → mmGoal p l e rmX6_digest s m args below meth c G A 157 5 [(0, rf h0), (1, .long z1), (3, .int x3), (4, .int x4)] μ (mmQ G A res.2 (some (.long res.1)))) : ∀ (h0 : Nat) (z1 : Int64) (x3 : Int32) (x4 : Int32) (μ : MM), bX6_digest_157 kk82 kk157 h0 z1 x3 x4 μ = some res → mmGoal p l e rmX6_digest s m args below meth c G A 157 5 [(0, rf h0), (1, .long z1), (3, .int x3), (4, .int x4)] μ (mmQ G A res.2 (some (.long res.1))) := by
  obtain ⟨S, hA, hr, hlocks⟩ := id E0
  intro h0 z1 x3 x4 μ hf H locs ls hR hS hl
  have hK : mmKN μ μ := mmKN.rf
  unfold bX6_digest_157 at hf
  refine lv_iload S.1 S.2.1 dX6_digest_157 (lv_at hl 3 rfl) ?_
  refine mm_aload_n S dX6_digest_159 rfl (lv_at hl 0 rfl) ?_
  obtain ⟨g1, hf⟩ := gd hf
  refine mm_getp S hR fdX6_21 (hK.k g1) rfl dX6_digest_160 ?_
  refine lv_iload_n S.1 S.2.1 dX6_digest_163 rfl (lv_at hl 2 rfl) ?_
  obtain ⟨g3, hf⟩ := gd hf
  obtain ⟨y2, hy2, hf⟩ := bd hf
  refine mm_callVh S hR hS hA (As := [.int x3]) (rest := [.int x4]) cvX6_110 (hK.k g3) (kX3_at_c l G A (hK.k g3) hy2) rfl rfl ⟨Nat.le_of_ble_eq_true rfl, Nat.le_of_ble_eq_true rfl⟩ rfl hl.1 rfl (lv_room (by simp [rf_cat, int_cat, long_cat])) dX6_digest_164 ⟨Nat.zero_le _, Nat.zero_le _⟩ (fun H locs hR hS => ?_)
  have hK : mmKN μ y2.2 := hK.tr (kX3_at_kn hy2)
  obtain ⟨g4, hf⟩ := gd hf
  refine mm_getp S hR fdX6_165 (hK.k g4) rfl dX6_digest_167 ?_
  obtain ⟨g5, hf⟩ := gd hf
  refine mm_geti S hR fdX6_169 (hK.k g5) rfl dX6_digest_170 ?_
  refine lv_icmp_ge (tgt := 197) S.1 S.2.1 dX6_digest_173 (by decide) (fun c6 => ?_) (fun c6 => ?_)
  · have hf := it_t hf c6
    refine mm_aload_n S dX6_digest_197 rfl (lv_at hl 0 rfl) ?_
    refine mm_getp S hR fdX6_21 (hK.k g1) rfl dX6_digest_198 ?_
    refine lv_iload_n S.1 S.2.1 dX6_digest_201 rfl (lv_at hl 2 rfl) ?_
    refine lv_iconst (v := 0) S.1 S.2.1 dX6_digest_202 (by decide) ?_
    obtain ⟨g8, hf⟩ := gd hf
    obtain ⟨y7, hy7, hf⟩ := bd hf
    refine mm_callVi S hR hS hA (As := [.int x3, .int 0]) (rest := []) cvX6_100 (hK.k g8) (kX3_has_c l G A (hK.k g8) hy7) rfl rfl ⟨Nat.le_of_ble_eq_true rfl, Nat.le_of_ble_eq_true rfl⟩ rfl hl.1 rfl (lv_room (by simp [rf_cat, int_cat, long_cat])) dX6_digest_203 ⟨Nat.zero_le _, Nat.zero_le _⟩ (fun H locs hR hS => ?_)
    have hK : mmKN μ y7.2 := hK.tr (kX3_has_kn hy7)
    refine lv_if_eq (tgt := 235) S.1 S.2.1 dX6_digest_206 (by decide) (fun c9 => ?_) (fun c9 => ?_)
    · have hf := it_t hf c9
      refine mm_aload_n S dX6_digest_235 rfl (lv_at hl 0 rfl) ?_
      refine mm_getp S hR fdX6_21 (hK.k g1) rfl dX6_digest_236 ?_
      refine lv_iload_n S.1 S.2.1 dX6_digest_239 rfl (lv_at hl 2 rfl) ?_
      refine lv_iconst (v := 1) S.1 S.2.1 dX6_digest_240 (by decide) ?_
      obtain ⟨g11, hf⟩ := gd hf
      obtain ⟨y10, hy10, hf⟩ := bd hf
      refine mm_callVi S hR hS hA (As := [.int x3, .int 1]) (rest := []) cvX6_100 (hK.k g11) (kX3_has_c l G A (hK.k g11) hy10) rfl rfl ⟨Nat.le_of_ble_eq_true rfl, Nat.le_of_ble_eq_true rfl⟩ rfl hl.1 rfl (lv_room (by simp [rf_cat, int_cat, long_cat])) dX6_digest_241 ⟨Nat.zero_le _, Nat.zero_le _⟩ (fun H locs hR hS => ?_)
      have hK : mmKN μ y10.2 := hK.tr (kX3_has_kn hy10)
      refine lv_if_eq (tgt := 278) S.1 S.2.1 dX6_digest_244 (by decide) (fun c12 => ?_) (fun c12 => ?_)
      · have hf := it_t hf c12
        refine lv_iinc (v := (x3 + 1)) (lv' := [(3, .int (x3 + 1)), (0, rf h0), (1, .long z1), (4, .int x4)]) S.1 S.2.1 dX6_digest_278 hl (k := 2) rfl (by rfl) (by decide) rfl (fun ls hl => ?_)
        refine lv_goto (tgt := 82) S.1 S.2.1 dX6_digest_281 (by decide) ?_
        exact hkk82 h0 z1 (x3 + 1) y10.2 hf _ _ _ hR hS (lv_sub hl [1, 2, 0] rfl)
      · have hf := it_f hf c12
        refine lv_iconst (v := 0) S.1 S.2.1 dX6_digest_247 (by decide) ?_
        refine lv_istore (i := 4) (lv' := [(4, .int 0), (0, rf h0), (1, .long z1), (3, .int x3)]) S.1 S.2.1 dX6_digest_248 hl (by decide) rfl (fun ls hl => ?_)
        exact wlX6_digest_250 E0 kk82 hkk82 FU h0 z1 x3 0 y10.2 hf _ _ _ hR hS (lv_sub hl [1, 2, 3, 0] rfl)
    · have hf := it_f hf c9
      refine lv_lload_n S.1 S.2.1 dX6_digest_209 rfl (lv_at hl 1 rfl) ?_
      refine lv_ldc2 (v := 31) S.1 S.2.1 S.2.2.2.1 (S.2.2.2.2.1 _ klX6_251) dX6_digest_210 ?_
      refine lv_lmul S.1 S.2.1 dX6_digest_213 ?_
      refine mm_aload_n S dX6_digest_214 rfl (lv_at hl 0 rfl) ?_
      refine lv_iload_n S.1 S.2.1 dX6_digest_215 rfl (lv_at hl 2 rfl) ?_
      obtain ⟨y13, hy13, hf⟩ := bd hf
      obtain ⟨g14, hf⟩ := gd hf
      refine mm_callVi S hR hS hA (As := [.int x3]) (rest := [.long (z1 * (31 : Int64))]) cvX6_267 (hK.k g1) (kX6_left_c l G A (hK.k g1) hy13 g14) rfl rfl ⟨Nat.le_of_ble_eq_true rfl, Nat.le_of_ble_eq_true rfl⟩ rfl hl.1 rfl (lv_room (by simp [rf_cat, int_cat, long_cat])) dX6_digest_216 ⟨Nat.zero_le _, Nat.zero_le _⟩ (fun H locs hR hS => ?_)
      have hK : mmKN μ y13.2.2 := hK.tr (kX6_left_kn hy13)
      refine lv_i2l (v := (y13.2.1).toInt64) S.1 S.2.1 dX6_digest_219 rfl ?_
      refine lv_ladd S.1 S.2.1 dX6_digest_220 ?_
      refine lv_lstore_n (i := 1) (lv' := [(1, .long ((z1 * (31 : Int64)) + ((y13.2.1).toInt64))), (0, rf h0), (3, .int x3), (4, .int x4)]) S.1 S.2.1 dX6_digest_221 rfl hl (by decide) (by simp [rf_cat, int_cat, long_cat]) (fun ls hl => ?_)
      refine lv_lload_n S.1 S.2.1 dX6_digest_222 rfl (lv_at hl 0 rfl) ?_
      refine lv_ldc2 (v := 31) S.1 S.2.1 S.2.2.2.1 (S.2.2.2.2.1 _ klX6_251) dX6_digest_223 ?_
      refine lv_lmul S.1 S.2.1 dX6_digest_226 ?_
      refine mm_aload_n S dX6_digest_227 rfl (lv_at hl 1 rfl) ?_
      refine lv_iload_n S.1 S.2.1 dX6_digest_228 rfl (lv_at hl 2 rfl) ?_
      obtain ⟨y15, hy15, hf⟩ := bd hf
      obtain ⟨g16, hf⟩ := gd hf
      refine mm_callVi S hR hS hA (As := [.int x3]) (rest := [.long (((z1 * (31 : Int64)) + ((y13.2.1).toInt64)) * (31 : Int64))]) cvX6_270 (hK.k g1) (kX6_wouldClose_c l G A (hK.k g1) hy15 g16) rfl rfl ⟨Nat.le_of_ble_eq_true rfl, Nat.le_of_ble_eq_true rfl⟩ rfl hl.1 rfl (lv_room (by simp [rf_cat, int_cat, long_cat])) dX6_digest_229 ⟨Nat.zero_le _, Nat.zero_le _⟩ (fun H locs hR hS => ?_)
      have hK : mmKN μ y15.2.2 := hK.tr (kX6_wouldClose_kn hy15)
      refine lv_i2l (v := (y15.2.1).toInt64) S.1 S.2.1 dX6_digest_232 rfl ?_
      refine lv_ladd S.1 S.2.1 dX6_digest_233 ?_
      refine lv_lstore_n (i := 1) (lv' := [(1, .long ((((z1 * (31 : Int64)) + ((y13.2.1).toInt64)) * (31 : Int64)) + ((y15.2.1).toInt64))), (0, rf h0), (3, .int x3), (4, .int x4)]) S.1 S.2.1 dX6_digest_234 rfl hl (by decide) (by simp [rf_cat, int_cat, long_cat]) (fun ls hl => ?_)
      refine mm_aload_n S dX6_digest_235 rfl (lv_at hl 1 rfl) ?_
      refine mm_getp S hR fdX6_21 (hK.k g1) rfl dX6_digest_236 ?_
      refine lv_iload_n S.1 S.2.1 dX6_digest_239 rfl (lv_at hl 2 rfl) ?_
      refine lv_iconst (v := 1) S.1 S.2.1 dX6_digest_240 (by decide) ?_
      obtain ⟨g18, hf⟩ := gd hf
      obtain ⟨y17, hy17, hf⟩ := bd hf
      refine mm_callVi S hR hS hA (As := [.int x3, .int 1]) (rest := []) cvX6_100 (hK.k g18) (kX3_has_c l G A (hK.k g18) hy17) rfl rfl ⟨Nat.le_of_ble_eq_true rfl, Nat.le_of_ble_eq_true rfl⟩ rfl hl.1 rfl (lv_room (by simp [rf_cat, int_cat, long_cat])) dX6_digest_241 ⟨Nat.zero_le _, Nat.zero_le _⟩ (fun H locs hR hS => ?_)
      have hK : mmKN μ y17.2 := hK.tr (kX3_has_kn hy17)
      refine lv_if_eq (tgt := 278) S.1 S.2.1 dX6_digest_244 (by decide) (fun c19 => ?_) (fun c19 => ?_)
      · have hf := it_t hf c19
        refine lv_iinc (v := (x3 + 1)) (lv' := [(3, .int (x3 + 1)), (1, .long ((((z1 * (31 : Int64)) + ((y13.2.1).toInt64)) * (31 : Int64)) + ((y15.2.1).toInt64))), (0, rf h0), (4, .int x4)]) S.1 S.2.1 dX6_digest_278 hl (k := 2) rfl (by rfl) (by decide) rfl (fun ls hl => ?_)
        refine lv_goto (tgt := 82) S.1 S.2.1 dX6_digest_281 (by decide) ?_
        exact hkk82 h0 ((((z1 * (31 : Int64)) + ((y13.2.1).toInt64)) * (31 : Int64)) + ((y15.2.1).toInt64)) (x3 + 1) y17.2 hf _ _ _ hR hS (lv_sub hl [2, 1, 0] rfl)
      · have hf := it_f hf c19
        refine lv_iconst (v := 0) S.1 S.2.1 dX6_digest_247 (by decide) ?_
        refine lv_istore (i := 4) (lv' := [(4, .int 0), (1, .long ((((z1 * (31 : Int64)) + ((y13.2.1).toInt64)) * (31 : Int64)) + ((y15.2.1).toInt64))), (0, rf h0), (3, .int x3)]) S.1 S.2.1 dX6_digest_248 hl (by decide) rfl (fun ls hl => ?_)
        exact wlX6_digest_250 E0 kk82 hkk82 FU h0 ((((z1 * (31 : Int64)) + ((y13.2.1).toInt64)) * (31 : Int64)) + ((y15.2.1).toInt64)) x3 0 y17.2 hf _ _ _ hR hS (lv_sub hl [2, 1, 3, 0] rfl)
  · have hf := it_f hf c6
    refine lv_lload_n S.1 S.2.1 dX6_digest_176 rfl (lv_at hl 1 rfl) ?_
    refine lv_ldc2 (v := 31) S.1 S.2.1 S.2.2.2.1 (S.2.2.2.2.1 _ klX6_251) dX6_digest_177 ?_
    refine lv_lmul S.1 S.2.1 dX6_digest_180 ?_
    refine mm_aload_n S dX6_digest_181 rfl (lv_at hl 0 rfl) ?_
    refine lv_iload_n S.1 S.2.1 dX6_digest_182 rfl (lv_at hl 2 rfl) ?_
    refine lv_iload S.1 S.2.1 dX6_digest_183 (lv_at hl 3 rfl) ?_
    obtain ⟨y20, hy20, hf⟩ := bd hf
    obtain ⟨g21, hf⟩ := gd hf
    refine mm_callVi S hR hS hA (As := [.int x3, .int x4]) (rest := [.long (z1 * (31 : Int64))]) cvX6_265 (hK.k g1) (kX6_stack_c l G A (hK.k g1) hy20 g21) rfl rfl ⟨Nat.le_of_ble_eq_true rfl, Nat.le_of_ble_eq_true rfl⟩ rfl hl.1 rfl (lv_room (by simp [rf_cat, int_cat, long_cat])) dX6_digest_185 ⟨Nat.zero_le _, Nat.zero_le _⟩ (fun H locs hR hS => ?_)
    have hK : mmKN μ y20.2.2 := hK.tr (kX6_stack_kn hy20)
    refine lv_i2l (v := (y20.2.1).toInt64) S.1 S.2.1 dX6_digest_188 rfl ?_
    refine lv_ladd S.1 S.2.1 dX6_digest_189 ?_
    refine lv_lstore_n (i := 1) (lv' := [(1, .long ((z1 * (31 : Int64)) + ((y20.2.1).toInt64))), (0, rf h0), (3, .int x3), (4, .int x4)]) S.1 S.2.1 dX6_digest_190 rfl hl (by decide) (by simp [rf_cat, int_cat, long_cat]) (fun ls hl => ?_)
    refine lv_iinc (v := (x4 + 1)) (lv' := [(4, .int (x4 + 1)), (1, .long ((z1 * (31 : Int64)) + ((y20.2.1).toInt64))), (0, rf h0), (3, .int x3)]) S.1 S.2.1 dX6_digest_191 hl (k := 3) rfl (by rfl) (by decide) rfl (fun ls hl => ?_)
    refine lv_goto (tgt := 157) S.1 S.2.1 dX6_digest_194 (by decide) ?_
    exact hkk157 h0 ((z1 * (31 : Int64)) + ((y20.2.1).toInt64)) x3 (x4 + 1) y20.2.2 hf _ _ _ hR hS (lv_sub hl [2, 1, 3, 0] rfl)
theorem wlX6_digest_157 {p : Program} {l : Launch} {e : Env} {s : State} {m : MethodId} {args : Array Value} {below : List Frame} {meth : Method} {c : Code} {G : mmG} {A : Nat → Prop} {res : Int64 × MM} (E0 : mmEnv p m c cX6_digest 5 s args RX6 G A meth (some (.long))) (kk82 : Nat → Int64 → Int32 → MM → Option (Int64 × MM)) (hkk82 : ∀ (h0 : Nat) (z1 : Int64) (x3 : Int32) (μ : MM), kk82 h0 z1 x3 μ = some res → mmGoal p l e rmX6_digest s m args below meth c G A 82 5 [(0, rf h0), (1, .long z1), (3, .int x3)] μ (mmQ G A res.2 (some (.long res.1)))) : ∀ (n : Nat) (h0 : Nat) (z1 : Int64) (x3 : Int32) (x4 : Int32) (μ : MM), lX6_digest_157 kk82 n h0 z1 x3 x4 μ = some res → mmGoal p l e rmX6_digest s m args below meth c G A 157 5 [(0, rf h0), (1, .long z1), (3, .int x3), (4, .int x4)] μ (mmQ G A res.2 (some (.long res.1))) := by
  intro n
  induction n with
  | zero => intro h0 z1 x3 x4 μ hf; cases hf
  | succ n ih => intro h0 z1 x3 x4 μ hf; exact wbX6_digest_157 E0 kk82 hkk82 _ ih h0 z1 x3 x4 μ hf
set_option maxRecDepth 100000 in
set_option maxHeartbeats 4000000 in
theorem wbX6_digest_127 {p : Program} {l : Launch} {e : Env} {s : State} {m : MethodId} {args : Array Value} {below : List Frame} {meth : Method} {c : Code} {G : mmG} {A : Nat → Prop} {res : Int64 × MM} (E0 : mmEnv p m c cX6_digest 5 s args RX6 G A meth (some (.long))) (kk82 : Nat → Int64 → Int32 → MM → Option (Int64 × MM)) (hkk82 : ∀ (h0 : Nat) (z1 : Int64) (x3 : Int32) (μ : MM), kk82 h0 z1 x3 μ = some res → mmGoal p l e rmX6_digest s m args below meth c G A 82 5 [(0, rf h0), (1, .long z1), (3, .int x3)] μ (mmQ G A res.2 (some (.long res.1)))) (kk127 : Nat → Int64 → Int32 → Int32 → MM → Option (Int64 × MM)) (hkk127 : ∀ (h0 : Nat) (z1 : Int64) (x3 : Int32) (x4 : Int32) (μ : MM), kk127 h0 z1 x3 x4 μ = some res → mmGoal p l e rmX6_digest s m args below meth c G A 127 5 [(0, rf h0), (1, .long z1), (3, .int x3), (4, .int x4)] μ (mmQ G A res.2 (some (.long res.1)))) : ∀ (h0 : Nat) (z1 : Int64) (x3 : Int32) (x4 : Int32) (μ : MM), bX6_digest_127 kk82 kk127 h0 z1 x3 x4 μ = some res → mmGoal p l e rmX6_digest s m args below meth c G A 127 5 [(0, rf h0), (1, .long z1), (3, .int x3), (4, .int x4)] μ (mmQ G A res.2 (some (.long res.1))) := by
  obtain ⟨S, hA, hr, hlocks⟩ := id E0
  intro h0 z1 x3 x4 μ hf H locs ls hR hS hl
  have hK : mmKN μ μ := mmKN.rf
  unfold bX6_digest_127 at hf
  refine lv_iload S.1 S.2.1 dX6_digest_127 (lv_at hl 3 rfl) ?_
  refine lv_iconst (v := 4) S.1 S.2.1 dX6_digest_129 (by decide) ?_
  refine lv_icmp_ge (tgt := 154) S.1 S.2.1 dX6_digest_130 (by decide) (fun c1 => ?_) (fun c1 => ?_)
  · have hf := it_t hf c1
    refine lv_iconst (v := 0) S.1 S.2.1 dX6_digest_154 (by decide) ?_
    refine lv_istore (i := 4) (lv' := [(4, .int 0), (0, rf h0), (1, .long z1), (3, .int x3)]) S.1 S.2.1 dX6_digest_155 hl (by decide) rfl (fun ls hl => ?_)
    exact wlX6_digest_157 E0 kk82 hkk82 FU h0 z1 x3 0 μ hf _ _ _ hR hS (lv_sub hl [1, 2, 3, 0] rfl)
  · have hf := it_f hf c1
    refine lv_lload_n S.1 S.2.1 dX6_digest_133 rfl (lv_at hl 1 rfl) ?_
    refine lv_ldc2 (v := 31) S.1 S.2.1 S.2.2.2.1 (S.2.2.2.2.1 _ klX6_251) dX6_digest_134 ?_
    refine lv_lmul S.1 S.2.1 dX6_digest_137 ?_
    refine mm_aload_n S dX6_digest_138 rfl (lv_at hl 0 rfl) ?_
    refine lv_iload_n S.1 S.2.1 dX6_digest_139 rfl (lv_at hl 2 rfl) ?_
    refine lv_iload S.1 S.2.1 dX6_digest_140 (lv_at hl 3 rfl) ?_
    obtain ⟨g4, hf⟩ := gd hf
    obtain ⟨y2, hy2, hf⟩ := bd hf
    obtain ⟨g3, hf⟩ := gd hf
    refine mm_callVi S hR hS hA (As := [.int x3, .int x4]) (rest := [.long (z1 * (31 : Int64))]) cvX6_262 (hK.k g4) (kX6_local_c l G A (hK.k g4) hy2 g3) rfl rfl ⟨Nat.le_of_ble_eq_true rfl, Nat.le_of_ble_eq_true rfl⟩ rfl hl.1 rfl (lv_room (by simp [rf_cat, int_cat, long_cat])) dX6_digest_142 ⟨Nat.zero_le _, Nat.zero_le _⟩ (fun H locs hR hS => ?_)
    have hK : mmKN μ y2.2.2 := hK.tr (kX6_local_kn hy2)
    refine lv_i2l (v := (y2.2.1).toInt64) S.1 S.2.1 dX6_digest_145 rfl ?_
    refine lv_ladd S.1 S.2.1 dX6_digest_146 ?_
    refine lv_lstore_n (i := 1) (lv' := [(1, .long ((z1 * (31 : Int64)) + ((y2.2.1).toInt64))), (0, rf h0), (3, .int x3), (4, .int x4)]) S.1 S.2.1 dX6_digest_147 rfl hl (by decide) (by simp [rf_cat, int_cat, long_cat]) (fun ls hl => ?_)
    refine lv_iinc (v := (x4 + 1)) (lv' := [(4, .int (x4 + 1)), (1, .long ((z1 * (31 : Int64)) + ((y2.2.1).toInt64))), (0, rf h0), (3, .int x3)]) S.1 S.2.1 dX6_digest_148 hl (k := 3) rfl (by rfl) (by decide) rfl (fun ls hl => ?_)
    refine lv_goto (tgt := 127) S.1 S.2.1 dX6_digest_151 (by decide) ?_
    exact hkk127 h0 ((z1 * (31 : Int64)) + ((y2.2.1).toInt64)) x3 (x4 + 1) y2.2.2 hf _ _ _ hR hS (lv_sub hl [2, 1, 3, 0] rfl)
theorem wlX6_digest_127 {p : Program} {l : Launch} {e : Env} {s : State} {m : MethodId} {args : Array Value} {below : List Frame} {meth : Method} {c : Code} {G : mmG} {A : Nat → Prop} {res : Int64 × MM} (E0 : mmEnv p m c cX6_digest 5 s args RX6 G A meth (some (.long))) (kk82 : Nat → Int64 → Int32 → MM → Option (Int64 × MM)) (hkk82 : ∀ (h0 : Nat) (z1 : Int64) (x3 : Int32) (μ : MM), kk82 h0 z1 x3 μ = some res → mmGoal p l e rmX6_digest s m args below meth c G A 82 5 [(0, rf h0), (1, .long z1), (3, .int x3)] μ (mmQ G A res.2 (some (.long res.1)))) : ∀ (n : Nat) (h0 : Nat) (z1 : Int64) (x3 : Int32) (x4 : Int32) (μ : MM), lX6_digest_127 kk82 n h0 z1 x3 x4 μ = some res → mmGoal p l e rmX6_digest s m args below meth c G A 127 5 [(0, rf h0), (1, .long z1), (3, .int x3), (4, .int x4)] μ (mmQ G A res.2 (some (.long res.1))) := by
  intro n
  induction n with
  | zero => intro h0 z1 x3 x4 μ hf; cases hf
  | succ n ih => intro h0 z1 x3 x4 μ hf; exact wbX6_digest_127 E0 kk82 hkk82 _ ih h0 z1 x3 x4 μ hf
set_option maxRecDepth 100000 in
set_option maxHeartbeats 4000000 in
theorem wbX6_digest_96 {p : Program} {l : Launch} {e : Env} {s : State} {m : MethodId} {args : Array Value} {below : List Frame} {meth : Method} {c : Code} {G : mmG} {A : Nat → Prop} {res : Int64 × MM} (E0 : mmEnv p m c cX6_digest 5 s args RX6 G A meth (some (.long))) (kk82 : Nat → Int64 → Int32 → MM → Option (Int64 × MM)) (hkk82 : ∀ (h0 : Nat) (z1 : Int64) (x3 : Int32) (μ : MM), kk82 h0 z1 x3 μ = some res → mmGoal p l e rmX6_digest s m args below meth c G A 82 5 [(0, rf h0), (1, .long z1), (3, .int x3)] μ (mmQ G A res.2 (some (.long res.1)))) (kk96 : Nat → Int64 → Int32 → Int32 → MM → Option (Int64 × MM)) (hkk96 : ∀ (h0 : Nat) (z1 : Int64) (x3 : Int32) (x4 : Int32) (μ : MM), kk96 h0 z1 x3 x4 μ = some res → mmGoal p l e rmX6_digest s m args below meth c G A 96 5 [(0, rf h0), (1, .long z1), (3, .int x3), (4, .int x4)] μ (mmQ G A res.2 (some (.long res.1)))) : ∀ (h0 : Nat) (z1 : Int64) (x3 : Int32) (x4 : Int32) (μ : MM), bX6_digest_96 kk82 kk96 h0 z1 x3 x4 μ = some res → mmGoal p l e rmX6_digest s m args below meth c G A 96 5 [(0, rf h0), (1, .long z1), (3, .int x3), (4, .int x4)] μ (mmQ G A res.2 (some (.long res.1))) := by
  obtain ⟨S, hA, hr, hlocks⟩ := id E0
  intro h0 z1 x3 x4 μ hf H locs ls hR hS hl
  have hK : mmKN μ μ := mmKN.rf
  unfold bX6_digest_96 at hf
  refine lv_iload S.1 S.2.1 dX6_digest_96 (lv_at hl 3 rfl) ?_
  refine lv_bipush (v := 7) S.1 S.2.1 dX6_digest_98 (by decide) ?_
  refine lv_icmp_gt (tgt := 124) S.1 S.2.1 dX6_digest_100 (by decide) (fun c1 => ?_) (fun c1 => ?_)
  · have hf := it_t hf c1
    refine lv_iconst (v := 0) S.1 S.2.1 dX6_digest_124 (by decide) ?_
    refine lv_istore (i := 4) (lv' := [(4, .int 0), (0, rf h0), (1, .long z1), (3, .int x3)]) S.1 S.2.1 dX6_digest_125 hl (by decide) rfl (fun ls hl => ?_)
    exact wlX6_digest_127 E0 kk82 hkk82 FU h0 z1 x3 0 μ hf _ _ _ hR hS (lv_sub hl [1, 2, 3, 0] rfl)
  · have hf := it_f hf c1
    refine lv_lload_n S.1 S.2.1 dX6_digest_103 rfl (lv_at hl 1 rfl) ?_
    refine lv_ldc2 (v := 31) S.1 S.2.1 S.2.2.2.1 (S.2.2.2.2.1 _ klX6_251) dX6_digest_104 ?_
    refine lv_lmul S.1 S.2.1 dX6_digest_107 ?_
    refine mm_aload_n S dX6_digest_108 rfl (lv_at hl 0 rfl) ?_
    refine lv_iload_n S.1 S.2.1 dX6_digest_109 rfl (lv_at hl 2 rfl) ?_
    refine lv_iload S.1 S.2.1 dX6_digest_110 (lv_at hl 3 rfl) ?_
    obtain ⟨g4, hf⟩ := gd hf
    obtain ⟨y2, hy2, hf⟩ := bd hf
    obtain ⟨g3, hf⟩ := gd hf
    refine mm_callVi S hR hS hA (As := [.int x3, .int x4]) (rest := [.long (z1 * (31 : Int64))]) cvX6_259 (hK.k g4) (kX6_of_c l G A (hK.k g4) hy2 g3) rfl rfl ⟨Nat.le_of_ble_eq_true rfl, Nat.le_of_ble_eq_true rfl⟩ rfl hl.1 rfl (lv_room (by simp [rf_cat, int_cat, long_cat])) dX6_digest_112 ⟨Nat.zero_le _, Nat.zero_le _⟩ (fun H locs hR hS => ?_)
    have hK : mmKN μ y2.2.2 := hK.tr (kX6_of_kn hy2)
    refine lv_i2l (v := (y2.2.1).toInt64) S.1 S.2.1 dX6_digest_115 rfl ?_
    refine lv_ladd S.1 S.2.1 dX6_digest_116 ?_
    refine lv_lstore_n (i := 1) (lv' := [(1, .long ((z1 * (31 : Int64)) + ((y2.2.1).toInt64))), (0, rf h0), (3, .int x3), (4, .int x4)]) S.1 S.2.1 dX6_digest_117 rfl hl (by decide) (by simp [rf_cat, int_cat, long_cat]) (fun ls hl => ?_)
    refine lv_iinc (v := (x4 + 1)) (lv' := [(4, .int (x4 + 1)), (1, .long ((z1 * (31 : Int64)) + ((y2.2.1).toInt64))), (0, rf h0), (3, .int x3)]) S.1 S.2.1 dX6_digest_118 hl (k := 3) rfl (by rfl) (by decide) rfl (fun ls hl => ?_)
    refine lv_goto (tgt := 96) S.1 S.2.1 dX6_digest_121 (by decide) ?_
    exact hkk96 h0 ((z1 * (31 : Int64)) + ((y2.2.1).toInt64)) x3 (x4 + 1) y2.2.2 hf _ _ _ hR hS (lv_sub hl [2, 1, 3, 0] rfl)
theorem wlX6_digest_96 {p : Program} {l : Launch} {e : Env} {s : State} {m : MethodId} {args : Array Value} {below : List Frame} {meth : Method} {c : Code} {G : mmG} {A : Nat → Prop} {res : Int64 × MM} (E0 : mmEnv p m c cX6_digest 5 s args RX6 G A meth (some (.long))) (kk82 : Nat → Int64 → Int32 → MM → Option (Int64 × MM)) (hkk82 : ∀ (h0 : Nat) (z1 : Int64) (x3 : Int32) (μ : MM), kk82 h0 z1 x3 μ = some res → mmGoal p l e rmX6_digest s m args below meth c G A 82 5 [(0, rf h0), (1, .long z1), (3, .int x3)] μ (mmQ G A res.2 (some (.long res.1)))) : ∀ (n : Nat) (h0 : Nat) (z1 : Int64) (x3 : Int32) (x4 : Int32) (μ : MM), lX6_digest_96 kk82 n h0 z1 x3 x4 μ = some res → mmGoal p l e rmX6_digest s m args below meth c G A 96 5 [(0, rf h0), (1, .long z1), (3, .int x3), (4, .int x4)] μ (mmQ G A res.2 (some (.long res.1))) := by
  intro n
  induction n with
  | zero => intro h0 z1 x3 x4 μ hf; cases hf
  | succ n ih => intro h0 z1 x3 x4 μ hf; exact wbX6_digest_96 E0 kk82 hkk82 _ ih h0 z1 x3 x4 μ hf
set_option maxRecDepth 100000 in
set_option maxHeartbeats 4000000 in
theorem wbX6_digest_82 {p : Program} {l : Launch} {e : Env} {s : State} {m : MethodId} {args : Array Value} {below : List Frame} {meth : Method} {c : Code} {G : mmG} {A : Nat → Prop} {res : Int64 × MM} (E0 : mmEnv p m c cX6_digest 5 s args RX6 G A meth (some (.long))) (kk82 : Nat → Int64 → Int32 → MM → Option (Int64 × MM)) (hkk82 : ∀ (h0 : Nat) (z1 : Int64) (x3 : Int32) (μ : MM), kk82 h0 z1 x3 μ = some res → mmGoal p l e rmX6_digest s m args below meth c G A 82 5 [(0, rf h0), (1, .long z1), (3, .int x3)] μ (mmQ G A res.2 (some (.long res.1)))) : ∀ (h0 : Nat) (z1 : Int64) (x3 : Int32) (μ : MM), bX6_digest_82 kk82 h0 z1 x3 μ = some res → mmGoal p l e rmX6_digest s m args below meth c G A 82 5 [(0, rf h0), (1, .long z1), (3, .int x3)] μ (mmQ G A res.2 (some (.long res.1))) := by
  obtain ⟨S, hA, hr, hlocks⟩ := id E0
  intro h0 z1 x3 μ hf H locs ls hR hS hl
  have hK : mmKN μ μ := mmKN.rf
  unfold bX6_digest_82 at hf
  refine lv_iload_n S.1 S.2.1 dX6_digest_82 rfl (lv_at hl 2 rfl) ?_
  refine mm_aload_n S dX6_digest_83 rfl (lv_at hl 0 rfl) ?_
  obtain ⟨g1, hf⟩ := gd hf
  refine mm_getp S hR fdX6_21 (hK.k g1) rfl dX6_digest_84 ?_
  obtain ⟨g2, hf⟩ := gd hf
  refine mm_geti S hR fdX6_221 (hK.k g2) rfl dX6_digest_87 ?_
  refine lv_icmp_ge (tgt := 284) S.1 S.2.1 dX6_digest_90 (by decide) (fun c3 => ?_) (fun c3 => ?_)
  · have hf := it_t hf c3
    refine lv_lload_n S.1 S.2.1 dX6_digest_284 rfl (lv_at hl 1 rfl) ?_
    refine lv_ldc2 (v := 31) S.1 S.2.1 S.2.2.2.1 (S.2.2.2.2.1 _ klX6_251) dX6_digest_285 ?_
    refine lv_lmul S.1 S.2.1 dX6_digest_288 ?_
    refine mm_aload_n S dX6_digest_289 rfl (lv_at hl 0 rfl) ?_
    refine lv_bipush (v := 20) S.1 S.2.1 dX6_digest_290 (by decide) ?_
    obtain ⟨y4, hy4, hf⟩ := bd hf
    obtain ⟨g5, hf⟩ := gd hf
    refine mm_callVi S hR hS hA (As := [.int 20]) (rest := [.long (z1 * (31 : Int64))]) cvX6_276 (hK.k g1) (kX6_overIn_c l G A (hK.k g1) hy4 g5) rfl rfl ⟨Nat.le_of_ble_eq_true rfl, Nat.le_of_ble_eq_true rfl⟩ rfl hl.1 rfl (lv_room (by simp [rf_cat, int_cat, long_cat])) dX6_digest_292 ⟨Nat.zero_le _, Nat.zero_le _⟩ (fun H locs hR hS => ?_)
    have hK : mmKN μ y4.2.2 := hK.tr (kX6_overIn_kn hy4)
    refine lv_i2l (v := (y4.2.1).toInt64) S.1 S.2.1 dX6_digest_295 rfl ?_
    refine lv_ladd S.1 S.2.1 dX6_digest_296 ?_
    obtain rfl := Option.some.inj hf
    exact mm_lret S hR hS hr hlocks dX6_digest_297
  · have hf := it_f hf c3
    refine lv_iconst (v := 0) S.1 S.2.1 dX6_digest_93 (by decide) ?_
    refine lv_istore (i := 4) (lv' := [(4, .int 0), (0, rf h0), (1, .long z1), (3, .int x3)]) S.1 S.2.1 dX6_digest_94 hl (by decide) rfl (fun ls hl => ?_)
    exact wlX6_digest_96 E0 kk82 hkk82 FU h0 z1 x3 0 μ hf _ _ _ hR hS (lv_sub hl [1, 2, 3, 0] rfl)
theorem wlX6_digest_82 {p : Program} {l : Launch} {e : Env} {s : State} {m : MethodId} {args : Array Value} {below : List Frame} {meth : Method} {c : Code} {G : mmG} {A : Nat → Prop} {res : Int64 × MM} (E0 : mmEnv p m c cX6_digest 5 s args RX6 G A meth (some (.long)))  : ∀ (n : Nat) (h0 : Nat) (z1 : Int64) (x3 : Int32) (μ : MM), lX6_digest_82  n h0 z1 x3 μ = some res → mmGoal p l e rmX6_digest s m args below meth c G A 82 5 [(0, rf h0), (1, .long z1), (3, .int x3)] μ (mmQ G A res.2 (some (.long res.1))) := by
  intro n
  induction n with
  | zero => intro h0 z1 x3 μ hf; cases hf
  | succ n ih => intro h0 z1 x3 μ hf; exact wbX6_digest_82 E0  _ ih h0 z1 x3 μ hf
set_option maxRecDepth 100000 in
set_option maxHeartbeats 4000000 in
theorem wbX6_digest_47 {p : Program} {l : Launch} {e : Env} {s : State} {m : MethodId} {args : Array Value} {below : List Frame} {meth : Method} {c : Code} {G : mmG} {A : Nat → Prop} {res : Int64 × MM} (E0 : mmEnv p m c cX6_digest 5 s args RX6 G A meth (some (.long))) (kk33 : Nat → Int64 → Int32 → MM → Option (Int64 × MM)) (hkk33 : ∀ (h0 : Nat) (z1 : Int64) (x3 : Int32) (μ : MM), kk33 h0 z1 x3 μ = some res → mmGoal p l e rmX6_digest s m args below meth c G A 33 5 [(0, rf h0), (1, .long z1), (3, .int x3)] μ (mmQ G A res.2 (some (.long res.1)))) (kk47 : Nat → Int64 → Int32 → Int32 → MM → Option (Int64 × MM)) (hkk47 : ∀ (h0 : Nat) (z1 : Int64) (x3 : Int32) (x4 : Int32) (μ : MM), kk47 h0 z1 x3 x4 μ = some res → mmGoal p l e rmX6_digest s m args below meth c G A 47 5 [(0, rf h0), (1, .long z1), (3, .int x3), (4, .int x4)] μ (mmQ G A res.2 (some (.long res.1)))) : ∀ (h0 : Nat) (z1 : Int64) (x3 : Int32) (x4 : Int32) (μ : MM), bX6_digest_47 kk33 kk47 h0 z1 x3 x4 μ = some res → mmGoal p l e rmX6_digest s m args below meth c G A 47 5 [(0, rf h0), (1, .long z1), (3, .int x3), (4, .int x4)] μ (mmQ G A res.2 (some (.long res.1))) := by
  obtain ⟨S, hA, hr, hlocks⟩ := id E0
  intro h0 z1 x3 x4 μ hf H locs ls hR hS hl
  have hK : mmKN μ μ := mmKN.rf
  unfold bX6_digest_47 at hf
  refine lv_iload S.1 S.2.1 dX6_digest_47 (lv_at hl 3 rfl) ?_
  refine lv_iconst (v := 2) S.1 S.2.1 dX6_digest_49 (by decide) ?_
  refine lv_icmp_gt (tgt := 74) S.1 S.2.1 dX6_digest_50 (by decide) (fun c1 => ?_) (fun c1 => ?_)
  · have hf := it_t hf c1
    refine lv_iinc (v := (x3 + 1)) (lv' := [(3, .int (x3 + 1)), (0, rf h0), (1, .long z1), (4, .int x4)]) S.1 S.2.1 dX6_digest_74 hl (k := 2) rfl (by rfl) (by decide) rfl (fun ls hl => ?_)
    refine lv_goto (tgt := 33) S.1 S.2.1 dX6_digest_77 (by decide) ?_
    exact hkk33 h0 z1 (x3 + 1) μ hf _ _ _ hR hS (lv_sub hl [1, 2, 0] rfl)
  · have hf := it_f hf c1
    refine lv_lload_n S.1 S.2.1 dX6_digest_53 rfl (lv_at hl 1 rfl) ?_
    refine lv_ldc2 (v := 31) S.1 S.2.1 S.2.2.2.1 (S.2.2.2.2.1 _ klX6_251) dX6_digest_54 ?_
    refine lv_lmul S.1 S.2.1 dX6_digest_57 ?_
    refine mm_aload_n S dX6_digest_58 rfl (lv_at hl 0 rfl) ?_
    refine lv_iload_n S.1 S.2.1 dX6_digest_59 rfl (lv_at hl 2 rfl) ?_
    refine lv_iload S.1 S.2.1 dX6_digest_60 (lv_at hl 3 rfl) ?_
    obtain ⟨g4, hf⟩ := gd hf
    obtain ⟨y2, hy2, hf⟩ := bd hf
    obtain ⟨g3, hf⟩ := gd hf
    refine mm_callVi S hR hS hA (As := [.int x3, .int x4]) (rest := [.long (z1 * (31 : Int64))]) cvX6_256 (hK.k g4) (kX6_ofBody_c l G A (hK.k g4) hy2 g3) rfl rfl ⟨Nat.le_of_ble_eq_true rfl, Nat.le_of_ble_eq_true rfl⟩ rfl hl.1 rfl (lv_room (by simp [rf_cat, int_cat, long_cat])) dX6_digest_62 ⟨Nat.zero_le _, Nat.zero_le _⟩ (fun H locs hR hS => ?_)
    have hK : mmKN μ y2.2.2 := hK.tr (kX6_ofBody_kn hy2)
    refine lv_i2l (v := (y2.2.1).toInt64) S.1 S.2.1 dX6_digest_65 rfl ?_
    refine lv_ladd S.1 S.2.1 dX6_digest_66 ?_
    refine lv_lstore_n (i := 1) (lv' := [(1, .long ((z1 * (31 : Int64)) + ((y2.2.1).toInt64))), (0, rf h0), (3, .int x3), (4, .int x4)]) S.1 S.2.1 dX6_digest_67 rfl hl (by decide) (by simp [rf_cat, int_cat, long_cat]) (fun ls hl => ?_)
    refine lv_iinc (v := (x4 + 1)) (lv' := [(4, .int (x4 + 1)), (1, .long ((z1 * (31 : Int64)) + ((y2.2.1).toInt64))), (0, rf h0), (3, .int x3)]) S.1 S.2.1 dX6_digest_68 hl (k := 3) rfl (by rfl) (by decide) rfl (fun ls hl => ?_)
    refine lv_goto (tgt := 47) S.1 S.2.1 dX6_digest_71 (by decide) ?_
    exact hkk47 h0 ((z1 * (31 : Int64)) + ((y2.2.1).toInt64)) x3 (x4 + 1) y2.2.2 hf _ _ _ hR hS (lv_sub hl [2, 1, 3, 0] rfl)
theorem wlX6_digest_47 {p : Program} {l : Launch} {e : Env} {s : State} {m : MethodId} {args : Array Value} {below : List Frame} {meth : Method} {c : Code} {G : mmG} {A : Nat → Prop} {res : Int64 × MM} (E0 : mmEnv p m c cX6_digest 5 s args RX6 G A meth (some (.long))) (kk33 : Nat → Int64 → Int32 → MM → Option (Int64 × MM)) (hkk33 : ∀ (h0 : Nat) (z1 : Int64) (x3 : Int32) (μ : MM), kk33 h0 z1 x3 μ = some res → mmGoal p l e rmX6_digest s m args below meth c G A 33 5 [(0, rf h0), (1, .long z1), (3, .int x3)] μ (mmQ G A res.2 (some (.long res.1)))) : ∀ (n : Nat) (h0 : Nat) (z1 : Int64) (x3 : Int32) (x4 : Int32) (μ : MM), lX6_digest_47 kk33 n h0 z1 x3 x4 μ = some res → mmGoal p l e rmX6_digest s m args below meth c G A 47 5 [(0, rf h0), (1, .long z1), (3, .int x3), (4, .int x4)] μ (mmQ G A res.2 (some (.long res.1))) := by
  intro n
  induction n with
  | zero => intro h0 z1 x3 x4 μ hf; cases hf
  | succ n ih => intro h0 z1 x3 x4 μ hf; exact wbX6_digest_47 E0 kk33 hkk33 _ ih h0 z1 x3 x4 μ hf
set_option maxRecDepth 100000 in
set_option maxHeartbeats 4000000 in
theorem wbX6_digest_33 {p : Program} {l : Launch} {e : Env} {s : State} {m : MethodId} {args : Array Value} {below : List Frame} {meth : Method} {c : Code} {G : mmG} {A : Nat → Prop} {res : Int64 × MM} (E0 : mmEnv p m c cX6_digest 5 s args RX6 G A meth (some (.long))) (kk33 : Nat → Int64 → Int32 → MM → Option (Int64 × MM)) (hkk33 : ∀ (h0 : Nat) (z1 : Int64) (x3 : Int32) (μ : MM), kk33 h0 z1 x3 μ = some res → mmGoal p l e rmX6_digest s m args below meth c G A 33 5 [(0, rf h0), (1, .long z1), (3, .int x3)] μ (mmQ G A res.2 (some (.long res.1)))) : ∀ (h0 : Nat) (z1 : Int64) (x3 : Int32) (μ : MM), bX6_digest_33 kk33 h0 z1 x3 μ = some res → mmGoal p l e rmX6_digest s m args below meth c G A 33 5 [(0, rf h0), (1, .long z1), (3, .int x3)] μ (mmQ G A res.2 (some (.long res.1))) := by
  obtain ⟨S, hA, hr, hlocks⟩ := id E0
  intro h0 z1 x3 μ hf H locs ls hR hS hl
  have hK : mmKN μ μ := mmKN.rf
  unfold bX6_digest_33 at hf
  refine lv_iload_n S.1 S.2.1 dX6_digest_33 rfl (lv_at hl 2 rfl) ?_
  refine mm_aload_n S dX6_digest_34 rfl (lv_at hl 0 rfl) ?_
  obtain ⟨g1, hf⟩ := gd hf
  refine mm_getp S hR fdX6_10 (hK.k g1) rfl dX6_digest_35 ?_
  obtain ⟨g2, hf⟩ := gd hf
  refine mm_geti S hR fdX6_28 (hK.k g2) rfl dX6_digest_38 ?_
  refine lv_icmp_ge (tgt := 80) S.1 S.2.1 dX6_digest_41 (by decide) (fun c3 => ?_) (fun c3 => ?_)
  · have hf := it_t hf c3
    refine lv_iconst (v := 0) S.1 S.2.1 dX6_digest_80 (by decide) ?_
    refine lv_istore_n (i := 3) (lv' := [(3, .int 0), (0, rf h0), (1, .long z1)]) S.1 S.2.1 dX6_digest_81 rfl hl (by decide) rfl (fun ls hl => ?_)
    exact wlX6_digest_82 E0  FU h0 z1 0 μ hf _ _ _ hR hS (lv_sub hl [1, 2, 0] rfl)
  · have hf := it_f hf c3
    refine lv_iconst (v := 0) S.1 S.2.1 dX6_digest_44 (by decide) ?_
    refine lv_istore (i := 4) (lv' := [(4, .int 0), (0, rf h0), (1, .long z1), (3, .int x3)]) S.1 S.2.1 dX6_digest_45 hl (by decide) rfl (fun ls hl => ?_)
    exact wlX6_digest_47 E0 kk33 hkk33 FU h0 z1 x3 0 μ hf _ _ _ hR hS (lv_sub hl [1, 2, 3, 0] rfl)
theorem wlX6_digest_33 {p : Program} {l : Launch} {e : Env} {s : State} {m : MethodId} {args : Array Value} {below : List Frame} {meth : Method} {c : Code} {G : mmG} {A : Nat → Prop} {res : Int64 × MM} (E0 : mmEnv p m c cX6_digest 5 s args RX6 G A meth (some (.long)))  : ∀ (n : Nat) (h0 : Nat) (z1 : Int64) (x3 : Int32) (μ : MM), lX6_digest_33  n h0 z1 x3 μ = some res → mmGoal p l e rmX6_digest s m args below meth c G A 33 5 [(0, rf h0), (1, .long z1), (3, .int x3)] μ (mmQ G A res.2 (some (.long res.1))) := by
  intro n
  induction n with
  | zero => intro h0 z1 x3 μ hf; cases hf
  | succ n ih => intro h0 z1 x3 μ hf; exact wbX6_digest_33 E0  _ ih h0 z1 x3 μ hf
set_option maxRecDepth 100000 in
set_option maxHeartbeats 4000000 in
theorem wbX6_digest_6 {p : Program} {l : Launch} {e : Env} {s : State} {m : MethodId} {args : Array Value} {below : List Frame} {meth : Method} {c : Code} {G : mmG} {A : Nat → Prop} {res : Int64 × MM} (E0 : mmEnv p m c cX6_digest 5 s args RX6 G A meth (some (.long))) (kk6 : Nat → Int64 → Int32 → MM → Option (Int64 × MM)) (hkk6 : ∀ (h0 : Nat) (z1 : Int64) (x3 : Int32) (μ : MM), kk6 h0 z1 x3 μ = some res → mmGoal p l e rmX6_digest s m args below meth c G A 6 5 [(0, rf h0), (1, .long z1), (3, .int x3)] μ (mmQ G A res.2 (some (.long res.1)))) : ∀ (h0 : Nat) (z1 : Int64) (x3 : Int32) (μ : MM), bX6_digest_6 kk6 h0 z1 x3 μ = some res → mmGoal p l e rmX6_digest s m args below meth c G A 6 5 [(0, rf h0), (1, .long z1), (3, .int x3)] μ (mmQ G A res.2 (some (.long res.1))) := by
  obtain ⟨S, hA, hr, hlocks⟩ := id E0
  intro h0 z1 x3 μ hf H locs ls hR hS hl
  have hK : mmKN μ μ := mmKN.rf
  unfold bX6_digest_6 at hf
  refine lv_iload_n S.1 S.2.1 dX6_digest_6 rfl (lv_at hl 2 rfl) ?_
  refine lv_bipush (v := 11) S.1 S.2.1 dX6_digest_7 (by decide) ?_
  refine lv_icmp_gt (tgt := 31) S.1 S.2.1 dX6_digest_9 (by decide) (fun c1 => ?_) (fun c1 => ?_)
  · have hf := it_t hf c1
    refine lv_iconst (v := 0) S.1 S.2.1 dX6_digest_31 (by decide) ?_
    refine lv_istore_n (i := 3) (lv' := [(3, .int 0), (0, rf h0), (1, .long z1)]) S.1 S.2.1 dX6_digest_32 rfl hl (by decide) rfl (fun ls hl => ?_)
    exact wlX6_digest_33 E0  FU h0 z1 0 μ hf _ _ _ hR hS (lv_sub hl [1, 2, 0] rfl)
  · have hf := it_f hf c1
    refine lv_lload_n S.1 S.2.1 dX6_digest_12 rfl (lv_at hl 1 rfl) ?_
    refine lv_ldc2 (v := 31) S.1 S.2.1 S.2.2.2.1 (S.2.2.2.2.1 _ klX6_251) dX6_digest_13 ?_
    refine lv_lmul S.1 S.2.1 dX6_digest_16 ?_
    refine mm_aload_n S dX6_digest_17 rfl (lv_at hl 0 rfl) ?_
    refine lv_iload_n S.1 S.2.1 dX6_digest_18 rfl (lv_at hl 2 rfl) ?_
    obtain ⟨g4, hf⟩ := gd hf
    obtain ⟨y2, hy2, hf⟩ := bd hf
    obtain ⟨g3, hf⟩ := gd hf
    refine mm_callVi S hR hS hA (As := [.int x3]) (rest := [.long (z1 * (31 : Int64))]) cvX6_253 (hK.k g4) (kX6_many_c l G A (hK.k g4) hy2 g3) rfl rfl ⟨Nat.le_of_ble_eq_true rfl, Nat.le_of_ble_eq_true rfl⟩ rfl hl.1 rfl (lv_room (by simp [rf_cat, int_cat, long_cat])) dX6_digest_19 ⟨Nat.zero_le _, Nat.zero_le _⟩ (fun H locs hR hS => ?_)
    have hK : mmKN μ y2.2.2 := hK.tr (kX6_many_kn hy2)
    refine lv_i2l (v := (y2.2.1).toInt64) S.1 S.2.1 dX6_digest_22 rfl ?_
    refine lv_ladd S.1 S.2.1 dX6_digest_23 ?_
    refine lv_lstore_n (i := 1) (lv' := [(1, .long ((z1 * (31 : Int64)) + ((y2.2.1).toInt64))), (0, rf h0), (3, .int x3)]) S.1 S.2.1 dX6_digest_24 rfl hl (by decide) (by simp [rf_cat, int_cat, long_cat]) (fun ls hl => ?_)
    refine lv_iinc (v := (x3 + 1)) (lv' := [(3, .int (x3 + 1)), (1, .long ((z1 * (31 : Int64)) + ((y2.2.1).toInt64))), (0, rf h0)]) S.1 S.2.1 dX6_digest_25 hl (k := 2) rfl (by rfl) (by decide) rfl (fun ls hl => ?_)
    refine lv_goto (tgt := 6) S.1 S.2.1 dX6_digest_28 (by decide) ?_
    exact hkk6 h0 ((z1 * (31 : Int64)) + ((y2.2.1).toInt64)) (x3 + 1) y2.2.2 hf _ _ _ hR hS (lv_sub hl [2, 1, 0] rfl)
theorem wlX6_digest_6 {p : Program} {l : Launch} {e : Env} {s : State} {m : MethodId} {args : Array Value} {below : List Frame} {meth : Method} {c : Code} {G : mmG} {A : Nat → Prop} {res : Int64 × MM} (E0 : mmEnv p m c cX6_digest 5 s args RX6 G A meth (some (.long)))  : ∀ (n : Nat) (h0 : Nat) (z1 : Int64) (x3 : Int32) (μ : MM), lX6_digest_6  n h0 z1 x3 μ = some res → mmGoal p l e rmX6_digest s m args below meth c G A 6 5 [(0, rf h0), (1, .long z1), (3, .int x3)] μ (mmQ G A res.2 (some (.long res.1))) := by
  intro n
  induction n with
  | zero => intro h0 z1 x3 μ hf; cases hf
  | succ n ih => intro h0 z1 x3 μ hf; exact wbX6_digest_6 E0  _ ih h0 z1 x3 μ hf
set_option maxRecDepth 100000 in
set_option maxHeartbeats 4000000 in
theorem kX6_digest_c (l : Launch) (G : mmG) (A : Nat → Prop) {μ : MM} {res : Int64 × MM} {h0 : Nat} (hk0 : mK μ h0 = 7) (hf : fX6_digest h0 μ = some res) : Met l yX6_digest [.code yX6_digest cX6_digest 5 (some (.long))] rmX6_digest (mmPc G A μ [rf h0]) (mmQ G A res.2 (some (.long res.1))) 0 0 A := by
  refine mm_ofW (by decide +kernel) (by simp [lg_sl, rf_cat, int_cat]) ?_
  intro p e s m below meth c ls S hR hA hS hr hlocks hl hnm
  have hl : lv_has ls 5 [(0, rf h0)] := by simpa [lv_args, rf_cat, int_cat] using hl
  have E0 : mmEnv p m c cX6_digest 5 s _ RX6 G A meth (some (.long)) := ⟨S, hA, hr, hlocks⟩
  have hK : mmKN μ μ := mmKN.rf
  unfold fX6_digest at hf
  refine lv_ldc2 (v := 7603) S.1 S.2.1 S.2.2.2.1 (S.2.2.2.2.1 _ klX6_249) dX6_digest_0 ?_
  refine lv_lstore_n (i := 1) (lv' := [(1, .long (7603 : Int64)), (0, rf h0)]) S.1 S.2.1 dX6_digest_3 rfl hl (by decide) (by simp [rf_cat, int_cat, long_cat]) (fun ls hl => ?_)
  refine lv_iconst (v := 0) S.1 S.2.1 dX6_digest_4 (by decide) ?_
  refine lv_istore_n (i := 3) (lv' := [(3, .int 0), (1, .long (7603 : Int64)), (0, rf h0)]) S.1 S.2.1 dX6_digest_5 rfl hl (by decide) rfl (fun ls hl => ?_)
  exact wlX6_digest_6 E0  FU h0 (7603 : Int64) 0 μ hf _ _ _ hR hS (lv_sub hl [2, 1, 0] rfl)
