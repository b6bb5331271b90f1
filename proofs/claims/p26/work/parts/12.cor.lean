-- X2_becomeNew
def bX2_becomeNew_3 (kk3 : Nat → Int32 → Int32 → Int32 → Int32 → MM → Option (MM)) (h0 : Nat) (x1 : Int32) (x2 : Int32) (x3 : Int32) (x4 : Int32) (μ : MM) : Option (MM) :=
  if (4 : Int32) ≤ x4 then (if mK μ h0 = 3 then if mK μ (mP μ h0 2) = 6 then st (sI μ (mP μ h0 2) 2 0) fun μ4 => st (sI μ4 h0 3 x1) fun μ5 => st (sI μ5 h0 4 x2) fun μ6 => st (sI μ6 h0 5 0) fun μ7 => st (sI μ7 h0 6 0) fun μ8 => st (sI μ8 h0 7 0) fun μ9 => st (sI μ9 h0 9 (-1)) fun μ10 => st (sI μ10 h0 10 (-1)) fun μ11 => st (sI μ11 h0 11 0) fun μ12 => st (sI μ12 h0 12 (-1)) fun μ13 => st (sI μ13 h0 13 (-1)) fun μ14 => st (sI μ14 h0 14 0) fun μ15 => st (sI μ15 h0 15 0) fun μ16 => st (sI μ16 h0 16 x3) fun μ17 => some μ17 else none else none) else (if mK μ h0 = 3 then if mK μ (mP μ h0 1) = 20 then if ¬ (x4 < 0 ∨ mN μ (mP μ h0 1) ≤ x4.toNatClampNeg) then st (sI μ (mP μ h0 1) x4.toNatClampNeg 0) fun μ21 => kk3 h0 x1 x2 x3 (x4 + 1) μ21 else none else none else none)
def lX2_becomeNew_3  : Nat → Nat → Int32 → Int32 → Int32 → Int32 → MM → Option (MM)
  | 0, _, _, _, _, _, _ => none
  | n + 1, h0, x1, x2, x3, x4, μ => bX2_becomeNew_3  (fun h0 x1 x2 x3 x4 μ => lX2_becomeNew_3  n h0 x1 x2 x3 x4 μ) h0 x1 x2 x3 x4 μ
def fX2_becomeNew (h0 : Nat) (x1 : Int32) (x2 : Int32) (x3 : Int32) (μ : MM) : Option (MM) :=
  lX2_becomeNew_3  FU h0 x1 x2 x3 0 μ
set_option maxRecDepth 100000 in
set_option maxHeartbeats 4000000 in
theorem knbX2_becomeNew_3 (kk3 : Nat → Int32 → Int32 → Int32 → Int32 → MM → Option (MM)) (hkk3 : ∀ (h0 : Nat) (x1 : Int32) (x2 : Int32) (x3 : Int32) (x4 : Int32) (μ : MM) (res : MM), kk3 h0 x1 x2 x3 x4 μ = some res → mmKN μ res) : ∀ (h0 : Nat) (x1 : Int32) (x2 : Int32) (x3 : Int32) (x4 : Int32) (μ : MM) (res : MM), bX2_becomeNew_3 kk3 h0 x1 x2 x3 x4 μ = some res → mmKN μ res := by
  intro h0 x1 x2 x3 x4 μ res hf
  have hK : mmKN μ μ := mmKN.rf
  unfold bX2_becomeNew_3 at hf
  rcases it_or hf with ⟨c1, hf⟩ | ⟨c1, hf⟩
  · skip
    obtain ⟨g2, hf⟩ := gd hf
    obtain ⟨g3, hf⟩ := gd hf
    obtain ⟨μ4, e4, hf⟩ := stx hf
    have hK : mmKN μ μ4 := by rw [e4]; exact hK.sI
    obtain ⟨μ5, e5, hf⟩ := stx hf
    have hK : mmKN μ μ5 := by rw [e5]; exact hK.sI
    obtain ⟨μ6, e6, hf⟩ := stx hf
    have hK : mmKN μ μ6 := by rw [e6]; exact hK.sI
    obtain ⟨μ7, e7, hf⟩ := stx hf
    have hK : mmKN μ μ7 := by rw [e7]; exact hK.sI
    obtain ⟨μ8, e8, hf⟩ := stx hf
    have hK : mmKN μ μ8 := by rw [e8]; exact hK.sI
    obtain ⟨μ9, e9, hf⟩ := stx hf
    have hK : mmKN μ μ9 := by rw [e9]; exact hK.sI
    obtain ⟨μ10, e10, hf⟩ := stx hf
    have hK : mmKN μ μ10 := by rw [e10]; exact hK.sI
    obtain ⟨μ11, e11, hf⟩ := stx hf
    have hK : mmKN μ μ11 := by rw [e11]; exact hK.sI
    obtain ⟨μ12, e12, hf⟩ := stx hf
    have hK : mmKN μ μ12 := by rw [e12]; exact hK.sI
    obtain ⟨μ13, e13, hf⟩ := stx hf
    have hK : mmKN μ μ13 := by rw [e13]; exact hK.sI
    obtain ⟨μ14, e14, hf⟩ := stx hf
    have hK : mmKN μ μ14 := by rw [e14]; exact hK.sI
    obtain ⟨μ15, e15, hf⟩ := stx hf
    have hK : mmKN μ μ15 := by rw [e15]; exact hK.sI
    obtain ⟨μ16, e16, hf⟩ := stx hf
    have hK : mmKN μ μ16 := by rw [e16]; exact hK.sI
    obtain ⟨μ17, e17, hf⟩ := stx hf
    have hK : mmKN μ μ17 := by rw [e17]; exact hK.sI
    obtain rfl := Option.some.inj hf
    exact hK
  · skip
    obtain ⟨g18, hf⟩ := gd hf
    obtain ⟨g19, hf⟩ := gd hf
    obtain ⟨g20, hf⟩ := gd hf
    obtain ⟨μ21, e21, hf⟩ := stx hf
    have hK : mmKN μ μ21 := by rw [e21]; exact hK.sI
    exact hK.tr (hkk3 h0 x1 x2 x3 (x4 + 1) μ21 _ hf)
theorem knlX2_becomeNew_3  : ∀ (n : Nat) (h0 : Nat) (x1 : Int32) (x2 : Int32) (x3 : Int32) (x4 : Int32) (μ : MM) (res : MM), lX2_becomeNew_3  n h0 x1 x2 x3 x4 μ = some res → mmKN μ res := by
  intro n
  induction n with
  | zero => intro h0 x1 x2 x3 x4 μ res hf; cases hf
  | succ n ih => intro h0 x1 x2 x3 x4 μ res hf; exact knbX2_becomeNew_3  _ ih h0 x1 x2 x3 x4 μ res hf
set_option maxRecDepth 100000 in
set_option maxHeartbeats 4000000 in
theorem kX2_becomeNew_kn {μ : MM} {res : MM} {h0 : Nat} {x1 : Int32} {x2 : Int32} {x3 : Int32} (hf : fX2_becomeNew h0 x1 x2 x3 μ = some res) : mmKN μ res := by
  have hK : mmKN μ μ := mmKN.rf
  unfold fX2_becomeNew at hf
  exact hK.tr (knlX2_becomeNew_3  FU h0 x1 x2 x3 0 μ _ hf)
abbrev rmX2_becomeNew : Room := { frames := 0, cells := 0, slots := 0, locals := 0 }
set_option maxRecDepth 100000 in
set_option maxHeartbeats 4000000 in
theorem wbX2_becomeNew_3 {p : Program} {l : Launch} {e : Env} {s : State} {m : MethodId} {args : Array Value} {below : List Frame} {meth : Method} {c : Code} {G : mmG} {A : Nat → Prop} {res : MM} (E0 : mmEnv p m c cX2_becomeNew 5 s args RX2 G A meth none) (kk3 : Nat → Int32 → Int32 → Int32 → Int32 → MM → Option (MM)) (hkk3 : ∀ (h0 : Nat) (x1 : Int32) (x2 : Int32) (x3 : Int32) (x4 : Int32) (μ : MM), kk3 h0 x1 x2 x3 x4 μ = some res → mmGoal p l e rmX2_becomeNew s m args below meth c G A 3 5 [(0, rf h0), (1, .int x1), (2, .int x2), (3, .int x3), (4, .int x4)] μ (mmQ G A res none)) : ∀ (h0 : Nat) (x1 : Int32) (x2 : Int32) (x3 : Int32) (x4 : Int32) (μ : MM), bX2_becomeNew_3 kk3 h0 x1 x2 x3 x4 μ = some res → mmGoal p l e rmX2_becomeNew s m args below meth c G A 3 5 [(0, rf h0), (1, .int x1), (2, .int x2), (3, .int x3), (4, .int x4)] μ (mmQ G A res none) := by
  obtain ⟨S, hA, hr, hlocks⟩ := id E0
  intro h0 x1 x2 x3 x4 μ hf H locs ls hR hS hl
  have hK : mmKN μ μ := mmKN.rf
  unfold bX2_becomeNew_3 at hf
  refine lv_iload S.1 S.2.1 dX2_becomeNew_3 (lv_at hl 4 rfl) ?_
  refine lv_iconst (v := 4) S.1 S.2.1 dX2_becomeNew_5 (by decide) ?_
  refine lv_icmp_ge (tgt := 23) S.1 S.2.1 dX2_becomeNew_6 (by decide) (fun c1 => ?_) (fun c1 => ?_)
  · have hf := it_t hf c1
    refine mm_aload_n S dX2_becomeNew_23 rfl (lv_at hl 0 rfl) ?_
    obtain ⟨g2, hf⟩ := gd hf
    refine mm_getp S hR fdX2_18 (hK.k g2) rfl dX2_becomeNew_24 ?_
    refine lv_iconst (v := 0) S.1 S.2.1 dX2_becomeNew_27 (by decide) ?_
    obtain ⟨g3, hf⟩ := gd hf
    refine mm_puti S hR hS fpX2_26 (hK.k g3) rfl rfl rfl dX2_becomeNew_28 (fun H locs hR hS => ?_)
    obtain ⟨μ4, e4, hf⟩ := stx hf
    rw [← e4] at hR
    have hK : mmKN μ μ4 := by rw [e4]; exact hK.sI
    refine mm_aload_n S dX2_becomeNew_31 rfl (lv_at hl 0 rfl) ?_
    refine lv_iload_n S.1 S.2.1 dX2_becomeNew_32 rfl (lv_at hl 1 rfl) ?_
    refine mm_puti S hR hS fpX2_29 (hK.k g2) rfl rfl rfl dX2_becomeNew_33 (fun H locs hR hS => ?_)
    obtain ⟨μ5, e5, hf⟩ := stx hf
    rw [← e5] at hR
    have hK : mmKN μ μ5 := by rw [e5]; exact hK.sI
    refine mm_aload_n S dX2_becomeNew_36 rfl (lv_at hl 0 rfl) ?_
    refine lv_iload_n S.1 S.2.1 dX2_becomeNew_37 rfl (lv_at hl 2 rfl) ?_
    refine mm_puti S hR hS fpX2_32 (hK.k g2) rfl rfl rfl dX2_becomeNew_38 (fun H locs hR hS => ?_)
    obtain ⟨μ6, e6, hf⟩ := stx hf
    rw [← e6] at hR
    have hK : mmKN μ μ6 := by rw [e6]; exact hK.sI
    refine mm_aload_n S dX2_becomeNew_41 rfl (lv_at hl 0 rfl) ?_
    refine lv_iconst (v := 0) S.1 S.2.1 dX2_becomeNew_42 (by decide) ?_
    refine mm_puti S hR hS fpX2_35 (hK.k g2) rfl rfl rfl dX2_becomeNew_43 (fun H locs hR hS => ?_)
    obtain ⟨μ7, e7, hf⟩ := stx hf
    rw [← e7] at hR
    have hK : mmKN μ μ7 := by rw [e7]; exact hK.sI
    refine mm_aload_n S dX2_becomeNew_46 rfl (lv_at hl 0 rfl) ?_
    refine lv_iconst (v := 0) S.1 S.2.1 dX2_becomeNew_47 (by decide) ?_
    refine mm_puti S hR hS fpX2_38 (hK.k g2) rfl rfl rfl dX2_becomeNew_48 (fun H locs hR hS => ?_)
    obtain ⟨μ8, e8, hf⟩ := stx hf
    rw [← e8] at hR
    have hK : mmKN μ μ8 := by rw [e8]; exact hK.sI
    refine mm_aload_n S dX2_becomeNew_51 rfl (lv_at hl 0 rfl) ?_
    refine lv_iconst (v := 0) S.1 S.2.1 dX2_becomeNew_52 (by decide) ?_
    refine mm_puti S hR hS fpX2_41 (hK.k g2) rfl rfl rfl dX2_becomeNew_53 (fun H locs hR hS => ?_)
    obtain ⟨μ9, e9, hf⟩ := stx hf
    rw [← e9] at hR
    have hK : mmKN μ μ9 := by rw [e9]; exact hK.sI
    refine mm_aload_n S dX2_becomeNew_56 rfl (lv_at hl 0 rfl) ?_
    refine lv_iconst (v := (-1)) S.1 S.2.1 dX2_becomeNew_57 (by decide) ?_
    refine mm_puti S hR hS fpX2_44 (hK.k g2) rfl rfl rfl dX2_becomeNew_58 (fun H locs hR hS => ?_)
    obtain ⟨μ10, e10, hf⟩ := stx hf
    rw [← e10] at hR
    have hK : mmKN μ μ10 := by rw [e10]; exact hK.sI
    refine mm_aload_n S dX2_becomeNew_61 rfl (lv_at hl 0 rfl) ?_
    refine lv_iconst (v := (-1)) S.1 S.2.1 dX2_becomeNew_62 (by decide) ?_
    refine mm_puti S hR hS fpX2_47 (hK.k g2) rfl rfl rfl dX2_becomeNew_63 (fun H locs hR hS => ?_)
    obtain ⟨μ11, e11, hf⟩ := stx hf
    rw [← e11] at hR
    have hK : mmKN μ μ11 := by rw [e11]; exact hK.sI
    refine mm_aload_n S dX2_becomeNew_66 rfl (lv_at hl 0 rfl) ?_
    refine lv_iconst (v := 0) S.1 S.2.1 dX2_becomeNew_67 (by decide) ?_
    refine mm_puti S hR hS fpX2_50 (hK.k g2) rfl rfl rfl dX2_becomeNew_68 (fun H locs hR hS => ?_)
    obtain ⟨μ12, e12, hf⟩ := stx hf
    rw [← e12] at hR
    have hK : mmKN μ μ12 := by rw [e12]; exact hK.sI
    refine mm_aload_n S dX2_becomeNew_71 rfl (lv_at hl 0 rfl) ?_
    refine lv_iconst (v := (-1)) S.1 S.2.1 dX2_becomeNew_72 (by decide) ?_
    refine mm_puti S hR hS fpX2_53 (hK.k g2) rfl rfl rfl dX2_becomeNew_73 (fun H locs hR hS => ?_)
    obtain ⟨μ13, e13, hf⟩ := stx hf
    rw [← e13] at hR
    have hK : mmKN μ μ13 := by rw [e13]; exact hK.sI
    refine mm_aload_n S dX2_becomeNew_76 rfl (lv_at hl 0 rfl) ?_
    refine lv_iconst (v := (-1)) S.1 S.2.1 dX2_becomeNew_77 (by decide) ?_
    refine mm_puti S hR hS fpX2_56 (hK.k g2) rfl rfl rfl dX2_becomeNew_78 (fun H locs hR hS => ?_)
    obtain ⟨μ14, e14, hf⟩ := stx hf
    rw [← e14] at hR
    have hK : mmKN μ μ14 := by rw [e14]; exact hK.sI
    refine mm_aload_n S dX2_becomeNew_81 rfl (lv_at hl 0 rfl) ?_
    refine lv_iconst (v := 0) S.1 S.2.1 dX2_becomeNew_82 (by decide) ?_
    refine mm_puti S hR hS fpX2_59 (hK.k g2) rfl rfl rfl dX2_becomeNew_83 (fun H locs hR hS => ?_)
    obtain ⟨μ15, e15, hf⟩ := stx hf
    rw [← e15] at hR
    have hK : mmKN μ μ15 := by rw [e15]; exact hK.sI
    refine mm_aload_n S dX2_becomeNew_86 rfl (lv_at hl 0 rfl) ?_
    refine lv_iconst (v := 0) S.1 S.2.1 dX2_becomeNew_87 (by decide) ?_
    refine mm_puti S hR hS fpX2_62 (hK.k g2) rfl rfl rfl dX2_becomeNew_88 (fun H locs hR hS => ?_)
    obtain ⟨μ16, e16, hf⟩ := stx hf
    rw [← e16] at hR
    have hK : mmKN μ μ16 := by rw [e16]; exact hK.sI
    refine mm_aload_n S dX2_becomeNew_91 rfl (lv_at hl 0 rfl) ?_
    refine lv_iload_n S.1 S.2.1 dX2_becomeNew_92 rfl (lv_at hl 3 rfl) ?_
    refine mm_puti S hR hS fpX2_66 (hK.k g2) rfl rfl rfl dX2_becomeNew_93 (fun H locs hR hS => ?_)
    obtain ⟨μ17, e17, hf⟩ := stx hf
    rw [← e17] at hR
    have hK : mmKN μ μ17 := by rw [e17]; exact hK.sI
    obtain rfl := Option.some.inj hf
    exact mm_vret S hR hS hr hlocks dX2_becomeNew_96
  · have hf := it_f hf c1
    refine mm_aload_n S dX2_becomeNew_9 rfl (lv_at hl 0 rfl) ?_
    obtain ⟨g18, hf⟩ := gd hf
    refine mm_getp S hR fdX2_9 (hK.k g18) rfl dX2_becomeNew_10 ?_
    refine lv_iload S.1 S.2.1 dX2_becomeNew_13 (lv_at hl 4 rfl) ?_
    refine lv_iconst (v := 0) S.1 S.2.1 dX2_becomeNew_15 (by decide) ?_
    obtain ⟨g19, hf⟩ := gd hf
    obtain ⟨g20, hf⟩ := gd hf
    refine mm_iast S hR hS (hK.k g19) g20 dX2_becomeNew_16 (fun H locs hR hS => ?_)
    obtain ⟨μ21, e21, hf⟩ := stx hf
    rw [← e21] at hR
    have hK : mmKN μ μ21 := by rw [e21]; exact hK.sI
    refine lv_iinc (v := (x4 + 1)) (lv' := [(4, .int (x4 + 1)), (0, rf h0), (1, .int x1), (2, .int x2), (3, .int x3)]) S.1 S.2.1 dX2_becomeNew_17 hl (k := 4) rfl (by rfl) (by decide) rfl (fun ls hl => ?_)
    refine lv_goto (tgt := 3) S.1 S.2.1 dX2_becomeNew_20 (by decide) ?_
    exact hkk3 h0 x1 x2 x3 (x4 + 1) μ21 hf _ _ _ hR hS (lv_sub hl [1, 2, 3, 4, 0] rfl)
theorem wlX2_becomeNew_3 {p : Program} {l : Launch} {e : Env} {s : State} {m : MethodId} {args : Array Value} {below : List Frame} {meth : Method} {c : Code} {G : mmG} {A : Nat → Prop} {res : MM} (E0 : mmEnv p m c cX2_becomeNew 5 s args RX2 G A meth none)  : ∀ (n : Nat) (h0 : Nat) (x1 : Int32) (x2 : Int32) (x3 : Int32) (x4 : Int32) (μ : MM), lX2_becomeNew_3  n h0 x1 x2 x3 x4 μ = some res → mmGoal p l e rmX2_becomeNew s m args below meth c G A 3 5 [(0, rf h0), (1, .int x1), (2, .int x2), (3, .int x3), (4, .int x4)] μ (mmQ G A res none) := by
  intro n
  induction n with
  | zero => intro h0 x1 x2 x3 x4 μ hf; cases hf
  | succ n ih => intro h0 x1 x2 x3 x4 μ hf; exact wbX2_becomeNew_3 E0  _ ih h0 x1 x2 x3 x4 μ hf
set_option maxRecDepth 100000 in
set_option maxHeartbeats 4000000 in
theorem kX2_becomeNew_c (l : Launch) (G : mmG) (A : Nat → Prop) {μ : MM} {res : MM} {h0 : Nat} {x1 : Int32} {x2 : Int32} {x3 : Int32} (hk0 : mK μ h0 = 3) (hf : fX2_becomeNew h0 x1 x2 x3 μ = some res) : Met l yX2_becomeNew [.code yX2_becomeNew cX2_becomeNew 5 none] rmX2_becomeNew (mmPc G A μ [rf h0, .int x1, .int x2, .int x3]) (mmQ G A res none) 0 0 A := by
  refine mm_ofW (by decide +kernel) (by simp [lg_sl, rf_cat, int_cat]) ?_
  intro p e s m below meth c ls S hR hA hS hr hlocks hl hnm
  have hl : lv_has ls 5 [(0, rf h0), (1, .int x1), (2, .int x2), (3, .int x3)] := by simpa [lv_args, rf_cat, int_cat] using hl
  have E0 : mmEnv p m c cX2_becomeNew 5 s _ RX2 G A meth none := ⟨S, hA, hr, hlocks⟩
  have hK : mmKN μ μ := mmKN.rf
  unfold fX2_becomeNew at hf
  refine lv_iconst (v := 0) S.1 S.2.1 dX2_becomeNew_0 (by decide) ?_
  refine lv_istore (i := 4) (lv' := [(4, .int 0), (0, rf h0), (1, .int x1), (2, .int x2), (3, .int x3)]) S.1 S.2.1 dX2_becomeNew_1 hl (by decide) rfl (fun ls hl => ?_)
  exact wlX2_becomeNew_3 E0  FU h0 x1 x2 x3 0 μ hf _ _ _ hR hS (lv_sub hl [1, 2, 3, 4, 0] rfl)
-- X2_copyFrom
def fX2_copyFrom (h0 : Nat) (h1 : Nat) (μ : MM) : Option (MM) :=
  if mK μ h1 = 3 then if mK μ (mP μ h1 1) = 20 then if mK μ (mP μ h0 1) = 20 then if (4 : Int32).toNatClampNeg ≤ mN μ (mP μ h1 1) then if (4 : Int32).toNatClampNeg ≤ mN μ (mP μ h0 1) then st (sC μ (mP μ h1 1) (mP μ h0 1) (4 : Int32).toNatClampNeg) fun μ6 => if mK μ (mP μ6 h0 2) = 6 then (fX5_copyFrom (mP μ6 h0 2) (mP μ6 h1 2) μ6).bind fun y7 => st (sI y7 h0 3 (mI y7 h1 3)) fun μ9 => st (sI μ9 h0 4 (mI μ9 h1 4)) fun μ10 => st (sI μ10 h0 5 (mI μ10 h1 5)) fun μ11 => st (sI μ11 h0 6 (mI μ11 h1 6)) fun μ12 => st (sI μ12 h0 7 (mI μ12 h1 7)) fun μ13 => st (sI μ13 h0 9 (mI μ13 h1 9)) fun μ14 => st (sI μ14 h0 10 (mI μ14 h1 10)) fun μ15 => st (sI μ15 h0 11 (mI μ15 h1 11)) fun μ16 => st (sI μ16 h0 12 (mI μ16 h1 12)) fun μ17 => st (sI μ17 h0 13 (mI μ17 h1 13)) fun μ18 => st (sI μ18 h0 14 (mI μ18 h1 14)) fun μ19 => if (mI μ19 h1 15) = 0 ∨ (mI μ19 h1 15) = 1 then st (sI μ19 h0 15 (mI μ19 h1 15)) fun μ20 => st (sI μ20 h0 16 (mI μ20 h1 16)) fun μ21 => some μ21 else none else none else none else none else none else none else none
set_option maxRecDepth 100000 in
set_option maxHeartbeats 4000000 in
theorem kX2_copyFrom_kn {μ : MM} {res : MM} {h0 : Nat} {h1 : Nat} (hf : fX2_copyFrom h0 h1 μ = some res) : mmKN μ res := by
  have hK : mmKN μ μ := mmKN.rf
  unfold fX2_copyFrom at hf
  obtain ⟨g1, hf⟩ := gd hf
  obtain ⟨g2, hf⟩ := gd hf
  obtain ⟨g3, hf⟩ := gd hf
  obtain ⟨g4, hf⟩ := gd hf
  obtain ⟨g5, hf⟩ := gd hf
  obtain ⟨μ6, e6, hf⟩ := stx hf
  have hK : mmKN μ μ6 := by rw [e6]; exact hK.sC
  obtain ⟨g8, hf⟩ := gd hf
  obtain ⟨y7, hy7, hf⟩ := bd hf
  have hK : mmKN μ y7 := hK.tr (kX5_copyFrom_kn hy7)
  obtain ⟨μ9, e9, hf⟩ := stx hf
  have hK : mmKN μ μ9 := by rw [e9]; exact hK.sI
  obtain ⟨μ10, e10, hf⟩ := stx hf
  have hK : mmKN μ μ10 := by rw [e10]; exact hK.sI
  obtain ⟨μ11, e11, hf⟩ := stx hf
  have hK : mmKN μ μ11 := by rw [e11]; exact hK.sI
  obtain ⟨μ12, e12, hf⟩ := stx hf
  have hK : mmKN μ μ12 := by rw [e12]; exact hK.sI
  obtain ⟨μ13, e13, hf⟩ := stx hf
  have hK : mmKN μ μ13 := by rw [e13]; exact hK.sI
  obtain ⟨μ14, e14, hf⟩ := stx hf
  have hK : mmKN μ μ14 := by rw [e14]; exact hK.sI
  obtain ⟨μ15, e15, hf⟩ := stx hf
  have hK : mmKN μ μ15 := by rw [e15]; exact hK.sI
  obtain ⟨μ16, e16, hf⟩ := stx hf
  have hK : mmKN μ μ16 := by rw [e16]; exact hK.sI
  obtain ⟨μ17, e17, hf⟩ := stx hf
  have hK : mmKN μ μ17 := by rw [e17]; exact hK.sI
  obtain ⟨μ18, e18, hf⟩ := stx hf
  have hK : mmKN μ μ18 := by rw [e18]; exact hK.sI
  obtain ⟨μ19, e19, hf⟩ := stx hf
  have hK : mmKN μ μ19 := by rw [e19]; exact hK.sI
  obtain ⟨g22, hf⟩ := gd hf
  obtain ⟨μ20, e20, hf⟩ := stx hf
  have hK : mmKN μ μ20 := by rw [e20]; exact hK.sI
  obtain ⟨μ21, e21, hf⟩ := stx hf
  have hK : mmKN μ μ21 := by rw [e21]; exact hK.sI
  obtain rfl := Option.some.inj hf
  exact hK
abbrev rmX2_copyFrom : Room := { frames := 2, cells := 0, slots := 0, locals := 47 }
set_option maxRecDepth 100000 in
set_option maxHeartbeats 4000000 in
theorem kX2_copyFrom_c (l : Launch) (G : mmG) (A : Nat → Prop) {μ : MM} {res : MM} {h0 : Nat} {h1 : Nat} (hk0 : mK μ h0 = 3) (hf : fX2_copyFrom h0 h1 μ = some res) : Met l yX2_copyFrom [.code yX2_copyFrom cX2_copyFrom 2 none] rmX2_copyFrom (mmPc G A μ [rf h0, rf h1]) (mmQ G A res none) 0 0 A := by
  refine mm_ofW (by decide +kernel) (by simp [lg_sl, rf_cat, int_cat]) ?_
  intro p e s m below meth c ls S hR hA hS hr hlocks hl hnm
  have hl : lv_has ls 2 [(0, rf h0), (1, rf h1)] := by simpa [lv_args, rf_cat, int_cat] using hl
  have E0 : mmEnv p m c cX2_copyFrom 2 s _ RX2 G A meth none := ⟨S, hA, hr, hlocks⟩
  have hK : mmKN μ μ := mmKN.rf
  unfold fX2_copyFrom at hf
  refine mm_aload_n S dX2_copyFrom_0 rfl (lv_at hl 1 rfl) ?_
  obtain ⟨g1, hf⟩ := gd hf
  refine mm_getp S hR fdX2_9 (hK.k g1) rfl dX2_copyFrom_1 ?_
  refine lv_iconst (v := 0) S.1 S.2.1 dX2_copyFrom_4 (by decide) ?_
  refine mm_aload_n S dX2_copyFrom_5 rfl (lv_at hl 0 rfl) ?_
  refine mm_getp S hR fdX2_9 (hK.k hk0) rfl dX2_copyFrom_6 ?_
  refine lv_iconst (v := 0) S.1 S.2.1 dX2_copyFrom_9 (by decide) ?_
  refine lv_iconst (v := 4) S.1 S.2.1 dX2_copyFrom_10 (by decide) ?_
  obtain ⟨g2, hf⟩ := gd hf
  obtain ⟨g3, hf⟩ := gd hf
  obtain ⟨g4, hf⟩ := gd hf
  obtain ⟨g5, hf⟩ := gd hf
  refine mm_copy S hR hS cpX2_69 (hK.k g2) (hK.k g3) (by decide) g4 g5 hl.1 (Nat.le_of_ble_eq_true rfl) (by simp [rf_cat, int_cat, long_cat]) dX2_copyFrom_11 (fun H locs hR hS => ?_)
  obtain ⟨μ6, e6, hf⟩ := stx hf
  rw [← e6] at hR
  have hK : mmKN μ μ6 := by rw [e6]; exact hK.sC
  refine mm_aload_n S dX2_copyFrom_14 rfl (lv_at hl 0 rfl) ?_
  refine mm_getp S hR fdX2_18 (hK.k hk0) rfl dX2_copyFrom_15 ?_
  refine mm_aload_n S dX2_copyFrom_18 rfl (lv_at hl 1 rfl) ?_
  refine mm_getp S hR fdX2_18 (hK.k g1) rfl dX2_copyFrom_19 ?_
  obtain ⟨g8, hf⟩ := gd hf
  obtain ⟨y7, hy7, hf⟩ := bd hf
  refine mm_callVv S hR hS hA (As := [rf (mP μ6 h1 2)]) (rest := []) cvX2_75 (hK.k g8) (kX5_copyFrom_c l G A (hK.k g8) hy7) rfl rfl ⟨Nat.le_of_ble_eq_true rfl, Nat.le_of_ble_eq_true rfl⟩ rfl hl.1 rfl (lv_room (by simp [rf_cat, int_cat, long_cat])) dX2_copyFrom_22 ⟨Nat.zero_le _, Nat.zero_le _⟩ (fun H locs hR hS => ?_)
  have hK : mmKN μ y7 := hK.tr (kX5_copyFrom_kn hy7)
  refine mm_aload_n S dX2_copyFrom_25 rfl (lv_at hl 0 rfl) ?_
  refine mm_aload_n S dX2_copyFrom_26 rfl (lv_at hl 1 rfl) ?_
  refine mm_geti S hR fdX2_29 (hK.k g1) rfl dX2_copyFrom_27 ?_
  refine mm_puti S hR hS fpX2_29 (hK.k hk0) rfl rfl rfl dX2_copyFrom_30 (fun H locs hR hS => ?_)
  obtain ⟨μ9, e9, hf⟩ := stx hf
  rw [← e9] at hR
  have hK : mmKN μ μ9 := by rw [e9]; exact hK.sI
  refine mm_aload_n S dX2_copyFrom_33 rfl (lv_at hl 0 rfl) ?_
  refine mm_aload_n S dX2_copyFrom_34 rfl (lv_at hl 1 rfl) ?_
  refine mm_geti S hR fdX2_32 (hK.k g1) rfl dX2_copyFrom_35 ?_
  refine mm_puti S hR hS fpX2_32 (hK.k hk0) rfl rfl rfl dX2_copyFrom_38 (fun H locs hR hS => ?_)
  obtain ⟨μ10, e10, hf⟩ := stx hf
  rw [← e10] at hR
  have hK : mmKN μ μ10 := by rw [e10]; exact hK.sI
  refine mm_aload_n S dX2_copyFrom_41 rfl (lv_at hl 0 rfl) ?_
  refine mm_aload_n S dX2_copyFrom_42 rfl (lv_at hl 1 rfl) ?_
  refine mm_geti S hR fdX2_35 (hK.k g1) rfl dX2_copyFrom_43 ?_
  refine mm_puti S hR hS fpX2_35 (hK.k hk0) rfl rfl rfl dX2_copyFrom_46 (fun H locs hR hS => ?_)
  obtain ⟨μ11, e11, hf⟩ := stx hf
  rw [← e11] at hR
  have hK : mmKN μ μ11 := by rw [e11]; exact hK.sI
  refine mm_aload_n S dX2_copyFrom_49 rfl (lv_at hl 0 rfl) ?_
  refine mm_aload_n S dX2_copyFrom_50 rfl (lv_at hl 1 rfl) ?_
  refine mm_geti S hR fdX2_38 (hK.k g1) rfl dX2_copyFrom_51 ?_
  refine mm_puti S hR hS fpX2_38 (hK.k hk0) rfl rfl rfl dX2_copyFrom_54 (fun H locs hR hS => ?_)
  obtain ⟨μ12, e12, hf⟩ := stx hf
  rw [← e12] at hR
  have hK : mmKN μ μ12 := by rw [e12]; exact hK.sI
  refine mm_aload_n S dX2_copyFrom_57 rfl (lv_at hl 0 rfl) ?_
  refine mm_aload_n S dX2_copyFrom_58 rfl (lv_at hl 1 rfl) ?_
  refine mm_geti S hR fdX2_41 (hK.k g1) rfl dX2_copyFrom_59 ?_
  refine mm_puti S hR hS fpX2_41 (hK.k hk0) rfl rfl rfl dX2_copyFrom_62 (fun H locs hR hS => ?_)
  obtain ⟨μ13, e13, hf⟩ := stx hf
  rw [← e13] at hR
  have hK : mmKN μ μ13 := by rw [e13]; exact hK.sI
  refine mm_aload_n S dX2_copyFrom_65 rfl (lv_at hl 0 rfl) ?_
  refine mm_aload_n S dX2_copyFrom_66 rfl (lv_at hl 1 rfl) ?_
  refine mm_geti S hR fdX2_44 (hK.k g1) rfl dX2_copyFrom_67 ?_
  refine mm_puti S hR hS fpX2_44 (hK.k hk0) rfl rfl rfl dX2_copyFrom_70 (fun H locs hR hS => ?_)
  obtain ⟨μ14, e14, hf⟩ := stx hf
  rw [← e14] at hR
  have hK : mmKN μ μ14 := by rw [e14]; exact hK.sI
  refine mm_aload_n S dX2_copyFrom_73 rfl (lv_at hl 0 rfl) ?_
  refine mm_aload_n S dX2_copyFrom_74 rfl (lv_at hl 1 rfl) ?_
  refine mm_geti S hR fdX2_47 (hK.k g1) rfl dX2_copyFrom_75 ?_
  refine mm_puti S hR hS fpX2_47 (hK.k hk0) rfl rfl rfl dX2_copyFrom_78 (fun H locs hR hS => ?_)
  obtain ⟨μ15, e15, hf⟩ := stx hf
  rw [← e15] at hR
  have hK : mmKN μ μ15 := by rw [e15]; exact hK.sI
  refine mm_aload_n S dX2_copyFrom_81 rfl (lv_at hl 0 rfl) ?_
  refine mm_aload_n S dX2_copyFrom_82 rfl (lv_at hl 1 rfl) ?_
  refine mm_geti S hR fdX2_50 (hK.k g1) rfl dX2_copyFrom_83 ?_
  refine mm_puti S hR hS fpX2_50 (hK.k hk0) rfl rfl rfl dX2_copyFrom_86 (fun H locs hR hS => ?_)
  obtain ⟨μ16, e16, hf⟩ := stx hf
  rw [← e16] at hR
  have hK : mmKN μ μ16 := by rw [e16]; exact hK.sI
  refine mm_aload_n S dX2_copyFrom_89 rfl (lv_at hl 0 rfl) ?_
  refine mm_aload_n S dX2_copyFrom_90 rfl (lv_at hl 1 rfl) ?_
  refine mm_geti S hR fdX2_53 (hK.k g1) rfl dX2_copyFrom_91 ?_
  refine mm_puti S hR hS fpX2_53 (hK.k hk0) rfl rfl rfl dX2_copyFrom_94 (fun H locs hR hS => ?_)
  obtain ⟨μ17, e17, hf⟩ := stx hf
  rw [← e17] at hR
  have hK : mmKN μ μ17 := by rw [e17]; exact hK.sI
  refine mm_aload_n S dX2_copyFrom_97 rfl (lv_at hl 0 rfl) ?_
  refine mm_aload_n S dX2_copyFrom_98 rfl (lv_at hl 1 rfl) ?_
  refine mm_geti S hR fdX2_56 (hK.k g1) rfl dX2_copyFrom_99 ?_
  refine mm_puti S hR hS fpX2_56 (hK.k hk0) rfl rfl rfl dX2_copyFrom_102 (fun H locs hR hS => ?_)
  obtain ⟨μ18, e18, hf⟩ := stx hf
  rw [← e18] at hR
  have hK : mmKN μ μ18 := by rw [e18]; exact hK.sI
  refine mm_aload_n S dX2_copyFrom_105 rfl (lv_at hl 0 rfl) ?_
  refine mm_aload_n S dX2_copyFrom_106 rfl (lv_at hl 1 rfl) ?_
  refine mm_geti S hR fdX2_59 (hK.k g1) rfl dX2_copyFrom_107 ?_
  refine mm_puti S hR hS fpX2_59 (hK.k hk0) rfl rfl rfl dX2_copyFrom_110 (fun H locs hR hS => ?_)
  obtain ⟨μ19, e19, hf⟩ := stx hf
  rw [← e19] at hR
  have hK : mmKN μ μ19 := by rw [e19]; exact hK.sI
  refine mm_aload_n S dX2_copyFrom_113 rfl (lv_at hl 0 rfl) ?_
  refine mm_aload_n S dX2_copyFrom_114 rfl (lv_at hl 1 rfl) ?_
  refine mm_geti S hR fdX2_62 (hK.k g1) rfl dX2_copyFrom_115 ?_
  obtain ⟨g22, hf⟩ := gd hf
  refine mm_puti S hR hS fpX2_62 (hK.k hk0) rfl (nb_ok g22) (fb_ok g22) dX2_copyFrom_118 (fun H locs hR hS => ?_)
  obtain ⟨μ20, e20, hf⟩ := stx hf
  rw [← e20] at hR
  have hK : mmKN μ μ20 := by rw [e20]; exact hK.sI
  refine mm_aload_n S dX2_copyFrom_121 rfl (lv_at hl 0 rfl) ?_
  refine mm_aload_n S dX2_copyFrom_122 rfl (lv_at hl 1 rfl) ?_
  refine mm_geti S hR fdX2_66 (hK.k g1) rfl dX2_copyFrom_123 ?_
  refine mm_puti S hR hS fpX2_66 (hK.k hk0) rfl rfl rfl dX2_copyFrom_126 (fun H locs hR hS => ?_)
  obtain ⟨μ21, e21, hf⟩ := stx hf
  rw [← e21] at hR
  have hK : mmKN μ μ21 := by rw [e21]; exact hK.sI
  obtain rfl := Option.some.inj hf
  exact mm_vret S hR hS hr hlocks dX2_copyFrom_129
-- X2_isOver
def fX2_isOver (h0 : Nat) (μ : MM) : Option (Int32 × MM) :=
  if (mI μ h0 5) = (3 : Int32) then (some (1, μ)) else (if (mI μ h0 5) = (4 : Int32) then (some (1, μ)) else (some (0, μ)))
set_option maxRecDepth 100000 in
set_option maxHeartbeats 4000000 in
theorem kX2_isOver_kn {μ : MM} {res : Int32 × MM} {h0 : Nat} (hf : fX2_isOver h0 μ = some res) : mmKN μ res.2 := by
  have hK : mmKN μ μ := mmKN.rf
  unfold fX2_isOver at hf
  rcases it_or hf with ⟨c1, hf⟩ | ⟨c1, hf⟩
  · skip
    obtain rfl := Option.some.inj hf
    exact hK
  · skip
    rcases it_or hf with ⟨c2, hf⟩ | ⟨c2, hf⟩
    · skip
      obtain rfl := Option.some.inj hf
      exact hK
    · skip
      obtain rfl := Option.some.inj hf
      exact hK
abbrev rmX2_isOver : Room := { frames := 0, cells := 0, slots := 0, locals := 0 }
set_option maxRecDepth 100000 in
set_option maxHeartbeats 4000000 in
theorem kX2_isOver_c (l : Launch) (G : mmG) (A : Nat → Prop) {μ : MM} {res : Int32 × MM} {h0 : Nat} (hk0 : mK μ h0 = 3) (hf : fX2_isOver h0 μ = some res) : Met l yX2_isOver [.code yX2_isOver cX2_isOver 1 (some (.boolean))] rmX2_isOver (mmPc G A μ [rf h0]) (mmQ G A res.2 (some (.int res.1))) 0 0 A := by
  refine mm_ofW (by decide +kernel) (by simp [lg_sl, rf_cat, int_cat]) ?_
  intro p e s m below meth c ls S hR hA hS hr hlocks hl hnm
  have hl : lv_has ls 1 [(0, rf h0)] := by simpa [lv_args, rf_cat, int_cat] using hl
  have E0 : mmEnv p m c cX2_isOver 1 s _ RX2 G A meth (some (.boolean)) := ⟨S, hA, hr, hlocks⟩
  have hK : mmKN μ μ := mmKN.rf
  unfold fX2_isOver at hf
  refine mm_aload_n S dX2_isOver_0 rfl (lv_at hl 0 rfl) ?_
  refine mm_geti S hR fdX2_35 (hK.k hk0) rfl dX2_isOver_1 ?_
  refine lv_iconst (v := 3) S.1 S.2.1 dX2_isOver_4 (by decide) ?_
  refine lv_icmp_eq (tgt := 16) S.1 S.2.1 dX2_isOver_5 (by decide) (fun c1 => ?_) (fun c1 => ?_)
  · have hf := it_t hf c1
    refine lv_iconst (v := 1) S.1 S.2.1 dX2_isOver_16 (by decide) ?_
    refine lv_goto (tgt := 21) S.1 S.2.1 dX2_isOver_17 (by decide) ?_
    obtain rfl := Option.some.inj hf
    exact mm_zret S hR hS hr hlocks (Or.inr rfl) dX2_isOver_21
  · have hf := it_f hf c1
    refine mm_aload_n S dX2_isOver_8 rfl (lv_at hl 0 rfl) ?_
    refine mm_geti S hR fdX2_35 (hK.k hk0) rfl dX2_isOver_9 ?_
    refine lv_iconst (v := 4) S.1 S.2.1 dX2_isOver_12 (by decide) ?_
    refine lv_icmp_ne (tgt := 20) S.1 S.2.1 dX2_isOver_13 (by decide) (fun c2 => ?_) (fun c2 => ?_)
    · have hf := it_f hf c2
      refine lv_iconst (v := 0) S.1 S.2.1 dX2_isOver_20 (by decide) ?_
      obtain rfl := Option.some.inj hf
      exact mm_zret S hR hS hr hlocks (Or.inl rfl) dX2_isOver_21
    · have hf := it_t hf c2
      refine lv_iconst (v := 1) S.1 S.2.1 dX2_isOver_16 (by decide) ?_
      refine lv_goto (tgt := 21) S.1 S.2.1 dX2_isOver_17 (by decide) ?_
      obtain rfl := Option.some.inj hf
      exact mm_zret S hR hS hr hlocks (Or.inr rfl) dX2_isOver_21
-- X2_localAt
def fX2_localAt (h0 : Nat) (x1 : Int32) (μ : MM) : Option (Int32 × MM) :=
  if x1 < 0 then (some (0, μ)) else (if (4 : Int32) ≤ x1 then (some (0, μ)) else (if mK μ (mP μ h0 1) = 20 then if ¬ (x1 < 0 ∨ mN μ (mP μ h0 1) ≤ x1.toNatClampNeg) then some ((mI μ (mP μ h0 1) x1.toNatClampNeg), μ) else none else none))
set_option maxRecDepth 100000 in
set_option maxHeartbeats 4000000 in
theorem kX2_localAt_kn {μ : MM} {res : Int32 × MM} {h0 : Nat} {x1 : Int32} (hf : fX2_localAt h0 x1 μ = some res) : mmKN μ res.2 := by
  have hK : mmKN μ μ := mmKN.rf
  unfold fX2_localAt at hf
  rcases it_or hf with ⟨c1, hf⟩ | ⟨c1, hf⟩
  · skip
    obtain rfl := Option.some.inj hf
    exact hK
  · skip
    rcases it_or hf with ⟨c2, hf⟩ | ⟨c2, hf⟩
    · skip
      obtain rfl := Option.some.inj hf
      exact hK
    · skip
      obtain ⟨g3, hf⟩ := gd hf
      obtain ⟨g4, hf⟩ := gd hf
      obtain rfl := Option.some.inj hf
      exact hK
abbrev rmX2_localAt : Room := { frames := 0, cells := 0, slots := 0, locals := 0 }
set_option maxRecDepth 100000 in
set_option maxHeartbeats 4000000 in
theorem kX2_localAt_c (l : Launch) (G : mmG) (A : Nat → Prop) {μ : MM} {res : Int32 × MM} {h0 : Nat} {x1 : Int32} (hk0 : mK μ h0 = 3) (hf : fX2_localAt h0 x1 μ = some res) : Met l yX2_localAt [.code yX2_localAt cX2_localAt 2 (some (.int))] rmX2_localAt (mmPc G A μ [rf h0, .int x1]) (mmQ G A res.2 (some (.int res.1))) 0 0 A := by
  refine mm_ofW (by decide +kernel) (by simp [lg_sl, rf_cat, int_cat]) ?_
  intro p e s m below meth c ls S hR hA hS hr hlocks hl hnm
  have hl : lv_has ls 2 [(0, rf h0), (1, .int x1)] := by simpa [lv_args, rf_cat, int_cat] using hl
  have E0 : mmEnv p m c cX2_localAt 2 s _ RX2 G A meth (some (.int)) := ⟨S, hA, hr, hlocks⟩
  have hK : mmKN μ μ := mmKN.rf
  unfold fX2_localAt at hf
  refine lv_iload_n S.1 S.2.1 dX2_localAt_0 rfl (lv_at hl 1 rfl) ?_
  refine lv_if_lt (tgt := 18) S.1 S.2.1 dX2_localAt_1 (by decide) (fun c1 => ?_) (fun c1 => ?_)
  · have hf := it_t hf c1
    refine lv_iconst (v := 0) S.1 S.2.1 dX2_localAt_18 (by decide) ?_
    obtain rfl := Option.some.inj hf
    exact mm_iret S hR hS hr hlocks dX2_localAt_19
  · have hf := it_f hf c1
    refine lv_iload_n S.1 S.2.1 dX2_localAt_4 rfl (lv_at hl 1 rfl) ?_
    refine lv_iconst (v := 4) S.1 S.2.1 dX2_localAt_5 (by decide) ?_
    refine lv_icmp_ge (tgt := 18) S.1 S.2.1 dX2_localAt_6 (by decide) (fun c2 => ?_) (fun c2 => ?_)
    · have hf := it_t hf c2
      refine lv_iconst (v := 0) S.1 S.2.1 dX2_localAt_18 (by decide) ?_
      obtain rfl := Option.some.inj hf
      exact mm_iret S hR hS hr hlocks dX2_localAt_19
    · have hf := it_f hf c2
      refine mm_aload_n S dX2_localAt_9 rfl (lv_at hl 0 rfl) ?_
      refine mm_getp S hR fdX2_9 (hK.k hk0) rfl dX2_localAt_10 ?_
      refine lv_iload_n S.1 S.2.1 dX2_localAt_13 rfl (lv_at hl 1 rfl) ?_
      obtain ⟨g3, hf⟩ := gd hf
      obtain ⟨g4, hf⟩ := gd hf
      refine mm_iald S hR (hK.k g3) g4 dX2_localAt_14 ?_
      refine lv_goto (tgt := 19) S.1 S.2.1 dX2_localAt_15 (by decide) ?_
      obtain rfl := Option.some.inj hf
      exact mm_iret S hR hS hr hlocks dX2_localAt_19
-- X2_setLocal
def fX2_setLocal (h0 : Nat) (x1 : Int32) (x2 : Int32) (μ : MM) : Option (MM) :=
  if x1 < 0 then (some μ) else (if (4 : Int32) ≤ x1 then (some μ) else (if mK μ (mP μ h0 1) = 20 then if ¬ (x1 < 0 ∨ mN μ (mP μ h0 1) ≤ x1.toNatClampNeg) then st (sI μ (mP μ h0 1) x1.toNatClampNeg x2) fun μ5 => some μ5 else none else none))
set_option maxRecDepth 100000 in
set_option maxHeartbeats 4000000 in
theorem kX2_setLocal_kn {μ : MM} {res : MM} {h0 : Nat} {x1 : Int32} {x2 : Int32} (hf : fX2_setLocal h0 x1 x2 μ = some res) : mmKN μ res := by
  have hK : mmKN μ μ := mmKN.rf
  unfold fX2_setLocal at hf
  rcases it_or hf with ⟨c1, hf⟩ | ⟨c1, hf⟩
  · skip
    obtain rfl := Option.some.inj hf
    exact hK
  · skip
    rcases it_or hf with ⟨c2, hf⟩ | ⟨c2, hf⟩
    · skip
      obtain rfl := Option.some.inj hf
      exact hK
    · skip
      obtain ⟨g3, hf⟩ := gd hf
      obtain ⟨g4, hf⟩ := gd hf
      obtain ⟨μ5, e5, hf⟩ := stx hf
      have hK : mmKN μ μ5 := by rw [e5]; exact hK.sI
      obtain rfl := Option.some.inj hf
      exact hK
abbrev rmX2_setLocal : Room := { frames := 0, cells := 0, slots := 0, locals := 0 }
set_option maxRecDepth 100000 in
set_option maxHeartbeats 4000000 in
theorem kX2_setLocal_c (l : Launch) (G : mmG) (A : Nat → Prop) {μ : MM} {res : MM} {h0 : Nat} {x1 : Int32} {x2 : Int32} (hk0 : mK μ h0 = 3) (hf : fX2_setLocal h0 x1 x2 μ = some res) : Met l yX2_setLocal [.code yX2_setLocal cX2_setLocal 3 none] rmX2_setLocal (mmPc G A μ [rf h0, .int x1, .int x2]) (mmQ G A res none) 0 0 A := by
  refine mm_ofW (by decide +kernel) (by simp [lg_sl, rf_cat, int_cat]) ?_
  intro p e s m below meth c ls S hR hA hS hr hlocks hl hnm
  have hl : lv_has ls 3 [(0, rf h0), (1, .int x1), (2, .int x2)] := by simpa [lv_args, rf_cat, int_cat] using hl
  have E0 : mmEnv p m c cX2_setLocal 3 s _ RX2 G A meth none := ⟨S, hA, hr, hlocks⟩
  have hK : mmKN μ μ := mmKN.rf
  unfold fX2_setLocal at hf
  refine lv_iload_n S.1 S.2.1 dX2_setLocal_0 rfl (lv_at hl 1 rfl) ?_
  refine lv_if_lt (tgt := 16) S.1 S.2.1 dX2_setLocal_1 (by decide) (fun c1 => ?_) (fun c1 => ?_)
  · have hf := it_t hf c1
    obtain rfl := Option.some.inj hf
    exact mm_vret S hR hS hr hlocks dX2_setLocal_16
  · have hf := it_f hf c1
    refine lv_iload_n S.1 S.2.1 dX2_setLocal_4 rfl (lv_at hl 1 rfl) ?_
    refine lv_iconst (v := 4) S.1 S.2.1 dX2_setLocal_5 (by decide) ?_
    refine lv_icmp_ge (tgt := 16) S.1 S.2.1 dX2_setLocal_6 (by decide) (fun c2 => ?_) (fun c2 => ?_)
    · have hf := it_t hf c2
      obtain rfl := Option.some.inj hf
      exact mm_vret S hR hS hr hlocks dX2_setLocal_16
    · have hf := it_f hf c2
      refine mm_aload_n S dX2_setLocal_9 rfl (lv_at hl 0 rfl) ?_
      refine mm_getp S hR fdX2_9 (hK.k hk0) rfl dX2_setLocal_10 ?_
      refine lv_iload_n S.1 S.2.1 dX2_setLocal_13 rfl (lv_at hl 1 rfl) ?_
      refine lv_iload_n S.1 S.2.1 dX2_setLocal_14 rfl (lv_at hl 2 rfl) ?_
      obtain ⟨g3, hf⟩ := gd hf
      obtain ⟨g4, hf⟩ := gd hf
      refine mm_iast S hR hS (hK.k g3) g4 dX2_setLocal_15 (fun H locs hR hS => ?_)
      obtain ⟨μ5, e5, hf⟩ := stx hf
      rw [← e5] at hR
      have hK : mmKN μ μ5 := by rw [e5]; exact hK.sI
      obtain rfl := Option.some.inj hf
      exact mm_vret S hR hS hr hlocks dX2_setLocal_16
-- X2_goOnAt
def fX2_goOnAt (h0 : Nat) (x1 : Int32) (μ : MM) : Option (MM) :=
  st (sI μ h0 5 2) fun μ1 => st (sI μ1 h0 6 x1) fun μ2 => some μ2
set_option maxRecDepth 100000 in
set_option maxHeartbeats 4000000 in
theorem kX2_goOnAt_kn {μ : MM} {res : MM} {h0 : Nat} {x1 : Int32} (hf : fX2_goOnAt h0 x1 μ = some res) : mmKN μ res := by
  have hK : mmKN μ μ := mmKN.rf
  unfold fX2_goOnAt at hf
  obtain ⟨μ1, e1, hf⟩ := stx hf
  have hK : mmKN μ μ1 := by rw [e1]; exact hK.sI
  obtain ⟨μ2, e2, hf⟩ := stx hf
  have hK : mmKN μ μ2 := by rw [e2]; exact hK.sI
  obtain rfl := Option.some.inj hf
  exact hK
abbrev rmX2_goOnAt : Room := { frames := 0, cells := 0, slots := 0, locals := 0 }
set_option maxRecDepth 100000 in
set_option maxHeartbeats 4000000 in
theorem kX2_goOnAt_c (l : Launch) (G : mmG) (A : Nat → Prop) {μ : MM} {res : MM} {h0 : Nat} {x1 : Int32} (hk0 : mK μ h0 = 3) (hf : fX2_goOnAt h0 x1 μ = some res) : Met l yX2_goOnAt [.code yX2_goOnAt cX2_goOnAt 2 none] rmX2_goOnAt (mmPc G A μ [rf h0, .int x1]) (mmQ G A res none) 0 0 A := by
  refine mm_ofW (by decide +kernel) (by simp [lg_sl, rf_cat, int_cat]) ?_
  intro p e s m below meth c ls S hR hA hS hr hlocks hl hnm
  have hl : lv_has ls 2 [(0, rf h0), (1, .int x1)] := by simpa [lv_args, rf_cat, int_cat] using hl
  have E0 : mmEnv p m c cX2_goOnAt 2 s _ RX2 G A meth none := ⟨S, hA, hr, hlocks⟩
  have hK : mmKN μ μ := mmKN.rf
  unfold fX2_goOnAt at hf
  refine mm_aload_n S dX2_goOnAt_0 rfl (lv_at hl 0 rfl) ?_
  refine lv_iconst (v := 2) S.1 S.2.1 dX2_goOnAt_1 (by decide) ?_
  refine mm_puti S hR hS fpX2_35 (hK.k hk0) rfl rfl rfl dX2_goOnAt_2 (fun H locs hR hS => ?_)
  obtain ⟨μ1, e1, hf⟩ := stx hf
  rw [← e1] at hR
  have hK : mmKN μ μ1 := by rw [e1]; exact hK.sI
  refine mm_aload_n S dX2_goOnAt_5 rfl (lv_at hl 0 rfl) ?_
  refine lv_iload_n S.1 S.2.1 dX2_goOnAt_6 rfl (lv_at hl 1 rfl) ?_
  refine mm_puti S hR hS fpX2_38 (hK.k hk0) rfl rfl rfl dX2_goOnAt_7 (fun H locs hR hS => ?_)
  obtain ⟨μ2, e2, hf⟩ := stx hf
  rw [← e2] at hR
  have hK : mmKN μ μ2 := by rw [e2]; exact hK.sI
  obtain rfl := Option.some.inj hf
  exact mm_vret S hR hS hr hlocks dX2_goOnAt_10
-- X2_end
def fX2_end (h0 : Nat) (x1 : Int32) (x2 : Int32) (μ : MM) : Option (MM) :=
  st (sI μ h0 5 x1) fun μ1 => st (sI μ1 h0 7 x2) fun μ2 => some μ2
set_option maxRecDepth 100000 in
set_option maxHeartbeats 4000000 in
theorem kX2_end_kn {μ : MM} {res : MM} {h0 : Nat} {x1 : Int32} {x2 : Int32} (hf : fX2_end h0 x1 x2 μ = some res) : mmKN μ res := by
  have hK : mmKN μ μ := mmKN.rf
  unfold fX2_end at hf
  obtain ⟨μ1, e1, hf⟩ := stx hf
  have hK : mmKN μ μ1 := by rw [e1]; exact hK.sI
  obtain ⟨μ2, e2, hf⟩ := stx hf
  have hK : mmKN μ μ2 := by rw [e2]; exact hK.sI
  obtain rfl := Option.some.inj hf
  exact hK
abbrev rmX2_end : Room := { frames := 0, cells := 0, slots := 0, locals := 0 }
set_option maxRecDepth 100000 in
set_option maxHeartbeats 4000000 in
theorem kX2_end_c (l : Launch) (G : mmG) (A : Nat → Prop) {μ : MM} {res : MM} {h0 : Nat} {x1 : Int32} {x2 : Int32} (hk0 : mK μ h0 = 3) (hf : fX2_end h0 x1 x2 μ = some res) : Met l yX2_end [.code yX2_end cX2_end 3 none] rmX2_end (mmPc G A μ [rf h0, .int x1, .int x2]) (mmQ G A res none) 0 0 A := by
  refine mm_ofW (by decide +kernel) (by simp [lg_sl, rf_cat, int_cat]) ?_
  intro p e s m below meth c ls S hR hA hS hr hlocks hl hnm
  have hl : lv_has ls 3 [(0, rf h0), (1, .int x1), (2, .int x2)] := by simpa [lv_args, rf_cat, int_cat] using hl
  have E0 : mmEnv p m c cX2_end 3 s _ RX2 G A meth none := ⟨S, hA, hr, hlocks⟩
  have hK : mmKN μ μ := mmKN.rf
  unfold fX2_end at hf
  refine mm_aload_n S dX2_end_0 rfl (lv_at hl 0 rfl) ?_
  refine lv_iload_n S.1 S.2.1 dX2_end_1 rfl (lv_at hl 1 rfl) ?_
  refine mm_puti S hR hS fpX2_35 (hK.k hk0) rfl rfl rfl dX2_end_2 (fun H locs hR hS => ?_)
  obtain ⟨μ1, e1, hf⟩ := stx hf
  rw [← e1] at hR
  have hK : mmKN μ μ1 := by rw [e1]; exact hK.sI
  refine mm_aload_n S dX2_end_5 rfl (lv_at hl 0 rfl) ?_
  refine lv_iload_n S.1 S.2.1 dX2_end_6 rfl (lv_at hl 2 rfl) ?_
  refine mm_puti S hR hS fpX2_41 (hK.k hk0) rfl rfl rfl dX2_end_7 (fun H locs hR hS => ?_)
  obtain ⟨μ2, e2, hf⟩ := stx hf
  rw [← e2] at hR
  have hK : mmKN μ μ2 := by rw [e2]; exact hK.sI
  obtain rfl := Option.some.inj hf
  exact mm_vret S hR hS hr hlocks dX2_end_10
-- X2_beginReturn
def fX2_beginReturn (h0 : Nat) (μ : MM) : Option (Int32 × MM) :=
  st (sI μ h0 8 (mI μ h0 7)) fun μ1 => some ((-4), μ1)
set_option maxRecDepth 100000 in
set_option maxHeartbeats 4000000 in
theorem kX2_beginReturn_kn {μ : MM} {res : Int32 × MM} {h0 : Nat} (hf : fX2_beginReturn h0 μ = some res) : mmKN μ res.2 := by
  have hK : mmKN μ μ := mmKN.rf
  unfold fX2_beginReturn at hf
  obtain ⟨μ1, e1, hf⟩ := stx hf
  have hK : mmKN μ μ1 := by rw [e1]; exact hK.sI
  obtain rfl := Option.some.inj hf
  exact hK
abbrev rmX2_beginReturn : Room := { frames := 0, cells := 0, slots := 0, locals := 0 }
set_option maxRecDepth 100000 in
set_option maxHeartbeats 4000000 in
theorem kX2_beginReturn_c (l : Launch) (G : mmG) (A : Nat → Prop) {μ : MM} {res : Int32 × MM} {h0 : Nat} (hk0 : mK μ h0 = 3) (hf : fX2_beginReturn h0 μ = some res) : Met l yX2_beginReturn [.code yX2_beginReturn cX2_beginReturn 1 (some (.int))] rmX2_beginReturn (mmPc G A μ [rf h0]) (mmQ G A res.2 (some (.int res.1))) 0 0 A := by
  refine mm_ofW (by decide +kernel) (by simp [lg_sl, rf_cat, int_cat]) ?_
  intro p e s m below meth c ls S hR hA hS hr hlocks hl hnm
  have hl : lv_has ls 1 [(0, rf h0)] := by simpa [lv_args, rf_cat, int_cat] using hl
  have E0 : mmEnv p m c cX2_beginReturn 1 s _ RX2 G A meth (some (.int)) := ⟨S, hA, hr, hlocks⟩
  have hK : mmKN μ μ := mmKN.rf
  unfold fX2_beginReturn at hf
  refine mm_aload_n S dX2_beginReturn_0 rfl (lv_at hl 0 rfl) ?_
  refine mm_aload_n S dX2_beginReturn_1 rfl (lv_at hl 0 rfl) ?_
  refine mm_geti S hR fdX2_41 (hK.k hk0) rfl dX2_beginReturn_2 ?_
  refine mm_puti S hR hS fpX2_79 (hK.k hk0) rfl rfl rfl dX2_beginReturn_5 (fun H locs hR hS => ?_)
  obtain ⟨μ1, e1, hf⟩ := stx hf
  rw [← e1] at hR
  have hK : mmKN μ μ1 := by rw [e1]; exact hK.sI
  refine lv_bipush (v := (-4)) S.1 S.2.1 dX2_beginReturn_8 (by decide) ?_
  obtain rfl := Option.some.inj hf
  exact mm_iret S hR hS hr hlocks dX2_beginReturn_10
-- X2_leave
def bX2_leave_8 (kk8 : Nat → Int32 → Int32 → MM → Option (MM)) (h0 : Nat) (x1 : Int32) (x2 : Int32) (μ : MM) : Option (MM) :=
  if x2 ≤ 0 then (if x1 = ((-4) : Int32) then (if mK μ h0 = 3 then (fX2_end h0 3 (mI μ h0 8) μ).bind fun y6 => some y6 else none) else (if mK μ h0 = 3 then (fX2_end h0 4 x1 μ).bind fun y3 => some y3 else none)) else (if mK μ h0 = 3 then if mK μ (mP μ h0 2) = 6 then (fX5_lastSign (mP μ h0 2) μ).bind fun y8 => if mK μ (mP y8.2 h0 2) = 6 then (fX5_lastMark (mP y8.2 h0 2) y8.2).bind fun y10 => if mK μ (mP y10.2 h0 2) = 6 then (fX5_takeOff (mP y10.2 h0 2) y10.2).bind fun y12 => if y8.1 = ((-2) : Int32) then (if mK μ (mP y12 h0 2) = 6 then (fX5_put (mP y12 h0 2) x1 (mI y12 h0 8) y12).bind fun y20 => (fX2_goOnAt h0 y10.1 y20).bind fun y22 => some y22 else none) else (if y8.1 = ((-1) : Int32) then ((fX6_within x1 1 9 y12).bind fun y16 => if y16.1 = 0 then (kk8 h0 x1 (x2 + (-1)) y16.2) else (st (sI y16.2 h0 7 x1) fun μ18 => (fX2_goOnAt h0 y10.1 μ18).bind fun y19 => some y19)) else (kk8 h0 x1 (x2 + (-1)) y12)) else none else none else none else none)
def lX2_leave_8  : Nat → Nat → Int32 → Int32 → MM → Option (MM)
  | 0, _, _, _, _ => none
  | n + 1, h0, x1, x2, μ => bX2_leave_8  (fun h0 x1 x2 μ => lX2_leave_8  n h0 x1 x2 μ) h0 x1 x2 μ
def fX2_leave (h0 : Nat) (x1 : Int32) (μ : MM) : Option (MM) :=
  if mK μ (mP μ h0 2) = 6 then lX2_leave_8  FU h0 x1 (mI μ (mP μ h0 2) 2) μ else none
set_option maxRecDepth 100000 in
set_option maxHeartbeats 4000000 in
theorem knbX2_leave_8 (kk8 : Nat → Int32 → Int32 → MM → Option (MM)) (hkk8 : ∀ (h0 : Nat) (x1 : Int32) (x2 : Int32) (μ : MM) (res : MM), kk8 h0 x1 x2 μ = some res → mmKN μ res) : ∀ (h0 : Nat) (x1 : Int32) (x2 : Int32) (μ : MM) (res : MM), bX2_leave_8 kk8 h0 x1 x2 μ = some res → mmKN μ res := by
  intro h0 x1 x2 μ res hf
  have hK : mmKN μ μ := mmKN.rf
  unfold bX2_leave_8 at hf
  rcases it_or hf with ⟨c1, hf⟩ | ⟨c1, hf⟩
  · skip
    rcases it_or hf with ⟨c2, hf⟩ | ⟨c2, hf⟩
    · skip
      obtain ⟨g5, hf⟩ := gd hf
      obtain ⟨y6, hy6, hf⟩ := bd hf
      have hK : mmKN μ y6 := hK.tr (kX2_end_kn hy6)
      obtain rfl := Option.some.inj hf
      exact hK
    · skip
      obtain ⟨g4, hf⟩ := gd hf
      obtain ⟨y3, hy3, hf⟩ := bd hf
      have hK : mmKN μ y3 := hK.tr (kX2_end_kn hy3)
      obtain rfl := Option.some.inj hf
      exact hK
  · skip
    obtain ⟨g7, hf⟩ := gd hf
    obtain ⟨g9, hf⟩ := gd hf
    obtain ⟨y8, hy8, hf⟩ := bd hf
    have hK : mmKN μ y8.2 := hK.tr (kX5_lastSign_kn hy8)
    obtain ⟨g11, hf⟩ := gd hf
    obtain ⟨y10, hy10, hf⟩ := bd hf
    have hK : mmKN μ y10.2 := hK.tr (kX5_lastMark_kn hy10)
    obtain ⟨g13, hf⟩ := gd hf
    obtain ⟨y12, hy12, hf⟩ := bd hf
    have hK : mmKN μ y12 := hK.tr (kX5_takeOff_kn hy12)
    rcases it_or hf with ⟨c14, hf⟩ | ⟨c14, hf⟩
    · skip
      obtain ⟨g21, hf⟩ := gd hf
      obtain ⟨y20, hy20, hf⟩ := bd hf
      have hK : mmKN μ y20 := hK.tr (kX5_put_kn hy20)
      obtain ⟨y22, hy22, hf⟩ := bd hf
      have hK : mmKN μ y22 := hK.tr (kX2_goOnAt_kn hy22)
      obtain rfl := Option.some.inj hf
      exact hK
    · skip
      rcases it_or hf with ⟨c15, hf⟩ | ⟨c15, hf⟩
      · skip
        obtain ⟨y16, hy16, hf⟩ := bd hf
        have hK : mmKN μ y16.2 := hK.tr (kX6_within_kn hy16)
        rcases it_or hf with ⟨c17, hf⟩ | ⟨c17, hf⟩
        · skip
          exact hK.tr (hkk8 h0 x1 (x2 + (-1)) y16.2 _ hf)
        · skip
          obtain ⟨μ18, e18, hf⟩ := stx hf
          have hK : mmKN μ μ18 := by rw [e18]; exact hK.sI
          obtain ⟨y19, hy19, hf⟩ := bd hf
          have hK : mmKN μ y19 := hK.tr (kX2_goOnAt_kn hy19)
          obtain rfl := Option.some.inj hf
          exact hK
      · skip
        exact hK.tr (hkk8 h0 x1 (x2 + (-1)) y12 _ hf)
theorem knlX2_leave_8  : ∀ (n : Nat) (h0 : Nat) (x1 : Int32) (x2 : Int32) (μ : MM) (res : MM), lX2_leave_8  n h0 x1 x2 μ = some res → mmKN μ res := by
  intro n
  induction n with
  | zero => intro h0 x1 x2 μ res hf; cases hf
  | succ n ih => intro h0 x1 x2 μ res hf; exact knbX2_leave_8  _ ih h0 x1 x2 μ res hf
set_option maxRecDepth 100000 in
set_option maxHeartbeats 4000000 in
theorem kX2_leave_kn {μ : MM} {res : MM} {h0 : Nat} {x1 : Int32} (hf : fX2_leave h0 x1 μ = some res) : mmKN μ res := by
  have hK : mmKN μ μ := mmKN.rf
  unfold fX2_leave at hf
  obtain ⟨g1, hf⟩ := gd hf
  exact hK.tr (knlX2_leave_8  FU h0 x1 (mI μ (mP μ h0 2) 2) μ _ hf)
abbrev rmX2_leave : Room := { frames := 1, cells := 0, slots := 0, locals := 22 }
set_option maxRecDepth 100000 in
set_option maxHeartbeats 4000000 in
theorem wbX2_leave_8 {p : Program} {l : Launch} {e : Env} {s : State} {m : MethodId} {args : Array Value} {below : List Frame} {meth : Method} {c : Code} {G : mmG} {A : Nat → Prop} {res : MM} (E0 : mmEnv p m c cX2_leave 5 s args RX2 G A meth none) (kk8 : Nat → Int32 → Int32 → MM → Option (MM)) (hkk8 : ∀ (h0 : Nat) (x1 : Int32) (x2 : Int32) (μ : MM), kk8 h0 x1 x2 μ = some res → mmGoal p l e rmX2_leave s m args below meth c G A 8 5 [(0, rf h0), (1, .int x1), (2, .int x2)] μ (mmQ G A res none)) : ∀ (h0 : Nat) (x1 : Int32) (x2 : Int32) (μ : MM), bX2_leave_8 kk8 h0 x1 x2 μ = some res → mmGoal p l e rmX2_leave s m args below meth c G A 8 5 [(0, rf h0), (1, .int x1), (2, .int x2)] μ (mmQ G A res none) := by
  obtain ⟨S, hA, hr, hlocks⟩ := id E0
  intro h0 x1 x2 μ hf H locs ls hR hS hl
  have hK : mmKN μ μ := mmKN.rf
  unfold bX2_leave_8 at hf
  refine lv_iload_n S.1 S.2.1 dX2_leave_8 rfl (lv_at hl 2 rfl) ?_
  refine lv_if_le (tgt := 94) S.1 S.2.1 dX2_leave_9 (by decide) (fun c1 => ?_) (fun c1 => ?_)
  · have hf := it_t hf c1
    refine lv_iload_n S.1 S.2.1 dX2_leave_94 rfl (lv_at hl 1 rfl) ?_
    refine lv_bipush (v := (-4)) S.1 S.2.1 dX2_leave_95 (by decide) ?_
    refine lv_icmp_ne (tgt := 112) S.1 S.2.1 dX2_leave_97 (by decide) (fun c2 => ?_) (fun c2 => ?_)
    · have hf := it_f hf c2
      refine mm_aload_n S dX2_leave_112 rfl (lv_at hl 0 rfl) ?_
      refine lv_iconst (v := 4) S.1 S.2.1 dX2_leave_113 (by decide) ?_
      refine lv_iload_n S.1 S.2.1 dX2_leave_114 rfl (lv_at hl 1 rfl) ?_
      obtain ⟨g4, hf⟩ := gd hf
      obtain ⟨y3, hy3, hf⟩ := bd hf
      refine mm_callVv S hR hS hA (As := [.int 4, .int x1]) (rest := []) cvX2_104 (hK.k g4) (kX2_end_c l G A (hK.k g4) hy3) rfl rfl ⟨Nat.le_of_ble_eq_true rfl, Nat.le_of_ble_eq_true rfl⟩ rfl hl.1 rfl (lv_room (by simp [rf_cat, int_cat, long_cat])) dX2_leave_115 ⟨Nat.zero_le _, Nat.zero_le _⟩ (fun H locs hR hS => ?_)
      have hK : mmKN μ y3 := hK.tr (kX2_end_kn hy3)
      obtain rfl := Option.some.inj hf
      exact mm_vret S hR hS hr hlocks dX2_leave_118
    · have hf := it_t hf c2
      refine mm_aload_n S dX2_leave_100 rfl (lv_at hl 0 rfl) ?_
      refine lv_iconst (v := 3) S.1 S.2.1 dX2_leave_101 (by decide) ?_
      refine mm_aload_n S dX2_leave_102 rfl (lv_at hl 0 rfl) ?_
      obtain ⟨g5, hf⟩ := gd hf
      refine mm_geti S hR fdX2_79 (hK.k g5) rfl dX2_leave_103 ?_
      obtain ⟨y6, hy6, hf⟩ := bd hf
      refine mm_callVv S hR hS hA (As := [.int 3, .int (mI μ h0 8)]) (rest := []) cvX2_104 (hK.k g5) (kX2_end_c l G A (hK.k g5) hy6) rfl rfl ⟨Nat.le_of_ble_eq_true rfl, Nat.le_of_ble_eq_true rfl⟩ rfl hl.1 rfl (lv_room (by simp [rf_cat, int_cat, long_cat])) dX2_leave_106 ⟨Nat.zero_le _, Nat.zero_le _⟩ (fun H locs hR hS => ?_)
      have hK : mmKN μ y6 := hK.tr (kX2_end_kn hy6)
      refine lv_goto (tgt := 118) S.1 S.2.1 dX2_leave_109 (by decide) ?_
      obtain rfl := Option.some.inj hf
      exact mm_vret S hR hS hr hlocks dX2_leave_118
  · have hf := it_f hf c1
    refine mm_aload_n S dX2_leave_12 rfl (lv_at hl 0 rfl) ?_
    obtain ⟨g7, hf⟩ := gd hf
    refine mm_getp S hR fdX2_18 (hK.k g7) rfl dX2_leave_13 ?_
    obtain ⟨g9, hf⟩ := gd hf
    obtain ⟨y8, hy8, hf⟩ := bd hf
    refine mm_callVi S hR hS hA (As := []) (rest := []) cvX2_82 (hK.k g9) (kX5_lastSign_c l G A (hK.k g9) hy8) rfl rfl ⟨Nat.le_of_ble_eq_true rfl, Nat.le_of_ble_eq_true rfl⟩ rfl hl.1 rfl (lv_room (by simp [rf_cat, int_cat, long_cat])) dX2_leave_16 ⟨Nat.zero_le _, Nat.zero_le _⟩ (fun H locs hR hS => ?_)
    have hK : mmKN μ y8.2 := hK.tr (kX5_lastSign_kn hy8)
    refine lv_istore_n (i := 3) (lv' := [(3, .int y8.1), (0, rf h0), (1, .int x1), (2, .int x2)]) S.1 S.2.1 dX2_leave_19 rfl hl (by decide) rfl (fun ls hl => ?_)
    refine mm_aload_n S dX2_leave_20 rfl (lv_at hl 1 rfl) ?_
    refine mm_getp S hR fdX2_18 (hK.k g7) rfl dX2_leave_21 ?_
    obtain ⟨g11, hf⟩ := gd hf
    obtain ⟨y10, hy10, hf⟩ := bd hf
    refine mm_callVi S hR hS hA (As := []) (rest := []) cvX2_86 (hK.k g11) (kX5_lastMark_c l G A (hK.k g11) hy10) rfl rfl ⟨Nat.le_of_ble_eq_true rfl, Nat.le_of_ble_eq_true rfl⟩ rfl hl.1 rfl (lv_room (by simp [rf_cat, int_cat, long_cat])) dX2_leave_24 ⟨Nat.zero_le _, Nat.zero_le _⟩ (fun H locs hR hS => ?_)
    have hK : mmKN μ y10.2 := hK.tr (kX5_lastMark_kn hy10)
    refine lv_istore (i := 4) (lv' := [(4, .int y10.1), (3, .int y8.1), (0, rf h0), (1, .int x1), (2, .int x2)]) S.1 S.2.1 dX2_leave_27 hl (by decide) rfl (fun ls hl => ?_)
    refine mm_aload_n S dX2_leave_29 rfl (lv_at hl 2 rfl) ?_
    refine mm_getp S hR fdX2_18 (hK.k g7) rfl dX2_leave_30 ?_
    obtain ⟨g13, hf⟩ := gd hf
    obtain ⟨y12, hy12, hf⟩ := bd hf
    refine mm_callVv S hR hS hA (As := []) (rest := []) cvX2_89 (hK.k g13) (kX5_takeOff_c l G A (hK.k g13) hy12) rfl rfl ⟨Nat.le_of_ble_eq_true rfl, Nat.le_of_ble_eq_true rfl⟩ rfl hl.1 rfl (lv_room (by simp [rf_cat, int_cat, long_cat])) dX2_leave_33 ⟨Nat.zero_le _, Nat.zero_le _⟩ (fun H locs hR hS => ?_)
    have hK : mmKN μ y12 := hK.tr (kX5_takeOff_kn hy12)
    refine lv_iload_n S.1 S.2.1 dX2_leave_36 rfl (lv_at hl 1 rfl) ?_
    refine lv_bipush (v := (-2)) S.1 S.2.1 dX2_leave_37 (by decide) ?_
    refine lv_icmp_ne (tgt := 61) S.1 S.2.1 dX2_leave_39 (by decide) (fun c14 => ?_) (fun c14 => ?_)
    · have hf := it_f hf c14
      refine lv_iload_n S.1 S.2.1 dX2_leave_61 rfl (lv_at hl 1 rfl) ?_
      refine lv_iconst (v := (-1)) S.1 S.2.1 dX2_leave_62 (by decide) ?_
      refine lv_icmp_ne (tgt := 88) S.1 S.2.1 dX2_leave_63 (by decide) (fun c15 => ?_) (fun c15 => ?_)
      · have hf := it_f hf c15
        refine lv_iinc (v := (x2 + (-1))) (lv' := [(2, .int (x2 + (-1))), (4, .int y10.1), (3, .int y8.1), (0, rf h0), (1, .int x1)]) S.1 S.2.1 dX2_leave_88 hl (k := 4) rfl (by rfl) (by decide) rfl (fun ls hl => ?_)
        refine lv_goto (tgt := 8) S.1 S.2.1 dX2_leave_91 (by decide) ?_
        exact hkk8 h0 x1 (x2 + (-1)) y12 hf _ _ _ hR hS (lv_sub hl [3, 4, 0] rfl)
      · have hf := it_t hf c15
        refine lv_iload_n S.1 S.2.1 dX2_leave_66 rfl (lv_at hl 3 rfl) ?_
        refine lv_iconst (v := 1) S.1 S.2.1 dX2_leave_67 (by decide) ?_
        refine lv_bipush (v := 9) S.1 S.2.1 dX2_leave_68 (by decide) ?_
        obtain ⟨y16, hy16, hf⟩ := bd hf
        refine mm_callNi S hR hS hA (As := [.int x1, .int 1, .int 9]) (rest := []) csX2_100 (kX6_within_c l G A hy16) rfl rfl ⟨Nat.le_of_ble_eq_true rfl, Nat.le_of_ble_eq_true rfl⟩ rfl hl.1 rfl (lv_room (by simp [rf_cat, int_cat, long_cat])) dX2_leave_70 ⟨Nat.zero_le _, Nat.zero_le _⟩ (fun H locs hR hS => ?_)
        have hK : mmKN μ y16.2 := hK.tr (kX6_within_kn hy16)
        refine lv_if_eq (tgt := 88) S.1 S.2.1 dX2_leave_73 (by decide) (fun c17 => ?_) (fun c17 => ?_)
        · have hf := it_t hf c17
          refine lv_iinc (v := (x2 + (-1))) (lv' := [(2, .int (x2 + (-1))), (4, .int y10.1), (3, .int y8.1), (0, rf h0), (1, .int x1)]) S.1 S.2.1 dX2_leave_88 hl (k := 4) rfl (by rfl) (by decide) rfl (fun ls hl => ?_)
          refine lv_goto (tgt := 8) S.1 S.2.1 dX2_leave_91 (by decide) ?_
          exact hkk8 h0 x1 (x2 + (-1)) y16.2 hf _ _ _ hR hS (lv_sub hl [3, 4, 0] rfl)
        · have hf := it_f hf c17
          refine mm_aload_n S dX2_leave_76 rfl (lv_at hl 2 rfl) ?_
          refine lv_iload_n S.1 S.2.1 dX2_leave_77 rfl (lv_at hl 3 rfl) ?_
          refine mm_puti S hR hS fpX2_41 (hK.k g7) rfl rfl rfl dX2_leave_78 (fun H locs hR hS => ?_)
          obtain ⟨μ18, e18, hf⟩ := stx hf
          rw [← e18] at hR
          have hK : mmKN μ μ18 := by rw [e18]; exact hK.sI
          refine mm_aload_n S dX2_leave_81 rfl (lv_at hl 2 rfl) ?_
          refine lv_iload S.1 S.2.1 dX2_leave_82 (lv_at hl 0 rfl) ?_
          obtain ⟨y19, hy19, hf⟩ := bd hf
          refine mm_callVv S hR hS hA (As := [.int y10.1]) (rest := []) cvX2_96 (hK.k g7) (kX2_goOnAt_c l G A (hK.k g7) hy19) rfl rfl ⟨Nat.le_of_ble_eq_true rfl, Nat.le_of_ble_eq_true rfl⟩ rfl hl.1 rfl (lv_room (by simp [rf_cat, int_cat, long_cat])) dX2_leave_84 ⟨Nat.zero_le _, Nat.zero_le _⟩ (fun H locs hR hS => ?_)
          have hK : mmKN μ y19 := hK.tr (kX2_goOnAt_kn hy19)
          obtain rfl := Option.some.inj hf
          exact mm_vret S hR hS hr hlocks dX2_leave_87
    · have hf := it_t hf c14
      refine mm_aload_n S dX2_leave_42 rfl (lv_at hl 2 rfl) ?_
      refine mm_getp S hR fdX2_18 (hK.k g7) rfl dX2_leave_43 ?_
      refine lv_iload_n S.1 S.2.1 dX2_leave_46 rfl (lv_at hl 3 rfl) ?_
      refine mm_aload_n S dX2_leave_47 rfl (lv_at hl 2 rfl) ?_
      refine mm_geti S hR fdX2_79 (hK.k g7) rfl dX2_leave_48 ?_
      obtain ⟨g21, hf⟩ := gd hf
      obtain ⟨y20, hy20, hf⟩ := bd hf
      refine mm_callVv S hR hS hA (As := [.int x1, .int (mI y12 h0 8)]) (rest := []) cvX2_92 (hK.k g21) (kX5_put_c l G A (hK.k g21) hy20) rfl rfl ⟨Nat.le_of_ble_eq_true rfl, Nat.le_of_ble_eq_true rfl⟩ rfl hl.1 rfl (lv_room (by simp [rf_cat, int_cat, long_cat])) dX2_leave_51 ⟨Nat.zero_le _, Nat.zero_le _⟩ (fun H locs hR hS => ?_)
      have hK : mmKN μ y20 := hK.tr (kX5_put_kn hy20)
      refine mm_aload_n S dX2_leave_54 rfl (lv_at hl 2 rfl) ?_
      refine lv_iload S.1 S.2.1 dX2_leave_55 (lv_at hl 0 rfl) ?_
      obtain ⟨y22, hy22, hf⟩ := bd hf
      refine mm_callVv S hR hS hA (As := [.int y10.1]) (rest := []) cvX2_96 (hK.k g7) (kX2_goOnAt_c l G A (hK.k g7) hy22) rfl rfl ⟨Nat.le_of_ble_eq_true rfl, Nat.le_of_ble_eq_true rfl⟩ rfl hl.1 rfl (lv_room (by simp [rf_cat, int_cat, long_cat])) dX2_leave_57 ⟨Nat.zero_le _, Nat.zero_le _⟩ (fun H locs hR hS => ?_)
      have hK : mmKN μ y22 := hK.tr (kX2_goOnAt_kn hy22)
      obtain rfl := Option.some.inj hf
      exact mm_vret S hR hS hr hlocks dX2_leave_60
theorem wlX2_leave_8 {p : Program} {l : Launch} {e : Env} {s : State} {m : MethodId} {args : Array Value} {below : List Frame} {meth : Method} {c : Code} {G : mmG} {A : Nat → Prop} {res : MM} (E0 : mmEnv p m c cX2_leave 5 s args RX2 G A meth none)  : ∀ (n : Nat) (h0 : Nat) (x1 : Int32) (x2 : Int32) (μ : MM), lX2_leave_8  n h0 x1 x2 μ = some res → mmGoal p l e rmX2_leave s m args below meth c G A 8 5 [(0, rf h0), (1, .int x1), (2, .int x2)] μ (mmQ G A res none) := by
  intro n
  induction n with
  | zero => intro h0 x1 x2 μ hf; cases hf
  | succ n ih => intro h0 x1 x2 μ hf; exact wbX2_leave_8 E0  _ ih h0 x1 x2 μ hf
set_option maxRecDepth 100000 in
set_option maxHeartbeats 4000000 in
theorem kX2_leave_c (l : Launch) (G : mmG) (A : Nat → Prop) {μ : MM} {res : MM} {h0 : Nat} {x1 : Int32} (hk0 : mK μ h0 = 3) (hf : fX2_leave h0 x1 μ = some res) : Met l yX2_leave [.code yX2_leave cX2_leave 5 none] rmX2_leave (mmPc G A μ [rf h0, .int x1]) (mmQ G A res none) 0 0 A := by
  refine mm_ofW (by decide +kernel) (by simp [lg_sl, rf_cat, int_cat]) ?_
  intro p e s m below meth c ls S hR hA hS hr hlocks hl hnm
  have hl : lv_has ls 5 [(0, rf h0), (1, .int x1)] := by simpa [lv_args, rf_cat, int_cat] using hl
  have E0 : mmEnv p m c cX2_leave 5 s _ RX2 G A meth none := ⟨S, hA, hr, hlocks⟩
  have hK : mmKN μ μ := mmKN.rf
  unfold fX2_leave at hf
  refine mm_aload_n S dX2_leave_0 rfl (lv_at hl 0 rfl) ?_
  refine mm_getp S hR fdX2_18 (hK.k hk0) rfl dX2_leave_1 ?_
  obtain ⟨g1, hf⟩ := gd hf
  refine mm_geti S hR fdX2_26 (hK.k g1) rfl dX2_leave_4 ?_
  refine lv_istore_n (i := 2) (lv' := [(2, .int (mI μ (mP μ h0 2) 2)), (0, rf h0), (1, .int x1)]) S.1 S.2.1 dX2_leave_7 rfl hl (by decide) rfl (fun ls hl => ?_)
  exact wlX2_leave_8 E0  FU h0 x1 (mI μ (mP μ h0 2) 2) μ hf _ _ _ hR hS (lv_sub hl [1, 2, 0] rfl)
-- X2_doDone
def bX2_doDone_21  (h0 : Nat) (x1 : Int32) (x2 : Int32) (μ : MM) : Option (Int32 × MM) :=
  if mK μ h0 = 3 then if mK μ (mP μ h0 2) = 6 then (fX5_lastMark (mP μ h0 2) μ).bind fun y2 => if mK μ (mP y2.2 h0 2) = 6 then (fX5_takeOff (mP y2.2 h0 2) y2.2).bind fun y4 => if x2 = ((-1) : Int32) then (some (x1, y4)) else (if mK μ (mP y4 h0 2) = 6 then (fX5_put (mP y4 h0 2) (-3) x1 y4).bind fun y7 => some (y2.1, y7) else none) else none else none else none
def fX2_doDone (h0 : Nat) (x1 : Int32) (μ : MM) : Option (Int32 × MM) :=
  if mK μ (mP μ h0 2) = 6 then (fX5_lastSign (mP μ h0 2) μ).bind fun y1 => if y1.1 = ((-1) : Int32) then (bX2_doDone_21  h0 x1 y1.1 y1.2) else (if y1.1 = ((-2) : Int32) then (bX2_doDone_21  h0 x1 y1.1 y1.2) else (some (x1, y1.2))) else none
set_option maxRecDepth 100000 in
set_option maxHeartbeats 4000000 in
theorem knbX2_doDone_21  : ∀ (h0 : Nat) (x1 : Int32) (x2 : Int32) (μ : MM) (res : Int32 × MM), bX2_doDone_21  h0 x1 x2 μ = some res → mmKN μ res.2 := by
  intro h0 x1 x2 μ res hf
  have hK : mmKN μ μ := mmKN.rf
  unfold bX2_doDone_21 at hf
  obtain ⟨g1, hf⟩ := gd hf
  obtain ⟨g3, hf⟩ := gd hf
  obtain ⟨y2, hy2, hf⟩ := bd hf
  have hK : mmKN μ y2.2 := hK.tr (kX5_lastMark_kn hy2)
  obtain ⟨g5, hf⟩ := gd hf
  obtain ⟨y4, hy4, hf⟩ := bd hf
  have hK : mmKN μ y4 := hK.tr (kX5_takeOff_kn hy4)
  rcases it_or hf with ⟨c6, hf⟩ | ⟨c6, hf⟩
  · skip
    obtain rfl := Option.some.inj hf
    exact hK
  · skip
    obtain ⟨g8, hf⟩ := gd hf
    obtain ⟨y7, hy7, hf⟩ := bd hf
    have hK : mmKN μ y7 := hK.tr (kX5_put_kn hy7)
    obtain rfl := Option.some.inj hf
    exact hK
set_option maxRecDepth 100000 in
set_option maxHeartbeats 4000000 in
theorem kX2_doDone_kn {μ : MM} {res : Int32 × MM} {h0 : Nat} {x1 : Int32} (hf : fX2_doDone h0 x1 μ = some res) : mmKN μ res.2 := by
  have hK : mmKN μ μ := mmKN.rf
  unfold fX2_doDone at hf
  obtain ⟨g2, hf⟩ := gd hf
  obtain ⟨y1, hy1, hf⟩ := bd hf
  have hK : mmKN μ y1.2 := hK.tr (kX5_lastSign_kn hy1)
  rcases it_or hf with ⟨c3, hf⟩ | ⟨c3, hf⟩
  · skip
    exact hK.tr (knbX2_doDone_21  h0 x1 y1.1 y1.2 _ hf)
  · skip
    rcases it_or hf with ⟨c4, hf⟩ | ⟨c4, hf⟩
    · skip
      exact hK.tr (knbX2_doDone_21  h0 x1 y1.1 y1.2 _ hf)
    · skip
      obtain rfl := Option.some.inj hf
      exact hK
abbrev rmX2_doDone : Room := { frames := 1, cells := 0, slots := 0, locals := 22 }
set_option maxRecDepth 100000 in
set_option maxHeartbeats 4000000 in
theorem wbX2_doDone_21 {p : Program} {l : Launch} {e : Env} {s : State} {m : MethodId} {args : Array Value} {below : List Frame} {meth : Method} {c : Code} {G : mmG} {A : Nat → Prop} {res : Int32 × MM} (E0 : mmEnv p m c cX2_doDone 4 s args RX2 G A meth (some (.int)))  : ∀ (h0 : Nat) (x1 : Int32) (x2 : Int32) (μ : MM), bX2_doDone_21  h0 x1 x2 μ = some res → mmGoal p l e rmX2_doDone s m args below meth c G A 21 4 [(0, rf h0), (1, .int x1), (2, .int x2)] μ (mmQ G A res.2 (some (.int res.1))) := by
  obtain ⟨S, hA, hr, hlocks⟩ := id E0
  intro h0 x1 x2 μ hf H locs ls hR hS hl
  have hK : mmKN μ μ := mmKN.rf
  unfold bX2_doDone_21 at hf
  refine mm_aload_n S dX2_doDone_21 rfl (lv_at hl 0 rfl) ?_
  obtain ⟨g1, hf⟩ := gd hf
  refine mm_getp S hR fdX2_18 (hK.k g1) rfl dX2_doDone_22 ?_
  obtain ⟨g3, hf⟩ := gd hf
  obtain ⟨y2, hy2, hf⟩ := bd hf
  refine mm_callVi S hR hS hA (As := []) (rest := []) cvX2_86 (hK.k g3) (kX5_lastMark_c l G A (hK.k g3) hy2) rfl rfl ⟨Nat.le_of_ble_eq_true rfl, Nat.le_of_ble_eq_true rfl⟩ rfl hl.1 rfl (lv_room (by simp [rf_cat, int_cat, long_cat])) dX2_doDone_25 ⟨Nat.zero_le _, Nat.zero_le _⟩ (fun H locs hR hS => ?_)
  have hK : mmKN μ y2.2 := hK.tr (kX5_lastMark_kn hy2)
  refine lv_istore_n (i := 3) (lv' := [(3, .int y2.1), (0, rf h0), (1, .int x1), (2, .int x2)]) S.1 S.2.1 dX2_doDone_28 rfl hl (by decide) rfl (fun ls hl => ?_)
  refine mm_aload_n S dX2_doDone_29 rfl (lv_at hl 1 rfl) ?_
  refine mm_getp S hR fdX2_18 (hK.k g1) rfl dX2_doDone_30 ?_
  obtain ⟨g5, hf⟩ := gd hf
  obtain ⟨y4, hy4, hf⟩ := bd hf
  refine mm_callVv S hR hS hA (As := []) (rest := []) cvX2_89 (hK.k g5) (kX5_takeOff_c l G A (hK.k g5) hy4) rfl rfl ⟨Nat.le_of_ble_eq_true rfl, Nat.le_of_ble_eq_true rfl⟩ rfl hl.1 rfl (lv_room (by simp [rf_cat, int_cat, long_cat])) dX2_doDone_33 ⟨Nat.zero_le _, Nat.zero_le _⟩ (fun H locs hR hS => ?_)
  have hK : mmKN μ y4 := hK.tr (kX5_takeOff_kn hy4)
  refine lv_iload_n S.1 S.2.1 dX2_doDone_36 rfl (lv_at hl 3 rfl) ?_
  refine lv_iconst (v := (-1)) S.1 S.2.1 dX2_doDone_37 (by decide) ?_
  refine lv_icmp_ne (tgt := 43) S.1 S.2.1 dX2_doDone_38 (by decide) (fun c6 => ?_) (fun c6 => ?_)
  · have hf := it_f hf c6
    refine mm_aload_n S dX2_doDone_43 rfl (lv_at hl 1 rfl) ?_
    refine mm_getp S hR fdX2_18 (hK.k g1) rfl dX2_doDone_44 ?_
    refine lv_bipush (v := (-3)) S.1 S.2.1 dX2_doDone_47 (by decide) ?_
    refine lv_iload_n S.1 S.2.1 dX2_doDone_49 rfl (lv_at hl 2 rfl) ?_
    obtain ⟨g8, hf⟩ := gd hf
    obtain ⟨y7, hy7, hf⟩ := bd hf
    refine mm_callVv S hR hS hA (As := [.int (-3), .int x1]) (rest := []) cvX2_92 (hK.k g8) (kX5_put_c l G A (hK.k g8) hy7) rfl rfl ⟨Nat.le_of_ble_eq_true rfl, Nat.le_of_ble_eq_true rfl⟩ rfl hl.1 rfl (lv_room (by simp [rf_cat, int_cat, long_cat])) dX2_doDone_50 ⟨Nat.zero_le _, Nat.zero_le _⟩ (fun H locs hR hS => ?_)
    have hK : mmKN μ y7 := hK.tr (kX5_put_kn hy7)
    refine lv_iload_n S.1 S.2.1 dX2_doDone_53 rfl (lv_at hl 0 rfl) ?_
    obtain rfl := Option.some.inj hf
    exact mm_iret S hR hS hr hlocks dX2_doDone_54
  · have hf := it_t hf c6
    refine lv_iload_n S.1 S.2.1 dX2_doDone_41 rfl (lv_at hl 2 rfl) ?_
    obtain rfl := Option.some.inj hf
    exact mm_iret S hR hS hr hlocks dX2_doDone_42
set_option maxRecDepth 100000 in
set_option maxHeartbeats 4000000 in
theorem kX2_doDone_c (l : Launch) (G : mmG) (A : Nat → Prop) {μ : MM} {res : Int32 × MM} {h0 : Nat} {x1 : Int32} (hk0 : mK μ h0 = 3) (hf : fX2_doDone h0 x1 μ = some res) : Met l yX2_doDone [.code yX2_doDone cX2_doDone 4 (some (.int))] rmX2_doDone (mmPc G A μ [rf h0, .int x1]) (mmQ G A res.2 (some (.int res.1))) 0 0 A := by
  refine mm_ofW (by decide +kernel) (by simp [lg_sl, rf_cat, int_cat]) ?_
  intro p e s m below meth c ls S hR hA hS hr hlocks hl hnm
  have hl : lv_has ls 4 [(0, rf h0), (1, .int x1)] := by simpa [lv_args, rf_cat, int_cat] using hl
  have E0 : mmEnv p m c cX2_doDone 4 s _ RX2 G A meth (some (.int)) := ⟨S, hA, hr, hlocks⟩
  have hK : mmKN μ μ := mmKN.rf
  unfold fX2_doDone at hf
  refine mm_aload_n S dX2_doDone_0 rfl (lv_at hl 0 rfl) ?_
  refine mm_getp S hR fdX2_18 (hK.k hk0) rfl dX2_doDone_1 ?_
  obtain ⟨g2, hf⟩ := gd hf
  obtain ⟨y1, hy1, hf⟩ := bd hf
  refine mm_callVi S hR hS hA (As := []) (rest := []) cvX2_82 (hK.k g2) (kX5_lastSign_c l G A (hK.k g2) hy1) rfl rfl ⟨Nat.le_of_ble_eq_true rfl, Nat.le_of_ble_eq_true rfl⟩ rfl hl.1 rfl (lv_room (by simp [rf_cat, int_cat, long_cat])) dX2_doDone_4 ⟨Nat.zero_le _, Nat.zero_le _⟩ (fun H locs hR hS => ?_)
  have hK : mmKN μ y1.2 := hK.tr (kX5_lastSign_kn hy1)
  refine lv_istore_n (i := 2) (lv' := [(2, .int y1.1), (0, rf h0), (1, .int x1)]) S.1 S.2.1 dX2_doDone_7 rfl hl (by decide) rfl (fun ls hl => ?_)
  refine lv_iload_n S.1 S.2.1 dX2_doDone_8 rfl (lv_at hl 0 rfl) ?_
  refine lv_iconst (v := (-1)) S.1 S.2.1 dX2_doDone_9 (by decide) ?_
  refine lv_icmp_eq (tgt := 21) S.1 S.2.1 dX2_doDone_10 (by decide) (fun c3 => ?_) (fun c3 => ?_)
  · have hf := it_t hf c3
    exact wbX2_doDone_21 E0  h0 x1 y1.1 y1.2 hf _ _ _ hR hS (lv_sub hl [1, 2, 0] rfl)
  · have hf := it_f hf c3
    refine lv_iload_n S.1 S.2.1 dX2_doDone_13 rfl (lv_at hl 0 rfl) ?_
    refine lv_bipush (v := (-2)) S.1 S.2.1 dX2_doDone_14 (by decide) ?_
    refine lv_icmp_eq (tgt := 21) S.1 S.2.1 dX2_doDone_16 (by decide) (fun c4 => ?_) (fun c4 => ?_)
    · have hf := it_t hf c4
      exact wbX2_doDone_21 E0  h0 x1 y1.1 y1.2 hf _ _ _ hR hS (lv_sub hl [1, 2, 0] rfl)
    · have hf := it_f hf c4
      refine lv_iload_n S.1 S.2.1 dX2_doDone_19 rfl (lv_at hl 2 rfl) ?_
      obtain rfl := Option.some.inj hf
      exact mm_iret S hR hS hr hlocks dX2_doDone_20
-- X2_doLast
def fX2_doLast (h0 : Nat) (μ : MM) : Option (Int32 × MM) :=
  if mK μ (mP μ h0 2) = 6 then (fX5_lastSign (mP μ h0 2) μ).bind fun y1 => if y1.1 = 0 then (st (sI y1.2 h0 6 ((mI y1.2 h0 6) + 1)) fun μ4 => some (0, μ4)) else (if y1.1 = ((-1) : Int32) then (st (sI y1.2 h0 6 ((mI y1.2 h0 6) + 1)) fun μ6 => some (0, μ6)) else (if y1.1 = ((-2) : Int32) then (st (sI y1.2 h0 6 ((mI y1.2 h0 6) + 1)) fun μ15 => some (0, μ15)) else (if mK μ (mP y1.2 h0 2) = 6 then (fX5_lastMark (mP y1.2 h0 2) y1.2).bind fun y8 => if mK μ (mP y8.2 h0 2) = 6 then (fX5_takeOff (mP y8.2 h0 2) y8.2).bind fun y10 => if y1.1 = ((-3) : Int32) then (st (sI y10 h0 6 y8.1) fun μ14 => some (0, μ14)) else (st (sI y10 h0 8 y8.1) fun μ13 => some (y1.1, μ13)) else none else none))) else none
set_option maxRecDepth 100000 in
set_option maxHeartbeats 4000000 in
theorem kX2_doLast_kn {μ : MM} {res : Int32 × MM} {h0 : Nat} (hf : fX2_doLast h0 μ = some res) : mmKN μ res.2 := by
  have hK : mmKN μ μ := mmKN.rf
  unfold fX2_doLast at hf
  obtain ⟨g2, hf⟩ := gd hf
  obtain ⟨y1, hy1, hf⟩ := bd hf
  have hK : mmKN μ y1.2 := hK.tr (kX5_lastSign_kn hy1)
  rcases it_or hf with ⟨c3, hf⟩ | ⟨c3, hf⟩
  · skip
    obtain ⟨μ4, e4, hf⟩ := stx hf
    have hK : mmKN μ μ4 := by rw [e4]; exact hK.sI
    obtain rfl := Option.some.inj hf
    exact hK
  · skip
    rcases it_or hf with ⟨c5, hf⟩ | ⟨c5, hf⟩
    · skip
      obtain ⟨μ6, e6, hf⟩ := stx hf
      have hK : mmKN μ μ6 := by rw [e6]; exact hK.sI
      obtain rfl := Option.some.inj hf
      exact hK
    · skip
      rcases it_or hf with ⟨c7, hf⟩ | ⟨c7, hf⟩
      · skip
        obtain ⟨μ15, e15, hf⟩ := stx hf
        have hK : mmKN μ μ15 := by rw [e15]; exact hK.sI
        obtain rfl := Option.some.inj hf
        exact hK
      · skip
        obtain ⟨g9, hf⟩ := gd hf
        obtain ⟨y8, hy8, hf⟩ := bd hf
        have hK : mmKN μ y8.2 := hK.tr (kX5_lastMark_kn hy8)
        obtain ⟨g11, hf⟩ := gd hf
        obtain ⟨y10, hy10, hf⟩ := bd hf
        have hK : mmKN μ y10 := hK.tr (kX5_takeOff_kn hy10)
        rcases it_or hf with ⟨c12, hf⟩ | ⟨c12, hf⟩
        · skip
          obtain ⟨μ14, e14, hf⟩ := stx hf
          have hK : mmKN μ μ14 := by rw [e14]; exact hK.sI
          obtain rfl := Option.some.inj hf
          exact hK
        · skip
          obtain ⟨μ13, e13, hf⟩ := stx hf
          have hK : mmKN μ μ13 := by rw [e13]; exact hK.sI
          obtain rfl := Option.some.inj hf
          exact hK
abbrev rmX2_doLast : Room := { frames := 1, cells := 0, slots := 0, locals := 20 }
set_option maxRecDepth 100000 in
set_option maxHeartbeats 4000000 in
theorem kX2_doLast_c (l : Launch) (G : mmG) (A : Nat → Prop) {μ : MM} {res : Int32 × MM} {h0 : Nat} (hk0 : mK μ h0 = 3) (hf : fX2_doLast h0 μ = some res) : Met l yX2_doLast [.code yX2_doLast cX2_doLast 3 (some (.int))] rmX2_doLast (mmPc G A μ [rf h0]) (mmQ G A res.2 (some (.int res.1))) 0 0 A := by
  refine mm_ofW (by decide +kernel) (by simp [lg_sl, rf_cat, int_cat]) ?_
  intro p e s m below meth c ls S hR hA hS hr hlocks hl hnm
  have hl : lv_has ls 3 [(0, rf h0)] := by simpa [lv_args, rf_cat, int_cat] using hl
  have E0 : mmEnv p m c cX2_doLast 3 s _ RX2 G A meth (some (.int)) := ⟨S, hA, hr, hlocks⟩
  have hK : mmKN μ μ := mmKN.rf
  unfold fX2_doLast at hf
  refine mm_aload_n S dX2_doLast_0 rfl (lv_at hl 0 rfl) ?_
  refine mm_getp S hR fdX2_18 (hK.k hk0) rfl dX2_doLast_1 ?_
  obtain ⟨g2, hf⟩ := gd hf
  obtain ⟨y1, hy1, hf⟩ := bd hf
  refine mm_callVi S hR hS hA (As := []) (rest := []) cvX2_82 (hK.k g2) (kX5_lastSign_c l G A (hK.k g2) hy1) rfl rfl ⟨Nat.le_of_ble_eq_true rfl, Nat.le_of_ble_eq_true rfl⟩ rfl hl.1 rfl (lv_room (by simp [rf_cat, int_cat, long_cat])) dX2_doLast_4 ⟨Nat.zero_le _, Nat.zero_le _⟩ (fun H locs hR hS => ?_)
  have hK : mmKN μ y1.2 := hK.tr (kX5_lastSign_kn hy1)
  refine lv_istore_n (i := 1) (lv' := [(1, .int y1.1), (0, rf h0)]) S.1 S.2.1 dX2_doLast_7 rfl hl (by decide) (by simp [rf_cat]) (fun ls hl => ?_)
  refine lv_iload_n S.1 S.2.1 dX2_doLast_8 rfl (lv_at hl 0 rfl) ?_
  refine lv_if_eq (tgt := 23) S.1 S.2.1 dX2_doLast_9 (by decide) (fun c3 => ?_) (fun c3 => ?_)
  · have hf := it_t hf c3
    refine mm_aload_n S dX2_doLast_23 rfl (lv_at hl 1 rfl) ?_
    refine lv_dup S.1 S.2.1 dX2_doLast_24 (rf_cat _) ?_
    refine mm_geti S hR fdX2_38 (hK.k hk0) rfl dX2_doLast_25 ?_
    refine lv_iconst (v := 1) S.1 S.2.1 dX2_doLast_28 (by decide) ?_
    refine lv_iadd S.1 S.2.1 dX2_doLast_29 ?_
    refine mm_puti S hR hS fpX2_38 (hK.k hk0) rfl rfl rfl dX2_doLast_30 (fun H locs hR hS => ?_)
    obtain ⟨μ4, e4, hf⟩ := stx hf
    rw [← e4] at hR
    have hK : mmKN μ μ4 := by rw [e4]; exact hK.sI
    refine lv_iconst (v := 0) S.1 S.2.1 dX2_doLast_33 (by decide) ?_
    obtain rfl := Option.some.inj hf
    exact mm_iret S hR hS hr hlocks dX2_doLast_34
  · have hf := it_f hf c3
    refine lv_iload_n S.1 S.2.1 dX2_doLast_12 rfl (lv_at hl 0 rfl) ?_
    refine lv_iconst (v := (-1)) S.1 S.2.1 dX2_doLast_13 (by decide) ?_
    refine lv_icmp_eq (tgt := 23) S.1 S.2.1 dX2_doLast_14 (by decide) (fun c5 => ?_) (fun c5 => ?_)
    · have hf := it_t hf c5
      refine mm_aload_n S dX2_doLast_23 rfl (lv_at hl 1 rfl) ?_
      refine lv_dup S.1 S.2.1 dX2_doLast_24 (rf_cat _) ?_
      refine mm_geti S hR fdX2_38 (hK.k hk0) rfl dX2_doLast_25 ?_
      refine lv_iconst (v := 1) S.1 S.2.1 dX2_doLast_28 (by decide) ?_
      refine lv_iadd S.1 S.2.1 dX2_doLast_29 ?_
      refine mm_puti S hR hS fpX2_38 (hK.k hk0) rfl rfl rfl dX2_doLast_30 (fun H locs hR hS => ?_)
      obtain ⟨μ6, e6, hf⟩ := stx hf
      rw [← e6] at hR
      have hK : mmKN μ μ6 := by rw [e6]; exact hK.sI
      refine lv_iconst (v := 0) S.1 S.2.1 dX2_doLast_33 (by decide) ?_
      obtain rfl := Option.some.inj hf
      exact mm_iret S hR hS hr hlocks dX2_doLast_34
    · have hf := it_f hf c5
      refine lv_iload_n S.1 S.2.1 dX2_doLast_17 rfl (lv_at hl 0 rfl) ?_
      refine lv_bipush (v := (-2)) S.1 S.2.1 dX2_doLast_18 (by decide) ?_
      refine lv_icmp_ne (tgt := 35) S.1 S.2.1 dX2_doLast_20 (by decide) (fun c7 => ?_) (fun c7 => ?_)
      · have hf := it_f hf c7
        refine mm_aload_n S dX2_doLast_35 rfl (lv_at hl 1 rfl) ?_
        refine mm_getp S hR fdX2_18 (hK.k hk0) rfl dX2_doLast_36 ?_
        obtain ⟨g9, hf⟩ := gd hf
        obtain ⟨y8, hy8, hf⟩ := bd hf
        refine mm_callVi S hR hS hA (As := []) (rest := []) cvX2_86 (hK.k g9) (kX5_lastMark_c l G A (hK.k g9) hy8) rfl rfl ⟨Nat.le_of_ble_eq_true rfl, Nat.le_of_ble_eq_true rfl⟩ rfl hl.1 rfl (lv_room (by simp [rf_cat, int_cat, long_cat])) dX2_doLast_39 ⟨Nat.zero_le _, Nat.zero_le _⟩ (fun H locs hR hS => ?_)
        have hK : mmKN μ y8.2 := hK.tr (kX5_lastMark_kn hy8)
        refine lv_istore_n (i := 2) (lv' := [(2, .int y8.1), (1, .int y1.1), (0, rf h0)]) S.1 S.2.1 dX2_doLast_42 rfl hl (by decide) rfl (fun ls hl => ?_)
        refine mm_aload_n S dX2_doLast_43 rfl (lv_at hl 2 rfl) ?_
        refine mm_getp S hR fdX2_18 (hK.k hk0) rfl dX2_doLast_44 ?_
        obtain ⟨g11, hf⟩ := gd hf
        obtain ⟨y10, hy10, hf⟩ := bd hf
        refine mm_callVv S hR hS hA (As := []) (rest := []) cvX2_89 (hK.k g11) (kX5_takeOff_c l G A (hK.k g11) hy10) rfl rfl ⟨Nat.le_of_ble_eq_true rfl, Nat.le_of_ble_eq_true rfl⟩ rfl hl.1 rfl (lv_room (by simp [rf_cat, int_cat, long_cat])) dX2_doLast_47 ⟨Nat.zero_le _, Nat.zero_le _⟩ (fun H locs hR hS => ?_)
        have hK : mmKN μ y10 := hK.tr (kX5_takeOff_kn hy10)
        refine lv_iload_n S.1 S.2.1 dX2_doLast_50 rfl (lv_at hl 1 rfl) ?_
        refine lv_bipush (v := (-3)) S.1 S.2.1 dX2_doLast_51 (by decide) ?_
        refine lv_icmp_ne (tgt := 63) S.1 S.2.1 dX2_doLast_53 (by decide) (fun c12 => ?_) (fun c12 => ?_)
        · have hf := it_f hf c12
          refine mm_aload_n S dX2_doLast_63 rfl (lv_at hl 2 rfl) ?_
          refine lv_iload_n S.1 S.2.1 dX2_doLast_64 rfl (lv_at hl 0 rfl) ?_
          refine mm_puti S hR hS fpX2_79 (hK.k hk0) rfl rfl rfl dX2_doLast_65 (fun H locs hR hS => ?_)
          obtain ⟨μ13, e13, hf⟩ := stx hf
          rw [← e13] at hR
          have hK : mmKN μ μ13 := by rw [e13]; exact hK.sI
          refine lv_iload_n S.1 S.2.1 dX2_doLast_68 rfl (lv_at hl 1 rfl) ?_
          obtain rfl := Option.some.inj hf
          exact mm_iret S hR hS hr hlocks dX2_doLast_69
        · have hf := it_t hf c12
          refine mm_aload_n S dX2_doLast_56 rfl (lv_at hl 2 rfl) ?_
          refine lv_iload_n S.1 S.2.1 dX2_doLast_57 rfl (lv_at hl 0 rfl) ?_
          refine mm_puti S hR hS fpX2_38 (hK.k hk0) rfl rfl rfl dX2_doLast_58 (fun H locs hR hS => ?_)
          obtain ⟨μ14, e14, hf⟩ := stx hf
          rw [← e14] at hR
          have hK : mmKN μ μ14 := by rw [e14]; exact hK.sI
          refine lv_iconst (v := 0) S.1 S.2.1 dX2_doLast_61 (by decide) ?_
          obtain rfl := Option.some.inj hf
          exact mm_iret S hR hS hr hlocks dX2_doLast_62
      · have hf := it_t hf c7
        refine mm_aload_n S dX2_doLast_23 rfl (lv_at hl 1 rfl) ?_
        refine lv_dup S.1 S.2.1 dX2_doLast_24 (rf_cat _) ?_
        refine mm_geti S hR fdX2_38 (hK.k hk0) rfl dX2_doLast_25 ?_
        refine lv_iconst (v := 1) S.1 S.2.1 dX2_doLast_28 (by decide) ?_
        refine lv_iadd S.1 S.2.1 dX2_doLast_29 ?_
        refine mm_puti S hR hS fpX2_38 (hK.k hk0) rfl rfl rfl dX2_doLast_30 (fun H locs hR hS => ?_)
        obtain ⟨μ15, e15, hf⟩ := stx hf
        rw [← e15] at hR
        have hK : mmKN μ μ15 := by rw [e15]; exact hK.sI
        refine lv_iconst (v := 0) S.1 S.2.1 dX2_doLast_33 (by decide) ?_
        obtain rfl := Option.some.inj hf
        exact mm_iret S hR hS hr hlocks dX2_doLast_34
-- X2_doPlain
def fX2_doPlain (h0 : Nat) (x1 : Int32) (x2 : Int32) (x3 : Int32) (μ : MM) : Option (Int32 × MM) :=
  if x1 = 0 then (st (sI μ h0 7 (jmax (-9999) (jmin 9999 ((mI μ h0 7) + x2)))) fun μ3 => st (sI μ3 h0 6 ((mI μ h0 6) + 1)) fun μ4 => some (0, μ4)) else (if x1 = 1 then ((fX2_localAt h0 x2 μ).bind fun y6 => st (sI y6.2 h0 7 y6.1) fun μ7 => st (sI μ7 h0 6 ((mI μ h0 6) + 1)) fun μ8 => some (0, μ8)) else (if x1 = 2 then ((fX2_setLocal h0 x2 (mI μ h0 7) μ).bind fun y10 => st (sI y10 h0 6 ((mI μ h0 6) + 1)) fun μ11 => some (0, μ11)) else (if x1 = 4 then ((fX2_localAt h0 x2 μ).bind fun y13 => if y13.1 ≤ 0 then (st (sI y13.2 h0 6 ((mI μ h0 6) + 1)) fun μ15 => some (0, μ15)) else ((fX2_localAt h0 x2 y13.2).bind fun y16 => (fX2_setLocal h0 x2 (y16.1 - 1) y16.2).bind fun y17 => st (sI y17 h0 6 x3) fun μ18 => some (0, μ18))) else (if x1 = 5 then (if 0 < (mI μ h0 7) then (st (sI μ h0 6 ((mI μ h0 6) + 1)) fun μ21 => some (0, μ21)) else (st (sI μ h0 6 x3) fun μ22 => some (0, μ22))) else (if x1 = 6 then (if mK μ (mP μ h0 2) = 6 then (fX5_isFull (mP μ h0 2) μ).bind fun y24 => if y24.1 = 0 then (if x2 = 0 then (if mK μ (mP y24.2 h0 2) = 6 then (fX5_put (mP y24.2 h0 2) (-1) x3 y24.2).bind fun y31 => st (sI y31 h0 6 ((mI μ h0 6) + 1)) fun μ33 => some (0, μ33) else none) else (if mK μ (mP y24.2 h0 2) = 6 then (fX5_put (mP y24.2 h0 2) (-2) x3 y24.2).bind fun y28 => st (sI y28 h0 6 ((mI μ h0 6) + 1)) fun μ30 => some (0, μ30) else none)) else (some (5, y24.2)) else none) else (if x1 = 7 then ((fX2_doDone h0 x3 μ).bind fun y35 => st (sI y35.2 h0 6 y35.1) fun μ36 => some (0, μ36)) else (if x1 = 8 then ((fX2_doLast h0 μ).bind fun y38 => some (y38.1, y38.2)) else (if x1 = 9 then (some (x2, μ)) else (if x1 = 11 then ((fX2_beginReturn h0 μ).bind fun y41 => some (y41.1, y41.2)) else (st (sI μ h0 6 ((mI μ h0 6) + 1)) fun μ1 => some (0, μ1)))))))))))
set_option maxRecDepth 100000 in
set_option maxHeartbeats 4000000 in
theorem kX2_doPlain_kn {μ : MM} {res : Int32 × MM} {h0 : Nat} {x1 : Int32} {x2 : Int32} {x3 : Int32} (hf : fX2_doPlain h0 x1 x2 x3 μ = some res) : mmKN μ res.2 := by
  have hK : mmKN μ μ := mmKN.rf
  unfold fX2_doPlain at hf
  rcases it_or hf with ⟨c2, hf⟩ | ⟨c2, hf⟩
  · skip
    obtain ⟨μ3, e3, hf⟩ := stx hf
    have hK : mmKN μ μ3 := by rw [e3]; exact hK.sI
    obtain ⟨μ4, e4, hf⟩ := stx hf
    have hK : mmKN μ μ4 := by rw [e4]; exact hK.sI
    obtain rfl := Option.some.inj hf
    exact hK
  rcases it_or hf with ⟨c5, hf⟩ | ⟨c5, hf⟩
  · skip
    obtain ⟨y6, hy6, hf⟩ := bd hf
    have hK : mmKN μ y6.2 := hK.tr (kX2_localAt_kn hy6)
    obtain ⟨μ7, e7, hf⟩ := stx hf
    have hK : mmKN μ μ7 := by rw [e7]; exact hK.sI
    obtain ⟨μ8, e8, hf⟩ := stx hf
    have hK : mmKN μ μ8 := by rw [e8]; exact hK.sI
    obtain rfl := Option.some.inj hf
    exact hK
  rcases it_or hf with ⟨c9, hf⟩ | ⟨c9, hf⟩
  · skip
    obtain ⟨y10, hy10, hf⟩ := bd hf
    have hK : mmKN μ y10 := hK.tr (kX2_setLocal_kn hy10)
    obtain ⟨μ11, e11, hf⟩ := stx hf
    have hK : mmKN μ μ11 := by rw [e11]; exact hK.sI
    obtain rfl := Option.some.inj hf
    exact hK
  rcases it_or hf with ⟨c12, hf⟩ | ⟨c12, hf⟩
  · skip
    obtain ⟨y13, hy13, hf⟩ := bd hf
    have hK : mmKN μ y13.2 := hK.tr (kX2_localAt_kn hy13)
    rcases it_or hf with ⟨c14, hf⟩ | ⟨c14, hf⟩
    · skip
      obtain ⟨μ15, e15, hf⟩ := stx hf
      have hK : mmKN μ μ15 := by rw [e15]; exact hK.sI
      obtain rfl := Option.some.inj hf
      exact hK
    · skip
      obtain ⟨y16, hy16, hf⟩ := bd hf
      have hK : mmKN μ y16.2 := hK.tr (kX2_localAt_kn hy16)
      obtain ⟨y17, hy17, hf⟩ := bd hf
      have hK : mmKN μ y17 := hK.tr (kX2_setLocal_kn hy17)
      obtain ⟨μ18, e18, hf⟩ := stx hf
      have hK : mmKN μ μ18 := by rw [e18]; exact hK.sI
      obtain rfl := Option.some.inj hf
      exact hK
  rcases it_or hf with ⟨c19, hf⟩ | ⟨c19, hf⟩
  · skip
    rcases it_or hf with ⟨c20, hf⟩ | ⟨c20, hf⟩
    · skip
      obtain ⟨μ21, e21, hf⟩ := stx hf
      have hK : mmKN μ μ21 := by rw [e21]; exact hK.sI
      obtain rfl := Option.some.inj hf
      exact hK
    · skip
      obtain ⟨μ22, e22, hf⟩ := stx hf
      have hK : mmKN μ μ22 := by rw [e22]; exact hK.sI
      obtain rfl := Option.some.inj hf
      exact hK
  rcases it_or hf with ⟨c23, hf⟩ | ⟨c23, hf⟩
  · skip
    obtain ⟨g25, hf⟩ := gd hf
    obtain ⟨y24, hy24, hf⟩ := bd hf
    have hK : mmKN μ y24.2 := hK.tr (kX5_isFull_kn hy24)
    rcases it_or hf with ⟨c26, hf⟩ | ⟨c26, hf⟩
    · skip
      rcases it_or hf with ⟨c27, hf⟩ | ⟨c27, hf⟩
      · skip
        obtain ⟨g32, hf⟩ := gd hf
        obtain ⟨y31, hy31, hf⟩ := bd hf
        have hK : mmKN μ y31 := hK.tr (kX5_put_kn hy31)
        obtain ⟨μ33, e33, hf⟩ := stx hf
        have hK : mmKN μ μ33 := by rw [e33]; exact hK.sI
        obtain rfl := Option.some.inj hf
        exact hK
      · skip
        obtain ⟨g29, hf⟩ := gd hf
        obtain ⟨y28, hy28, hf⟩ := bd hf
        have hK : mmKN μ y28 := hK.tr (kX5_put_kn hy28)
        obtain ⟨μ30, e30, hf⟩ := stx hf
        have hK : mmKN μ μ30 := by rw [e30]; exact hK.sI
        obtain rfl := Option.some.inj hf
        exact hK
    · skip
      obtain rfl := Option.some.inj hf
      exact hK
  rcases it_or hf with ⟨c34, hf⟩ | ⟨c34, hf⟩
  · skip
    obtain ⟨y35, hy35, hf⟩ := bd hf
    have hK : mmKN μ y35.2 := hK.tr (kX2_doDone_kn hy35)
    obtain ⟨μ36, e36, hf⟩ := stx hf
    have hK : mmKN μ μ36 := by rw [e36]; exact hK.sI
    obtain rfl := Option.some.inj hf
    exact hK
  rcases it_or hf with ⟨c37, hf⟩ | ⟨c37, hf⟩
  · skip
    obtain ⟨y38, hy38, hf⟩ := bd hf
    have hK : mmKN μ y38.2 := hK.tr (kX2_doLast_kn hy38)
    obtain rfl := Option.some.inj hf
    exact hK
  rcases it_or hf with ⟨c39, hf⟩ | ⟨c39, hf⟩
  · skip
    obtain rfl := Option.some.inj hf
    exact hK
  rcases it_or hf with ⟨c40, hf⟩ | ⟨c40, hf⟩
  · skip
    obtain ⟨y41, hy41, hf⟩ := bd hf
    have hK : mmKN μ y41.2 := hK.tr (kX2_beginReturn_kn hy41)
    obtain rfl := Option.some.inj hf
    exact hK
  obtain ⟨μ1, e1, hf⟩ := stx hf
  have hK : mmKN μ μ1 := by rw [e1]; exact hK.sI
  obtain rfl := Option.some.inj hf
  exact hK
abbrev rmX2_doPlain : Room := { frames := 2, cells := 0, slots := 0, locals := 45 }
set_option maxRecDepth 100000 in
set_option maxHeartbeats 4000000 in
theorem kX2_doPlain_c (l : Launch) (G : mmG) (A : Nat → Prop) {μ : MM} {res : Int32 × MM} {h0 : Nat} {x1 : Int32} {x2 : Int32} {x3 : Int32} (hk0 : mK μ h0 = 3) (hf : fX2_doPlain h0 x1 x2 x3 μ = some res) : Met l yX2_doPlain [.code yX2_doPlain cX2_doPlain 5 (some (.int))] rmX2_doPlain (mmPc G A μ [rf h0, .int x1, .int x2, .int x3]) (mmQ G A res.2 (some (.int res.1))) 0 0 A := by
  refine mm_ofW (by decide +kernel) (by simp [lg_sl, rf_cat, int_cat]) ?_
  intro p e s m below meth c ls S hR hA hS hr hlocks hl hnm
  have hl : lv_has ls 5 [(0, rf h0), (1, .int x1), (2, .int x2), (3, .int x3)] := by simpa [lv_args, rf_cat, int_cat] using hl
  have E0 : mmEnv p m c cX2_doPlain 5 s _ RX2 G A meth (some (.int)) := ⟨S, hA, hr, hlocks⟩
  have hK : mmKN μ μ := mmKN.rf
  unfold fX2_doPlain at hf
  refine mm_aload_n S dX2_doPlain_0 rfl (lv_at hl 0 rfl) ?_
  refine mm_geti S hR fdX2_38 (hK.k hk0) rfl dX2_doPlain_1 ?_
  refine lv_iconst (v := 1) S.1 S.2.1 dX2_doPlain_4 (by decide) ?_
  refine lv_iadd S.1 S.2.1 dX2_doPlain_5 ?_
  refine lv_istore (i := 4) (lv' := [(4, .int ((mI μ h0 6) + 1)), (0, rf h0), (1, .int x1), (2, .int x2), (3, .int x3)]) S.1 S.2.1 dX2_doPlain_6 hl (by decide) rfl (fun ls hl => ?_)
  refine lv_iload_n S.1 S.2.1 dX2_doPlain_8 rfl (lv_at hl 2 rfl) ?_
  rcases it_or hf with ⟨c2, hf⟩ | ⟨c2, hf⟩
  · refine mm_swL (tgt := 72) (off := 63) S [0] dX2_doPlain_9 (by simpa using c2) (by decide) (by decide) ?_
    refine mm_aload_n S dX2_doPlain_72 rfl (lv_at hl 1 rfl) ?_
    refine lv_sipush (v := (-9999)) S.1 S.2.1 dX2_doPlain_73 (by decide) ?_
    refine lv_sipush (v := 9999) S.1 S.2.1 dX2_doPlain_76 (by decide) ?_
    refine mm_aload_n S dX2_doPlain_79 rfl (lv_at hl 1 rfl) ?_
    refine mm_geti S hR fdX2_41 (hK.k hk0) rfl dX2_doPlain_80 ?_
    refine lv_iload_n S.1 S.2.1 dX2_doPlain_83 rfl (lv_at hl 3 rfl) ?_
    refine lv_iadd S.1 S.2.1 dX2_doPlain_84 ?_
    refine mm_min S mnX2_107 hl.1 (Nat.le_of_ble_eq_true rfl) (by simp [rf_cat, int_cat, long_cat]) ⟨Nat.zero_le _, Nat.zero_le _⟩ dX2_doPlain_85 ?_
    refine mm_max S mnX2_113 hl.1 (Nat.le_of_ble_eq_true rfl) (by simp [rf_cat, int_cat, long_cat]) ⟨Nat.zero_le _, Nat.zero_le _⟩ dX2_doPlain_88 ?_
    refine mm_puti S hR hS fpX2_41 (hK.k hk0) rfl rfl rfl dX2_doPlain_91 (fun H locs hR hS => ?_)
    obtain ⟨μ3, e3, hf⟩ := stx hf
    rw [← e3] at hR
    have hK : mmKN μ μ3 := by rw [e3]; exact hK.sI
    refine lv_goto (tgt := 220) S.1 S.2.1 dX2_doPlain_94 (by decide) ?_
    refine mm_aload_n S dX2_doPlain_220 rfl (lv_at hl 1 rfl) ?_
    refine lv_iload S.1 S.2.1 dX2_doPlain_221 (lv_at hl 0 rfl) ?_
    refine mm_puti S hR hS fpX2_38 (hK.k hk0) rfl rfl rfl dX2_doPlain_223 (fun H locs hR hS => ?_)
    obtain ⟨μ4, e4, hf⟩ := stx hf
    rw [← e4] at hR
    have hK : mmKN μ μ4 := by rw [e4]; exact hK.sI
    refine lv_iconst (v := 0) S.1 S.2.1 dX2_doPlain_226 (by decide) ?_
    obtain rfl := Option.some.inj hf
    exact mm_iret S hR hS hr hlocks dX2_doPlain_227
  rcases it_or hf with ⟨c5, hf⟩ | ⟨c5, hf⟩
  · refine mm_swL (tgt := 97) (off := 88) S [1] dX2_doPlain_9 (by simpa using c5) (by decide) (by decide) ?_
    refine mm_aload_n S dX2_doPlain_97 rfl (lv_at hl 1 rfl) ?_
    refine mm_aload_n S dX2_doPlain_98 rfl (lv_at hl 1 rfl) ?_
    refine lv_iload_n S.1 S.2.1 dX2_doPlain_99 rfl (lv_at hl 3 rfl) ?_
    obtain ⟨y6, hy6, hf⟩ := bd hf
    refine mm_callVi S hR hS hA (As := [.int x2]) (rest := [rf h0]) cvX2_116 (hK.k hk0) (kX2_localAt_c l G A (hK.k hk0) hy6) rfl rfl ⟨Nat.le_of_ble_eq_true rfl, Nat.le_of_ble_eq_true rfl⟩ rfl hl.1 rfl (lv_room (by simp [rf_cat, int_cat, long_cat])) dX2_doPlain_100 ⟨Nat.zero_le _, Nat.zero_le _⟩ (fun H locs hR hS => ?_)
    have hK : mmKN μ y6.2 := hK.tr (kX2_localAt_kn hy6)
    refine mm_puti S hR hS fpX2_41 (hK.k hk0) rfl rfl rfl dX2_doPlain_103 (fun H locs hR hS => ?_)
    obtain ⟨μ7, e7, hf⟩ := stx hf
    rw [← e7] at hR
    have hK : mmKN μ μ7 := by rw [e7]; exact hK.sI
    refine lv_goto (tgt := 220) S.1 S.2.1 dX2_doPlain_106 (by decide) ?_
    refine mm_aload_n S dX2_doPlain_220 rfl (lv_at hl 1 rfl) ?_
    refine lv_iload S.1 S.2.1 dX2_doPlain_221 (lv_at hl 0 rfl) ?_
    refine mm_puti S hR hS fpX2_38 (hK.k hk0) rfl rfl rfl dX2_doPlain_223 (fun H locs hR hS => ?_)
    obtain ⟨μ8, e8, hf⟩ := stx hf
    rw [← e8] at hR
    have hK : mmKN μ μ8 := by rw [e8]; exact hK.sI
    refine lv_iconst (v := 0) S.1 S.2.1 dX2_doPlain_226 (by decide) ?_
    obtain rfl := Option.some.inj hf
    exact mm_iret S hR hS hr hlocks dX2_doPlain_227
  rcases it_or hf with ⟨c9, hf⟩ | ⟨c9, hf⟩
  · refine mm_swL (tgt := 109) (off := 100) S [2] dX2_doPlain_9 (by simpa using c9) (by decide) (by decide) ?_
    refine mm_aload_n S dX2_doPlain_109 rfl (lv_at hl 1 rfl) ?_
    refine lv_iload_n S.1 S.2.1 dX2_doPlain_110 rfl (lv_at hl 3 rfl) ?_
    refine mm_aload_n S dX2_doPlain_111 rfl (lv_at hl 1 rfl) ?_
    refine mm_geti S hR fdX2_41 (hK.k hk0) rfl dX2_doPlain_112 ?_
    obtain ⟨y10, hy10, hf⟩ := bd hf
    refine mm_callVv S hR hS hA (As := [.int x2, .int (mI μ h0 7)]) (rest := []) cvX2_120 (hK.k hk0) (kX2_setLocal_c l G A (hK.k hk0) hy10) rfl rfl ⟨Nat.le_of_ble_eq_true rfl, Nat.le_of_ble_eq_true rfl⟩ rfl hl.1 rfl (lv_room (by simp [rf_cat, int_cat, long_cat])) dX2_doPlain_115 ⟨Nat.zero_le _, Nat.zero_le _⟩ (fun H locs hR hS => ?_)
    have hK : mmKN μ y10 := hK.tr (kX2_setLocal_kn hy10)
    refine lv_goto (tgt := 220) S.1 S.2.1 dX2_doPlain_118 (by decide) ?_
    refine mm_aload_n S dX2_doPlain_220 rfl (lv_at hl 1 rfl) ?_
    refine lv_iload S.1 S.2.1 dX2_doPlain_221 (lv_at hl 0 rfl) ?_
    refine mm_puti S hR hS fpX2_38 (hK.k hk0) rfl rfl rfl dX2_doPlain_223 (fun H locs hR hS => ?_)
    obtain ⟨μ11, e11, hf⟩ := stx hf
    rw [← e11] at hR
    have hK : mmKN μ μ11 := by rw [e11]; exact hK.sI
    refine lv_iconst (v := 0) S.1 S.2.1 dX2_doPlain_226 (by decide) ?_
    obtain rfl := Option.some.inj hf
    exact mm_iret S hR hS hr hlocks dX2_doPlain_227
  rcases it_or hf with ⟨c12, hf⟩ | ⟨c12, hf⟩
  · refine mm_swL (tgt := 121) (off := 112) S [4] dX2_doPlain_9 (by simpa using c12) (by decide) (by decide) ?_
    refine mm_aload_n S dX2_doPlain_121 rfl (lv_at hl 1 rfl) ?_
    refine lv_iload_n S.1 S.2.1 dX2_doPlain_122 rfl (lv_at hl 3 rfl) ?_
    obtain ⟨y13, hy13, hf⟩ := bd hf
    refine mm_callVi S hR hS hA (As := [.int x2]) (rest := []) cvX2_116 (hK.k hk0) (kX2_localAt_c l G A (hK.k hk0) hy13) rfl rfl ⟨Nat.le_of_ble_eq_true rfl, Nat.le_of_ble_eq_true rfl⟩ rfl hl.1 rfl (lv_room (by simp [rf_cat, int_cat, long_cat])) dX2_doPlain_123 ⟨Nat.zero_le _, Nat.zero_le _⟩ (fun H locs hR hS => ?_)
    have hK : mmKN μ y13.2 := hK.tr (kX2_localAt_kn hy13)
    refine lv_if_le (tgt := 220) S.1 S.2.1 dX2_doPlain_126 (by decide) (fun c14 => ?_) (fun c14 => ?_)
    · have hf := it_t hf c14
      refine mm_aload_n S dX2_doPlain_220 rfl (lv_at hl 1 rfl) ?_
      refine lv_iload S.1 S.2.1 dX2_doPlain_221 (lv_at hl 0 rfl) ?_
      refine mm_puti S hR hS fpX2_38 (hK.k hk0) rfl rfl rfl dX2_doPlain_223 (fun H locs hR hS => ?_)
      obtain ⟨μ15, e15, hf⟩ := stx hf
      rw [← e15] at hR
      have hK : mmKN μ μ15 := by rw [e15]; exact hK.sI
      refine lv_iconst (v := 0) S.1 S.2.1 dX2_doPlain_226 (by decide) ?_
      obtain rfl := Option.some.inj hf
      exact mm_iret S hR hS hr hlocks dX2_doPlain_227
    · have hf := it_f hf c14
      refine mm_aload_n S dX2_doPlain_129 rfl (lv_at hl 1 rfl) ?_
      refine lv_iload_n S.1 S.2.1 dX2_doPlain_130 rfl (lv_at hl 3 rfl) ?_
      refine mm_aload_n S dX2_doPlain_131 rfl (lv_at hl 1 rfl) ?_
      refine lv_iload_n S.1 S.2.1 dX2_doPlain_132 rfl (lv_at hl 3 rfl) ?_
      obtain ⟨y16, hy16, hf⟩ := bd hf
      refine mm_callVi S hR hS hA (As := [.int x2]) (rest := [.int x2, rf h0]) cvX2_116 (hK.k hk0) (kX2_localAt_c l G A (hK.k hk0) hy16) rfl rfl ⟨Nat.le_of_ble_eq_true rfl, Nat.le_of_ble_eq_true rfl⟩ rfl hl.1 rfl (lv_room (by simp [rf_cat, int_cat, long_cat])) dX2_doPlain_133 ⟨Nat.zero_le _, Nat.zero_le _⟩ (fun H locs hR hS => ?_)
      have hK : mmKN μ y16.2 := hK.tr (kX2_localAt_kn hy16)
      refine lv_iconst (v := 1) S.1 S.2.1 dX2_doPlain_136 (by decide) ?_
      refine lv_isub S.1 S.2.1 dX2_doPlain_137 ?_
      obtain ⟨y17, hy17, hf⟩ := bd hf
      refine mm_callVv S hR hS hA (As := [.int x2, .int (y16.1 - 1)]) (rest := []) cvX2_120 (hK.k hk0) (kX2_setLocal_c l G A (hK.k hk0) hy17) rfl rfl ⟨Nat.le_of_ble_eq_true rfl, Nat.le_of_ble_eq_true rfl⟩ rfl hl.1 rfl (lv_room (by simp [rf_cat, int_cat, long_cat])) dX2_doPlain_138 ⟨Nat.zero_le _, Nat.zero_le _⟩ (fun H locs hR hS => ?_)
      have hK : mmKN μ y17 := hK.tr (kX2_setLocal_kn hy17)
      refine lv_iload_n S.1 S.2.1 dX2_doPlain_141 rfl (lv_at hl 4 rfl) ?_
      refine lv_istore (i := 4) (lv' := [(4, .int x3), (0, rf h0), (1, .int x1), (2, .int x2), (3, .int x3)]) S.1 S.2.1 dX2_doPlain_142 hl (by decide) rfl (fun ls hl => ?_)
      refine lv_goto (tgt := 220) S.1 S.2.1 dX2_doPlain_144 (by decide) ?_
      refine mm_aload_n S dX2_doPlain_220 rfl (lv_at hl 1 rfl) ?_
      refine lv_iload S.1 S.2.1 dX2_doPlain_221 (lv_at hl 0 rfl) ?_
      refine mm_puti S hR hS fpX2_38 (hK.k hk0) rfl rfl rfl dX2_doPlain_223 (fun H locs hR hS => ?_)
      obtain ⟨μ18, e18, hf⟩ := stx hf
      rw [← e18] at hR
      have hK : mmKN μ μ18 := by rw [e18]; exact hK.sI
      refine lv_iconst (v := 0) S.1 S.2.1 dX2_doPlain_226 (by decide) ?_
      obtain rfl := Option.some.inj hf
      exact mm_iret S hR hS hr hlocks dX2_doPlain_227
  rcases it_or hf with ⟨c19, hf⟩ | ⟨c19, hf⟩
  · refine mm_swL (tgt := 147) (off := 138) S [5] dX2_doPlain_9 (by simpa using c19) (by decide) (by decide) ?_
    refine mm_aload_n S dX2_doPlain_147 rfl (lv_at hl 1 rfl) ?_
    refine mm_geti S hR fdX2_41 (hK.k hk0) rfl dX2_doPlain_148 ?_
    refine lv_if_gt (tgt := 158) S.1 S.2.1 dX2_doPlain_151 (by decide) (fun c20 => ?_) (fun c20 => ?_)
    · have hf := it_t hf c20
      refine lv_iload S.1 S.2.1 dX2_doPlain_158 (lv_at hl 0 rfl) ?_
      refine lv_istore (i := 4) (lv' := [(4, .int ((mI μ h0 6) + 1)), (0, rf h0), (1, .int x1), (2, .int x2), (3, .int x3)]) S.1 S.2.1 dX2_doPlain_160 hl (by decide) rfl (fun ls hl => ?_)
      refine lv_goto (tgt := 220) S.1 S.2.1 dX2_doPlain_162 (by decide) ?_
      refine mm_aload_n S dX2_doPlain_220 rfl (lv_at hl 1 rfl) ?_
      refine lv_iload S.1 S.2.1 dX2_doPlain_221 (lv_at hl 0 rfl) ?_
      refine mm_puti S hR hS fpX2_38 (hK.k hk0) rfl rfl rfl dX2_doPlain_223 (fun H locs hR hS => ?_)
      obtain ⟨μ21, e21, hf⟩ := stx hf
      rw [← e21] at hR
      have hK : mmKN μ μ21 := by rw [e21]; exact hK.sI
      refine lv_iconst (v := 0) S.1 S.2.1 dX2_doPlain_226 (by decide) ?_
      obtain rfl := Option.some.inj hf
      exact mm_iret S hR hS hr hlocks dX2_doPlain_227
    · have hf := it_f hf c20
      refine lv_iload_n S.1 S.2.1 dX2_doPlain_154 rfl (lv_at hl 4 rfl) ?_
      refine lv_goto (tgt := 160) S.1 S.2.1 dX2_doPlain_155 (by decide) ?_
      refine lv_istore (i := 4) (lv' := [(4, .int x3), (0, rf h0), (1, .int x1), (2, .int x2), (3, .int x3)]) S.1 S.2.1 dX2_doPlain_160 hl (by decide) rfl (fun ls hl => ?_)
      refine lv_goto (tgt := 220) S.1 S.2.1 dX2_doPlain_162 (by decide) ?_
      refine mm_aload_n S dX2_doPlain_220 rfl (lv_at hl 1 rfl) ?_
      refine lv_iload S.1 S.2.1 dX2_doPlain_221 (lv_at hl 0 rfl) ?_
      refine mm_puti S hR hS fpX2_38 (hK.k hk0) rfl rfl rfl dX2_doPlain_223 (fun H locs hR hS => ?_)
      obtain ⟨μ22, e22, hf⟩ := stx hf
      rw [← e22] at hR
      have hK : mmKN μ μ22 := by rw [e22]; exact hK.sI
      refine lv_iconst (v := 0) S.1 S.2.1 dX2_doPlain_226 (by decide) ?_
      obtain rfl := Option.some.inj hf
      exact mm_iret S hR hS hr hlocks dX2_doPlain_227
  rcases it_or hf with ⟨c23, hf⟩ | ⟨c23, hf⟩
  · refine mm_swL (tgt := 165) (off := 156) S [6] dX2_doPlain_9 (by simpa using c23) (by decide) (by decide) ?_
    refine mm_aload_n S dX2_doPlain_165 rfl (lv_at hl 1 rfl) ?_
    refine mm_getp S hR fdX2_18 (hK.k hk0) rfl dX2_doPlain_166 ?_
    obtain ⟨g25, hf⟩ := gd hf
    obtain ⟨y24, hy24, hf⟩ := bd hf
    refine mm_callVi S hR hS hA (As := []) (rest := []) cvX2_123 (hK.k g25) (kX5_isFull_c l G A (hK.k g25) hy24) rfl rfl ⟨Nat.le_of_ble_eq_true rfl, Nat.le_of_ble_eq_true rfl⟩ rfl hl.1 rfl (lv_room (by simp [rf_cat, int_cat, long_cat])) dX2_doPlain_169 ⟨Nat.zero_le _, Nat.zero_le _⟩ (fun H locs hR hS => ?_)
    have hK : mmKN μ y24.2 := hK.tr (kX5_isFull_kn hy24)
    refine lv_if_eq (tgt := 177) S.1 S.2.1 dX2_doPlain_172 (by decide) (fun c26 => ?_) (fun c26 => ?_)
    · have hf := it_t hf c26
      refine mm_aload_n S dX2_doPlain_177 rfl (lv_at hl 1 rfl) ?_
      refine mm_getp S hR fdX2_18 (hK.k hk0) rfl dX2_doPlain_178 ?_
      refine lv_iload_n S.1 S.2.1 dX2_doPlain_181 rfl (lv_at hl 3 rfl) ?_
      refine lv_if_ne (tgt := 189) S.1 S.2.1 dX2_doPlain_182 (by decide) (fun c27 => ?_) (fun c27 => ?_)
      · have hf := it_f hf c27
        refine lv_bipush (v := (-2)) S.1 S.2.1 dX2_doPlain_189 (by decide) ?_
        refine lv_iload_n S.1 S.2.1 dX2_doPlain_191 rfl (lv_at hl 4 rfl) ?_
        obtain ⟨g29, hf⟩ := gd hf
        obtain ⟨y28, hy28, hf⟩ := bd hf
        refine mm_callVv S hR hS hA (As := [.int (-2), .int x3]) (rest := []) cvX2_92 (hK.k g29) (kX5_put_c l G A (hK.k g29) hy28) rfl rfl ⟨Nat.le_of_ble_eq_true rfl, Nat.le_of_ble_eq_true rfl⟩ rfl hl.1 rfl (lv_room (by simp [rf_cat, int_cat, long_cat])) dX2_doPlain_192 ⟨Nat.zero_le _, Nat.zero_le _⟩ (fun H locs hR hS => ?_)
        have hK : mmKN μ y28 := hK.tr (kX5_put_kn hy28)
        refine lv_goto (tgt := 220) S.1 S.2.1 dX2_doPlain_195 (by decide) ?_
        refine mm_aload_n S dX2_doPlain_220 rfl (lv_at hl 1 rfl) ?_
        refine lv_iload S.1 S.2.1 dX2_doPlain_221 (lv_at hl 0 rfl) ?_
        refine mm_puti S hR hS fpX2_38 (hK.k hk0) rfl rfl rfl dX2_doPlain_223 (fun H locs hR hS => ?_)
        obtain ⟨μ30, e30, hf⟩ := stx hf
        rw [← e30] at hR
        have hK : mmKN μ μ30 := by rw [e30]; exact hK.sI
        refine lv_iconst (v := 0) S.1 S.2.1 dX2_doPlain_226 (by decide) ?_
        obtain rfl := Option.some.inj hf
        exact mm_iret S hR hS hr hlocks dX2_doPlain_227
      · have hf := it_t hf c27
        refine lv_iconst (v := (-1)) S.1 S.2.1 dX2_doPlain_185 (by decide) ?_
        refine lv_goto (tgt := 191) S.1 S.2.1 dX2_doPlain_186 (by decide) ?_
        refine lv_iload_n S.1 S.2.1 dX2_doPlain_191 rfl (lv_at hl 4 rfl) ?_
        obtain ⟨g32, hf⟩ := gd hf
        obtain ⟨y31, hy31, hf⟩ := bd hf
        refine mm_callVv S hR hS hA (As := [.int (-1), .int x3]) (rest := []) cvX2_92 (hK.k g32) (kX5_put_c l G A (hK.k g32) hy31) rfl rfl ⟨Nat.le_of_ble_eq_true rfl, Nat.le_of_ble_eq_true rfl⟩ rfl hl.1 rfl (lv_room (by simp [rf_cat, int_cat, long_cat])) dX2_doPlain_192 ⟨Nat.zero_le _, Nat.zero_le _⟩ (fun H locs hR hS => ?_)
        have hK : mmKN μ y31 := hK.tr (kX5_put_kn hy31)
        refine lv_goto (tgt := 220) S.1 S.2.1 dX2_doPlain_195 (by decide) ?_
        refine mm_aload_n S dX2_doPlain_220 rfl (lv_at hl 1 rfl) ?_
        refine lv_iload S.1 S.2.1 dX2_doPlain_221 (lv_at hl 0 rfl) ?_
        refine mm_puti S hR hS fpX2_38 (hK.k hk0) rfl rfl rfl dX2_doPlain_223 (fun H locs hR hS => ?_)
        obtain ⟨μ33, e33, hf⟩ := stx hf
        rw [← e33] at hR
        have hK : mmKN μ μ33 := by rw [e33]; exact hK.sI
        refine lv_iconst (v := 0) S.1 S.2.1 dX2_doPlain_226 (by decide) ?_
        obtain rfl := Option.some.inj hf
        exact mm_iret S hR hS hr hlocks dX2_doPlain_227
    · have hf := it_f hf c26
      refine lv_iconst (v := 5) S.1 S.2.1 dX2_doPlain_175 (by decide) ?_
      obtain rfl := Option.some.inj hf
      exact mm_iret S hR hS hr hlocks dX2_doPlain_176
  rcases it_or hf with ⟨c34, hf⟩ | ⟨c34, hf⟩
  · refine mm_swL (tgt := 198) (off := 189) S [7] dX2_doPlain_9 (by simpa using c34) (by decide) (by decide) ?_
    refine mm_aload_n S dX2_doPlain_198 rfl (lv_at hl 1 rfl) ?_
    refine lv_iload_n S.1 S.2.1 dX2_doPlain_199 rfl (lv_at hl 4 rfl) ?_
    obtain ⟨y35, hy35, hf⟩ := bd hf
    refine mm_callVi S hR hS hA (As := [.int x3]) (rest := []) cvX2_127 (hK.k hk0) (kX2_doDone_c l G A (hK.k hk0) hy35) rfl rfl ⟨Nat.le_of_ble_eq_true rfl, Nat.le_of_ble_eq_true rfl⟩ rfl hl.1 rfl (lv_room (by simp [rf_cat, int_cat, long_cat])) dX2_doPlain_200 ⟨Nat.zero_le _, Nat.zero_le _⟩ (fun H locs hR hS => ?_)
    have hK : mmKN μ y35.2 := hK.tr (kX2_doDone_kn hy35)
    refine lv_istore (i := 4) (lv' := [(4, .int y35.1), (0, rf h0), (1, .int x1), (2, .int x2), (3, .int x3)]) S.1 S.2.1 dX2_doPlain_203 hl (by decide) rfl (fun ls hl => ?_)
    refine lv_goto (tgt := 220) S.1 S.2.1 dX2_doPlain_205 (by decide) ?_
    refine mm_aload_n S dX2_doPlain_220 rfl (lv_at hl 1 rfl) ?_
    refine lv_iload S.1 S.2.1 dX2_doPlain_221 (lv_at hl 0 rfl) ?_
    refine mm_puti S hR hS fpX2_38 (hK.k hk0) rfl rfl rfl dX2_doPlain_223 (fun H locs hR hS => ?_)
    obtain ⟨μ36, e36, hf⟩ := stx hf
    rw [← e36] at hR
    have hK : mmKN μ μ36 := by rw [e36]; exact hK.sI
    refine lv_iconst (v := 0) S.1 S.2.1 dX2_doPlain_226 (by decide) ?_
    obtain rfl := Option.some.inj hf
    exact mm_iret S hR hS hr hlocks dX2_doPlain_227
  rcases it_or hf with ⟨c37, hf⟩ | ⟨c37, hf⟩
  · refine mm_swL (tgt := 208) (off := 199) S [8] dX2_doPlain_9 (by simpa using c37) (by decide) (by decide) ?_
    refine mm_aload_n S dX2_doPlain_208 rfl (lv_at hl 1 rfl) ?_
    obtain ⟨y38, hy38, hf⟩ := bd hf
    refine mm_callVi S hR hS hA (As := []) (rest := []) cvX2_130 (hK.k hk0) (kX2_doLast_c l G A (hK.k hk0) hy38) rfl rfl ⟨Nat.le_of_ble_eq_true rfl, Nat.le_of_ble_eq_true rfl⟩ rfl hl.1 rfl (lv_room (by simp [rf_cat, int_cat, long_cat])) dX2_doPlain_209 ⟨Nat.zero_le _, Nat.zero_le _⟩ (fun H locs hR hS => ?_)
    have hK : mmKN μ y38.2 := hK.tr (kX2_doLast_kn hy38)
    obtain rfl := Option.some.inj hf
    exact mm_iret S hR hS hr hlocks dX2_doPlain_212
  rcases it_or hf with ⟨c39, hf⟩ | ⟨c39, hf⟩
  · refine mm_swL (tgt := 213) (off := 204) S [9] dX2_doPlain_9 (by simpa using c39) (by decide) (by decide) ?_
    refine lv_iload_n S.1 S.2.1 dX2_doPlain_213 rfl (lv_at hl 3 rfl) ?_
    obtain rfl := Option.some.inj hf
    exact mm_iret S hR hS hr hlocks dX2_doPlain_214
  rcases it_or hf with ⟨c40, hf⟩ | ⟨c40, hf⟩
  · refine mm_swL (tgt := 215) (off := 206) S [11] dX2_doPlain_9 (by simpa using c40) (by decide) (by decide) ?_
    refine mm_aload_n S dX2_doPlain_215 rfl (lv_at hl 1 rfl) ?_
    obtain ⟨y41, hy41, hf⟩ := bd hf
    refine mm_callVi S hR hS hA (As := []) (rest := []) cvX2_133 (hK.k hk0) (kX2_beginReturn_c l G A (hK.k hk0) hy41) rfl rfl ⟨Nat.le_of_ble_eq_true rfl, Nat.le_of_ble_eq_true rfl⟩ rfl hl.1 rfl (lv_room (by simp [rf_cat, int_cat, long_cat])) dX2_doPlain_216 ⟨Nat.zero_le _, Nat.zero_le _⟩ (fun H locs hR hS => ?_)
    have hK : mmKN μ y41.2 := hK.tr (kX2_beginReturn_kn hy41)
    obtain rfl := Option.some.inj hf
    exact mm_iret S hR hS hr hlocks dX2_doPlain_219
  refine mm_swD (tgt := 220) S [0, 1, 2, 4, 5, 6, 7, 8, 9, 11] dX2_doPlain_9 (by simp only [List.forall_mem_cons, List.not_mem_nil, false_imp_iff, implies_true, and_true]; (try simp only [not_or] at c2 c5 c9 c12 c19 c23 c34 c37 c39 c40); simp only [c2, c5, c9, c12, c19, c23, c34, c37, c39, c40, not_false_eq_true, and_self, and_true, true_and]) (by decide) (by decide) ?_
  refine mm_aload_n S dX2_doPlain_220 rfl (lv_at hl 1 rfl) ?_
  refine lv_iload S.1 S.2.1 dX2_doPlain_221 (lv_at hl 0 rfl) ?_
  refine mm_puti S hR hS fpX2_38 (hK.k hk0) rfl rfl rfl dX2_doPlain_223 (fun H locs hR hS => ?_)
  obtain ⟨μ1, e1, hf⟩ := stx hf
  rw [← e1] at hR
  have hK : mmKN μ μ1 := by rw [e1]; exact hK.sI
  refine lv_iconst (v := 0) S.1 S.2.1 dX2_doPlain_226 (by decide) ?_
  obtain rfl := Option.some.inj hf
  exact mm_iret S hR hS hr hlocks dX2_doPlain_227
