/-! what a step leaves as it was, and how much is left to be done -/
/-- from M to M', in a call in which r runs and t has its turn -/
def gKp (M M' : gM) (r : Nat) (t : Int32) : Prop := cN M ≤ cN M' ∧ gnow M' = gnow M ∧ gtrn M' = gtrn M ∧ (∀ k, k < cN M → gf M' k 3 = gf M k 3 ∧ gf M' k 4 = gf M k 4 ∧ gf M' k 16 = gf M k 16 ∧ (k ≠ r → gf M' k 5 = gf M k 5 ∧ gf M' k 7 = gf M k 7)) ∧ (t = -1 → ∀ k, k < cN M → k ≠ r → M'.1 k = M.1 k)
theorem gKp.rf {M : gM} {r : Nat} {t : Int32} : gKp M M r t := ⟨Nat.le_refl _, rfl, rfl, fun _ _ => ⟨rfl, rfl, rfl, fun _ => ⟨rfl, rfl⟩⟩, fun _ _ _ _ => rfl⟩
theorem gKp.tr {M M' M'' : gM} {r : Nat} {t : Int32} (h : gKp M M' r t) (g : gKp M' M'' r t) : gKp M M'' r t := by
  obtain ⟨h1, h2, h3, h4, h5⟩ := h
  obtain ⟨g1, g2, g3, g4, g5⟩ := g
  refine ⟨by omega, g2.trans h2, g3.trans h3, fun k hk => ?_, fun ht k hk hr => (g5 ht k (by omega) hr).trans (h5 ht k hk hr)⟩
  obtain ⟨a1, a2, a3, a4⟩ := h4 k hk
  obtain ⟨b1, b2, b3, b4⟩ := g4 k (by omega)
  exact ⟨b1.trans a1, b2.trans a2, b3.trans a3, fun q => ⟨(b4 q).1.trans (a4 q).1, (b4 q).2.trans (a4 q).2⟩⟩
theorem gKp.F {M M' : gM} {r n j : Nat} {t v : Int32} (h : gKp M M' r t) (hn : cN M ≤ n ∨ (n = r ∧ j ≠ 3 ∧ j ≠ 4 ∧ j ≠ 16) ∨ (t ≠ -1 ∧ j ≠ 3 ∧ j ≠ 4 ∧ j ≠ 16 ∧ j ≠ 5 ∧ j ≠ 7)) : gKp M (gfS M' n j v) r t := by
  obtain ⟨h1, h2, h3, h4, h5⟩ := h
  refine ⟨h1, h2, h3, fun k hk => ?_, fun ht k hk hr => ?_⟩
  · obtain ⟨a1, a2, a3, a4⟩ := h4 k hk
    refine ⟨?_, ?_, ?_, fun q => ⟨?_, ?_⟩⟩
    · rw [gf_gfS, if_neg (by omega)]; exact a1
    · rw [gf_gfS, if_neg (by omega)]; exact a2
    · rw [gf_gfS, if_neg (by omega)]; exact a3
    · rw [gf_gfS, if_neg (by omega)]; exact (a4 q).1
    · rw [gf_gfS, if_neg (by omega)]; exact (a4 q).2
  · have hkn : k ≠ n := by rcases hn with q | q | q <;> first | omega | exact absurd ht q.1
    rw [co_F, co_ne hkn]
    exact h5 ht k hk hr
theorem gKp.co {M M' : gM} {r : Nat} {t : Int32} {x : gCo} (h : gKp M M' r t) (h3 : x.1 3 = gf M' r 3) (h4 : x.1 4 = gf M' r 4) (h16 : x.1 16 = gf M' r 16) : gKp M (gCoS M' r x) r t := by
  obtain ⟨g1, g2, g3, g4, g5⟩ := h
  refine ⟨g1, g2, g3, fun k hk => ?_, fun ht k hk hr => by rw [co_ne hr]; exact g5 ht k hk hr⟩
  obtain ⟨a1, a2, a3, a4⟩ := g4 k hk
  simp only [gf_co]
  by_cases e : k = r
  · subst e
    simp only [if_pos]
    exact ⟨h3.trans a1, h4.trans a2, h16.trans a3, fun q => absurd rfl q⟩
  · simp only [if_neg e]
    exact ⟨a1, a2, a3, a4⟩
theorem gKp.q {M M' : gM} {r : Nat} {t : Int32} {q1 q2 : List Int32} (h : gKp M M' r t) : gKp M (M'.1, M'.2.1, q1, q2) r t := h
/-- how much is left to be done by a coroutine -/
def wt (M : gM) (k : Nat) : Nat := if k < cN M then 2 * bl (gk M k) + (if gOver M k then 0 else 4) else 4
def sW (M : gM) : Nat → Nat
  | 0 => 0
  | n + 1 => sW M n + wt M n
theorem sW_le {M M' : gM} (h : ∀ k, wt M' k ≤ wt M k) : ∀ n, sW M' n ≤ sW M n := by
  intro n
  induction n with
  | zero => exact Nat.le_refl _
  | succ n ih =>
    have := h n
    show sW M' n + wt M' n ≤ sW M n + wt M n
    omega
theorem sW_at {M M' : gM} {r d e : Nat} (h : ∀ k, k ≠ r → wt M' k ≤ wt M k) (hr : wt M' r + d ≤ wt M r + e) : ∀ n, r < n → sW M' n + d ≤ sW M n + e := by
  intro n
  induction n with
  | zero => intro q; omega
  | succ n ih =>
    intro q
    show sW M' n + wt M' n + d ≤ sW M n + wt M n + e
    by_cases z : r = n
    · subst z
      have : sW M' r ≤ sW M r := by
        have : ∀ m, m ≤ r → sW M' m ≤ sW M m := by
          intro m
          induction m with
          | zero => intro _; exact Nat.le_refl _
          | succ m im =>
            intro hm
            have a := im (by omega)
            have b := h m (by omega)
            show sW M' m + wt M' m ≤ sW M m + wt M m
            omega
        exact this r (Nat.le_refl _)
      omega
    · have a := ih (by omega)
      have b := h n (fun e => z e.symm)
      omega
theorem sW_up {M : gM} (hk : ∀ k, k < cN M → (gk M k).length ≤ 6) : ∀ n, sW M n ≤ 16 * n := by
  intro n
  induction n with
  | zero => exact Nat.le_refl _
  | succ n ih =>
    have : wt M n ≤ 16 := by
      unfold wt
      split
      · rename_i q
        have a := hk n q
        have b := bl_le (k := gk M n)
        split <;> omega
      · omega
    show sW M n + wt M n ≤ _
    omega
/-- what a step of a call has before it -/
def gMu (T : gT) : Nat := 10 * (300 - T.2.2.1.2.toInt.toNat) + sW T.1 24 + (if gOver T.1 T.2.1 then 1 else 0)
/-- no one's but r's work became more, and r's by 2 at most -/
def gWk (M M' : gM) (r : Nat) : Prop := (∀ k, k ≠ r → wt M' k ≤ wt M k) ∧ wt M' r ≤ wt M r + 2
theorem gk_F {M : gM} {n j k : Nat} {v : Int32} : gk (gfS M n j v) k = gk M k := by
  unfold gk gfS gCoS
  by_cases h : k = n
  · subst h; simp
  · simp [h]
theorem wt_F {M : gM} {n j k : Nat} {v : Int32} (hj : j ≠ 5) : wt (gfS M n j v) k = wt M k := by
  unfold wt
  rw [gk_F, over_f (M := M) (M' := gfS M n j v) (by rw [gf_gfS, if_neg (by omega)])]
  rfl
theorem wt_5 {M : gM} {n k : Nat} {v : Int32} (hn : gOver M n = false) (hv : v ≠ 3 ∧ v ≠ 4) : wt (gfS M n 5 v) k = wt M k := by
  unfold wt
  have : gOver (gfS M n 5 v) k = gOver M k := by
    by_cases e : k = n
    · subst e
      rw [hn]
      unfold gOver
      rw [gf_gfS, if_pos ⟨rfl, rfl⟩]
      simp [hv.1, hv.2]
    · exact over_f (by rw [gf_gfS, if_neg (by omega)])
  rw [gk_F, this]
  rfl
/-- machines that differ in what a task sleeps for and awaits, in whether it is asked, and in queues -/
def sameQ (M M' : gM) : Prop := gcnt M' = gcnt M ∧ ∀ k, k < cN M → (∀ j, j ≠ 12 → j ≠ 13 → j ≠ 15 → gf M' k j = gf M k j) ∧ (M'.1 k).2 = (M.1 k).2 ∧ (gf M' k 15 = gf M k 15 ∨ gf M' k 15 = 0 ∨ gf M' k 15 = 1)
theorem sameQ.rf {M : gM} : sameQ M M := ⟨rfl, fun _ _ => ⟨fun _ _ _ _ => rfl, rfl, Or.inl rfl⟩⟩
theorem sameQ.cn {M M' : gM} (h : sameQ M M') : cN M' = cN M := by unfold cN; rw [h.1]
theorem sameQ.F {M M' : gM} {n j : Nat} {v : Int32} (h : sameQ M M') (hj : j = 12 ∨ j = 13 ∨ (j = 15 ∧ (v = 0 ∨ v = 1))) : sameQ M (gfS M' n j v) := ⟨h.1, fun k hk => ⟨fun i a b d => by rw [gf_gfS, if_neg (by omega)]; exact (h.2 k hk).1 i a b d, by
  have : ((gfS M' n j v).1 k).2 = (M'.1 k).2 := by
    unfold gfS gCoS
    by_cases e : k = n
    · subst e; simp
    · simp [e]
  refine ⟨by rw [this]; exact (h.2 k hk).2.1, ?_⟩
  rw [gf_gfS]
  split
  · rename_i e
    rcases hj with q | q | q
    · omega
    · omega
    · exact Or.inr q.2
  · exact (h.2 k hk).2.2⟩⟩
theorem sameQ.q {M M' : gM} {q1 q2 : List Int32} (h : sameQ M M') : sameQ M (M'.1, M'.2.1, q1, q2) := h
theorem sameQ.IV0 {B : gB} {M M' : gM} (h : sameQ M M') (g : IV0 B M) : IV0 B M' := by
  have hc := h.cn
  obtain ⟨g1, g2, g3⟩ := g
  refine ⟨by rw [hc, h.1]; exact g1, by rw [hc]; exact g2, fun k hk => ?_⟩
  rw [hc] at hk ⊢
  obtain ⟨a1, a2, a3⟩ := g3 k hk
  obtain ⟨b1, b2, b15⟩ := h.2 k hk
  have f : ∀ j, j ≠ 12 → j ≠ 13 → j ≠ 15 → (M'.1 k).1 j = (M.1 k).1 j := b1
  refine ⟨?_, ?_, ?_⟩
  · unfold okR okX okWt at a1 ⊢
    rw [f 3 (by omega) (by omega) (by omega), f 4 (by omega) (by omega) (by omega), f 5 (by omega) (by omega) (by omega), f 6 (by omega) (by omega) (by omega), f 7 (by omega) (by omega) (by omega), f 9 (by omega) (by omega) (by omega), f 11 (by omega) (by omega) (by omega), b2]
    exact a1
  · unfold okC at a2 ⊢
    rw [f 3 (by omega) (by omega) (by omega), f 4 (by omega) (by omega) (by omega), f 16 (by omega) (by omega) (by omega), f 14 (by omega) (by omega) (by omega)]
    refine ⟨a2.1, a2.2.1, a2.2.2.1, a2.2.2.2.1, ?_⟩
    rcases b15 with q | q
    · show gf M' k 15 = 0 ∨ gf M' k 15 = 1
      rw [q]; exact a2.2.2.2.2
    · exact q
  · intro q
    rw [b1 9 (by omega) (by omega) (by omega)] at q ⊢
    obtain ⟨j, d1, d2, d3, d4, d5, d6⟩ := a3 q
    have bj := (h.2 j d3).1
    refine ⟨j, d1, d2, by rw [hc]; exact d3, by rw [bj 4 (by omega) (by omega) (by omega)]; exact d4, by rw [bj 10 (by omega) (by omega) (by omega)]; exact d5, ?_⟩
    rw [bj 3 (by omega) (by omega) (by omega), d6]
    unfold gAtLn
    rw [b1 3 (by omega) (by omega) (by omega), b1 6 (by omega) (by omega) (by omega)]
theorem IQ.fr {M M' : gM} {t : Int32} (h : IQ M t) (hc : cN M' = cN M) (hn : gnow M' = gnow M) (hr : grq M' = grq M) (ha : gaq M' = gaq M) (hf : ∀ k, k < cN M → gf M' k 4 = gf M k 4 ∧ gf M' k 12 = gf M k 12 ∧ gf M' k 13 = gf M k 13 ∧ gOver M' k = gOver M k) : IQ M' t := by
  obtain ⟨q0, ⟨q1, q2⟩, ⟨q3, q4⟩, q5, q6, q7, q8⟩ := h
  unfold IQ
  rw [hn, hr, ha, hc]
  refine ⟨q0, ⟨q1, fun y hy => ?_⟩, ⟨q3, fun y hy => ?_⟩, fun k hk e => ?_, fun k hk e => ?_, fun k hk f1 f2 f3 f4 f5 => ?_, fun k hk => ?_⟩
  · obtain ⟨p1, k, p2, p3, p4, p5, p6, p7⟩ := q2 y hy
    obtain ⟨a, b, c, d⟩ := hf k p3
    exact ⟨p1, k, p2, p3, a.trans p4, d.trans p5, b.trans p6, c.trans p7⟩
  · obtain ⟨k, p2, p3, p4⟩ := q4 y hy
    exact ⟨k, p2, p3, by rw [(hf k p3).2.2.1]; exact p4⟩
  · obtain ⟨a, b, c, d⟩ := hf k hk
    rw [c] at e
    obtain ⟨p1, p2, p3, p4, p5, j, p6, p7, p8, p9⟩ := q5 k hk e
    obtain ⟨a', b', c', d'⟩ := hf j p7
    exact ⟨a.trans p1, d.trans p2, p3, b.trans p4, p5, j, c.trans p6, p7, a'.trans p8, by rw [d']; exact p9⟩
  · obtain ⟨a, b, c, d⟩ := hf k hk
    rw [b] at e
    obtain ⟨p1, p2, p3, p4⟩ := q6 k hk e
    exact ⟨a.trans p1, d.trans p2, p3, by rw [b]; exact p4⟩
  · obtain ⟨a, b, c, d⟩ := hf k hk
    exact q7 k hk (a.symm.trans f1) (d.symm.trans f2) f3 (b.symm.trans f4) (c.symm.trans f5)
  · obtain ⟨m, hm⟩ := q8 k hk
    exact ⟨m, gTm.fr (Nat.le_refl _) (fun k hk => (hf k hk).2.2.1) m k hk hm⟩
/-- it waits: all rest -/
theorem IVC.wait {B : gB} {T : gT} {top : Nat} {M1 : gM} (h : IVC B T top) (hw : okWt B (cN T.1) (T.1.1 T.2.1)) (hs : sameQ T.1 M1) (hq : IQ M1 (-1)) (h2 : gf T.1 T.2.1 5 = 2) : IVR B (gfS M1 T.2.1 5 1) := by
  obtain ⟨h0, hc, -, -, -, -⟩ := h
  obtain ⟨M, r, q⟩ := T
  dsimp only at *
  have hr := hc.1
  have k0 := hs.IV0 h0
  have hcn := hs.cn
  have hf := (hs.2 r hr).1
  have s5 : gf M1 r 5 = 2 := (hf 5 (by omega) (by omega) (by omega)).trans h2
  have ne5 : ∀ k j, j ≠ 5 → gf (gfS M1 r 5 1) k j = gf M1 k j := fun k j e => by rw [gf_gfS, if_neg (by omega)]
  have ner : ∀ k j, k ≠ r → gf (gfS M1 r 5 1) k j = gf M1 k j := fun k j e => by rw [gf_gfS, if_neg (by omega)]
  have wr : okWt B (cN M1) (M1.1 r) := by
    have f : ∀ j, j ≠ 12 → j ≠ 13 → j ≠ 15 → (M1.1 r).1 j = (M.1 r).1 j := hf
    unfold okWt at hw ⊢
    rw [hcn, f 3 (by omega) (by omega) (by omega), f 4 (by omega) (by omega) (by omega), f 6 (by omega) (by omega) (by omega), f 7 (by omega) (by omega) (by omega), f 9 (by omega) (by omega) (by omega)]
    exact hw
  have r9 : gf M1 r 9 = -1 := (k0.2.2 r (by omega)).1.2.2.2.2 (by show gf M1 r 5 ≠ 1; rw [s5]; decide)
  refine ⟨⟨k0.1, k0.2.1, fun k hk => ?_⟩, fun k hk => ?_, ?_⟩
  · obtain ⟨a1, a2, a3⟩ := k0.2.2 k hk
    refine ⟨?_, ?_, fun q => ?_⟩
    · by_cases e : k = r
      · subst e
        rw [co_F, co_at]
        obtain ⟨b1, b2, b3, b4, b5⟩ := a1
        refine ⟨⟨b1.1, b1.2.1, b1.2.2.1, fun z => ?_, fun z => ?_⟩, fun z => ?_, Or.inr (Or.inl rfl), fun _ => wr, fun z => absurd rfl z⟩
        · exact absurd (show (1 : Int32) = 3 ∨ (1 : Int32) = 4 from z) (by decide)
        · exact absurd (show (1 : Int32) = 4 from z) (by decide)
        · exact absurd (show (1 : Int32) = 0 from z) (by decide)
      · rw [co_F, co_ne e]; exact a1
    · unfold okC at a2 ⊢
      simp only [gf_at] at *
      rw [ne5 k 3 (by omega), ne5 k 4 (by omega), ne5 k 14 (by omega), ne5 k 16 (by omega), ne5 k 15 (by omega)]
      exact a2
    · rw [ne5 k 9 (by omega)] at q ⊢
      obtain ⟨j, d1, d2, d3, d4, d5, d6⟩ := a3 q
      refine ⟨j, d1, d2, d3, by rw [ne5 j 4 (by omega)]; exact d4, by rw [ne5 j 10 (by omega)]; exact d5, ?_⟩
      rw [ne5 j 3 (by omega), d6]
      unfold gAtLn
      rw [ne5 k 3 (by omega), ne5 k 6 (by omega)]
  · have hk' : k < cN M := by rw [← hcn]; exact hk
    by_cases e : k = r
    · subst e
      refine ⟨by rw [gf_gfS, if_pos ⟨rfl, rfl⟩]; decide, fun j hj z => ?_⟩
      rw [ne5 k 9 (by omega), r9] at z
      have h1 : j < cN M1 := hj
      have h2 := k0.2.1
      exact absurd z.symm (n_neg (by omega))
    · obtain ⟨b1, b2⟩ := hc.2.2 k hk' e
      obtain ⟨f1, -⟩ := hs.2 k hk'
      refine ⟨by rw [ner k 5 e, f1 5 (by omega) (by omega) (by omega)]; exact b1, fun j hj z => ?_⟩
      have hj' : j < cN M := by rw [← hcn]; exact hj
      rw [ner k 9 e, f1 9 (by omega) (by omega) (by omega)] at z
      rcases b2 j hj' z with q | q
      · subst q; rw [gf_gfS, if_pos ⟨rfl, rfl⟩]
      · by_cases y : j = r
        · subst y; rw [gf_gfS, if_pos ⟨rfl, rfl⟩]
        · rw [ner j 5 y, (hs.2 j hj').1 5 (by omega) (by omega) (by omega)]; exact q
  · refine hq.fr rfl rfl rfl rfl fun k hk => ⟨ne5 k 4 (by omega), ne5 k 12 (by omega), ne5 k 13 (by omega), ?_⟩
    by_cases e : k = r
    · subst e
      unfold gOver
      rw [gf_gfS, if_pos ⟨rfl, rfl⟩, s5]
      rfl
    · exact over_f (ner k 5 e)
