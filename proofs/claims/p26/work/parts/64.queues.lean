/-! what holds of the tasks, as one yields, sleeps, awaits -/
theorem pig : ∀ (n : Nat) (l : List Int32), n ≤ 24 → l.Nodup → (∀ x ∈ l, ∃ k, x = Int32.ofNat k ∧ k < n) → l.length ≤ n := by
  intro n
  induction n with
  | zero =>
    intro l _ _ h
    cases l with
    | nil => exact Nat.le_refl _
    | cons x r => obtain ⟨k, -, hk⟩ := h x List.mem_cons_self; omega
  | succ n ih =>
    intro l hn hl h
    by_cases q : Int32.ofNat n ∈ l
    · have h1 := ih (l.erase (Int32.ofNat n)) (by omega) (hl.erase _) (fun x hx => by
        rw [hl.mem_erase_iff] at hx
        obtain ⟨k, e, hk⟩ := h x hx.2
        refine ⟨k, e, ?_⟩
        have : k ≠ n := fun z => hx.1 (by rw [e, z])
        omega)
      rw [List.length_erase_of_mem q] at h1
      omega
    · have h1 := ih l (by omega) hl (fun x hx => by
        obtain ⟨k, e, hk⟩ := h x hx
        refine ⟨k, e, ?_⟩
        have : k ≠ n := fun z => q (by rw [← z, ← e]; exact hx)
        omega)
      omega
theorem nd_app {l : List Int32} {v : Int32} (hl : l.Nodup) (hv : v ∉ l) : (l ++ [v]).Nodup := by
  rw [List.nodup_append]
  refine ⟨hl, by simp, fun a ha b hb => ?_⟩
  rw [List.mem_singleton.mp hb]
  intro e
  exact hv (by rw [← e]; exact ha)
theorem gAdd_app {l : List Int32} {v : Int32} {n : Nat} (hn : n ≤ 24) (hl : l.Nodup) (hv : v ∉ l) (hm : ∀ x ∈ l, ∃ k, x = Int32.ofNat k ∧ k < n) (hvn : ∃ k, v = Int32.ofNat k ∧ k < n) : gAdd l v = l ++ [v] := by
  have := pig n (l ++ [v]) hn (nd_app hl hv) (fun x hx => by
    rcases List.mem_append.mp hx with q | q
    · exact hm x q
    · rw [List.mem_singleton.mp q]; exact hvn)
  rw [List.length_append] at this
  unfold gAdd
  rw [if_pos (by simp at this; omega)]
theorem gTm.one {f : Nat → Int32} {c : Nat} (hc : c ≤ 24) : ∀ (n m k : Nat), gTm f c n k → gTm f c m k → n = m := by
  intro n
  induction n with
  | zero =>
    intro m k h g
    cases m with
    | zero => rfl
    | succ m =>
      obtain ⟨j, e, hj, -⟩ := g
      rw [show f k = -1 from h] at e
      exact absurd e.symm (n_neg (by omega))
  | succ n ih =>
    intro m k h g
    obtain ⟨j, e, hj, h⟩ := h
    cases m with
    | zero =>
      rw [show f k = -1 from g] at e
      exact absurd e.symm (n_neg (by omega))
    | succ m =>
      obtain ⟨i, e2, hi, g⟩ := g
      have : j = i := n_inj (by omega) (by omega) (e.symm.trans e2)
      subst this
      rw [ih m j h g]
theorem gTm.row {f : Nat → Int32} {c : Nat} (hc : c ≤ 24) : ∀ (n k : Nat), k < c → gTm f c n k → ∃ l : List Int32, l.length = n + 1 ∧ l.Nodup ∧ ∀ x ∈ l, ∃ j m, x = Int32.ofNat j ∧ j < c ∧ m ≤ n ∧ gTm f c m j := by
  intro n
  induction n with
  | zero => intro k hk h; exact ⟨[Int32.ofNat k], rfl, by simp, fun x hx => ⟨k, 0, List.mem_singleton.mp hx, hk, Nat.le_refl _, h⟩⟩
  | succ n ih =>
    intro k hk h
    obtain ⟨j, e, hj, g⟩ := id h
    obtain ⟨l, l1, l2, l3⟩ := ih j hj g
    refine ⟨Int32.ofNat k :: l, by simp [l1], ?_, fun x hx => ?_⟩
    · rw [List.nodup_cons]
      refine ⟨fun z => ?_, l2⟩
      obtain ⟨i, m, e2, hi, hm, gi⟩ := l3 _ z
      have : k = i := n_inj (by omega) (by omega) e2
      subst this
      have := gTm.one hc _ _ _ h gi
      omega
    · rcases List.mem_cons.mp hx with q | q
      · exact ⟨k, n + 1, q, hk, Nat.le_refl _, h⟩
      · obtain ⟨i, m, e2, hi, hm, gi⟩ := l3 _ q
        exact ⟨i, m, e2, hi, by omega, gi⟩
theorem gTm.len {f : Nat → Int32} {c n k : Nat} (hc : c ≤ 24) (hk : k < c) (h : gTm f c n k) : n < c := by
  obtain ⟨l, l1, l2, l3⟩ := gTm.row hc n k hk h
  have := pig c l hc l2 (fun x hx => by obtain ⟨j, m, e, hj, -⟩ := l3 x hx; exact ⟨j, e, hj⟩)
  omega
/-- it is put at the end of the ready ones -/
theorem IQ.add {M : gM} {top : Nat} (h : IQ M (Int32.ofNat top)) (hc : cN M ≤ 24) (ht : top < cN M) (h4 : gf M top 4 = 1) (ho : gOver M top = false) : IQ (grqS M (gAdd (grq M) (Int32.ofNat top))) (-1) := by
  obtain ⟨q0, ⟨q1, q2⟩, ⟨q3, q4⟩, q5, q6, q7, q8⟩ := h
  have hv : Int32.ofNat top ∉ grq M := fun z => (q2 _ z).1 rfl
  have e : gAdd (grq M) (Int32.ofNat top) = grq M ++ [Int32.ofNat top] := gAdd_app hc q1 hv (fun x hx => by obtain ⟨-, k, e, hk, -⟩ := q2 x hx; exact ⟨k, e, hk⟩) ⟨top, rfl, ht⟩
  have t12 : gf M top 12 = -1 := Classical.byContradiction fun z => (q6 top ht z).2.2.1 rfl
  have t13 : gf M top 13 = -1 := Classical.byContradiction fun z => (q5 top ht z).2.2.1 rfl
  rw [e]
  refine ⟨q0, ⟨nd_app q1 hv, fun x hx => ?_⟩, ⟨q3, q4⟩, fun k hk z => ?_, fun k hk z => ?_, fun k hk f1 f2 f3 f4 f5 => ?_, q8⟩
  · rcases List.mem_append.mp hx with q | q
    · obtain ⟨-, k, p2, p3, p4⟩ := q2 x q
      exact ⟨by rw [p2]; exact n_neg (by omega), k, p2, p3, p4⟩
    · rw [List.mem_singleton.mp q]
      exact ⟨n_neg (by omega), top, rfl, ht, h4, ho, t12, t13⟩
  · have hk : k < cN M := hk
    obtain ⟨p1, p2, p3, p4, p5, j, p6, p7, p8, p9⟩ := q5 k hk z
    refine ⟨p1, p2, n_neg (by omega), p4, p5, j, p6, p7, p8, Or.inl ?_⟩
    rcases p9 with q | q
    · exact q
    · have : j = top := n_inj (by omega) (by omega) q
      subst this; exact ho
  · have hk : k < cN M := hk
    obtain ⟨p1, p2, p3, p4⟩ := q6 k hk z
    exact ⟨p1, p2, n_neg (by omega), p4⟩
  · show Int32.ofNat k ∈ grq M ++ [Int32.ofNat top]
    by_cases z : Int32.ofNat k = Int32.ofNat top
    · rw [z]; exact List.mem_append_right _ (List.mem_singleton.mpr rfl)
    · exact List.mem_append_left _ (q7 k hk f1 f2 z f4 f5)
/-- it sleeps -/
theorem IQ.sleep {M : gM} {top : Nat} {a : Int32} (h : IQ M (Int32.ofNat top)) (hc : cN M ≤ 24) (ht : top < cN M) (h4 : gf M top 4 = 1) (ho : gOver M top = false) (ha : 1 ≤ a.toInt ∧ a.toInt ≤ 9) : IQ (gfS M top 12 (gnow M + a)) (-1) := by
  obtain ⟨q0, ⟨q1, q2⟩, ⟨q3, q4⟩, q5, q6, q7, q8⟩ := h
  have t13 : gf M top 13 = -1 := Classical.byContradiction fun z => (q5 top ht z).2.2.1 rfl
  have sm : ∀ k j, j ≠ 12 → gf (gfS M top 12 (gnow M + a)) k j = gf M k j := fun k j e => by rw [gf_gfS, if_neg (by omega)]
  have s12 : ∀ k, k ≠ top → gf (gfS M top 12 (gnow M + a)) k 12 = gf M k 12 := fun k e => by rw [gf_gfS, if_neg (by omega)]
  have w12 : gf (gfS M top 12 (gnow M + a)) top 12 = gnow M + a := by rw [gf_gfS, if_pos ⟨rfl, rfl⟩]
  have ov : ∀ k, gOver (gfS M top 12 (gnow M + a)) k = gOver M k := fun k => over_f (sm k 5 (by omega))
  have ea : (gnow M + a).toInt = (gnow M).toInt + a.toInt := i_add (by omega) (by omega)
  refine ⟨q0, ⟨q1, fun x hx => ?_⟩, ⟨q3, fun x hx => ?_⟩, fun k hk z => ?_, fun k hk z => ?_, fun k hk f1 f2 f3 f4 f5 => ?_, fun k hk => ?_⟩
  · obtain ⟨p1, k, p2, p3, p4, p5, p6, p7⟩ := q2 x hx
    have hkt : k ≠ top := fun z => p1 (by rw [p2, z])
    exact ⟨by rw [p2]; exact n_neg (by omega), k, p2, p3, by rw [sm k 4 (by omega)]; exact p4, by rw [ov]; exact p5, by rw [s12 k hkt]; exact p6, by rw [sm k 13 (by omega)]; exact p7⟩
  · obtain ⟨k, p2, p3, p4⟩ := q4 x hx
    exact ⟨k, p2, p3, by rw [sm k 13 (by omega)]; exact p4⟩
  · have hk : k < cN M := hk
    rw [sm k 13 (by omega)] at z
    obtain ⟨p1, p2, p3, p4, p5, j, p6, p7, p8, p9⟩ := q5 k hk z
    have hkt : k ≠ top := fun z => p3 (by rw [z])
    refine ⟨by rw [sm k 4 (by omega)]; exact p1, by rw [ov]; exact p2, n_neg (show k < 2 ^ 31 by omega), by rw [s12 k hkt]; exact p4, p5, j, by rw [sm k 13 (by omega)]; exact p6, p7, by rw [sm j 4 (by omega)]; exact p8, Or.inl ?_⟩
    rw [ov]
    rcases p9 with q | q
    · exact q
    · have : j = top := n_inj (by omega) (by omega) q
      subst this; exact ho
  · by_cases y : k = top
    · subst y
      refine ⟨by rw [sm k 4 (by omega)]; exact h4, by rw [ov]; exact ho, n_neg (by omega), ?_⟩
      rw [w12, ea]
      show (gnow M).toInt < _
      omega
    · have hk : k < cN M := hk
      rw [s12 k y] at z ⊢
      obtain ⟨p1, p2, p3, p4⟩ := q6 k hk z
      exact ⟨by rw [sm k 4 (by omega)]; exact p1, by rw [ov]; exact p2, n_neg (show k < 2 ^ 31 by omega), p4⟩
  · by_cases y : k = top
    · subst y
      rw [w12] at f4
      rw [f4] at ea
      have : (-1 : Int32).toInt = -1 := rfl
      omega
    · rw [s12 k y] at f4
      rw [sm k 4 (by omega)] at f1
      rw [ov] at f2
      rw [sm k 13 (by omega)] at f5
      exact q7 k hk f1 f2 (fun z => y (n_inj (by have : k < cN M := hk; omega) (by omega) z)) f4 f5
  · obtain ⟨m, hm⟩ := q8 k hk
    exact ⟨m, gTm.fr (Nat.le_refl _) (fun k _ => sm k 13 (by omega)) m k hk hm⟩
theorem ring_no {M : gM} {c top j : Nat} {g : Nat → Int32} (hc : c ≤ 24) (ht : top < c) (hg : ∀ k, k ≠ top → g k = gf M k 13) : ∀ (n i k : Nat), k < c → k ≠ top → n < i → gTm (fun k => gf M k 13) c n k → gRing M (Int32.ofNat top) i (Int32.ofNat k) = false → gTm g c n k := by
  intro n
  induction n with
  | zero => intro i k hk hkt hi h _; exact (hg k hkt).trans h
  | succ n ih =>
    intro i k hk hkt hi h hr
    obtain ⟨m, e, hm, h⟩ := h
    obtain ⟨i, rfl⟩ : ∃ i', i = i' + 1 := ⟨i - 1, by omega⟩
    have e : gf M k 13 = Int32.ofNat m := e
    unfold gRing at hr
    rw [if_neg (n_neg (by omega)), n_at (by omega), e] at hr
    by_cases q : Int32.ofNat m = Int32.ofNat top
    · rw [if_pos q] at hr; cases hr
    · rw [if_neg q] at hr
      exact ⟨m, (hg k hkt).trans e, hm, ih i m hm (fun z => q (by rw [z])) (by omega) h hr⟩
theorem ring_all {f g : Nat → Int32} {c top j nj : Nat} (hj : j < c) (hf : f top = -1) (hc : c ≤ 24) (hg : ∀ k, k ≠ top → g k = f k) (hgt : g top = Int32.ofNat j) (h : gTm g c nj j) : ∀ (n k : Nat), k < c → gTm f c n k → ∃ m, gTm g c m k := by
  intro n
  induction n with
  | zero =>
    intro k hk e
    by_cases q : k = top
    · subst q; exact ⟨nj + 1, j, hgt, hj, h⟩
    · exact ⟨0, (hg k q).trans e⟩
  | succ n ih =>
    intro k hk e
    obtain ⟨i, e, hi, r⟩ := e
    have q : k ≠ top := fun z => by
      subst z
      rw [hf] at e
      exact absurd e.symm (n_neg (by omega))
    obtain ⟨m, hm⟩ := ih i hi r
    exact ⟨m + 1, i, (hg k q).trans e, hi, hm⟩
/-- it awaits another -/
theorem IQ.await {M : gM} {top j : Nat} (h : IQ M (Int32.ofNat top)) (hc : cN M ≤ 24) (ht : top < cN M) (h4 : gf M top 4 = 1) (ho : gOver M top = false) (hj : j < cN M) (j4 : gf M j 4 = 1) (jo : gOver M j = false) (hne : j ≠ top) (hr : gRing M (Int32.ofNat top) 24 (Int32.ofNat j) = false) :
    IQ (gaqS (gfS M top 13 (Int32.ofNat j)) (gAdd (gaq M) (Int32.ofNat top))) (-1) := by
  obtain ⟨q0, ⟨q1, q2⟩, ⟨q3, q4⟩, q5, q6, q7, q8⟩ := h
  have t12 : gf M top 12 = -1 := Classical.byContradiction fun z => (q6 top ht z).2.2.1 rfl
  have t13 : gf M top 13 = -1 := Classical.byContradiction fun z => (q5 top ht z).2.2.1 rfl
  have hv : Int32.ofNat top ∉ gaq M := fun z => by
    obtain ⟨k, e, hk, p⟩ := q4 _ z
    exact (q5 k hk p).2.2.1 e.symm
  have e : gAdd (gaq M) (Int32.ofNat top) = gaq M ++ [Int32.ofNat top] := gAdd_app hc q3 hv (fun x hx => by obtain ⟨k, e, hk, -⟩ := q4 x hx; exact ⟨k, e, hk⟩) ⟨top, rfl, ht⟩
  rw [e]
  have sm : ∀ k i, i ≠ 13 → gf (gaqS (gfS M top 13 (Int32.ofNat j)) (gaq M ++ [Int32.ofNat top])) k i = gf M k i := fun k i e => by
    show gf (gfS M top 13 (Int32.ofNat j)) k i = _
    rw [gf_gfS, if_neg (by omega)]
  have s13 : ∀ k, k ≠ top → gf (gaqS (gfS M top 13 (Int32.ofNat j)) (gaq M ++ [Int32.ofNat top])) k 13 = gf M k 13 := fun k e => by
    show gf (gfS M top 13 (Int32.ofNat j)) k 13 = _
    rw [gf_gfS, if_neg (by omega)]
  have w13 : gf (gaqS (gfS M top 13 (Int32.ofNat j)) (gaq M ++ [Int32.ofNat top])) top 13 = Int32.ofNat j := by
    show gf (gfS M top 13 (Int32.ofNat j)) top 13 = _
    rw [gf_gfS, if_pos ⟨rfl, rfl⟩]
  have ov : ∀ k, gOver (gaqS (gfS M top 13 (Int32.ofNat j)) (gaq M ++ [Int32.ofNat top])) k = gOver M k := fun k => over_f (sm k 5 (by omega))
  generalize hM : gaqS (gfS M top 13 (Int32.ofNat j)) (gaq M ++ [Int32.ofNat top]) = M' at sm s13 w13 ov ⊢
  have c' : cN M' = cN M := by rw [← hM]; rfl
  have n' : gnow M' = gnow M := by rw [← hM]; rfl
  have r' : grq M' = grq M := by rw [← hM]; rfl
  have a' : gaq M' = gaq M ++ [Int32.ofNat top] := by rw [← hM]; rfl
  unfold IQ
  rw [c', n', r', a']
  refine ⟨q0, ⟨q1, fun x hx => ?_⟩, ⟨nd_app q3 hv, fun x hx => ?_⟩, fun k hk z => ?_, fun k hk z => ?_, fun k hk f1 f2 f3 f4 f5 => ?_, fun k hk => ?_⟩
  · obtain ⟨p1, k, p2, p3, p4, p5, p6, p7⟩ := q2 x hx
    have hkt : k ≠ top := fun z => p1 (by rw [p2, z])
    exact ⟨by rw [p2]; exact n_neg (by omega), k, p2, p3, by rw [sm k 4 (by omega)]; exact p4, by rw [ov]; exact p5, by rw [sm k 12 (by omega)]; exact p6, by rw [s13 k hkt]; exact p7⟩
  · rcases List.mem_append.mp hx with q | q
    · obtain ⟨k, p2, p3, p4⟩ := q4 x q
      refine ⟨k, p2, p3, ?_⟩
      rw [s13 k (fun z => p4 (by rw [z]; exact t13))]
      exact p4
    · exact ⟨top, List.mem_singleton.mp q, ht, by rw [w13]; exact n_neg (by omega)⟩
  · by_cases y : k = top
    · subst y
      exact ⟨by rw [sm k 4 (by omega)]; exact h4, by rw [ov]; exact ho, n_neg (by omega), by rw [sm k 12 (by omega)]; exact t12, List.mem_append_right _ (List.mem_singleton.mpr rfl), j, w13, hj, by rw [sm j 4 (by omega)]; exact j4, Or.inl (by rw [ov]; exact jo)⟩
    · rw [s13 k y] at z ⊢
      obtain ⟨p1, p2, p3, p4, p5, i, p6, p7, p8, p9⟩ := q5 k hk z
      refine ⟨by rw [sm k 4 (by omega)]; exact p1, by rw [ov]; exact p2, n_neg (by omega), by rw [sm k 12 (by omega)]; exact p4, List.mem_append_left _ p5, i, p6, p7, by rw [sm i 4 (by omega)]; exact p8, Or.inl ?_⟩
      rw [ov]
      rcases p9 with q | q
      · exact q
      · have : i = top := n_inj (by omega) (by omega) q
        subst this; exact ho
  · rw [sm k 12 (by omega)] at z ⊢
    obtain ⟨p1, p2, p3, p4⟩ := q6 k hk z
    exact ⟨by rw [sm k 4 (by omega)]; exact p1, by rw [ov]; exact p2, n_neg (by omega), p4⟩
  · have y : k ≠ top := fun z => by
      subst z
      rw [w13] at f5
      exact n_neg (by omega) f5
    rw [s13 k y] at f5
    rw [sm k 4 (by omega)] at f1
    rw [ov] at f2
    rw [sm k 12 (by omega)] at f4
    exact q7 k hk f1 f2 (fun z => y (n_inj (by omega) (by omega) z)) f4 f5
  · obtain ⟨nj, hnj⟩ := q8 j hj
    have hl := gTm.len hc hj hnj
    have h1 := ring_no (j := j) (g := fun k => gf M' k 13) hc ht s13 nj 24 j hj hne (by omega) hnj hr
    obtain ⟨n, hn⟩ := q8 k hk
    exact ring_all (f := fun k => gf M k 13) (g := fun k => gf M' k 13) hj t13 hc s13 w13 h1 n k hk hn
