/-! making, SPAWN, FROM, SHIELD keep the invariants -/
/-- what making makes -/
theorem mk_of {M : gM} {b so sp : Int32} (hc : gcnt M = Int32.ofNat (cN M)) (h : cN M < 24) : gAt (gcnt M) = cN M ∧ gcnt (gMake M b so sp) = Int32.ofNat (cN M + 1) ∧ cN (gMake M b so sp) = cN M + 1 ∧ (∀ k, k ≠ cN M → (gMake M b so sp).1 k = M.1 k) ∧ (gMake M b so sp).1 (cN M) = gNewC b so sp ∧ gnow (gMake M b so sp) = gnow M ∧ gtrn (gMake M b so sp) = gtrn M ∧ gaq (gMake M b so sp) = gaq M ∧ grq (gMake M b so sp) = (if so = 1 then gAdd (grq M) (Int32.ofNat (cN M)) else grq M) := by
  have e : gAt (gcnt M) = cN M := by rw [hc]; exact n_at h
  have es : gcnt M + 1 = Int32.ofNat (cN M + 1) := (congrArg (· + 1) hc).trans (g_suc _)
  have en : gNum (gAt (gcnt M)) = Int32.ofNat (cN M) := by rw [e]; exact n_num h
  have hco : ∀ k, k ≠ cN M → (gNewM M (gAt (gcnt M)) b so sp).1 k = M.1 k := fun k hk => by rw [e]; exact co_ne hk
  have hcn : (gNewM M (gAt (gcnt M)) b so sp).1 (cN M) = gNewC b so sp := by rw [e]; exact co_at
  unfold gMake
  by_cases q : so = 1
  · simp only [if_pos q, en]
    refine ⟨e, es, ?_, hco, hcn, rfl, rfl, rfl, rfl⟩
    show (gcnt M + 1).toNatClampNeg = _
    rw [es]; exact g_nat (by omega)
  · simp only [if_neg q]
    refine ⟨e, es, ?_, hco, hcn, rfl, rfl, rfl, rfl⟩
    show (gcnt M + 1).toNatClampNeg = _
    rw [es]; exact g_nat (by omega)
theorem can_of {B : gB} {M : gM} {b : Int32} (hB : IB B) (hc : gcnt M = Int32.ofNat (cN M)) (h24 : cN M ≤ 24) (h : gCanMake B M b = true) : cN M < 24 ∧ 0 ≤ b.toInt ∧ b.toInt < 5 := by
  unfold gCanMake at h
  simp only [Bool.and_eq_true, decide_eq_true_eq] at h
  obtain ⟨⟨a1, a2⟩, a3⟩ := h
  rw [hc] at a3
  rw [hB.1] at a2
  have b1 := Int32.lt_iff_toInt_lt.mp a3
  have b2 := Int32.lt_iff_toInt_lt.mp a2
  have b3 := Int32.le_iff_toInt_le.mp a1
  rw [Int32.toInt_ofNat_of_lt (by omega)] at b1
  have c1 : (24 : Int32).toInt = 24 := rfl
  have c2 : (5 : Int32).toInt = 5 := rfl
  have c3 : (0 : Int32).toInt = 0 := rfl
  omega
theorem okWt.mono {B : gB} {c d : Nat} {x : gCo} (h : c ≤ d) (g : okWt B c x) : okWt B d x := by
  obtain ⟨a, b, e, f, k⟩ := g
  exact ⟨a, b, e, f, fun z => by obtain ⟨j, j1, j2⟩ := k z; exact ⟨j, j1, by omega⟩⟩
theorem okR.mono {B : gB} {c d : Nat} {x : gCo} (h : c ≤ d) (g : okR B c x) : okR B d x := ⟨g.1, g.2.1, g.2.2.1, fun z => (g.2.2.2.1 z).mono h, g.2.2.2.2⟩
theorem okR.new {B : gB} {c : Nat} {b so sp : Int32} : okR B c (gNewC b so sp) := by
  have z5 : (gNewC b so sp).1 5 = 0 := rfl
  refine ⟨⟨okT.z, fun _ _ => okT.z, okK.nil, fun _ => rfl, fun z => ?_⟩, fun _ => ⟨rfl, rfl⟩, Or.inl rfl, fun z => ?_, fun _ => rfl⟩
  · rw [z5] at z; exact absurd z (by decide)
  · rw [z5] at z; exact absurd z (by decide)
theorem okC.new {k : Nat} {b so sp : Int32} (hb : 0 ≤ b.toInt ∧ b.toInt < 5) (hs : so = 0 ∨ so = 1 ∨ so = 2) (hp : sp.toInt < k) : okC k (gNewC b so sp) := ⟨hb, hs, hp, (show (0 : Int) ≤ (0 : Int32).toInt by decide), Or.inl rfl⟩
/-- one more, of which the tasks' invariants know nothing yet, or a task that is ready -/
theorem IQ.new {M M' : gM} {t : Int32} (h : IQ M t) (h24 : cN M < 24) (hc : cN M' = cN M + 1) (hn : gnow M' = gnow M) (ha : gaq M' = gaq M) (hf : ∀ k, k < cN M → gf M' k 4 = gf M k 4 ∧ gf M' k 12 = gf M k 12 ∧ gf M' k 13 = gf M k 13 ∧ gOver M' k = gOver M k) (n12 : gf M' (cN M) 12 = -1) (n13 : gf M' (cN M) 13 = -1) (ht : t ≠ Int32.ofNat (cN M))
    (hr : (gf M' (cN M) 4 ≠ 1 ∧ grq M' = grq M) ∨ (gf M' (cN M) 4 = 1 ∧ gOver M' (cN M) = false ∧ grq M' = gAdd (grq M) (Int32.ofNat (cN M)))) : IQ M' t := by
  obtain ⟨q0, ⟨q1, q2⟩, ⟨q3, q4⟩, q5, q6, q7, q8⟩ := h
  have old : ∀ x ∈ grq M, x ≠ t ∧ ∃ k, x = Int32.ofNat k ∧ k < cN M + 1 ∧ gf M' k 4 = 1 ∧ gOver M' k = false ∧ gf M' k 12 = -1 ∧ gf M' k 13 = -1 := fun x hx => by
    obtain ⟨p1, k, p2, p3, p4, p5, p6, p7⟩ := q2 x hx
    obtain ⟨a, b, c, d⟩ := hf k p3
    exact ⟨p1, k, p2, by omega, a.trans p4, d.trans p5, b.trans p6, c.trans p7⟩
  have hv : Int32.ofNat (cN M) ∉ grq M := fun z => by
    obtain ⟨-, k, p2, p3, -⟩ := q2 _ z
    have := n_inj (by omega) (by omega) p2
    omega
  have ea : gAdd (grq M) (Int32.ofNat (cN M)) = grq M ++ [Int32.ofNat (cN M)] := gAdd_app (n := cN M + 1) (by omega) q1 hv (fun x hx => by obtain ⟨-, k, e, hk, -⟩ := q2 x hx; exact ⟨k, e, by omega⟩) ⟨_, rfl, by omega⟩
  have cases_k : ∀ k, k < cN M' → k < cN M ∨ k = cN M := fun k hk => by omega
  unfold IQ
  rw [hn, ha]
  refine ⟨q0, ?_, ⟨q3, fun y hy => ?_⟩, fun k hk e => ?_, fun k hk e => ?_, fun k hk f1 f2 f3 f4 f5 => ?_, fun k hk => ?_⟩
  · rw [hc]
    rcases hr with ⟨r1, r2⟩ | ⟨r1, r2, r3⟩
    · rw [r2]; exact ⟨q1, old⟩
    · rw [r3, ea]
      refine ⟨nd_app q1 hv, fun x hx => ?_⟩
      rcases List.mem_append.mp hx with q | q
      · exact old x q
      · rw [List.mem_singleton.mp q]
        exact ⟨fun z => ht z.symm, _, rfl, by omega, r1, r2, n12, n13⟩
  · obtain ⟨k, p2, p3, p4⟩ := q4 y hy
    exact ⟨k, p2, by omega, by rw [(hf k p3).2.2.1]; exact p4⟩
  · rcases cases_k k hk with hk | hk
    · obtain ⟨a, b, c, d⟩ := hf k hk
      rw [c] at e
      obtain ⟨p1, p2, p3, p4, p5, j, p6, p7, p8, p9⟩ := q5 k hk e
      obtain ⟨a', b', c', d'⟩ := hf j p7
      exact ⟨a.trans p1, d.trans p2, p3, b.trans p4, p5, j, c.trans p6, by omega, a'.trans p8, by rw [d']; exact p9⟩
    · rw [hk] at e; exact absurd n13 e
  · rcases cases_k k hk with hk | hk
    · obtain ⟨a, b, c, d⟩ := hf k hk
      rw [b] at e
      obtain ⟨p1, p2, p3, p4⟩ := q6 k hk e
      exact ⟨a.trans p1, d.trans p2, p3, by rw [b]; exact p4⟩
    · rw [hk] at e; exact absurd n12 e
  · rcases cases_k k hk with hk | hk
    · obtain ⟨a, b, c, d⟩ := hf k hk
      have := q7 k hk (a.symm.trans f1) (d.symm.trans f2) f3 (b.symm.trans f4) (c.symm.trans f5)
      rcases hr with ⟨r1, r2⟩ | ⟨r1, r2, r3⟩
      · rw [r2]; exact this
      · rw [r3, ea]; exact List.mem_append_left _ this
    · rw [hk] at f1 ⊢
      rcases hr with ⟨r1, r2⟩ | ⟨r1, r2, r3⟩
      · exact absurd f1 r1
      · rw [r3, ea]; exact List.mem_append_right _ (List.mem_singleton.mpr rfl)
  · rcases cases_k k hk with hk | hk
    · obtain ⟨m, hm⟩ := q8 k hk
      exact ⟨m, gTm.fr (by omega) (fun k hk => (hf k hk).2.2.1) m k hk hm⟩
    · rw [hk]; exact ⟨0, n13⟩
theorem wt_co {M M' : gM} {k : Nat} (hc : k < cN M' ↔ k < cN M) (h : M'.1 k = M.1 k) : wt M' k = wt M k := by
  have h1 : gk M' k = gk M k := by unfold gk; rw [h]
  have h2 : gOver M' k = gOver M k := over_f (by unfold gf; rw [h])
  unfold wt
  rw [h1, h2]
  by_cases q : k < cN M
  · rw [if_pos q, if_pos (hc.mpr q)]
  · rw [if_neg q, if_neg (fun z => q (hc.mp z))]
theorem sW_eq {M M' : gM} (h : ∀ k, wt M' k = wt M k) (n : Nat) : sW M' n = sW M n := by
  induction n with
  | zero => rfl
  | succ n ih => show sW M' n + wt M' n = sW M n + wt M n; rw [ih, h]
theorem spawn_ok {B : gB} {T : gT} {top : Nat} (hB : IB B) (h : IVC B T top) (hw : T.2.2.2.2 = false) (h2 : gf T.1 T.2.1 5 = 2) (a : Int32) : Lok B T top (gSpawn B T T.2.1 a) := by
  unfold gSpawn
  by_cases q : T.2.2.1.1 = -1
  · rw [if_pos q]
    exact Lok.same h hw h2 (Or.inr ⟨by decide, by decide⟩)
  rw [if_neg q]
  by_cases y : gCanMake B T.1 a = true
  · rw [if_pos y]
    obtain ⟨e1, e4⟩ := h.2.2.2.2.1.of q
    obtain ⟨⟨h01, h02, h03⟩, hc, ⟨n, hp⟩, hq, ht, hl⟩ := id h
    obtain ⟨c1, c2, c3⟩ := can_of hB h01 h02 y
    obtain ⟨m1, m2, m3, m4, m5, m6, m7, m8, m9⟩ := mk_of (M := T.1) (b := a) (so := 1) (sp := T.2.2.1.1) h01 c1
    have hr := hc.1
    have fo : ∀ k j, k < cN T.1 → gf (gMake T.1 a 1 T.2.2.1.1) k j = gf T.1 k j := fun k j hk => by unfold gf; rw [m4 k (by omega)]
    have tle : T.2.2.1.1.toInt < (cN T.1 : Int) := by rw [e1, Int32.toInt_ofNat_of_lt (by have := ht.1; omega)]; have := ht.1; omega
    have hI : IVC B (gMake T.1 a 1 T.2.2.1.1, T.2) top := by
      refine ⟨⟨by rw [m2, m3], by show cN (gMake T.1 a 1 T.2.2.1.1) ≤ 24; omega, fun k hk => ?_⟩, ⟨by show T.2.1 < cN (gMake T.1 a 1 T.2.2.1.1); omega, by show gf (gMake T.1 a 1 T.2.2.1.1) _ 5 = 2 ∨ _; rw [fo _ _ hr]; exact Or.inl h2, fun k hk hkr => ?_⟩, ⟨n, gP.fr n top T.2.1 (fun k _ z => fo k 9 (by omega)) hp⟩, ?_, ⟨by show top < cN (gMake T.1 a 1 T.2.2.1.1); have := ht.1; omega, by show (gf (gMake T.1 a 1 T.2.2.1.1) top 4 = 1 ∧ _) ∨ _; rw [fo _ _ ht.1]; exact Or.inl ⟨e4, e1⟩⟩, hl⟩
      · rw [m3] at hk
        show okR B (cN (gMake T.1 a 1 T.2.2.1.1)) _ ∧ _
        rw [m3]
        by_cases z : k = cN T.1
        · rw [z]
          refine ⟨by rw [m5]; exact okR.new, by rw [m5]; exact okC.new ⟨c2, c3⟩ (Or.inr (Or.inl rfl)) tle, fun w => ?_⟩
          have : gf (gMake T.1 a 1 T.2.2.1.1) (cN T.1) 9 = -1 := by unfold gf; rw [m5]; rfl
          exact absurd this w
        · have hk' : k < cN T.1 := by omega
          obtain ⟨a1, a2, a3⟩ := h03 k hk'
          rw [m4 k z]
          refine ⟨a1.mono (by omega), a2, fun w => ?_⟩
          rw [fo k 9 hk'] at w ⊢
          obtain ⟨j, d1, d2, d3, d4, d5, d6⟩ := a3 w
          refine ⟨j, d1, d2, by rw [m3]; omega, by rw [fo j 4 d3]; exact d4, by rw [fo j 10 d3]; exact d5, ?_⟩
          rw [fo j 3 d3, d6]
          unfold gAtLn
          rw [fo k 3 hk', fo k 6 hk']
      · rw [m3] at hk
        show gf (gMake T.1 a 1 T.2.2.1.1) k 5 ≠ 2 ∧ _
        by_cases z : k = cN T.1
        · rw [z]
          have z5 : gf (gMake T.1 a 1 T.2.2.1.1) (cN T.1) 5 = 0 := by unfold gf; rw [m5]; rfl
          have z9 : gf (gMake T.1 a 1 T.2.2.1.1) (cN T.1) 9 = -1 := by unfold gf; rw [m5]; rfl
          refine ⟨by rw [z5]; decide, fun j hj w => ?_⟩
          rw [z9] at w
          have hj : j < cN (gMake T.1 a 1 T.2.2.1.1) := hj
          exact absurd w.symm (n_neg (by omega))
        · have hk' : k < cN T.1 := by omega
          obtain ⟨a1, a2⟩ := hc.2.2 k hk' hkr
          refine ⟨by rw [fo k 5 hk']; exact a1, fun j hj w => ?_⟩
          rw [fo k 9 hk'] at w
          have k9 : gf T.1 k 9 ≠ -1 := by rw [w]; have hj : j < cN (gMake T.1 a 1 T.2.2.1.1) := hj; exact n_neg (by omega)
          obtain ⟨i, d1, d2, d3, -⟩ := (h03 k hk').2.2 k9
          have hji : j = i := n_inj (by have hj : j < cN (gMake T.1 a 1 T.2.2.1.1) := hj; omega) (by omega) (w.symm.trans d1)
          subst hji
          rw [fo j 5 d3]
          exact a2 j d3 w
      · refine hq.new c1 m3 m6 m8 (fun k hk => ⟨fo k 4 hk, fo k 12 hk, fo k 13 hk, over_f (fo k 5 hk)⟩) ?_ ?_ ?_ (Or.inr ⟨?_, ?_, ?_⟩)
        · unfold gf; rw [m5]; rfl
        · unfold gf; rw [m5]; rfl
        · rw [e1]; exact fun w => by have := n_inj (by have := ht.1; omega) (by omega) w; have := ht.1; omega
        · unfold gf; rw [m5]; rfl
        · unfold gOver gf; rw [m5]; rfl
        · rw [m9, if_pos rfl]
    have hX := (h03 _ hr).1.1
    have eM : gSpawnM T.1 T.2.1 a T.2.2.1.1 = gCoS (gMake T.1 a 1 T.2.2.1.1) T.2.1 (cF (cF ((gMake T.1 a 1 T.2.2.1.1).1 T.2.1) 7 (Int32.ofNat (cN T.1))) 6 (gf (gMake T.1 a 1 T.2.2.1.1) T.2.1 6 + 1)) := by
      unfold gSpawnM
      rw [m1, n_num c1, co_FF]
    have er : (gMake T.1 a 1 T.2.2.1.1).1 T.2.1 = T.1.1 T.2.1 := m4 _ (by omega)
    have okn : okT (Int32.ofNat (cN T.1)) := by unfold okT; rw [Int32.toInt_ofNat_of_lt (by omega)]; omega
    have r2 : ((gMake T.1 a 1 T.2.2.1.1).1 T.2.1).1 5 = 2 := by rw [er]; exact h2
    refine ⟨?_, ?_, rfl, rfl, Or.inr ⟨hw, ?_, ?_, Or.inl rfl⟩⟩
    · show gKp T.1 (gSpawnM T.1 T.2.1 a T.2.2.1.1) _ _
      rw [eM]
      refine gKp.co ⟨by omega, m6, m7, fun k hk => ⟨fo k 3 hk, fo k 4 hk, fo k 16 hk, fun _ => ⟨fo k 5 hk, fo k 7 hk⟩⟩, fun _ k hk _ => m4 k (by omega)⟩ rfl rfl rfl
    · show sW (gSpawnM T.1 T.2.1 a T.2.2.1.1) 24 ≤ _
      unfold gSpawnM
      rw [sW_F (by omega), sW_F (by omega), sW_eq (M := T.1) (fun k => ?_)]
      · omega
      · by_cases z : k = cN T.1
        · rw [z]
          unfold wt
          rw [if_pos (by omega), show gk (gMake T.1 a 1 T.2.2.1.1) (cN T.1) = [] by unfold gk; rw [m5]; rfl, show gOver (gMake T.1 a 1 T.2.2.1.1) (cN T.1) = false by unfold gOver gf; rw [m5]; rfl, if_neg (show ¬ false = true by decide), if_neg (Nat.lt_irrefl _)]
          rfl
        · exact wt_co (by omega) (m4 k z)
    · exact hI.upd (T' := (gSpawnM T.1 T.2.1 a T.2.2.1.1, T.2)) ((sameC.F (Or.inr (Or.inl rfl))).tr (sameC.F (Or.inr (Or.inr (Or.inl rfl))))) (((by rw [er]; exact hX : okX ((gMake T.1 a 1 T.2.2.1.1).1 T.2.1)).F7 _ r2 okn).F6 _) (Or.inl r2) eM rfl rfl hl
    · show gf (gSpawnM T.1 T.2.1 a T.2.2.1.1) T.2.1 5 = 2
      rw [eM, gf_co, if_pos rfl]
      exact r2
  · rw [if_neg y]
    exact Lok.same h hw h2 (Or.inr ⟨by decide, by decide⟩)
