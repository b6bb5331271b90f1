/-! CANCEL -/
theorem r_erase9 {c : Nat} {μ : MM} {M : gM} (h : tM c μ M) (x : Int32) : ∃ ν, fX4_removeAt (c + 9) (if x ∈ gaq M then Int32.ofNat ((gaq M).idxOf x) else -1) μ = some ν ∧ tM c ν (gaqS M ((gaq M).erase x)) ∧ tF c μ ν ∧ tT c μ ν := by
  obtain ⟨ν, e, a, b⟩ := f_erase h.1.2.2.2.2 h.2.2.2.1 x
  exact ⟨ν, e, h.step (b.F (by omega) (by omega)) (h.2.setQ9 a fun y j hy => b.2.2.2.2 y j (by omega)), b.F (by omega) (by omega), b.T (by omega)⟩
theorem r_ask {c : Nat} {μ : MM} {M : gM} (h : tM c μ M) (n : Int32) : ∃ ν, fX3_askToCancel c n μ = some ((gAsk M n).1, ν) ∧ tM c ν (gAsk M n).2 ∧ tF c μ ν ∧ tT c μ ν := by
  have hk := gAt_le n
  have l0 := (h.lay hk).1
  have e15 : mI μ (tCo c (gAt n)) 15 = gf M (gAt n) 15 := h.rd hk (by omega) (by omega) (by omega)
  unfold fX3_askToCancel gAsk
  rw [r_at h.1]
  simp only [Option.bind_some]
  rw [if_pos l0, f_over h hk]
  simp only [Option.bind_some]
  cases q : gOver M (gAt n) with
  | true =>
    rw [if_neg b1]
    simp only [if_true]
    exact ⟨μ, rfl, h, tF.rf, tT.rf⟩
  | false =>
    rw [if_pos b0]
    simp only [Bool.false_eq_true, if_false]
    obtain ⟨u1, u2, u3⟩ := r_F h hk 15 1 (by omega) (by omega) (by omega)
    have g14 : gf (gfS M (gAt n) 15 1) (gAt n) 14 = gf M (gAt n) 14 := by rw [gf_gfS, if_neg (by omega)]
    have g12 : gf (gfS M (gAt n) 15 1) (gAt n) 12 = gf M (gAt n) 12 := by rw [gf_gfS, if_neg (by omega)]
    have g13 : gf (gfS M (gAt n) 15 1) (gAt n) 13 = gf M (gAt n) 13 := by rw [gf_gfS, if_neg (by omega)]
    have e14 : mI (sI μ (tCo c (gAt n)) 15 1) (tCo c (gAt n)) 14 = gf M (gAt n) 14 := (u1.rd hk (by omega) (by omega) (by omega)).trans g14
    have e12 : mI (sI μ (tCo c (gAt n)) 15 1) (tCo c (gAt n)) 12 = gf M (gAt n) 12 := (u1.rd hk (by omega) (by omega) (by omega)).trans g12
    have e13 : mI (sI μ (tCo c (gAt n)) 15 1) (tCo c (gAt n)) 13 = gf M (gAt n) 13 := (u1.rd hk (by omega) (by omega) (by omega)).trans g13
    have tail : ∀ w : Int32, (w = 0 ∨ w = 1) → ∃ ν, bX3_askToCancel_56 c n (tCo c (gAt n)) w (sI μ (tCo c (gAt n)) 15 1) = some (w, ν) ∧ tM c ν (grqS (gfS (gfS (gaqS (gfS M (gAt n) 15 1) ((gaq M).erase n)) (gAt n) 12 (-1)) (gAt n) 13 (-1)) (gAdd (grq M) n)) ∧ tF c μ ν ∧ tT c μ ν := fun w hw => by
      unfold bX3_askToCancel_56
      obtain ⟨ν1, f1, t1, F1, T1⟩ := r_erase9 u1 n
      obtain ⟨t2, F2, T2⟩ := r_F t1 hk 12 (-1) (by omega) (by omega) (by omega)
      obtain ⟨t3, F3, T3⟩ := r_F t2 hk 13 (-1) (by omega) (by omega) (by omega)
      obtain ⟨ν4, f4, t4, F4, T4⟩ := r_add7 t3 n
      rw [if_pos u1.1.1.1, show mP (sI μ (tCo c (gAt n)) 15 1) c 4 = c + 9 from u1.1.1.2.2.2.2.1, if_pos u1.1.2.2.2.2.1, f_place u1.1.2.2.2.2 u1.2.2.2.1]
      simp only [Option.bind_some]
      rw [f1]
      simp only [Option.bind_some]
      rw [if_pos (u1.lay hk).1]
      refine ⟨ν4, ?_, t4, (((u2.tr F1).tr F2).tr F3).tr F4, (((u3.tr T1).tr T2).tr T3).tr T4⟩
      dsimp only [st]
      rw [show mP (sI (sI ν1 (tCo c (gAt n)) 12 (-1)) (tCo c (gAt n)) 13 (-1)) c 3 = c + 7 from t3.1.1.2.2.2.1, if_pos u1.1.2.2.2.1.1, f4]
      simp only [Option.bind_some]
      rw [if_pos hw]
    rw [e15]
    by_cases y : gf M (gAt n) 15 = 0
    · rw [if_pos y]
      dsimp only [st]
      rw [if_pos y, e14, e12, e13]
      by_cases a : gf M (gAt n) 14 = 0
      · rw [if_pos a]
        by_cases b : gf M (gAt n) 12 = -1
        · rw [if_pos b]
          by_cases d : gf M (gAt n) 13 = -1
          · rw [if_pos d, if_neg (fun z : gf M (gAt n) 14 = 0 ∧ (gf M (gAt n) 12 ≠ -1 ∨ gf M (gAt n) 13 ≠ -1) => z.2.elim (fun w => w b) (fun w => w d))]
            exact ⟨_, rfl, u1, u2, u3⟩
          · rw [if_neg d, if_pos ⟨a, Or.inr d⟩]
            exact tail 1 (Or.inr rfl)
        · rw [if_neg b, if_pos ⟨a, Or.inl b⟩]
          exact tail 1 (Or.inr rfl)
      · rw [if_neg a, if_neg (fun z => a z.1)]
        exact ⟨_, rfl, u1, u2, u3⟩
    · rw [if_neg y]
      dsimp only [st]
      rw [if_neg y, e14, e12, e13]
      by_cases a : gf M (gAt n) 14 = 0
      · rw [if_pos a]
        by_cases b : gf M (gAt n) 12 = -1
        · rw [if_pos b]
          by_cases d : gf M (gAt n) 13 = -1
          · rw [if_pos d, if_neg (fun z : gf M (gAt n) 14 = 0 ∧ (gf M (gAt n) 12 ≠ -1 ∨ gf M (gAt n) 13 ≠ -1) => z.2.elim (fun w => w b) (fun w => w d))]
            exact ⟨_, rfl, u1, u2, u3⟩
          · rw [if_neg d, if_pos ⟨a, Or.inr d⟩]
            exact tail 0 (Or.inl rfl)
        · rw [if_neg b, if_pos ⟨a, Or.inl b⟩]
          exact tail 0 (Or.inl rfl)
      · rw [if_neg a, if_neg (fun z => a z.1)]
        exact ⟨_, rfl, u1, u2, u3⟩
theorem gTm.cut {f g : Nat → Int32} {c p : Nat} (hp : g p = -1) (h : ∀ k, k ≠ p → k < c → g k = f k) : ∀ (n k : Nat), k < c → gTm f c n k → ∃ m, gTm g c m k := by
  intro n
  induction n with
  | zero =>
    intro k hk e
    by_cases z : k = p
    · rw [z]; exact ⟨0, hp⟩
    · exact ⟨0, (h k z hk).trans e⟩
  | succ n ih =>
    intro k hk e
    by_cases z : k = p
    · rw [z]; exact ⟨0, hp⟩
    · obtain ⟨j, e, hj, r⟩ := e
      obtain ⟨m, hm⟩ := ih j hj r
      exact ⟨m + 1, j, (h k z hk).trans e, hj, hm⟩
/-- one that sleeps or awaits becomes ready -/
theorem IQ.free {M M' : gM} {t : Int32} {p : Nat} {l : List Int32} (h : IQ M t) (h24 : cN M ≤ 24) (hp : p < cN M) (hw : gf M p 12 ≠ -1 ∨ gf M p 13 ≠ -1) (hl : l.Nodup) (hl2 : ∀ x, x ∈ l ↔ x ≠ Int32.ofNat p ∧ x ∈ gaq M) (hc : cN M' = cN M) (hn : gnow M' = gnow M) (hr : grq M' = gAdd (grq M) (Int32.ofNat p)) (ha : gaq M' = l) (hf : ∀ k, k < cN M → gf M' k 4 = gf M k 4 ∧ gOver M' k = gOver M k ∧ (k ≠ p → gf M' k 12 = gf M k 12 ∧ gf M' k 13 = gf M k 13)) (n12 : gf M' p 12 = -1) (n13 : gf M' p 13 = -1) : IQ M' t := by
  obtain ⟨q0, ⟨q1, q2⟩, ⟨q3, q4⟩, q5, q6, q7, q8⟩ := h
  have pf : gf M p 4 = 1 ∧ gOver M p = false ∧ Int32.ofNat p ≠ t := by
    rcases hw with w | w
    · obtain ⟨a, b, c, -⟩ := q6 p hp w
      exact ⟨a, b, c⟩
    · obtain ⟨a, b, c, -⟩ := q5 p hp w
      exact ⟨a, b, c⟩
  have hv : Int32.ofNat p ∉ grq M := fun z => by
    obtain ⟨-, k, p2, p3, p4, p5, p6, p7⟩ := q2 _ z
    have : p = k := n_inj (by omega) (by omega) p2
    subst this
    rcases hw with w | w
    · exact w p6
    · exact w p7
  have ea : gAdd (grq M) (Int32.ofNat p) = grq M ++ [Int32.ofNat p] := gAdd_app h24 q1 hv (fun x hx => by obtain ⟨-, k, e, hk, -⟩ := q2 x hx; exact ⟨k, e, hk⟩) ⟨p, rfl, hp⟩
  unfold IQ
  rw [hn, hr, ha, hc, ea]
  refine ⟨q0, ⟨nd_app q1 hv, fun x hx => ?_⟩, ⟨hl, fun x hx => ?_⟩, fun k hk z => ?_, fun k hk z => ?_, fun k hk f1 f2 f3 f4 f5 => ?_, fun k hk => ?_⟩
  · rcases List.mem_append.mp hx with q | q
    · obtain ⟨p1, k, p2, p3, p4, p5, p6, p7⟩ := q2 x q
      obtain ⟨a, b, d⟩ := hf k p3
      have hkp : k ≠ p := fun z => hv (by rw [← z, ← p2]; exact q)
      exact ⟨p1, k, p2, p3, a.trans p4, b.trans p5, (d hkp).1.trans p6, (d hkp).2.trans p7⟩
    · rw [List.mem_singleton.mp q]
      obtain ⟨a, b, -⟩ := hf p hp
      exact ⟨pf.2.2, p, rfl, hp, a.trans pf.1, b.trans pf.2.1, n12, n13⟩
  · obtain ⟨x1, x2⟩ := (hl2 x).mp hx
    obtain ⟨k, p2, p3, p4⟩ := q4 x x2
    have hkp : k ≠ p := fun z => x1 (by rw [p2, z])
    exact ⟨k, p2, p3, by rw [((hf k p3).2.2 hkp).2]; exact p4⟩
  · have hkp : k ≠ p := fun y => by rw [y, n13] at z; exact z rfl
    obtain ⟨a, b, d⟩ := hf k hk
    obtain ⟨d1, d2⟩ := d hkp
    rw [d2] at z ⊢
    obtain ⟨p1, p2, p3, p4, p5, j, p6, p7, p8, p9⟩ := q5 k hk z
    obtain ⟨a', b', -⟩ := hf j p7
    exact ⟨a.trans p1, b.trans p2, p3, d1.trans p4, (hl2 _).mpr ⟨fun y => hkp (n_inj (by omega) (by omega) y), p5⟩, j, p6, p7, a'.trans p8, by rw [b']; exact p9⟩
  · have hkp : k ≠ p := fun y => by rw [y, n12] at z; exact z rfl
    obtain ⟨a, b, d⟩ := hf k hk
    obtain ⟨d1, d2⟩ := d hkp
    rw [d1] at z ⊢
    obtain ⟨p1, p2, p3, p4⟩ := q6 k hk z
    exact ⟨a.trans p1, b.trans p2, p3, p4⟩
  · obtain ⟨a, b, d⟩ := hf k hk
    by_cases hkp : k = p
    · rw [hkp]; exact List.mem_append_right _ (List.mem_singleton.mpr rfl)
    · obtain ⟨d1, d2⟩ := d hkp
      exact List.mem_append_left _ (q7 k hk (a.symm.trans f1) (b.symm.trans f2) f3 (d1.symm.trans f4) (d2.symm.trans f5))
  · obtain ⟨n, hn⟩ := q8 k hk
    exact gTm.cut (f := fun k => gf M k 13) (g := fun k => gf M' k 13) n13 (fun j z hj => ((hf j hj).2.2 z).2) n k hk hn
theorem sameQ.rest {M M' : gM} (h : sameQ M M') (g : IRest M) : IRest M' := fun k hk => by
  have hc := h.cn
  have hk : k < cN M := by rw [← hc]; exact hk
  obtain ⟨a, b⟩ := g k hk
  have f := (h.2 k hk).1
  refine ⟨by rw [f 5 (by omega) (by omega) (by omega)]; exact a, fun j hj e => ?_⟩
  have hj : j < cN M := by rw [← hc]; exact hj
  rw [f 9 (by omega) (by omega) (by omega)] at e
  rw [(h.2 j hj).1 5 (by omega) (by omega) (by omega)]
  exact b j hj e
theorem sameQ.kq {M M' : gM} {t : Int32} (h : sameQ M M') (hn : gnow M' = gnow M) (ht : gtrn M' = gtrn M) : gKq M M' t 0 := by
  have hc := h.cn
  refine ⟨by omega, hn, ht, fun k hk => ?_, fun _ k _ z => absurd z (Nat.not_lt_zero _)⟩
  have f := (h.2 k hk).1
  exact ⟨f 3 (by omega) (by omega) (by omega), f 4 (by omega) (by omega) (by omega), f 16 (by omega) (by omega) (by omega), fun _ => ⟨f 5 (by omega) (by omega) (by omega), f 7 (by omega) (by omega) (by omega)⟩⟩
theorem ask_ok {B : gB} {M : gM} {p : Nat} (h : IVR B M) (hp : p < cN M) : IVR B (gAsk M (Int32.ofNat p)).2 ∧ gKq M (gAsk M (Int32.ofNat p)).2 (-1) 0 ∧ sameQ M (gAsk M (Int32.ofNat p)).2 ∧ (gOver M p = true → (gAsk M (Int32.ofNat p)).1 = 0) ∧ (gOver M p = false → (gAsk M (Int32.ofNat p)).1 = (if gf M p 15 = 0 then 1 else 0) ∧ gf (gAsk M (Int32.ofNat p)).2 p 15 = 1) := by
  have h24 := h.1.2.1
  have e : gAt (Int32.ofNat p) = p := n_at (by omega)
  unfold gAsk
  dsimp only
  rw [e]
  by_cases q : gOver M p = true
  · rw [if_pos q]
    exact ⟨h, gKq.rf, sameQ.rf, fun _ => rfl, fun z => by rw [q] at z; cases z⟩
  · rw [if_neg q]
    have s1 : sameQ M (gfS M p 15 1) := sameQ.rf.F (Or.inr (Or.inr ⟨rfl, Or.inr rfl⟩))
    by_cases y : gf M p 14 = 0 ∧ (gf M p 12 ≠ -1 ∨ gf M p 13 ≠ -1)
    · rw [if_pos y]
      have s2 : sameQ M (gfS (gfS (gaqS (gfS M p 15 1) ((gaq M).erase (Int32.ofNat p))) p 12 (-1)) p 13 (-1)) := ((s1.q).F (Or.inl rfl)).F (Or.inr (Or.inl rfl))
      have s3 : sameQ M (grqS (gfS (gfS (gaqS (gfS M p 15 1) ((gaq M).erase (Int32.ofNat p))) p 12 (-1)) p 13 (-1)) (gAdd (grq M) (Int32.ofNat p))) := s2.q
      have fr : ∀ k j, gf (grqS (gfS (gfS (gaqS (gfS M p 15 1) ((gaq M).erase (Int32.ofNat p))) p 12 (-1)) p 13 (-1)) (gAdd (grq M) (Int32.ofNat p))) k j = (if k = p ∧ j = 13 then -1 else if k = p ∧ j = 12 then -1 else if k = p ∧ j = 15 then 1 else gf M k j) := fun k j => by
        show gf (gfS (gfS (gaqS (gfS M p 15 1) ((gaq M).erase (Int32.ofNat p))) p 12 (-1)) p 13 (-1)) k j = _
        rw [gf_gfS, gf_gfS]
        show (if k = p ∧ j = 13 then -1 else if k = p ∧ j = 12 then -1 else gf (gfS M p 15 1) k j) = _
        rw [gf_gfS]
      have hq := h.2.2
      refine ⟨⟨s3.IV0 h.1, s3.rest h.2.1, ?_⟩, s3.kq rfl rfl, s3, fun z => absurd z q, fun _ => ⟨rfl, ?_⟩⟩
      · refine hq.free (p := p) (l := (gaq M).erase (Int32.ofNat p)) h24 hp y.2 (hq.2.2.1.1.erase _) (fun x => hq.2.2.1.1.mem_erase_iff) rfl rfl rfl rfl (fun k hk => ⟨?_, ?_, fun z => ⟨?_, ?_⟩⟩) ?_ ?_
        · exact (fr k 4).trans (by rw [if_neg (by omega), if_neg (by omega), if_neg (by omega)])
        · exact over_f ((fr k 5).trans (by rw [if_neg (by omega), if_neg (by omega), if_neg (by omega)]))
        · exact (fr k 12).trans (by rw [if_neg (by omega), if_neg (by omega), if_neg (by omega)])
        · exact (fr k 13).trans (by rw [if_neg (by omega), if_neg (by omega), if_neg (by omega)])
        · exact (fr p 12).trans (by rw [if_neg (by omega), if_pos ⟨rfl, rfl⟩])
        · exact (fr p 13).trans (by rw [if_pos ⟨rfl, rfl⟩])
      · exact (fr p 15).trans (by rw [if_neg (by omega), if_neg (by omega), if_pos ⟨rfl, rfl⟩])
    · rw [if_neg y]
      refine ⟨⟨s1.IV0 h.1, s1.rest h.2.1, h.2.2.fr rfl rfl rfl rfl fun k _ => ⟨?_, ?_, ?_, over_f ?_⟩⟩, s1.kq rfl rfl, s1, fun z => absurd z q, fun _ => ⟨rfl, ?_⟩⟩
      all_goals first | exact (gf_gfS).trans (if_neg (by omega)) | exact (gf_gfS).trans (if_pos ⟨rfl, rfl⟩)
