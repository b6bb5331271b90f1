def mm0 (n : Nat) : MM := (fun _ => 0, fun _ => 0, fun _ _ => 0, fun _ _ => 0, n + 1)
theorem vkn {s : State} {args : Array Value} (hts : ∀ w ∈ WL, w.before args s = true) : ∃ D : va_G, ∀ (k : Nat) (q : vw_C), vwCl[k]? = some q → u_Kn s q.1 q.2.1 q.2.2 (D.1 k) (D.2 k) := by
  obtain ⟨c0, i0, h0⟩ := u_known (C := RX0) (T := TX0) (N := 3) (n := 3) hts wsX0_in (hts (.instantiable RX0 3) (wl_in2 (by decide +kernel)))
  obtain ⟨c1, i1, h1⟩ := u_known (C := RX1) (T := TX1) (N := 4) (n := 4) hts wsX1_in (hts (.instantiable RX1 4) (wl_in2 (by decide +kernel)))
  obtain ⟨c2, i2, h2⟩ := u_known (C := RX2) (T := TX2) (N := 17) (n := 17) hts wsX2_in (hts (.instantiable RX2 17) (wl_in2 (by decide +kernel)))
  obtain ⟨c3, i3, h3⟩ := u_known (C := RX3) (T := TX3) (N := 13) (n := 13) hts wsX3_in (hts (.instantiable RX3 13) (wl_in2 (by decide +kernel)))
  obtain ⟨c4, i4, h4⟩ := u_known (C := RX4) (T := TX4) (N := 2) (n := 2) hts wsX4_in (hts (.instantiable RX4 2) (wl_in2 (by decide +kernel)))
  obtain ⟨c5, i5, h5⟩ := u_known (C := RX5) (T := TX5) (N := 3) (n := 3) hts wsX5_in (hts (.instantiable RX5 3) (wl_in2 (by decide +kernel)))
  obtain ⟨c6, i6, h6⟩ := u_known (C := RX6) (T := TX6) (N := 3) (n := 3) hts wsX6_in (hts (.instantiable RX6 3) (wl_in2 (by decide +kernel)))
  obtain ⟨c7, i7, h7⟩ := u_known (C := RX7) (T := TX7) (N := 3) (n := 3) hts wsX7_in (hts (.instantiable RX7 3) (wl_in2 (by decide +kernel)))
  refine ⟨(fun k => match k with | 0 => c0 | 1 => c1 | 2 => c2 | 3 => c3 | 4 => c4 | 5 => c5 | 6 => c6 | _ => c7, fun k => match k with | 0 => i0 | 1 => i1 | 2 => i2 | 3 => i3 | 4 => i4 | 5 => i5 | 6 => i6 | _ => i7), ?_⟩
  intro k q hq
  match k, hq with
  | 0, hq => cases hq; exact h0
  | 1, hq => cases hq; exact h1
  | 2, hq => cases hq; exact h2
  | 3, hq => cases hq; exact h3
  | 4, hq => cases hq; exact h4
  | 5, hq => cases hq; exact h5
  | 6, hq => cases hq; exact h6
  | 7, hq => cases hq; exact h7
  | k + 8, hq => simp [vwCl] at hq
theorem vkp {s : State} {args : Array Value} {t : FieldType} (ht : ∀ C, t ≠ .object C) (h : (Cond.arrayClass t).before args s = true) : ∃ c, ArrOfT s c t ∧ va_RA s c t := by
  obtain ⟨c, k, comp, h1, h2, h3⟩ := Cond.arrayClass_spec h
  refine ⟨c, fun n z => ⟨fun k h => (by cases h), k, h2, comp, h3⟩, ?_⟩
  cases t with
  | object C => exact absurd rfl (ht C)
  | _ => exact h1
theorem vko {s : State} {args : Array Value} {C : String} (h : (Cond.arrayOver (.object C)).before args s = true) : ∃ c, ArrOfT s c (.object C) ∧ va_RA s c (.object C) := by
  obtain ⟨comp, c, k, h1, -, h3, h4, h5⟩ := Cond.arrayOver_spec h
  exact ⟨c, fun n z => ⟨fun k h => (by cases h), k, h3, comp, h4⟩, k, comp, h3, h4, h1, h5⟩
theorem vka {s : State} {args : Array Value} {t : FieldType} (h : (Cond.arrayOver (.array t)).before args s = true) : ∃ c, ArrOfT s c (.array t) ∧ va_RA s c (.array t) := by
  obtain ⟨comp, c, k, h1, -, h3, h4, h5⟩ := ao_spec h
  exact ⟨c, fun n z => ⟨fun k h => (by cases h), k, h3, comp, h4⟩, h5⟩
theorem vkt {s : State} {args : Array Value} (hts : ∀ w ∈ WL, w.before args s = true) : ∃ dA : Nat → ClassId, ∀ (k : Nat) (q : ClassId × FieldType), (mmTys dA)[k]? = some q → ArrOfT s q.1 q.2 ∧ va_RA s q.1 q.2 := by
  obtain ⟨a0, h0⟩ := vkp (t := .int) (fun C h => by cases h) (hts _ wAint)
  obtain ⟨a1, h1⟩ := vko (C := "YieldMoor$Body") (hts _ (wl_in2 (by decide +kernel)))
  obtain ⟨a2, h2⟩ := vko (C := "YieldMoor$Coroutine") (hts _ (wl_in2 (by decide +kernel)))
  obtain ⟨a3, h3⟩ := vkp (t := .boolean) (fun C h => by cases h) (hts _ wAbool)
  obtain ⟨a4, h4⟩ := vka (t := .int) (hts _ (wl_in2 (by decide +kernel)))
  obtain ⟨a5, h5⟩ := vka (t := .array .int) (hts _ (wl_in2 (by decide +kernel)))
  refine ⟨fun k => match k with | 20 => a0 | 21 => a1 | 22 => a2 | 23 => a3 | 24 => a4 | _ => a5, ?_⟩
  intro k q hq
  match k, hq with
  | 0, hq => cases hq; exact h0
  | 1, hq => cases hq; exact h1
  | 2, hq => cases hq; exact h2
  | 3, hq => cases hq; exact h3
  | 4, hq => cases hq; exact h4
  | 5, hq => cases hq; exact h5
  | k + 6, hq => simp [mmTys] at hq
theorem whole_start0 {p : Program} {e : Env} {s : State} {m : MethodId} {below : List Frame} {meth : Method} {c : Code} (l : Launch) (hflags : l.flags = flags0) {b L : Nat} {xs : Nat → Int32} (C0 : lw_At p s m meth c b L xs) (hP : PL_0 L xs (mm0 s.heap.size)) : W p l e room_1 s m #[Value.ref b] below meth c s.heap [] 0 0 (lw_Z below #[Value.ref b] s) (entryFrame m ([Value.ref b] : List Value).toArray 9) := by
  obtain ⟨hx, hb, hr, hml, hown, hts, hX, hbl, hlocks, hgv⟩ := id C0
  have hw : ∀ w ∈ WL, w.before #[Value.ref b] s = true := fun w h => hts w (List.mem_filter.mp h).1
  have hflat := flat_of_before _ hgv
  obtain ⟨D, hD⟩ := vkn hw
  obtain ⟨dA, hdA⟩ := vkt hw
  have hA : ∀ q : Nat, s.heap.size ≤ q → (fun q : Nat => s.heap.size ≤ q) q := fun _ h => h
  have hbA : ¬ (fun q : Nat => s.heap.size ≤ q) b := Nat.not_le.mpr hbl
  have hlA : ∀ a : Nat, a < s.heap.size → ¬ (fun q : Nat => s.heap.size ≤ q) a := fun a h => Nat.not_le.mpr h
  have hS : va_S (fun q : Nat => s.heap.size ≤ q) s.heap s.heap [] := va_S.rf
  have hR : mmR (D, dA) (fun q : Nat => s.heap.size ≤ q) (mm0 s.heap.size) s.heap := ⟨⟨rfl, rfl⟩, fun a h => absurd rfl h⟩
  have hl0 : l.stackTraces = false := by
    unfold Launch.stackTraces
    rw [hflags]
    decide +kernel
  have hXU : mmXU (fun q : Nat => s.heap.size ≤ q) s := by
    refine ⟨vx_Zqof (hts _ (by decide +kernel)) (hts _ (by decide +kernel)) (hflat _ (by decide +kernel)) hlA, vx_Zqof (hts _ (by decide +kernel)) (hts _ (by decide +kernel)) (hflat _ (by decide +kernel)) hlA, fun q hq => ?_⟩
    have h1 : (Cond.stringRef RX6 q.1 q.2).before #[Value.ref b] s = true := hts _ ((show ∀ q ∈ mmTxt, Cond.stringRef RX6 q.1 q.2 ∈ lw_tbl by decide +kernel) q hq)
    have h2 : (Cond.exactly (.string RX6 q.1) "java/lang/String").before #[Value.ref b] s = true := hflat _ ((show ∀ q ∈ mmTxt, Cond.exactly (.string RX6 q.1) "java/lang/String" ∈ _ by decide +kernel) q hq)
    obtain ⟨a, _, _, _, h3, -⟩ := Cond.exactly_spec h2
    exact ⟨a, vk_R.of h1 h3⟩
  have hNc : mmNc s := va_Nc.of (hflat _ (by decide +kernel))
  have hl := lv_entry ([.ref b]) (n := 9) (Nat.le_of_ble_eq_true rfl)
  rw [lg_entry_eq]
  refine wPL_0 (G := (D, dA)) (A := fun q : Nat => s.heap.size ≤ q) ⟨⟨hx, hb, hml, hown, hw, hD, hdA⟩, hA, hX, hbl, hbA, hl0, hXU, hNc, ?_⟩ _ hP _ _ _ hR hS hl
  intro H locs ls ce sl hS2 hce hsl
  refine va_forget (fun q hq => hS2.2.2 q hq) ?_
  refine W.widen (k := 654330) (n := 7138635) (by omega) (by omega) ?_
  refine W.base ?_
  exact lw_ret (Drawn.sameBut.refl s.drawn lw_cs) hx hb hr hlocks dL_law_417
