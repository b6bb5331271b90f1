/-! what is not made has no say: machines alike in all that was made do alike -/
def gEq (M M' : gM) : Prop := M'.2 = M.2 ∧ ∀ k, k < cN M → M'.1 k = M.1 k
theorem gEq.rf {M : gM} : gEq M M := ⟨rfl, fun _ _ => rfl⟩
theorem gEq.cn {M M' : gM} (h : gEq M M') : cN M' = cN M := by unfold cN gcnt; rw [h.1]
theorem gEq.cnt {M M' : gM} (h : gEq M M') : gcnt M' = gcnt M := by unfold gcnt; rw [h.1]
theorem gEq.now {M M' : gM} (h : gEq M M') : gnow M' = gnow M := by unfold gnow; rw [h.1]
theorem gEq.trn {M M' : gM} (h : gEq M M') : gtrn M' = gtrn M := by unfold gtrn; rw [h.1]
theorem gEq.rq {M M' : gM} (h : gEq M M') : grq M' = grq M := by unfold grq; rw [h.1]
theorem gEq.aq {M M' : gM} (h : gEq M M') : gaq M' = gaq M := by unfold gaq; rw [h.1]
theorem gEq.f {M M' : gM} (h : gEq M M') {k : Nat} (hk : k < cN M) (j : Nat) : gf M' k j = gf M k j := by unfold gf; rw [h.2 k hk]
theorem gEq.k {M M' : gM} (h : gEq M M') {k : Nat} (hk : k < cN M) : gk M' k = gk M k := by unfold gk; rw [h.2 k hk]
theorem gEq.over {M M' : gM} (h : gEq M M') {k : Nat} (hk : k < cN M) : gOver M' k = gOver M k := over_f (h.f hk 5)
theorem gEq.sy {M M' : gM} (h : gEq M M') : gEq M' M := ⟨h.1.symm, fun k hk => (h.2 k (by rw [← h.cn]; exact hk)).symm⟩
theorem gEq.tr {M M' M'' : gM} (h : gEq M M') (g : gEq M' M'') : gEq M M'' := ⟨g.1.trans h.1, fun k hk => (g.2 k (by rw [h.cn]; exact hk)).trans (h.2 k hk)⟩
theorem gEq.co {M M' : gM} (h : gEq M M') {n : Nat} {x y : gCo} (hx : n < cN M → y = x) : gEq (gCoS M n x) (gCoS M' n y) := ⟨h.1, fun k hk => by
  have hk : k < cN M := hk
  by_cases z : k = n
  · subst z
    rw [co_at, co_at]; exact hx hk
  · rw [co_ne z, co_ne z]; exact h.2 k hk⟩
theorem gEq.F {M M' : gM} (h : gEq M M') (n j : Nat) (v : Int32) : gEq (gfS M n j v) (gfS M' n j v) := h.co fun hn => by rw [h.2 n hn]
theorem gEq.F2 {M M' : gM} (h : gEq M M') (n j : Nat) {v w : Int32} (e : w = v) : gEq (gfS M n j v) (gfS M' n j w) := by rw [e]; exact h.F n j v
theorem gEq.K {M M' : gM} (h : gEq M M') (n : Nat) (k : List (Int32 × Int32)) : gEq (gkS M n k) (gkS M' n k) := h.co fun hn => by rw [h.2 n hn]
theorem gEq.go {M M' : gM} (h : gEq M M') (n : Nat) {l l' : Int32} (e : l' = l) : gEq (gGo M n l) (gGo M' n l') := by rw [e]; exact (h.F n 5 2).F n 6 l
theorem gEq.end {M M' : gM} (h : gEq M M') (n : Nat) (s : Int32) {w w' : Int32} (e : w' = w) : gEq (gEnd M n s w) (gEnd M' n s w') := by rw [e]; exact (h.F n 5 s).F n 7 w
theorem gEq.leave {M M' : gM} (h : gEq M M') (n : Nat) {w w' v v' : Int32} (e : w' = w) (e2 : v' = v) : gEq (gLeave M n w v) (gLeave M' n w' v') := by
  rw [e, e2, leave_co, leave_co]
  exact h.co fun hn => by rw [h.2 n hn]
theorem gEq.q7 {M M' : gM} (h : gEq M M') {l l' : List Int32} (e : l' = l) : gEq (grqS M l) (grqS M' l') := ⟨by rw [e]; show (M'.2.1, l, M'.2.2.2) = (M.2.1, l, M.2.2.2); rw [h.1], h.2⟩
theorem gEq.q9 {M M' : gM} (h : gEq M M') {l l' : List Int32} (e : l' = l) : gEq (gaqS M l) (gaqS M' l') := ⟨by rw [e]; show (M'.2.1, M'.2.2.1, l) = (M.2.1, M.2.2.1, l); rw [h.1], h.2⟩
theorem gEq.line {B : gB} {M M' : gM} (h : gEq M M') {n : Nat} (hn : n < cN M) : gAtLn B M' n = gAtLn B M n := by unfold gAtLn; rw [h.f hn, h.f hn]
theorem gEq.takes {M M' : gM} (h : gEq M M') {t : Int32} (ht : gAt t < cN M) : gTakes M' t = gTakes M t := by unfold gTakes; rw [h.f ht, h.f ht]
theorem gEq.took {M M' : gM} (h : gEq M M') (t : Int32) : gEq (gTook M t) (gTook M' t) := h.F _ _ _
theorem gEq.made {M M' : gM} (h : gEq M M') (n : Int32) : gMade M' n = gMade M n := by unfold gMade; rw [h.cnt]
theorem made_at {M : gM} {n : Int32} (hc : gcnt M = Int32.ofNat (cN M)) (h24 : cN M ≤ 24) (h : gMade M n = true) : gAt n < cN M ∧ n = Int32.ofNat (gAt n) := by
  unfold gMade at h
  rw [decide_eq_true_eq, hc] at h
  obtain ⟨a, b⟩ := h
  have b1 := Int32.lt_iff_toInt_lt.mp b
  have a1 := Int32.le_iff_toInt_le.mp a
  have a2 : (0 : Int32).toInt = 0 := rfl
  have a3 : n.toNatClampNeg = n.toInt.toNat := rfl
  rw [Int32.toInt_ofNat_of_lt (by omega)] at b1
  have e : n = Int32.ofNat n.toNatClampNeg := by
    apply Int32.toInt_inj.mp
    rw [Int32.toInt_ofNat_of_lt (by omega)]
    omega
  have e2 : gAt n = n.toNatClampNeg := by rw [e]; exact (n_at (by omega)).trans (by rw [← e])
  exact ⟨by omega, by rw [e2]; exact e⟩
theorem gEq.has {M M' : gM} (h : gEq M M') (hc : gcnt M = Int32.ofNat (cN M)) (h24 : cN M ≤ 24) (n s : Int32) : gHas M' n s = gHas M n s := by
  unfold gHas
  rw [h.made]
  cases q : gMade M n with
  | false => rfl
  | true => rw [h.f (made_at hc h24 q).1]
/-- alike in a call -/
def TE (T T' : gT) : Prop := gEq T.1 T'.1 ∧ T'.2 = T.2
def RE (R R' : Int32 × gT) : Prop := R'.1 = R.1 ∧ TE R.2 R'.2
theorem gEq.wt {M M' : gM} (h : gEq M M') {T T' : gT} (e : T'.2 = T.2) (n : Nat) : TE (gWt T M n) (gWt T' M' n) := ⟨h.F _ _ _, by unfold gWt; rw [e]⟩
theorem make_eq {M M' : gM} (h : gEq M M') (hc : gcnt M = Int32.ofNat (cN M)) (h24 : cN M < 24) (b so sp : Int32) : gEq (gMake M b so sp) (gMake M' b so sp) := by
  obtain ⟨m1, m2, m3, m4, m5, m6, m7, m8, m9⟩ := mk_of (M := M) (b := b) (so := so) (sp := sp) hc h24
  have hc' : gcnt M' = Int32.ofNat (cN M') := by rw [h.cn, h.cnt]; exact hc
  obtain ⟨n1, n2, n3, n4, n5, n6, n7, n8, n9⟩ := mk_of (M := M') (b := b) (so := so) (sp := sp) hc' (by rw [h.cn]; exact h24)
  rw [h.cn] at n2 n3 n4 n5 n9
  refine ⟨?_, fun k hk => ?_⟩
  · have e : ∀ N : gM, N.2 = ((gcnt N, gnow N, gtrn N), grq N, gaq N) := fun N => rfl
    rw [e, e (gMake M b so sp), n2, m2, n6, m6, n7, m7, n8, m8, n9, m9, h.now, h.trn, h.rq, h.aq]
  · rw [m3] at hk
    by_cases z : k = cN M
    · rw [z, n5, m5]
    · rw [n4 k z, m4 k z]; exact h.2 k (by omega)
theorem yield_eq {B : gB} {T : gT} {top : Nat} {M' : gM} (h : IVC B T top) (e : gEq T.1 M') : RE (gYield T T.2.1) (gYield (M', T.2) T.2.1) := by
  unfold gYield
  show RE _ (if T.2.2.1.1 = -1 then _ else if gTakes M' T.2.2.1.1 then _ else _)
  by_cases q : T.2.2.1.1 = -1
  · rw [if_pos q, if_pos q]
    exact ⟨rfl, e.wt rfl _⟩
  · rw [if_neg q, if_neg q]
    obtain ⟨e1, e4⟩ := h.2.2.2.2.1.of q
    have ht := h.2.2.2.2.1.1
    have h24 := h.1.2.1
    have ht2 : gAt T.2.2.1.1 < cN T.1 := by rw [e1, n_at (by omega)]; exact ht
    rw [e.takes ht2]
    by_cases y : gTakes T.1 T.2.2.1.1 = true
    · rw [if_pos y, if_pos y]
      exact ⟨rfl, e.took _, rfl⟩
    · rw [if_neg y, if_neg y]
      exact ⟨rfl, (e.q7 (by rw [e.rq])).wt rfl _⟩
theorem sleep_eq {B : gB} {T : gT} {top : Nat} {M' : gM} (h : IVC B T top) (e : gEq T.1 M') (a : Int32) : RE (gSleep T T.2.1 a) (gSleep (M', T.2) T.2.1 a) := by
  unfold gSleep
  show RE _ (if T.2.2.1.1 = -1 then _ else if gTakes M' T.2.2.1.1 then _ else _)
  by_cases q : T.2.2.1.1 = -1
  · rw [if_pos q, if_pos q]
    exact ⟨rfl, e, rfl⟩
  · rw [if_neg q, if_neg q]
    obtain ⟨e1, e4⟩ := h.2.2.2.2.1.of q
    have ht := h.2.2.2.2.1.1
    have h24 := h.1.2.1
    have ht2 : gAt T.2.2.1.1 < cN T.1 := by rw [e1, n_at (by omega)]; exact ht
    rw [e.takes ht2]
    by_cases y : gTakes T.1 T.2.2.1.1 = true
    · rw [if_pos y, if_pos y]
      exact ⟨rfl, e.took _, rfl⟩
    · rw [if_neg y, if_neg y]
      exact ⟨rfl, (e.F2 _ _ (by rw [e.now])).wt rfl _⟩
theorem ring_eq {M M' : gM} {t u : Int32} (hq : IQ M u) (h24 : cN M ≤ 24) (e : gEq M M') : ∀ (i k : Nat), k < cN M → gRing M' t i (Int32.ofNat k) = gRing M t i (Int32.ofNat k) := by
  intro i
  induction i with
  | zero => intro k _; rfl
  | succ i ih =>
    intro k hk
    unfold gRing
    rw [n_at (by omega), e.f hk]
    by_cases z : gf M k 13 = -1
    · rw [z]
      cases i <;> rfl
    · obtain ⟨-, -, -, -, -, j, e1, e2, -⟩ := hq.2.2.2.1 k hk z
      rw [e1, ih j e2]
theorem outcome_eq {M M' : gM} {n k : Nat} (e : gEq M M') (hn : n < cN M) (hk : k < cN M) : (gOutcome M' n k).1 = (gOutcome M n k).1 ∧ gEq (gOutcome M n k).2 (gOutcome M' n k).2 := by
  unfold gOutcome
  rw [e.f hk, e.f hk, e.f hn]
  split
  · exact ⟨rfl, e⟩
  · exact ⟨rfl, (e.F _ _ _).go _ rfl⟩
theorem await_eq {B : gB} {T : gT} {top : Nat} {M' : gM} (h : IVC B T top) (e : gEq T.1 M') : RE (gAwait T T.2.1) (gAwait (M', T.2) T.2.1) := by
  have hr := h.2.1.1
  have h24 := h.1.2.1
  have ht := h.2.2.2.2.1.1
  unfold gAwait
  show RE _ (if T.2.2.1.1 = -1 then _ else if gHas M' (gf M' T.2.1 7) 1 = false ∨ gf M' T.2.1 7 = T.2.2.1.1 then _ else if gOver M' (gAt (gf M' T.2.1 7)) then ((gOutcome M' T.2.1 (gAt (gf M' T.2.1 7))).1, ((gOutcome M' T.2.1 (gAt (gf M' T.2.1 7))).2, T.2)) else if gRing M' T.2.2.1.1 24 (gf M' T.2.1 7) then _ else if gTakes M' T.2.2.1.1 then _ else (0, gWt (M', T.2) (gaqS (gfS M' (gAt T.2.2.1.1) 13 (gf M' T.2.1 7)) (gAdd (gaq M') T.2.2.1.1)) T.2.1))
  rw [e.f hr, e.has h.1.1 h24]
  by_cases q : T.2.2.1.1 = -1
  · rw [if_pos q, if_pos q]
    exact ⟨rfl, e, rfl⟩
  rw [if_neg q, if_neg q]
  by_cases q1 : gHas T.1 (gf T.1 T.2.1 7) 1 = false ∨ gf T.1 T.2.1 7 = T.2.2.1.1
  · rw [if_pos q1, if_pos q1]
    exact ⟨rfl, e, rfl⟩
  rw [if_neg q1, if_neg q1]
  have hm : gMade T.1 (gf T.1 T.2.1 7) = true := by
    cases z : gMade T.1 (gf T.1 T.2.1 7) with
    | true => rfl
    | false => exact absurd (Or.inl (by unfold gHas; rw [z]; rfl)) q1
  obtain ⟨j1, j2⟩ := made_at h.1.1 h24 hm
  rw [e.over j1]
  by_cases q2 : gOver T.1 (gAt (gf T.1 T.2.1 7)) = true
  · rw [if_pos q2, if_pos q2]
    obtain ⟨o1, o2⟩ := outcome_eq e hr j1
    exact ⟨o1, o2, rfl⟩
  rw [if_neg q2, if_neg q2]
  obtain ⟨e1, e4⟩ := h.2.2.2.2.1.of q
  have ht2 : gAt T.2.2.1.1 < cN T.1 := by rw [e1, n_at (by omega)]; exact ht
  have er : gRing M' T.2.2.1.1 24 (gf T.1 T.2.1 7) = gRing T.1 T.2.2.1.1 24 (gf T.1 T.2.1 7) := by
    rw [j2]
    exact ring_eq h.2.2.2.1 h24 e 24 _ j1
  rw [er, e.takes ht2]
  by_cases q3 : gRing T.1 T.2.2.1.1 24 (gf T.1 T.2.1 7) = true
  · rw [if_pos q3, if_pos q3]
    exact ⟨rfl, e, rfl⟩
  rw [if_neg q3, if_neg q3]
  by_cases y : gTakes T.1 T.2.2.1.1 = true
  · rw [if_pos y, if_pos y]
    exact ⟨rfl, e.took _, rfl⟩
  · rw [if_neg y, if_neg y]
    exact ⟨rfl, ((e.F _ _ _).q9 (by rw [e.aq])).wt rfl _⟩
theorem can_eq {B : gB} {M M' : gM} (e : gEq M M') (b : Int32) : gCanMake B M' b = gCanMake B M b := by unfold gCanMake; rw [e.cnt]
theorem from_eq {B : gB} {T : gT} {top : Nat} {M' : gM} (hB : IB B) (h : IVC B T top) (e : gEq T.1 M') (a : Int32) : RE (gFrom B T T.2.1 a) (gFrom B (M', T.2) T.2.1 a) := by
  unfold gFrom
  show RE _ (if gCanMake B M' a then (0, (gFromM M' T.2.1 a, gAt (gcnt M'), T.2.2)) else (4, (M', T.2)))
  rw [can_eq e, e.cnt]
  by_cases q : gCanMake B T.1 a = true
  · rw [if_pos q, if_pos q]
    obtain ⟨c1, -⟩ := can_of hB h.1.1 h.1.2.1 q
    refine ⟨rfl, ?_, rfl⟩
    show gEq (gFromM T.1 T.2.1 a) (gFromM M' T.2.1 a)
    unfold gFromM
    rw [e.cnt]
    exact ((((make_eq e h.1.1 c1 a 2 (-1)).F _ _ _).F _ _ _).F _ _ _).go _ rfl
  · rw [if_neg q, if_neg q]
    exact ⟨rfl, e, rfl⟩
theorem spawn_eq {B : gB} {T : gT} {top : Nat} {M' : gM} (hB : IB B) (h : IVC B T top) (e : gEq T.1 M') (a : Int32) : RE (gSpawn B T T.2.1 a) (gSpawn B (M', T.2) T.2.1 a) := by
  unfold gSpawn
  show RE _ (if T.2.2.1.1 = -1 then _ else if gCanMake B M' a then (0, (gSpawnM M' T.2.1 a T.2.2.1.1, T.2)) else (4, (M', T.2)))
  by_cases q : T.2.2.1.1 = -1
  · rw [if_pos q, if_pos q]
    exact ⟨rfl, e, rfl⟩
  rw [if_neg q, if_neg q, can_eq e]
  by_cases y : gCanMake B T.1 a = true
  · rw [if_pos y, if_pos y]
    obtain ⟨c1, -⟩ := can_of hB h.1.1 h.1.2.1 y
    obtain ⟨m1, m2, m3, -⟩ := mk_of (M := T.1) (b := a) (so := 1) (sp := T.2.2.1.1) h.1.1 c1
    have em := make_eq e h.1.1 c1 a 1 T.2.2.1.1
    refine ⟨rfl, ?_, rfl⟩
    show gEq (gSpawnM T.1 T.2.1 a T.2.2.1.1) (gSpawnM M' T.2.1 a T.2.2.1.1)
    unfold gSpawnM
    rw [e.cnt]
    exact (em.F _ _ _).F2 _ _ (by rw [em.f (by have := h.2.1.1; omega)])
  · rw [if_neg y, if_neg y]
    exact ⟨rfl, e, rfl⟩
theorem shield_eq {B : gB} {T : gT} {top : Nat} {M' : gM} (h : IVC B T top) (e : gEq T.1 M') (a : Int32) : RE (gShield T T.2.1 a) (gShield (M', T.2) T.2.1 a) := by
  have hr := h.2.1.1
  refine ⟨rfl, ?_, rfl⟩
  show gEq (gfS (gShM T.1 T.2.2.1.1 a) T.2.1 6 (gf T.1 T.2.1 6 + 1)) (gfS (gShM M' T.2.2.1.1 a) T.2.1 6 (gf M' T.2.1 6 + 1))
  rw [e.f hr]
  refine gEq.F ?_ _ _ _
  unfold gShM
  by_cases q : T.2.2.1.1 = -1
  · rw [if_pos q, if_pos q]; exact e
  · rw [if_neg q, if_neg q]
    obtain ⟨e1, e4⟩ := h.2.2.2.2.1.of q
    have ht := h.2.2.2.2.1.1
    have h24 := h.1.2.1
    rw [e.f (k := gAt T.2.2.1.1) (by rw [e1, n_at (by omega)]; exact ht)]
    exact e.F _ _ _
def RE2 (R R' : Int32 × Int32 × gT) : Prop := R'.1 = R.1 ∧ R'.2.1 = R.2.1 ∧ TE R.2.2 R'.2.2
theorem do_eq {B : gB} {T : gT} {top : Nat} {M' : gM} (hB : IB B) (h : IVC B T top) (e : gEq T.1 M') : RE2 (gDo B T T.2.1) (gDo B (M', T.2) T.2.1) := by
  have hr := h.2.1.1
  unfold gDo
  dsimp only
  rw [e.line hr]
  have c2 : ∀ {R R' : Int32 × gT}, RE R R' → RE2 (R.1, 0, R.2) (R'.1, 0, R'.2) := fun q => ⟨q.1, rfl, q.2⟩
  by_cases k3 : (gAtLn B T.1 T.2.1).1 = 3
  · rw [if_pos k3, if_pos k3]
    exact c2 (yield_eq h e)
  rw [if_neg k3, if_neg k3]
  by_cases k10 : (gAtLn B T.1 T.2.1).1 = 10
  · rw [if_pos k10, if_pos k10]
    exact c2 (from_eq hB h e _)
  rw [if_neg k10, if_neg k10]
  by_cases k12 : (gAtLn B T.1 T.2.1).1 = 12
  · rw [if_pos k12, if_pos k12]
    exact c2 (sleep_eq h e _)
  rw [if_neg k12, if_neg k12]
  by_cases k13 : (gAtLn B T.1 T.2.1).1 = 13
  · rw [if_pos k13, if_pos k13]
    exact c2 (await_eq h e)
  rw [if_neg k13, if_neg k13]
  by_cases k14 : (gAtLn B T.1 T.2.1).1 = 14
  · rw [if_pos k14, if_pos k14]
    exact c2 (spawn_eq hB h e _)
  rw [if_neg k14, if_neg k14]
  by_cases k15 : (gAtLn B T.1 T.2.1).1 = 15
  · rw [if_pos k15, if_pos k15]
    exact c2 (shield_eq h e _)
  rw [if_neg k15, if_neg k15, plain_co, plain_co, e.2 _ hr]
  exact ⟨rfl, rfl, e.co (fun _ => rfl), rfl⟩
theorem instead_eq {B : gB} {T : gT} {M' : gM} (hr : T.2.1 < cN T.1) (e : gEq T.1 M') : RE2 (gInstead B T T.2.1) (gInstead B (M', T.2) T.2.1) := by
  unfold gInstead
  show RE2 _ (if gHL (B.2 (gBody (gf M' T.2.1 3))) (gf M' T.2.1 6) = false then (-4, gf M' T.2.1 7, (M', T.2)) else if T.2.2.1.2 < 200 ∨ T.2.2.2.1 = true then (if T.2.2.1.2 < 300 then (0, 0, (gfS M' T.2.1 11 (gf M' T.2.1 11 + 1), T.2.1, (T.2.2.1.1, T.2.2.1.2 + 1), T.2.2.2)) else (11, 0, (gkS M' T.2.1 [], T.2))) else (11, 0, (M', T.2.1, T.2.2.1, true, T.2.2.2.2)))
  rw [e.f hr, e.f hr, e.f hr, e.f hr]
  split
  · exact ⟨rfl, rfl, e, rfl⟩
  · split
    · split
      · exact ⟨rfl, rfl, e.F _ _ _, rfl⟩
      · exact ⟨rfl, rfl, e.K _ _, rfl⟩
    · exact ⟨rfl, rfl, e, rfl⟩
