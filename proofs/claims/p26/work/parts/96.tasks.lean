/-! areTasksRight, over the model -/
/-- a memory that is the object's, behind what the law makes -/
def yL (h N : Nat) (μ0 μ : MM) (B : gB) (M : gM) : Prop := yI h μ B M ∧ yG h N μ0 μ
/-- the own place among the ready ones -/
def gPl (M : gM) (k : Nat) : Int32 := if Int32.ofNat k ∈ grq M then Int32.ofNat ((grq M).idxOf (Int32.ofNat k)) else -1
/-- of a task: it is over, or ready, or sleeps, or awaits -/
theorem task_one {B : gB} {M : gM} {k : Nat} (hI : IVR B M) (hk : k < cN M) (h4 : gf M k 4 = 1) :
    (gOver M k = true ∧ Int32.ofNat k ∉ grq M ∧ gf M k 12 = -1 ∧ gf M k 13 = -1) ∨ (gOver M k = false ∧ Int32.ofNat k ∈ grq M ∧ gf M k 12 = -1 ∧ gf M k 13 = -1) ∨ (gOver M k = false ∧ Int32.ofNat k ∉ grq M ∧ (gnow M).toInt < (gf M k 12).toInt ∧ gf M k 13 = -1) ∨ (gOver M k = false ∧ Int32.ofNat k ∉ grq M ∧ gf M k 12 = -1 ∧ ∃ j, gf M k 13 = Int32.ofNat j ∧ j < cN M ∧ gf M j 4 = 1 ∧ gOver M j = false) := by
  have h24 := hI.1.2.1
  obtain ⟨q0, ⟨q1, q2⟩, ⟨q3, q4⟩, q5, q6, q7, q8⟩ := hI.2.2
  have mem : Int32.ofNat k ∈ grq M → gOver M k = false ∧ gf M k 12 = -1 ∧ gf M k 13 = -1 := fun z => by
    obtain ⟨-, j, p2, p3, p4, p5, p6, p7⟩ := q2 _ z
    have : k = j := n_inj (by omega) (by omega) p2
    subst this
    exact ⟨p5, p6, p7⟩
  by_cases a : gf M k 13 = -1
  · by_cases b : gf M k 12 = -1
    · cases o : gOver M k with
      | true => exact Or.inl ⟨rfl, fun z => absurd ((mem z).1.symm.trans o) (by decide), b, a⟩
      | false => exact Or.inr (Or.inl ⟨rfl, q7 k hk h4 o (n_neg (by omega)) b a, b, a⟩)
    · obtain ⟨p1, p2, p3, p4⟩ := q6 k hk b
      exact Or.inr (Or.inr (Or.inl ⟨p2, fun z => b (mem z).2.1, p4, a⟩))
  · obtain ⟨p1, p2, p3, p4, p5, j, p6, p7, p8, p9⟩ := q5 k hk a
    exact Or.inr (Or.inr (Or.inr ⟨p2, fun z => a (mem z).2.2, p4, j, p6, p7, p8, p9.resolve_right (n_neg (by omega))⟩))
theorem lt0_neg : (-1 : Int32) < 0 := by decide
theorem lt0_nat {n : Nat} (h : n < 2 ^ 31) : ¬ Int32.ofNat n < 0 := fun z => by
  have := Int32.lt_iff_toInt_lt.mp z
  rw [Int32.toInt_ofNat_of_lt h] at this
  have : (0 : Int32).toInt = 0 := rfl
  omega
set_option maxHeartbeats 4000000 in
theorem t_task {h k bb : Nat} {μ : MM} {B : gB} {M : gM} {kk12 : Nat → Nat → Int32 → Int32 → Int32 → MM → Option (Int32 × MM)} {x2 x3 : Int32} (Y : yI h μ B M) (hk : k < cN M) (h4 : gf M k 4 = 1) : bL_areTasksRight_12 kk12 h bb x2 x3 (Int32.ofNat k) μ = bL_areTasksRight_165 kk12 h bb x2 (x3 + (if gOver M k = true then 1 else 0)) (Int32.ofNat k) (gPl M k) (gf M k 13) μ := by
  obtain ⟨hc, h24⟩ := Y.cn
  have t0 : fX6_ofTask h (Int32.ofNat k) 0 μ = some (0, gPl M k, μ) := r_ofTask Y.1 hc h24 hk h4 0 (by decide)
  have t1 : fX6_ofTask h (Int32.ofNat k) 1 μ = some (0, gf M k 12, μ) := r_ofTask Y.1 hc h24 hk h4 1 (by decide)
  have t2 : fX6_ofTask h (Int32.ofNat k) 2 μ = some (0, gf M k 13, μ) := r_ofTask Y.1 hc h24 hk h4 2 (by decide)
  have o1 : fX6_of h (Int32.ofNat k) 1 μ = some (0, gf M k 5, μ) := r_of Y.1 hc h24 hk 1 (by decide)
  have o2 : fX6_of h (Int32.ofNat k) 2 μ = some (0, gf M k 4, μ) := r_of Y.1 hc h24 hk 2 (by decide)
  have m1 : fX6_many h 1 μ = some (0, gcnt M, μ) := r_many Y.1 hc h24 1 (by decide)
  have m9 : fX6_many h 9 μ = some (0, gnow M, μ) := r_many Y.1 hc h24 9 (by decide)
  have hlt : ¬ gcnt M ≤ Int32.ofNat k := by rw [hc]; exact mt (g_le (by omega) (by omega)).mp (by omega)
  unfold bL_areTasksRight_12
  rw [if_pos Y.1.1.1, m1, Option.bind_some, if_pos rfl, if_neg hlt, o2, Option.bind_some, if_pos rfl, if_pos h4, t0, Option.bind_some, if_pos rfl, t2, Option.bind_some, if_pos rfl, o1, Option.bind_some, if_pos rfl]
  dsimp only
  have pl0 : Int32.ofNat k ∉ grq M → gPl M k < 0 := fun z => by unfold gPl; rw [if_neg z]; exact lt0_neg
  have n5 : gOver M k = false → gf M k 5 ≤ 2 := fun ho => by
    rcases (Y.2.2.1.2.2 k hk).1.2.2.1 with q | q | q | q | q
    · rw [show gf M k 5 = 0 from q]; decide
    · rw [show gf M k 5 = 1 from q]; decide
    · rw [show gf M k 5 = 2 from q]; decide
    · unfold gOver at ho; rw [show gf M k 5 = 3 from q] at ho; cases ho
    · unfold gOver at ho; rw [show gf M k 5 = 4 from q] at ho; cases ho
  rcases task_one Y.2.2 hk h4 with ⟨a, b, c, d⟩ | ⟨a, b, c, d⟩ | ⟨a, b, c, d⟩ | ⟨a, b, c, j, d, dj, -, -⟩
  · have n2 : ¬ gf M k 5 ≤ 2 := by
      unfold gOver at a
      simp only [Bool.or_eq_true, beq_iff_eq] at a
      rcases a with q | q <;> rw [q] <;> decide
    have c0 : gf M k 12 < 0 := by rw [c]; exact lt0_neg
    have d0 : gf M k 13 < 0 := by rw [d]; exact lt0_neg
    rw [if_neg n2, if_neg (by decide), if_pos (pl0 b), t1, Option.bind_some, if_pos rfl, if_pos c0, if_pos d0, if_neg (by decide), if_pos (by decide), t1, Option.bind_some, if_pos rfl, if_pos c0, if_pos a]
  · have c0 : gf M k 12 < 0 := by rw [c]; exact lt0_neg
    have d0 : gf M k 13 < 0 := by rw [d]; exact lt0_neg
    have p0 : ¬ gPl M k < 0 := by
      have hl := Y.1.2.2.1.2.2.1.1
      have := List.idxOf_lt_length_of_mem b
      unfold gPl
      rw [if_pos b]
      exact lt0_nat (by omega)
    rw [if_pos (n5 a), if_pos (by decide), if_neg p0, t1, Option.bind_some, if_pos rfl, if_pos c0, if_pos d0, if_pos (by decide), if_pos (by decide), t1, Option.bind_some, if_pos rfl, if_pos c0, if_neg (by rw [a]; decide)]
  · have q0 := Y.2.2.2.2.1
    have c0 : ¬ gf M k 12 < 0 := fun z => by
      have := Int32.lt_iff_toInt_lt.mp z
      have : (0 : Int32).toInt = 0 := rfl
      omega
    have c9 : ¬ gf M k 12 ≤ gnow M := fun z => by
      have := Int32.le_iff_toInt_le.mp z
      omega
    have d0 : gf M k 13 < 0 := by rw [d]; exact lt0_neg
    rw [if_pos (n5 a), if_pos (by decide), if_pos (pl0 b), t1, Option.bind_some, if_pos rfl, if_neg c0, if_pos d0, if_pos (by decide), if_pos (by decide), t1, Option.bind_some, if_pos rfl, if_neg c0, t1, Option.bind_some, if_pos rfl, m9, Option.bind_some, if_pos rfl, if_neg c9, if_neg (by rw [a]; decide)]
  · have c0 : gf M k 12 < 0 := by rw [c]; exact lt0_neg
    have d0 : ¬ gf M k 13 < 0 := by rw [d]; exact lt0_nat (by omega)
    rw [if_pos (n5 a), if_pos (by decide), if_pos (pl0 b), t1, Option.bind_some, if_pos rfl, if_pos c0, if_neg d0, if_pos (by decide), if_pos (by decide), t1, Option.bind_some, if_pos rfl, if_pos c0, if_neg (by rw [a]; decide)]
