/-! A MODEL of the machine between its calls and in them: coroutines (fields by their number, locals, stack with its top first), counts, the two queues. Coroutine 24 is nobody. Marks of thrown ways are 0: nothing reads them. -/
abbrev gCo : Type := (Nat → Int32) × (Nat → Int32) × List (Int32 × Int32)
/-- coroutines; count, now, turns; ready, awaiting -/
abbrev gM : Type := (Nat → gCo) × (Int32 × Int32 × Int32) × List Int32 × List Int32
/-- in a call: the machine; running; turnOf, linesBegun; tookTooLong, waits -/
abbrev gT : Type := gM × Nat × (Int32 × Int32) × Bool × Bool
/-- the bodies: how many; of each its lines -/
abbrev gB : Type := Int32 × (Nat → List (Int32 × Int32 × Int32))
def gf (M : gM) (n j : Nat) : Int32 := (M.1 n).1 j
def gl (M : gM) (n : Nat) : Nat → Int32 := (M.1 n).2.1
def gk (M : gM) (n : Nat) : List (Int32 × Int32) := (M.1 n).2.2
def gcnt (M : gM) : Int32 := M.2.1.1
def gnow (M : gM) : Int32 := M.2.1.2.1
def gtrn (M : gM) : Int32 := M.2.1.2.2
def grq (M : gM) : List Int32 := M.2.2.1
def gaq (M : gM) : List Int32 := M.2.2.2
def gCoS (M : gM) (n : Nat) (c : gCo) : gM := (fun k => if k = n then c else M.1 k, M.2)
def gfS (M : gM) (n j : Nat) (v : Int32) : gM := gCoS M n (fun i => if i = j then v else (M.1 n).1 i, (M.1 n).2)
def glS (M : gM) (n i : Nat) (v : Int32) : gM := gCoS M n ((M.1 n).1, fun k => if k = i then v else (M.1 n).2.1 k, (M.1 n).2.2)
def gkS (M : gM) (n : Nat) (k : List (Int32 × Int32)) : gM := gCoS M n ((M.1 n).1, (M.1 n).2.1, k)
def grqS (M : gM) (q : List Int32) : gM := (M.1, M.2.1, q, M.2.2.2)
def gaqS (M : gM) (q : List Int32) : gM := (M.1, M.2.1, M.2.2.1, q)
def gcntS (M : gM) (v : Int32) : gM := (M.1, (v, M.2.1.2), M.2.2)
def gnowS (M : gM) (v : Int32) : gM := (M.1, (M.2.1.1, v, M.2.1.2.2), M.2.2)
def gtrnS (M : gM) (v : Int32) : gM := (M.1, (M.2.1.1, M.2.1.2.1, v), M.2.2)
/-- at(n) -/
def gAt (n : Int32) : Nat := if n < 0 ∨ 24 ≤ n then 24 else n.toNatClampNeg
def gMade (M : gM) (n : Int32) : Bool := decide (0 ≤ n ∧ n < gcnt M)
def gHas (M : gM) (n sort : Int32) : Bool := gMade M n && gf M (gAt n) 4 == sort
def gOver (M : gM) (n : Nat) : Bool := gf M n 5 == 3 || gf M n 5 == 4
def gAdd (q : List Int32) (v : Int32) : List Int32 := if q.length < 24 then q ++ [v] else q
def gBody (b : Int32) : Nat := if b < 0 ∨ 8 ≤ b then 8 else b.toNatClampNeg
/-- hasLine, and a line, of a body's lines -/
def gHL (l : List (Int32 × Int32 × Int32)) (n : Int32) : Bool := decide (0 ≤ n ∧ n < Int32.ofNat l.length)
def gLn (l : List (Int32 × Int32 × Int32)) (n : Int32) : Int32 × Int32 × Int32 := if 0 ≤ n then (l[n.toNatClampNeg]?).getD (11, 0, 0) else (11, 0, 0)
/-- the line at which the coroutine n is -/
def gAtLn (B : gB) (M : gM) (n : Nat) : Int32 × Int32 × Int32 := gLn (B.2 (gBody (gf M n 3))) (gf M n 6)
def gGo (M : gM) (n : Nat) (line : Int32) : gM := gfS (gfS M n 5 2) n 6 line
def gEnd (M : gM) (n : Nat) (state wi : Int32) : gM := gfS (gfS M n 5 state) n 7 wi
/-- the first handler that a way comes to: where it is, the stack there, whether it catches -/
def gFind (way val : Int32) : List (Int32 × Int32) → Option (Int32 × List (Int32 × Int32) × Bool)
  | [] => none
  | (s, m) :: r => if s = -2 then some (m, (way, if way = -4 then val else 0) :: r, false) else if s = -1 ∧ 1 ≤ way ∧ way ≤ 9 then some (m, r, true) else gFind way val r
/-- leave(way); val: what it returns, if the way is RETURNING -/
def gLeave (M : gM) (n : Nat) (way val : Int32) : gM := match gFind way val (gk M n) with
  | none => if way = -4 then gEnd (gkS M n []) n 3 val else gEnd (gkS M n []) n 4 way
  | some (h, k, c) => gGo (if c then gfS (gkS M n k) n 7 way else gkS M n k) n h
def gLoc (M : gM) (n : Nat) (a : Int32) : Int32 := if a < 0 ∨ 4 ≤ a then 0 else gl M n a.toNatClampNeg
def gLocS (M : gM) (n : Nat) (a v : Int32) : gM := if a < 0 ∨ 4 ≤ a then M else glS M n a.toNatClampNeg v
/-- DONE: the line, the machine -/
def gDone7 (M : gM) (n : Nat) (b : Int32) : Int32 × gM := match gk M n with
  | (s, m) :: r => if s = -1 then (b, gkS M n r) else if s = -2 then (m, gkS M n ((-3, b) :: r)) else (b, M)
  | [] => (b, M)
/-- LAST: the way, what it returns, the machine -/
def gLast (M : gM) (n : Nat) : Int32 × Int32 × gM := match gk M n with
  | (s, m) :: r => if s = 0 ∨ s = -1 ∨ s = -2 then (0, 0, gfS M n 6 (gf M n 6 + 1)) else if s = -3 then (0, 0, gfS (gkS M n r) n 6 m) else (s, m, gkS M n r)
  | [] => (0, 0, gfS M n 6 (gf M n 6 + 1))
/-- doPlain: the way (0: none), what it returns, the machine -/
def gPlain (M : gM) (n : Nat) (kind a b : Int32) : Int32 × Int32 × gM :=
  let next := gf M n 6 + 1
  if kind = 0 then (0, 0, gfS (gfS M n 7 (jmax (-9999) (jmin 9999 (gf M n 7 + a)))) n 6 next)
  else if kind = 1 then (0, 0, gfS (gfS M n 7 (gLoc M n a)) n 6 next)
  else if kind = 2 then (0, 0, gfS (gLocS M n a (gf M n 7)) n 6 next)
  else if kind = 4 then (if gLoc M n a ≤ 0 then (0, 0, gfS M n 6 next) else (0, 0, gfS (gLocS M n a (gLoc M n a - 1)) n 6 b))
  else if kind = 5 then (if 0 < gf M n 7 then (0, 0, gfS M n 6 next) else (0, 0, gfS M n 6 b))
  else if kind = 6 then (if 6 ≤ (gk M n).length then (5, 0, M) else (0, 0, gfS (gkS M n ((if a = 0 then -1 else -2, b) :: gk M n)) n 6 next))
  else if kind = 7 then (0, 0, gfS (gDone7 M n b).2 n 6 (gDone7 M n b).1)
  else if kind = 8 then gLast M n
  else if kind = 9 then (a, 0, M)
  else if kind = 11 then (-4, gf M n 7, M)
  else (0, 0, gfS M n 6 next)
/-- the own number of the coroutine n -/
def gNum (n : Nat) : Int32 := if n = 24 then -1 else Int32.ofNat n
/-- becomeNew: all of an earlier one is wiped out -/
def gNewC (b sort spawner : Int32) : gCo := (fun j => if j = 3 then b else if j = 4 then sort else if j = 9 ∨ j = 10 ∨ j = 12 ∨ j = 13 then -1 else if j = 16 then spawner else 0, fun _ => 0, [])
def gNewM (M : gM) (n : Nat) (b sort spawner : Int32) : gM := gCoS M n (gNewC b sort spawner)
def gMake (M : gM) (b sort spawner : Int32) : gM :=
  let n := gcnt M
  let M1 := gcntS (gNewM M (gAt n) b sort spawner) (n + 1)
  if sort = 1 then grqS M1 (gAdd (grq M1) (gNum (gAt n))) else M1
def gCanMake (B : gB) (M : gM) (b : Int32) : Bool := decide (0 ≤ b ∧ b < B.1) && decide (gcnt M < 24)
def gTakes (M : gM) (task : Int32) : Bool := gf M (gAt task) 15 != 0 && !decide (0 < gf M (gAt task) 14)
def gTook (M : gM) (task : Int32) : gM := gfS M (gAt task) 15 0
def gOutcome (M : gM) (n k : Nat) : Int32 × gM := if gf M k 5 = 4 then (jmin (gf M k 7) 9, M) else (0, gGo (gfS M n 7 (gf M k 7)) n (gf M n 6 + 1))
def gRing (M : gM) (t : Int32) : Nat → Int32 → Bool
  | 0, _ => false
  | i + 1, n => if n = -1 then false else if gf M (gAt n) 13 = t then true else gRing M t i (gf M (gAt n) 13)
/-- it waits there -/
def gWt (T : gT) (M : gM) (n : Nat) : gT := (gfS M n 5 1, T.2.1, T.2.2.1, T.2.2.2.1, true)
/-- the lines that touch more than their own coroutine n: the way (0: none), how the call stands -/
def gYield (T : gT) (n : Nat) : Int32 × gT :=
  if T.2.2.1.1 = -1 then (0, gWt T T.1 n) else if gTakes T.1 T.2.2.1.1 then (9, (gTook T.1 T.2.2.1.1, T.2)) else (0, gWt T (grqS T.1 (gAdd (grq T.1) T.2.2.1.1)) n)
def gFromM (M : gM) (n : Nat) (a : Int32) : gM := gGo (gfS (gfS (gfS (gMake M a 2 (-1)) (gAt (gcnt M)) 10 (gNum n)) n 9 (gNum (gAt (gcnt M)))) n 5 1) (gAt (gcnt M)) 0
def gFrom (B : gB) (T : gT) (n : Nat) (a : Int32) : Int32 × gT := if gCanMake B T.1 a then (0, (gFromM T.1 n a, gAt (gcnt T.1), T.2.2)) else (4, T)
def gSleep (T : gT) (n : Nat) (a : Int32) : Int32 × gT :=
  if T.2.2.1.1 = -1 then (3, T) else if gTakes T.1 T.2.2.1.1 then (9, (gTook T.1 T.2.2.1.1, T.2)) else (0, gWt T (gfS T.1 (gAt T.2.2.1.1) 12 (gnow T.1 + a)) n)
def gAwait (T : gT) (n : Nat) : Int32 × gT :=
  if T.2.2.1.1 = -1 then (3, T)
  else if gHas T.1 (gf T.1 n 7) 1 = false ∨ gf T.1 n 7 = T.2.2.1.1 then (6, T)
  else if gOver T.1 (gAt (gf T.1 n 7)) then ((gOutcome T.1 n (gAt (gf T.1 n 7))).1, ((gOutcome T.1 n (gAt (gf T.1 n 7))).2, T.2))
  else if gRing T.1 T.2.2.1.1 24 (gf T.1 n 7) then (2, T)
  else if gTakes T.1 T.2.2.1.1 then (9, (gTook T.1 T.2.2.1.1, T.2))
  else (0, gWt T (gaqS (gfS T.1 (gAt T.2.2.1.1) 13 (gf T.1 n 7)) (gAdd (gaq T.1) T.2.2.1.1)) n)
def gSpawnM (M : gM) (n : Nat) (a t : Int32) : gM := gfS (gfS (gMake M a 1 t) n 7 (gNum (gAt (gcnt M)))) n 6 (gf (gMake M a 1 t) n 6 + 1)
def gSpawn (B : gB) (T : gT) (n : Nat) (a : Int32) : Int32 × gT :=
  if T.2.2.1.1 = -1 then (3, T) else if gCanMake B T.1 a then (0, (gSpawnM T.1 n a T.2.2.1.1, T.2)) else (4, T)
def gShM (M : gM) (t a : Int32) : gM := if t = -1 then M else gfS M (gAt t) 14 (jmax 0 (gf M (gAt t) 14 + (if a = 1 then 1 else -1)))
def gShield (T : gT) (n : Nat) (a : Int32) : Int32 × gT := (0, (gfS (gShM T.1 T.2.2.1.1 a) n 6 (gf T.1 n 6 + 1), T.2))
/-- doLine of the coroutine n: the way (0: none), what it returns, how the call stands -/
def gDo (B : gB) (T : gT) (n : Nat) : Int32 × Int32 × gT :=
  let L := gAtLn B T.1 n
  if L.1 = 3 then ((gYield T n).1, 0, (gYield T n).2)
  else if L.1 = 10 then ((gFrom B T n L.2.1).1, 0, (gFrom B T n L.2.1).2)
  else if L.1 = 12 then ((gSleep T n L.2.1).1, 0, (gSleep T n L.2.1).2)
  else if L.1 = 13 then ((gAwait T n).1, 0, (gAwait T n).2)
  else if L.1 = 14 then ((gSpawn B T n L.2.1).1, 0, (gSpawn B T n L.2.1).2)
  else if L.1 = 15 then ((gShield T n L.2.1).1, 0, (gShield T n L.2.1).2)
  else ((gPlain T.1 n L.1 L.2.1 L.2.2).1, (gPlain T.1 n L.1 L.2.1 L.2.2).2.1, ((gPlain T.1 n L.1 L.2.1 L.2.2).2.2, T.2))
/-- wayInstead: the way, what it returns, how the call stands -/
def gInstead (B : gB) (T : gT) (n : Nat) : Int32 × Int32 × gT :=
  if gHL (B.2 (gBody (gf T.1 n 3))) (gf T.1 n 6) = false then (-4, gf T.1 n 7, T)
  else if T.2.2.1.2 < 200 ∨ T.2.2.2.1 = true then
    (if T.2.2.1.2 < 300 then (0, 0, (gfS T.1 n 11 (gf T.1 n 11 + 1), T.2.1, (T.2.2.1.1, T.2.2.1.2 + 1), T.2.2.2)) else (11, 0, (gkS T.1 n [], T.2)))
  else (11, 0, (T.1, T.2.1, T.2.2.1, true, T.2.2.2.2))
def gPart (M : gM) (o i : Nat) : gM := gfS (gfS M o 9 (-1)) i 10 (-1)
def gBack (M : gM) (n : Nat) : gM × Nat :=
  let o := gAt (gf M n 10)
  let M1 := gPart M o n
  (if gf M1 n 5 = 3 then gGo (gfS M1 o 7 (gf M1 n 7)) o (gf M1 o 6 + 1) else gLeave M1 o (gf M1 n 7) 0, o)
/-- one step of goOn -/
def gStep (B : gB) (T : gT) : gT :=
  if gOver T.1 T.2.1 then ((gBack T.1 T.2.1).1, (gBack T.1 T.2.1).2, T.2.2)
  else if (gInstead B T T.2.1).1 = 0 then
    (if (gDo B (gInstead B T T.2.1).2.2 T.2.1).1 = 0 then (gDo B (gInstead B T T.2.1).2.2 T.2.1).2.2
     else (gLeave (gDo B (gInstead B T T.2.1).2.2 T.2.1).2.2.1 T.2.1 (gDo B (gInstead B T T.2.1).2.2 T.2.1).1 (gDo B (gInstead B T T.2.1).2.2 T.2.1).2.1, (gDo B (gInstead B T T.2.1).2.2 T.2.1).2.2.2))
  else (gLeave (gInstead B T T.2.1).2.2.1 T.2.1 (gInstead B T T.2.1).1 (gInstead B T T.2.1).2.1, (gInstead B T T.2.1).2.2.2)
def gGoOn (B : gB) (top : Nat) : Nat → gT → gT
  | 0, T => T
  | i + 1, T => if T.2.2.2.2 || gOver T.1 top then T else gGoOn B top i (gStep B T)
def gInmost (M : gM) : Nat → Nat → Nat
  | 0, n => n
  | i + 1, n => if gMade M (gf M n 9) then gInmost M i (gAt (gf M n 9)) else n
def gFuel : Nat := 10000
/-- goOn(top, inmost), with the inmost one running: how the call stands then -/
def gCallT (B : gB) (T : gT) (top : Nat) : gT := gGoOn B top gFuel (T.1, T.2.1, T.2.2.1, T.2.2.2.1, false)
/-- the same behind beginCall(task) -/
def gCall (B : gB) (M : gM) (task : Int32) (top deep : Nat) : gM := (gCallT B (M, deep, (task, 0), false, false) top).1
def gTold (M : gM) (top : Nat) : Int32 := if gf M top 5 = 3 then -20000 else if gf M top 5 = 4 then -20000 - gf M top 7 else gf M (gInmost M 24 top) 7
def gResume (B : gB) (M : gM) (g v : Int32) : Int32 × gM :=
  let top := gAt g
  let deep := gInmost M 24 top
  let M1 := if gf M deep 5 = 0 then gGo M deep 0 else (let M0 := gfS M deep 7 v; gGo M0 deep (gf M0 deep 6 + 1))
  let M2 := gCall B M1 (-1) top deep
  (gTold M2 top, M2)
def gThrow (B : gB) (M : gM) (g k : Int32) : Int32 × gM :=
  let top := gAt g
  let deep := gInmost M 24 top
  let M2 := gCall B (gLeave M deep k 0) (-1) top deep
  (gTold M2 top, M2)
def gEndClose (M : gM) (n : Nat) : Int32 × gM :=
  let M1 := if gf M n 5 = 4 ∧ gf M n 7 = 10 then gEnd M n 3 0 else M
  (if gf M1 n 5 = 3 then 0 else if gf M1 n 5 = 4 then gf M1 n 7 else 8, M1)
/-- closeAll behind its first coroutine: up from one to the top; the lines that were begun count on -/
def gCloseUp (B : gB) (top : Nat) : Nat → gT → Nat → Int32 → Int32 × gM
  | 0, T, _, told => (told, T.1)
  | i + 1, T, one, told => if one = top then (told, T.1) else
      (let o := gAt (gf T.1 one 10)
       let T1 := gCallT B (gLeave (gPart T.1 o one) o (if told = 0 then 10 else told) 0, o, T.2.2) o
       gCloseUp B top i ((gEndClose T1.1 o).2, T1.2) o (gEndClose T1.1 o).1)
def gClose (B : gB) (M : gM) (g : Int32) : Int32 × gM :=
  let top := gAt g
  if gOver M top then (0, M)
  else if gf M top 5 = 0 then (0, gEnd M top 3 0)
  else (let one := gInmost M 24 top
    let T1 := gCallT B (gLeave M one 10 0, one, (-1, 0), false, false) one
    gCloseUp B top 24 ((gEndClose T1.1 one).2, T1.2) one (gEndClose T1.1 one).1)
def gAsk (M : gM) (n : Int32) : Int32 × gM :=
  let t := gAt n
  if gOver M t then (0, M)
  else (let M1 := gfS M t 15 1
    ((if gf M t 15 = 0 then 1 else 0), if gf M t 14 = 0 ∧ (gf M t 12 ≠ -1 ∨ gf M t 13 ≠ -1) then
      (let M2 := gfS (gfS (gaqS M1 ((gaq M1).erase n)) t 12 (-1)) t 13 (-1)
       grqS M2 (gAdd (grq M2) n)) else M1))
def gTellA (k : Int32) : Nat → Nat → gM → gM
  | 0, _, M => M
  | rest + 1, place, M =>
    let n := ((gaq M)[place]?).getD (-1)
    if gf M (gAt n) 13 = k then
      (let M2 := gfS (gaqS M ((gaq M).eraseIdx place)) (gAt n) 13 (-1)
       gTellA k rest place (grqS M2 (gAdd (grq M2) (gNum (gAt n)))))
    else gTellA k rest (place + 1) M
def gTellB (k : Int32) (ov : Nat) : Nat → Int32 → gM → gM
  | 0, _, M => M
  | i + 1, n, M => if n < gcnt M ∧ gf M ov 5 = 4 then gTellB k ov i (n + 1) (if gHas M n 1 && gf M (gAt n) 16 == k then (gAsk M n).2 else M) else M
def gTell (M : gM) (ov : Nat) : gM := gTellB (gNum ov) ov 25 0 (gTellA (gNum ov) (gaq M).length 0 M)
def gWake (B : gB) (M : gM) (n : Nat) : Int32 × gM :=
  if (gAtLn B M n).1 = 13 then gOutcome M n (gAt (gf M n 7))
  else (let M1 := gfS M n 7 0; (0, gGo M1 n (gf M1 n 6 + 1)))
def gBegin (B : gB) (M : gM) (t : Int32) (n : Nat) : gM :=
  if gf M n 5 = 0 then gGo M n 0
  else if gTakes M t then gLeave (gTook M t) n 9 0
  else (let r := gWake B M n; if r.1 = 0 then r.2 else gLeave r.2 n r.1 0)
/-- one turn, of the first that is ready -/
def gTurn (B : gB) (M : gM) : gM :=
  let t := gAt ((grq M)[0]?.getD (-1))
  let M1 := gtrnS (grqS M ((grq M).drop 1)) (gtrn M + 1)
  let deep := gInmost M1 24 t
  let M2 := gCall B (gBegin B M1 (gNum t) deep) (gNum t) t deep
  if gOver M2 t then gTell M2 t else M2
def gTurns (B : gB) : Nat → gM → gM
  | 0, M => M
  | i + 1, M => if (grq M).length = 0 then M else gTurns B i (gTurn B M)
/-- how many turns are done -/
def gDone (B : gB) : Nat → gM → Nat
  | 0, _ => 0
  | i + 1, M => if (grq M).length = 0 then 0 else gDone B i (gTurn B M) + 1
def gTickN (t : Int32) : Nat → Nat → gM → gM
  | 0, _, M => M
  | i + 1, n, M => gTickN t i (n + 1) (if gf M n 4 = 1 ∧ gf M n 12 = t then (let M1 := gfS M n 12 (-1); grqS M1 (gAdd (grq M1) (Int32.ofNat n))) else M)
/-- how many of these wake -/
def gTickC (t : Int32) : Nat → Nat → gM → Nat
  | 0, _, _ => 0
  | i + 1, n, M => if gf M n 4 = 1 ∧ gf M n 12 = t then gTickC t i (n + 1) (let M1 := gfS M n 12 (-1); grqS M1 (gAdd (grq M1) (Int32.ofNat n))) + 1 else gTickC t i (n + 1) M
def gTick (M : gM) : gM := gTickN (gnow M + 1) (gcnt M).toNatClampNeg 0 (gnowS M (gnow M + 1))
def gWoken (M : gM) : Nat := gTickC (gnow M + 1) (gcnt M).toNatClampNeg 0 (gnowS M (gnow M + 1))
