/-! The mathematical state that both sides are tied to. -/
abbrev gT : Type := List Int32
/-- letters and the slash -/
def gLet (c : Int32) : Bool := (decide (nI 97 ≤ c) && decide (c ≤ nI 122)) || decide (c = nI 47)
def gWild (c : Int32) : Bool := decide (c = nI 42) || decide (c = nI 126)
/-- a path, from behind a slash (or at the start) on -/
def gPathFrom : Bool → gT → Bool
  | b, [] => !b
  | b, c :: l => gLet c && !(b && decide (c = nI 47)) && gPathFrom (decide (c = nI 47)) l
def gPath (l : gT) : Bool := decide (l.length ≤ 12) && gPathFrom true l
/-- a side of a mapping line -/
def gSide (l : gT) : Bool := decide (1 ≤ l.length) && decide (l.length ≤ 12) && l.all (fun c => gWild c || gLet c) && decide ((l.filter gWild).length ≤ 2)
/-- what stands before the first > , and behind it -/
def gBefore : gT → gT
  | [] => []
  | c :: l => if c = nI 62 then [] else c :: gBefore l
def gBehind : gT → Option gT
  | [] => none
  | c :: l => if c = nI 62 then some l else gBehind l
/-- a mapping line: does it shut out, LEFT, RIGHT -/
abbrev gLine : Type := Bool × gT × gT
def gLineOf (l : gT) : Option gLine :=
  match l with
  | [] => none
  | c :: r =>
    if c = nI 45 then (if gSide r then some (true, r, []) else none)
    else match gBehind (c :: r) with
      | none => none
      | some q => if gSide (gBefore (c :: r)) && gSide q && decide ((gBefore (c :: r)).filter gWild = q.filter gWild) then some (false, gBefore (c :: r), q) else none
/-- how long the rows are that the wildcards of LEFT stand for: the first way, the shortest rows tried first; fuel n bounds the row tried -/
def gTry (f : Nat → Option (List Nat)) : Nat → Nat → Option (List Nat)
  | 0, k => (f k).map (k :: ·)
  | n + 1, k => match f k with
    | some r => some (k :: r)
    | none => gTry f n (k + 1)
def gFit : gT → gT → Option (List Nat)
  | [], p => if p = [] then some [] else none
  | c :: l, p =>
    if gWild c then gTry (fun k => if c = nI 42 ∧ nI 47 ∈ p.take k then none else gFit l (p.drop k)) p.length 0
    else match p with
      | [] => none
      | x :: p' => if x = c then gFit l p' else none
/-- RIGHT with the rows in it; at: where in the path the next row begins is found from LEFT -/
def gRows : gT → gT → List Nat → List gT
  | [], _, _ => []
  | c :: l, p, ns => if gWild c then (match ns with
      | [] => []
      | n :: ns => p.take n :: gRows l (p.drop n) ns) else gRows l (p.drop 1) ns
def gLay : gT → List gT → gT
  | [], _ => []
  | c :: r, rows => if gWild c then (match rows with
      | [] => c :: gLay r []
      | w :: rows => w ++ gLay r rows) else c :: gLay r rows
/-- paths and lines: what stays -/
abbrev gCat : Type := List gT × List gLine
/-- the line that counts: of the slots 3, 2, 1, 0 of a client the first whose line fits; v holds the line's number + 1, 0 for none -/
def gSlot (cat : gCat) (p : gT) (v : Nat) : Option (gLine × List Nat) := match v with
  | 0 => none
  | n + 1 => match cat.2[n]? with
    | none => none
    | some ln => (gFit ln.2.1 p).map (fun ns => (ln, ns))
def gCount (cat : gCat) (view : Nat → Nat) (c : Nat) (p : gT) : Nat → Option (gLine × List Nat)
  | 0 => none
  | s + 1 => match gSlot cat p (view (4 * c + s)) with
    | some q => some q
    | none => gCount cat view c p s
/-- the client path of a file -/
def gPlace (cat : gCat) (view : Nat → Nat) (c f : Nat) : Option gT := match cat.1[f]? with
  | none => none
  | some p => match gCount cat view c p 4 with
    | none => none
    | some (ln, ns) => if ln.1 then none else some (gLay ln.2.2 (gRows ln.2.1 p ns))
def gShown (cat : gCat) (view : Nat → Nat) (c f : Nat) : Bool := (gPlace cat view c f).isSome && (List.range f).all (fun g => decide (gPlace cat view c g ≠ gPlace cat view c f))
/-- a revision: file, change, content, deleted, exclusive -/
abbrev gRev : Type := Nat × Nat × Int32 × Bool × Bool
/-- of an opened file: kind, list, base, exclusive, update owed (0: none), join owed, credit -/
abbrev gOpn : Type := Nat × Nat × Nat × Bool × Nat × Option (Nat × Nat) × Option (Nat × Nat × Bool)
/-- a file at a client: what it has, its content, whether it is opened -/
abbrev gWork : Type := Nat × Int32 × Option gOpn
/-- what a crash takes back: views, revisions, changes, joins, joined, works -/
abbrev gU : Type := (Nat → Nat) × List gRev × Nat × Nat × (Nat → Nat) × (Nat → gWork)
def gU0 : gU := (fun _ => 0, [], 0, 0, fun _ => 0, fun _ => (0, 0, none))
def gRevs (u : gU) (f : Nat) : List gRev := u.2.1.filter (fun r => decide (r.1 = f))
def gHead (u : gU) (f : Nat) : Nat := (gRevs u f).length
def gNth (u : gU) (f n : Nat) : Option gRev := if n = 0 then none else (gRevs u f)[n - 1]?
def gCont (u : gU) (f n : Nat) : Int32 := match gNth u f n with
  | none => 0
  | some r => r.2.2.1
def gGone (u : gU) (f : Nat) : Bool := match gNth u f (gHead u f) with
  | none => true
  | some r => r.2.2.2.1
def gExcl (u : gU) (f : Nat) : Bool := match gNth u f (gHead u f) with
  | none => false
  | some r => r.2.2.2.2
def gW (u : gU) (c f : Nat) : gWork := u.2.2.2.2.2 (12 * c + f)
def gSetW (u : gU) (c f : Nat) (w : gWork) : gU := (u.1, u.2.1, u.2.2.1, u.2.2.2.1, u.2.2.2.2.1, va_up u.2.2.2.2.2 (12 * c + f) w)
def gHind (u : gU) (c f : Nat) (alone : Bool) : Bool := (List.range 3).any (fun o => decide (o ≠ c) && (match (gW u o f).2.2 with
  | none => false
  | some q => alone || q.2.2.2.1 || gExcl u f))
def gSet (u : gU) (c s v : Nat) : gU := (va_up u.1 (4 * c + s) v, u.2)
def gOpen (u : gU) (c f kind list : Nat) (alone : Bool) : gU := gSetW u c f ((gW u c f).1, (if kind = 2 then (gW u c f).2.1 else 0), some (kind, list, (if kind = 1 then 0 else (gW u c f).1), alone, 0, none, none))
def gStore (u : gU) (c f : Nat) (x : Int32) : gU := gSetW u c f ((gW u c f).1, x, (gW u c f).2.2)
def gReopen (u : gU) (c f list : Nat) : gU := gSetW u c f ((gW u c f).1, (gW u c f).2.1, (gW u c f).2.2.map (fun q => (q.1, list, q.2.2)))
def gRevert (u : gU) (c f : Nat) : gU := gSetW u c f ((gW u c f).1, gCont u f (gW u c f).1, none)
/-- the last revision of which p holds, with its number -/
def gLastBy (p : gRev → Bool) : List gRev → Nat → Option (Nat × gRev)
  | [], _ => none
  | r :: l, n => match gLastBy p l (n + 1) with
    | some q => some q
    | none => if p r then some (n + 1, r) else none
def gWanted (cat : gCat) (u : gU) (c f : Nat) (x : Int32) : Nat := if gShown cat u.1 c f then (match gLastBy (fun r => decide (x < 0) || decide (nI r.2.1 ≤ x)) (gRevs u f) 0 with
  | none => 0
  | some (n, r) => if r.2.2.2.1 then 0 else n) else 0
/-- sync brings a file: does it change anything, and what -/
def gBring1 (cat : gCat) (u : gU) (c f : Nat) (x : Int32) : Option gU :=
  match (gW u c f).2.2 with
  | none => if (gW u c f).1 = gWanted cat u c f x then none else some (gSetW u c f (gWanted cat u c f x, gCont u f (gWanted cat u c f x), none))
  | some q => if q.1 = 2 ∧ q.2.2.1 < gWanted cat u c f x ∧ q.2.2.2.2.1 ≠ gWanted cat u c f x then some (gSetW u c f ((gW u c f).1, (gW u c f).2.1, some (q.1, q.2.1, q.2.2.1, q.2.2.2.1, gWanted cat u c f x, q.2.2.2.2.2))) else none
def gBring (cat : gCat) (u : gU) (c : Nat) (x : Int32) : Nat → gU × Nat
  | 0 => (u, 0)
  | n + 1 => match gBring1 cat (gBring cat u c x n).1 c n x with
    | none => gBring cat u c x n
    | some u' => (u', (gBring cat u c x n).2 + 1)
def gJoin (u : gU) (c frm to list : Nat) : gU × Nat :=
  match (gW u c to).2.2 with
  | none => if gGone u to then (gSetW u c to ((gW u c to).1, gCont u frm (gHead u frm), some (1, list, 0, gExcl u frm, 0, none, some (frm, gHead u frm, true))), 1)
    else (gSetW u c to ((gW u c to).1, (gW u c to).2.1, some (2, list, (gW u c to).1, false, 0, some (frm, gHead u frm), none)), 2)
  | some q => (gSetW u c to ((gW u c to).1, (gW u c to).2.1, some (q.1, q.2.1, q.2.2.1, q.2.2.2.1, q.2.2.2.2.1, some (frm, gHead u frm), q.2.2.2.2.2.2)), 2)
/-- digit k of a content -/
def gDg (x : Int32) (k : Nat) : Int32 := (x.toUInt32 >>> ((nI (4 * k)).toUInt32 &&& Int32.toUInt32 31)).toInt32 &&& nI 15
/-- digit k of a merge; -1 where the contents clash -/
def gDigit (y t b : Int32) (k : Nat) : Int32 := if gDg t k = gDg b k ∨ gDg t k = gDg y k then gDg y k else if gDg y k = gDg b k then gDg t k else - nI 1
def gClash (y t b : Int32) : Bool := (List.range 8).any (fun k => decide (gDigit y t b k < 0))
def gMerg (y t b : Int32) : Nat → Int32
  | 0 => nI 0
  | k + 1 => gMerg y t b k ||| gDigit y t b k <<< (nI (4 * k) &&& 31)
def gMerge (y t b : Int32) : Int32 := gMerg y t b 8
def gTheirs (u : gU) (f : Nat) (q : gOpn) : Int32 := if q.2.2.2.2.1 ≠ 0 then gCont u f q.2.2.2.2.1 else (match q.2.2.2.2.2.1 with
  | none => 0
  | some (frm, n) => gCont u frm n)
def gBase (u : gU) (f : Nat) (q : gOpn) : Int32 := if q.2.2.2.2.1 ≠ 0 then gCont u f q.2.2.1 else (match q.2.2.2.2.2.1 with
  | none => 0
  | some (frm, _) => gCont u frm (u.2.2.2.2.1 (12 * frm + f)))
def gSettle (u : gU) (c f how : Nat) (q : gOpn) : gU :=
  gSetW u c f ((if q.2.2.2.2.1 ≠ 0 then q.2.2.2.2.1 else (gW u c f).1), (if how = 0 then gMerge (gW u c f).2.1 (gTheirs u f q) (gBase u f q) else if how = 1 then gTheirs u f q else (gW u c f).2.1),
    some (if q.2.2.2.2.1 ≠ 0 then (q.1, q.2.1, q.2.2.2.2.1, q.2.2.2.1, 0, q.2.2.2.2.2) else (q.1, q.2.1, q.2.2.1, q.2.2.2.1, 0, none, q.2.2.2.2.2.1.map (fun z => (z.1, z.2, decide (how = 1))))))
def gResolve (u : gU) (c f how : Nat) : gU := match (gW u c f).2.2 with
  | none => u
  | some q => gSettle u c f how q
/-- a file goes in -/
def gRaise (j : Nat → Nat) (k n : Nat) : Nat → Nat := va_up j k (max (j k) n)
def gEnter (u : gU) (c f : Nat) (q : gOpn) : gU :=
  (u.1, u.2.1 ++ [(f, u.2.2.1, (if q.1 = 3 then 0 else (gW u c f).2.1), decide (q.1 = 3), (if q.1 = 1 then q.2.2.2.1 else gExcl u f))], u.2.2.1,
    (match q.2.2.2.2.2.2 with
      | none => u.2.2.2.1
      | some _ => u.2.2.2.1 + 1),
    (match q.2.2.2.2.2.2 with
      | none => u.2.2.2.2.1
      | some (frm, n, cp) => if cp then gRaise (gRaise u.2.2.2.2.1 (12 * frm + f) n) (12 * f + frm) (gHead u f + 1) else gRaise u.2.2.2.2.1 (12 * frm + f) n),
    va_up u.2.2.2.2.2 (12 * c + f) ((if q.1 = 3 then 0 else gHead u f + 1), (gW u c f).2.1, none))
def gSub (u : gU) (c list : Nat) : Nat → gU
  | 0 => u
  | n + 1 => match (gW (gSub u c list n) c n).2.2 with
    | none => gSub u c list n
    | some q => if q.2.1 = list then gEnter (gSub u c list n) c n q else gSub u c list n
def gSubmit (u : gU) (c list files : Nat) : gU := gSub (u.1, u.2.1, u.2.2.1 + 1, u.2.2.2) c list files
