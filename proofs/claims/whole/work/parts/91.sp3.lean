/-! the second mill on lists: values, orders, lines -/
section Sp3
def sgOf (k : Nat) (x : List Int) : Int := if k = 4 then x.getD 0 0 + (if x.length = 2 then x.getD 1 0 * 256 else 0) else 0
def strn (s : Int) : Int :=
  if s = 37 then 10 else if s = 38 then 5 else if s = 42 then 10 else if s = 43 then 9 else if s = 45 then 9 else if s = 47 then 10 else if s = 60 then 7 else if s = 62 then 7 else if s = 94 then 4 else if s = 124 then 3 else if s = 9766 then 2
  else if s = 15420 then 8 else if s = 15649 then 6 else if s = 15676 then 7 else if s = 15677 then 6 else if s = 15678 then 7 else if s = 15934 then 8 else if s = 31868 then 1 else if 65536 ≤ s then 11 else 0
def apA (s : Int) (v : Int64) : Int64 := if s = 45 then -v else if s = 126 then v ^^^ (-1 : Int64) else if lgI v (0 : Int64) = 0 then 1 else 0
def wk (s : Int) (a b : Int64) : Int64 :=
  if s = 37 then (if lgI b (0 : Int64) = 0 then 0 else a - a / b * b) else if s = 38 then a &&& b else if s = 42 then a * b else if s = 43 then a + b else if s = 45 then a - b else if s = 47 then (if lgI b (0 : Int64) = 0 then 0 else a / b)
  else if s = 60 then (if 0 ≤ lgI a b then 0 else 1) else if s = 62 then (if lgI a b ≤ 0 then 0 else 1) else if s = 94 then a ^^^ b else if s = 124 then a ||| b
  else if s = 9766 then (if lgI a (0 : Int64) = 0 then 0 else if lgI b (0 : Int64) = 0 then 0 else 1) else if s = 15420 then a <<< ((Int32.ofInt ((b &&& (63 : Int64)).toInt32.toInt)).toInt64 &&& 63) else if s = 15649 then (if lgI a b = 0 then 0 else 1)
  else if s = 15676 then (if 0 < lgI a b then 0 else 1) else if s = 15677 then (if lgI a b = 0 then 1 else 0) else if s = 15678 then (if lgI a b < 0 then 0 else 1) else if s = 15934 then a >>> ((Int32.ofInt ((b &&& (63 : Int64)).toInt32.toInt)).toInt64 &&& 63)
  else (if lgI a (0 : Int64) = 0 then (if lgI b (0 : Int64) = 0 then 0 else 1) else 1)
def spl (s : Int) (a b : Int64 × Bool) : Bool := a.2 || decide ((s = 47 ∨ s = 37) ∧ b.1 = 0) || (b.2 && !decide ((s = 9766 ∧ a.1 = 0) ∨ (s = 31868 ∧ a.1 ≠ 0)))
def apB (s : Int) (a b : Int64 × Bool) : Int64 × Bool := (wk s a.1 b.1, spl s a b)
abbrev VS : Type := List (Int64 × Bool)
def apd (st : Int) : List Int → VS → VS × List Int
  | [], vs => (vs, [])
  | s :: sg, vs => if st ≤ strn s then
      if 65536 ≤ s then match vs with
        | v :: r => apd st sg ((apA (s - 65536) v.1, v.2) :: r)
        | [] => (vs, s :: sg)
      else match vs with
        | b :: a :: r => apd st sg (apB s a b :: r)
        | _ => (vs, s :: sg)
    else (vs, s :: sg)
def numE : Int → List Int → Option Int
  | v, [] => some v
  | v, c :: t => if cD c = true ∧ v * 10 + (c - 48) ≤ 9223372036854775807 then numE (v * 10 + (c - 48)) t else none
def evE : Bool → VS → List Int → List (Nat × List Int) → Option Int64
  | true, _, _, [] => none
  | false, vs, sg, [] => match apd 1 sg vs with
    | ([(v, false)], []) => some v
    | _ => none
  | true, vs, sg, (k, x) :: r =>
    if k = 1 then evE false ((0, false) :: vs) sg r
    else if k = 2 then match numE 0 x with
      | none => none
      | some n => evE false ((Int64.ofInt n, false) :: vs) sg r
    else if sgOf k x = 45 ∨ sgOf k x = 33 ∨ sgOf k x = 126 then evE true vs ((sgOf k x + 65536) :: sg) r
    else if sgOf k x = 40 then evE true vs (40 :: sg) r
    else none
  | false, vs, sg, (k, x) :: r =>
    if sgOf k x = 41 then match apd 1 sg vs with
      | (_, []) => none
      | (vs', _ :: sg') => evE false vs' sg' r
    else if strn (sgOf k x) = 0 then none
    else evE true (apd (strn (sgOf k x)) sg vs).1 (sgOf k x :: (apd (strn (sgOf k x)) sg vs).2) r
/-! lines -/
/-- names, levels (the line around holds, it holds, it was turned; the innermost first), the result, replacements, characters made -/
abbrev S2 : Type := Nm × List (Bool × Bool × Bool) × List Int × Nat × Nat
def actv : List (Bool × Bool × Bool) → Bool
  | [] => true
  | (o, h, _) :: _ => o && h
def ltk (l : LnT) : Tk := (l.1, l.2.1, noH)
def sgAt (L : List LnT) (p : Nat) (c : Int) : Bool := match L[p]? with
  | some l => isSg (ltk l) c
  | none => false
def wdAt (L : List LnT) (p : Nat) : Bool := match L[p]? with
  | some l => decide (l.1 = 1)
  | none => false
def txAt (L : List LnT) (p : Nat) : List Int := match L[p]? with
  | some l => l.2.1
  | none => []
def stAt (L : List LnT) (p : Nat) : Nat := match L[p]? with
  | some l => l.2.2
  | none => 0
def isO (L : List LnT) (k : Nat) : Bool := wdAt L 1 && decide (txAt L 1 = strL k)
def outT : List Tk → List Int
  | [] => []
  | [t] => t.2.1 ++ [10]
  | t :: r => t.2.1 ++ 32 :: outT r
def xF : Nat := 6000
def rowT (nm : Nm) (rp md : Nat) (w : List Tk) : RT (List Tk) := if 100 < w.length then (1, rp, md, []) else expT nm xF 0 rp md w []
def isW (t : Tk) (k : Nat) : Bool := decide (t.1 = 1 ∧ t.2.1 = strL k)
def dgT (b : Bool) : Tk := (2, [if b = true then 49 else 48], noH)
def dfd (nm : Nm) : List Tk → List Tk
  | [] => []
  | [t] => [t]
  | [t, n] => if isW t 15 = true ∧ n.1 = 1 then [dgT (fnd nm n.2.1).isSome] else [t, n]
  | t :: n :: [m] => if isW t 15 = true ∧ n.1 = 1 then dgT (fnd nm n.2.1).isSome :: dfd nm [m] else t :: dfd nm (n :: [m])
  | t :: n :: m :: q :: r => if isW t 15 = true ∧ n.1 = 1 then dgT (fnd nm n.2.1).isSome :: dfd nm (m :: q :: r)
    else if isW t 15 = true ∧ isSg n 40 = true ∧ m.1 = 1 ∧ isSg q 41 = true then dgT (fnd nm m.2.1).isSome :: dfd nm r
    else t :: dfd nm (n :: m :: q :: r)
def prm : Nat → List (List Int) → List LnT → Option (List (List Int) × List LnT)
  | 0, _, _ => none
  | n + 1, ps, x :: c :: r => if x.1 = 1 ∧ x.2.1 ∉ ps then if isSg (ltk c) 41 = true then some (ps ++ [x.2.1], r) else if isSg (ltk c) 44 = true then prm n (ps ++ [x.2.1]) r else none else none
  | _ + 1, _, _ => none
/-- parameters, if there are brackets, and the body -/
def hdD (L : List LnT) : Option (Option (List (List Int)) × List LnT) :=
  if sgAt L 3 40 = true ∧ stAt L 3 = stAt L 2 + (txAt L 2).length then
    if sgAt L 4 41 = true then some (some [], L.drop 5) else (prm 3 [] (L.drop 4)).map fun q => (some q.1, q.2)
  else some (none, L.drop 3)
def setN (nm : Nm) (k : Nat) (v : Option NmD) : Nm := fun j => if j = k then v else nm j
def defL (L : List LnT) (s : S2) : S2 × Nat :=
  if wdAt L 2 = true then match hdD L with
    | none => (s, 6)
    | some (ps, b) => match (match fnd s.1 (txAt L 2) with | some k => some k | none => fre s.1) with
      | none => (s, 1)
      | some k => if 12 < b.length then (s, 1) else ((setN s.1 k (some (txAt L 2, ps, b.map fun l => (l.1, l.2.1))), s.2), 0)
  else (s, 6)
def undL (L : List LnT) (s : S2) : S2 × Nat :=
  if wdAt L 2 = true ∧ L.length = 3 then match fnd s.1 (txAt L 2) with
    | none => (s, 0)
    | some k => ((setN s.1 k none, s.2), 0)
  else (s, 6)
def ifL (L : List LnT) : S2 → S2 × Nat
  | (nm, lv, res, rp, md) =>
    if 6 ≤ lv.length then ((nm, lv, res, rp, md), 1)
    else if actv lv = true then
      let e := rowT nm rp md (dfd nm ((L.drop 2).map ltk))
      if e.1 ≠ 0 then ((nm, lv, res, e.2.1, e.2.2.1), e.1)
      else match evE true [] [] (e.2.2.2.map fun t => (t.1, t.2.1)) with
        | none => ((nm, lv, res, e.2.1, e.2.2.1), 9)
        | some v => ((nm, (true, decide (v ≠ 0), false) :: lv, res, e.2.1, e.2.2.1), 0)
    else ((nm, (false, false, false) :: lv, res, rp, md), 0)
def ifdL (how : Bool) (L : List LnT) : S2 → S2 × Nat
  | (nm, lv, res, rp, md) =>
    if actv lv = true ∧ ¬ (wdAt L 2 = true ∧ L.length = 3) then ((nm, lv, res, rp, md), 6)
    else if 6 ≤ lv.length then ((nm, lv, res, rp, md), 1)
    else ((nm, (actv lv, actv lv && ((fnd nm (txAt L 2)).isSome == how), false) :: lv, res, rp, md), 0)
def turL (L : List LnT) : S2 → S2 × Nat
  | (nm, lv, res, rp, md) =>
    if actv lv = true ∧ L.length ≠ 2 then ((nm, lv, res, rp, md), 6)
    else match lv with
      | [] => ((nm, lv, res, rp, md), 10)
      | (o, h, t) :: r => if t = true then ((nm, lv, res, rp, md), 10) else ((nm, (o, !h, true) :: r, res, rp, md), 0)
def endL (L : List LnT) : S2 → S2 × Nat
  | (nm, lv, res, rp, md) =>
    if actv lv = true ∧ L.length ≠ 2 then ((nm, lv, res, rp, md), 6)
    else match lv with
      | [] => ((nm, lv, res, rp, md), 10)
      | _ :: r => ((nm, r, res, rp, md), 0)
def ordL (L : List LnT) (s : S2) : S2 × Nat :=
  if isO L 9 = true then ifL L s
  else if isO L 4 = true then ifdL true L s
  else if isO L 10 = true then ifdL false L s
  else if isO L 11 = true then turL L s
  else if isO L 12 = true then endL L s
  else if isO L 1 = true ∧ actv s.2.1 = true then defL L s
  else if isO L 14 = true ∧ actv s.2.1 = true then undL L s
  else if actv s.2.1 = true ∧ 1 < L.length then (s, 6) else (s, 0)
def lineL (L : List LnT) : S2 → S2 × Nat
  | (nm, lv, res, rp, md) =>
    if sgAt L 0 35 = true then ordL L (nm, lv, res, rp, md)
    else if actv lv = true then
      let e := rowT nm rp md (L.map ltk)
      if e.1 ≠ 0 then ((nm, lv, res, e.2.1, e.2.2.1), e.1)
      else if 600 < (res ++ outT e.2.2.2).length then ((nm, lv, res, e.2.1, e.2.2.1), 1)
      else ((nm, lv, res ++ outT e.2.2.2, e.2.1, e.2.2.1), 0)
    else ((nm, lv, res, rp, md), 0)
def lns : Nat → List Int → List Int → List (Nat × List Int)
  | s, cu, [] => if cu = [] then [] else [(s, cu)]
  | s, cu, c :: t => if c = 10 then (s, cu) :: lns (s + cu.length + 1) [] t else lns s (cu ++ [c]) t
/-- the whole run: state, reason, the number of the last line -/
def run2 : List (Nat × List Int) → Int → S2 → S2 × Nat × Int
  | [], n, s => (s, if s.2.1 = [] then 0 else 10, n)
  | (p, x) :: r, n, s => if (lineL (cutL (x.length + 1) p x) s).2 = 0 then run2 r (n + 1) (lineL (cutL (x.length + 1) p x) s).1 else ((lineL (cutL (x.length + 1) p x) s).1, (lineL (cutL (x.length + 1) p x) s).2, n + 1)
end Sp3
