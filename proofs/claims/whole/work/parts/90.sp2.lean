/-! the second mill on lists -/
section Sp2
abbrev Hd : Type := Nat → Bool
/-- a token: its kind (0: none), its characters, the names that it hides -/
abbrev Tk : Type := Nat × List Int × Hd
def noH : Hd := fun _ => false
def nTk : Tk := (0, [], noH)
def prB (a b : Int) : Bool := if b = 61 then decide (a = 61 ∨ a = 33 ∨ a = 60 ∨ a = 62) else decide (a = b ∧ (a = 35 ∨ a = 38 ∨ a = 124 ∨ a = 60 ∨ a = 62))
def qIdx : List Int → Option Nat
  | [] => none
  | c :: t => if c = 34 then some 0 else (qIdx t).map (· + 1)
def sgn (l : List Int) : Nat := if 2 ≤ l.length ∧ prB (l.getD 0 0) (l.getD 1 0) = true then 2 else 1
/-- the token at the front of a row: kind, length -/
def scn (l : List Int) : Nat × Nat :=
  if 0 < (l.takeWhile cP).length then (if cD (l.getD 0 0) = true then 2 else 1, (l.takeWhile cP).length)
  else if l.getD 0 0 = 34 then match qIdx (l.drop 1) with
    | some k => (3, k + 2)
    | none => (4, sgn l)
  else (4, sgn l)
/-- a line's token: kind, characters, where it stands -/
abbrev LnT : Type := Nat × List Int × Nat
def cutL : Nat → Nat → List Int → List LnT
  | 0, _, _ => []
  | _ + 1, _, [] => []
  | f + 1, p, c :: t => if c = 32 then cutL f (p + 1) t else ((scn (c :: t)).1, (c :: t).take (scn (c :: t)).2, p) :: cutL f (p + (scn (c :: t)).2) ((c :: t).drop (scn (c :: t)).2)
def isSg (t : Tk) (c : Int) : Bool := decide (t.1 = 4 ∧ t.2.1 = [c])
def isJn (k : Nat) (x : List Int) : Bool := decide (k = 4 ∧ x = [35, 35])
/-- a name: its word, its parameters if it has brackets, its body -/
abbrev NmD : Type := List Int × Option (List (List Int)) × List (Nat × List Int)
abbrev Nm : Type := Nat → Option NmD
def isNm (nm : Nm) (x : List Int) (k : Nat) : Bool := match nm k with
  | some (w, _, _) => decide (w = x)
  | none => false
def fnd (nm : Nm) (x : List Int) : Option Nat := (List.range 8).find? (isNm nm x)
def fre (nm : Nm) : Option Nat := (List.range 8).find? fun k => (nm k).isNone
def pix (ps : List (List Int)) (x : List Int) : Option Nat := ps.findIdx? fun p => decide (p = x)
/-- the arguments behind a word, from the bracket on: so many open, the one that grows, those before -/
def cutA : Nat → List Tk → List (List Tk) → List Tk → Option (List (List Tk) × Tk × List Tk)
  | _, _, _, [] => none
  | o, cu, ar, t :: r =>
    if isSg t 40 = true then cutA (o + 1) (if o = 0 then cu else cu ++ [t]) ar r
    else if isSg t 41 = true then if o ≤ 1 then some (ar ++ [cu], t, r) else cutA (o - 1) (cu ++ [t]) ar r
    else if isSg t 44 = true ∧ o = 1 then cutA o [] (ar ++ [cu]) r
    else cutA o (cu ++ [t]) ar r
def arOk (ps : List (List Int)) (ar : List (List Tk)) : Bool := if ps = [] then decide (ar.length = 1 ∧ ar.getD 0 [] = []) else decide (ar.length = ps.length)
def stxT : List Tk → List Int
  | [] => []
  | [t] => t.2.1
  | t :: r => t.2.1 ++ 32 :: stxT r
def strK (a : List Tk) : List Int := 34 :: (stxT a ++ [34])
/-- reason, replacements, characters made, tokens -/
abbrev RT (α : Type) : Type := Nat × Nat × Nat × α
def orH (a b : Hd) : Hd := fun k => a k || b k
def anH (a b : Hd) : Hd := fun k => a k && b k
def joinT : Nat → Nat → List Tk → List (Tk × Bool) → RT (List Tk)
  | rp, md, acc, [] => (0, rp, md, acc)
  | rp, md, acc, (t, false) :: r => joinT rp md (acc ++ [t]) r
  | rp, md, acc, [(_, true)] => if 900 < md + (acc.getLastD nTk).2.1.length then (1, rp, md, acc)
      else if (acc.getLastD nTk).2.1 = [] then (0, rp, md, acc.dropLast ++ [nTk])
      else if (scn (acc.getLastD nTk).2.1).2 ≠ (acc.getLastD nTk).2.1.length ∨ (scn (acc.getLastD nTk).2.1).1 = 3 then (7, rp, md, acc)
      else (0, rp, md + (acc.getLastD nTk).2.1.length, acc.dropLast ++ [((scn (acc.getLastD nTk).2.1).1, (acc.getLastD nTk).2.1, noH)])
  | rp, md, acc, (_, true) :: (b, _) :: r => if 900 < md + ((acc.getLastD nTk).2.1 ++ b.2.1).length then (1, rp, md, acc)
      else if (acc.getLastD nTk).2.1 ++ b.2.1 = [] then joinT rp md (acc.dropLast ++ [nTk]) r
      else if (scn ((acc.getLastD nTk).2.1 ++ b.2.1)).2 ≠ ((acc.getLastD nTk).2.1 ++ b.2.1).length ∨ (scn ((acc.getLastD nTk).2.1 ++ b.2.1)).1 = 3 then (7, rp, md, acc)
      else joinT rp (md + ((acc.getLastD nTk).2.1 ++ b.2.1).length) (acc.dropLast ++ [((scn ((acc.getLastD nTk).2.1 ++ b.2.1)).1, (acc.getLastD nTk).2.1 ++ b.2.1, anH (acc.getLastD nTk).2.2 b.2.2)]) r
def hideT (hd : Hd) : List Tk → List Tk
  | [] => []
  | (k, x, g) :: r => if x = [] then hideT hd r else (k, x, orH g hd) :: hideT hd r
/-- a body's tokens with the arguments put in; X expands an argument -/
def subT (X : Nat → Nat → List Tk → RT (List Tk)) (ps : List (List Int)) (ar : List (List Tk)) : Bool → Nat → Nat → List (Tk × Bool) → List (Nat × List Int) → RT (List (Tk × Bool))
  | _, rp, md, acc, [] => (0, rp, md, acc)
  | pj, rp, md, acc, [(k, x)] => match pix ps x with
    | none => (0, rp, md, acc ++ [((k, x, noH), isJn k x)])
    | some j => if pj = true then (0, rp, md, acc ++ (if ar.getD j [] = [] then [(nTk, false)] else (ar.getD j []).map fun t => (t, false)))
      else if (X rp md (ar.getD j [])).1 = 0 then (0, (X rp md (ar.getD j [])).2.1, (X rp md (ar.getD j [])).2.2.1, acc ++ ((X rp md (ar.getD j [])).2.2.2).map fun t => (t, false)) else ((X rp md (ar.getD j [])).1, (X rp md (ar.getD j [])).2.1, (X rp md (ar.getD j [])).2.2.1, acc)
  | pj, rp, md, acc, (k, x) :: (k', x') :: r =>
    if k = 4 ∧ x = [35] ∧ (pix ps x').isSome = true then
      if 900 < md + (strK (ar.getD ((pix ps x').getD 0) [])).length then (1, rp, md, acc)
      else subT X ps ar false rp (md + (strK (ar.getD ((pix ps x').getD 0) [])).length) (acc ++ [((3, strK (ar.getD ((pix ps x').getD 0) []), noH), false)]) r
    else match pix ps x with
      | none => subT X ps ar (isJn k x) rp md (acc ++ [((k, x, noH), isJn k x)]) ((k', x') :: r)
      | some j => if pj = true ∨ isJn k' x' = true then subT X ps ar false rp md (acc ++ (if ar.getD j [] = [] then [(nTk, false)] else (ar.getD j []).map fun t => (t, false))) ((k', x') :: r)
        else if (X rp md (ar.getD j [])).1 = 0 then subT X ps ar false (X rp md (ar.getD j [])).2.1 (X rp md (ar.getD j [])).2.2.1 (acc ++ ((X rp md (ar.getD j [])).2.2.2).map fun t => (t, false)) ((k', x') :: r) else ((X rp md (ar.getD j [])).1, (X rp md (ar.getD j [])).2.1, (X rp md (ar.getD j [])).2.2.1, acc)
/-- a replacement: name k with these arguments, what it hides, what stands behind it; E goes on -/
def repT (X : Nat → Nat → List Tk → RT (List Tk)) (E : Nat → Nat → List Tk → RT (List Tk)) (k : Nat) (d : NmD) (hd : Hd) (ar : List (List Tk)) (rp md : Nat) (r dn : List Tk) : RT (List Tk) :=
  if 400 ≤ rp then (2, rp, md, dn)
  else let s := subT X (d.2.1.getD []) ar false (rp + 1) md [] d.2.2
    if s.1 ≠ 0 then (s.1, s.2.1, s.2.2.1, dn)
    else let j := joinT s.2.1 s.2.2.1 [] s.2.2.2
      if j.1 ≠ 0 then (j.1, j.2.1, j.2.2.1, dn)
      else let n := hideT (orH hd fun i => decide (i = k)) j.2.2.2
        if 100 < n.length + r.length then (1, j.2.1, j.2.2.1, dn) else E j.2.1 j.2.2.1 (n ++ r)
def expT (nm : Nm) : Nat → Nat → Nat → Nat → List Tk → List Tk → RT (List Tk)
  | 0, _, rp, md, _, dn => (99, rp, md, dn)
  | _ + 1, _, rp, md, [], dn => (0, rp, md, dn)
  | f + 1, d, rp, md, t :: r, dn =>
    let X := fun rp md (a : List Tk) => if 7 ≤ d ∨ 100 < a.length then (1, rp, md, []) else expT nm f (d + 1) rp md a []
    let E := fun rp md (w : List Tk) => expT nm f d rp md w dn
    let F := if 100 ≤ dn.length then (1, rp, md, dn) else expT nm f d rp md r (dn ++ [t])
    match (if t.1 = 1 then fnd nm t.2.1 else none) with
    | none => F
    | some k => match nm k with
      | none => F
      | some q => if t.2.2 k = true then F
        else match q.2.1 with
          | none => repT X E k q t.2.2 [] rp md r dn
          | some ps => match r with
            | [] => F
            | c :: _ => if isSg c 40 = true then match cutA 0 [] [] r with
                | none => (8, rp, md, dn)
                | some (ar, cl, r') => if arOk ps ar = true then repT X E k q (anH t.2.2 cl.2.2) ar rp md r' dn else (8, rp, md, dn)
              else F
end Sp2
