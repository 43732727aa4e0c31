/-! the first mill on lists -/
section Sp1
/-- a macro that is being collected: what, the earlier arguments, the one that grows, brackets open -/
abbrev Fm1 : Type := Int × List (List Int) × List Int × Nat
/-- input, output, macros (the latest first), definitions (the latest last), their words and texts -/
abbrev S1 : Type := List Int × List Int × List Fm1 × List Nat × (Nat → List Int) × (Nat → List Int)
def flat : List Fm1 → List Int
  | [] => []
  | (_, pv, cu, _) :: r => flat r ++ (pv.flatten ++ cu)
def idsF : List Fm1 → List Nat
  | [] => []
  | (w, _, _, _) :: r => if 0 ≤ w then w.toNat :: idsF r else idsF r
def put1 (l : List Int) : S1 → S1 × Nat
  | (i, o, [], ds, wd, tx) => ((i, (o ++ l).take 400, [], ds, wd, tx), if 400 < (o ++ l).length then 1 else 0)
  | (i, o, (w, pv, cu, op) :: r, ds, wd, tx) => ((i, o, (w, pv, cu ++ l, op) :: r, ds, wd, tx), if 200 < (flat ((w, pv, cu ++ l, op) :: r)).length then 1 else 0)
def qgo : Int → List Int → Option Nat
  | _, [] => none
  | d, c :: t => if (if c = 96 then d + 1 else if c = 39 then d - 1 else d) = 0 then some 1 else (qgo (if c = 96 then d + 1 else if c = 39 then d - 1 else d) t).map (· + 1)
def lat (wd : Nat → List Int) (w : List Int) (ds : List Nat) : Option Nat := ds.foldl (fun f i => if wd i = w then some i else f) none
def dgK : Nat → Int → List Int
  | 0, n => [48 + n % 10]
  | k + 1, n => (48 + n / 10 ^ (k + 1) % 10) :: dgK k n
def klN : Nat → Int → Nat
  | 0, _ => 0
  | k + 1, n => if n / 10 ^ (k + 1) = 0 then klN k n else k + 1
def numL (v : Int) : List Int := if v < 0 then 45 :: dgK (klN 9 (-v)) (-v) else dgK (klN 9 v) v
def isSb (c d : Int) : Bool := decide (c = 36) && (decide (d = 35) || cD d)
def sbT (w : List Int) (n : Nat) (a : List (List Int)) (d : Int) : List Int := if d = 35 then numL n else if d = 48 then w else a.getD (d - 49).toNat []
def brT (w : List Int) (n : Nat) (a : List (List Int)) : List Int → List Int
  | [] => []
  | [c] => [c]
  | c :: d :: t => if isSb c d = true then sbT w n a d ++ brT w n a t else c :: brT w n a (d :: t)
def dropLn : List Int → List Int
  | [] => []
  | c :: t => if c = 10 then t else dropLn t
def wordOk (w : List Int) : Bool := decide (1 ≤ w.length ∧ w.length ≤ 8) && cL (w.getD 0 0) && w.all cP
def quo (a : List Int) : List Int := 96 :: (a ++ [39])
def shfT : List (List Int) → List Int
  | [] => []
  | a :: t => 44 :: (quo a ++ shfT t)
def shf : List (List Int) → List Int
  | [] => []
  | a :: t => quo a ++ shfT t
def usedB (ds : List Nat) (r : List Fm1) (n : Nat) : Bool := decide (n ∈ ds ∨ n ∈ idsF r)
def nid (ds : List Nat) (r : List Fm1) : Nat → Nat → Nat
  | 0, n => n
  | f + 1, n => if usedB ds r n = true then nid ds r f (n + 1) else n
def updL (g : Nat → List Int) (i : Nat) (l : List Int) : Nat → List Int := fun j => if j = i then l else g j
def fin1 (i o : List Int) (r : List Fm1) (ds : List Nat) (wd tx : Nat → List Int) (c : List Int) : S1 × Nat :=
  if 500 < c.length + i.length then ((i, o, r, ds, wd, tx), 1) else ((c ++ i, o, r, ds, wd, tx), 0)
def def1 (known : Option Nat) (w t i o : List Int) (r : List Fm1) (ds : List Nat) (wd tx : Nat → List Int) : S1 × Nat :=
  if wordOk w = true then
    if 40 < t.length then ((i, o, r, ds, wd, tx), 1)
    else match known with
      | some k => fin1 i o r ds wd (updL tx k t) []
      | none => if 10 ≤ ds.length then ((i, o, r, ds, wd, tx), 1) else fin1 i o r (ds ++ [nid ds r 16 0]) (updL wd (nid ds r 16 0) w) (updL tx (nid ds r 16 0) t) []
  else fin1 i o r ds wd tx []
def numV : Int → List Int → Int
  | v, [] => v
  | v, c :: t => numV (v * 10 + c - 48) t
def inc1 (a i o : List Int) (r : List Fm1) (ds : List Nat) (wd tx : Nat → List Int) : S1 × Nat :=
  let m := decide (a.getD 0 0 = 45)
  let g := if m = true then a.drop 1 else a
  if 1 ≤ g.length ∧ g.length ≤ 9 ∧ g.all cD = true then fin1 i o r ds wd tx (numL ((if m = true then - numV 0 g else numV 0 g) + 1)) else ((i, o, r, ds, wd, tx), 5)
def call1 (i o : List Int) (w : Int) (a : List (List Int)) (r : List Fm1) (ds : List Nat) (wd tx : Nat → List Int) : S1 × Nat :=
  if 0 ≤ w then fin1 i o r ds wd tx (brT (wd w.toNat) a.length a (tx w.toNat))
  else if w = -2 then def1 (lat wd (a.getD 0 []) ds) (a.getD 0 []) (a.getD 1 []) i o r ds wd tx
  else if w = -3 then def1 none (a.getD 0 []) (a.getD 1 []) i o r ds wd tx
  else if w = -4 then fin1 i o r (ds.filter fun k => decide (some k ≠ lat wd (a.getD 0 []) ds)) wd tx []
  else if w = -5 then fin1 i o r ds wd tx (a.getD (if (lat wd (a.getD 0 []) ds).isSome = true then 1 else 2) [])
  else if w = -6 then fin1 i o r ds wd tx (a.getD (if a.getD 0 [] = a.getD 1 [] then 2 else 3) [])
  else if w = -7 then inc1 (a.getD 0 []) i o r ds wd tx
  else if w = -8 then fin1 i o r ds wd tx (numL (a.getD 0 []).length)
  else fin1 i o r ds wd tx (shf (a.drop 1))
def blt (w : List Int) : Option Int :=
  if w = strL 1 then some (-2) else if w = strL 2 then some (-3) else if w = strL 3 then some (-4) else if w = strL 4 then some (-5) else if w = strL 5 then some (-6)
  else if w = strL 6 then some (-7) else if w = strL 7 then some (-8) else if w = strL 8 then some (-9) else none
def col1 (i o : List Int) (fs : List Fm1) (ds : List Nat) (wd tx : Nat → List Int) (w : Int) : S1 × Nat :=
  if 6 ≤ fs.length then ((i, o, fs, ds, wd, tx), 1) else ((i, o, (w, [], [], 0) :: fs, ds, wd, tx), 0)
def wln (i : List Int) : Nat := (i.takeWhile cP).length
def brk (i : List Int) : Bool := decide (i.getD (wln i) 0 = 40)
def word1 (i o : List Int) (fs : List Fm1) (ds : List Nat) (wd tx : Nat → List Int) : S1 × Nat :=
  match lat wd (i.take (wln i)) ds with
  | some k => if brk i = true then col1 (i.drop (wln i + 1)) o fs ds wd tx k else fin1 (i.drop (wln i)) o fs ds wd tx (brT (wd k) 0 [] (tx k))
  | none => if i.take (wln i) = strL 0 then ((dropLn i, o, fs, ds, wd, tx), 0)
    else match (if brk i = true then blt (i.take (wln i)) else none) with
      | some w => col1 (i.drop (wln i + 1)) o fs ds wd tx w
      | none => put1 (i.take (wln i)) (i.drop (wln i), o, fs, ds, wd, tx)
def sing1 (c : Int) (t o : List Int) (ds : List Nat) (wd tx : Nat → List Int) : List Fm1 → S1 × Nat
  | [] => put1 [c] (t, o, [], ds, wd, tx)
  | (w, pv, cu, op) :: r =>
    if c = 41 ∧ op = 0 then call1 t o w (pv ++ [cu]) r ds wd tx
    else if c = 44 ∧ op = 0 then if 4 ≤ pv.length then ((t, o, (w, pv, cu, op) :: r, ds, wd, tx), 1) else ((t, o, (w, pv ++ [cu], [], op) :: r, ds, wd, tx), 0)
    else if (c = 10 ∨ c = 32) ∧ cu = [] then ((t, o, (w, pv, cu, op) :: r, ds, wd, tx), 0)
    else put1 [c] (t, o, (w, pv, cu, if c = 40 then op + 1 else if c = 41 then op - 1 else op) :: r, ds, wd, tx)
def piece1 : S1 → S1 × Nat
  | ([], o, fs, ds, wd, tx) => (([], o, fs, ds, wd, tx), 0)
  | (c :: t, o, fs, ds, wd, tx) =>
    if c = 96 then match qgo 1 t with
      | none => ((c :: t, o, fs, ds, wd, tx), 3)
      | some n => put1 (t.take (n - 1)) (t.drop n, o, fs, ds, wd, tx)
    else if cL c = true then word1 (c :: t) o fs ds wd tx
    else sing1 c t o ds wd tx fs
/-- the whole run: state, reason, pieces -/
def run1 : Nat → S1 → Nat → S1 × Nat × Nat
  | 0, s, p => if s.1 = [] then (s, if s.2.2.1 = [] then 0 else 4, p) else (s, 2, p)
  | f + 1, s, p => if s.1 = [] then (s, if s.2.2.1 = [] then 0 else 4, p) else if (piece1 s).2 = 0 then run1 f (piece1 s).1 (p + 1) else ((piece1 s).1, (piece1 s).2, p + 1)
end Sp1
