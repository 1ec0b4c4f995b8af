/-! THE RULES' text: the pieces of a pattern, as functions -/
/-- nodes, and of this rule: letters (letter, node), counts (from, to, node), anys (node) -/
abbrev yBp : Type := Nat × (Nat → yX) × List (Nat × Nat) × List (Nat × Option Nat × Nat) × List Nat
/-- what is left of the tape, where that begins, what was read -/
abbrev yQp : Type := List Nat × Nat × yBp
abbrev yIp : Type := yQp → Except Nat (Nat × yQp)
def pb_open (B : yBp) (kd nb : Nat) : yBp := (B.1 + 1, py_u B.2.1 B.1 (kd, nb, none, [], 0), B.2.2)
def pb_put (B : yBp) (A C : Nat) : yBp := (B.1, py_put B.2.1 A C, B.2.2)
def pb_skip (q : yQp) : yQp := ((py_sk q.1 q.2.1).1, (py_sk q.1 q.2.1).2, q.2.2)
/-- more of a kind, a sign before each -/
def pp_more (item : yIp) (sign n : Nat) : Nat → yIp
  | 0, q => .error q.2.1
  | fuel + 1, q => if (py_sk q.1 q.2.1).1.head? = some sign then (match item ((py_sk q.1 q.2.1).1.tail, (py_sk q.1 q.2.1).2 + 1, q.2.2) with
    | .error e => .error e
    | .ok x => pp_more item sign n fuel (x.2.1, x.2.2.1, pb_put x.2.2.2 n x.1)) else .ok (n, pb_skip q)
/-- some of a kind with a sign between; one alone stands for itself -/
def pp_join (item : yIp) (kd sign : Nat) : yIp := fun q => match item q with
  | .error e => .error e
  | .ok x => if (py_sk x.2.1 x.2.2.1).1.head? = some sign then pp_more item sign x.2.2.2.1 (x.2.1.length + 1) (x.2.1, x.2.2.1, pb_put (pb_open x.2.2.2 kd 0) x.2.2.2.1 x.1) else .ok (x.1, pb_skip x.2)
/-- a count's node around n, its two numbers are told later -/
def pb_cnt (B : yBp) (n : Nat) (f : Nat) (t : Option Nat) : yBp := (B.1 + 1, (fun k => if k = B.1 then (5, B.2.2.2.1.length, none, [n], (B.2.1 n).2.2.2.2 + 1) else if k = n then ((B.2.1 n).1, (B.2.1 n).2.1, some B.1, (B.2.1 n).2.2.2) else B.2.1 k), B.2.2.1, B.2.2.2.1 ++ [(f, t, B.1)], B.2.2.2.2)
def pp_unit (atom : yIp) : yIp := fun q => match atom q with
  | .error e => .error e
  | .ok x => match (py_sk x.2.1 x.2.2.1).1 with
    | [] => .ok (x.1, pb_skip x.2)
    | c :: r => if c = 63 ∨ c = 42 ∨ c = 43 ∨ c = 123 then (if (x.2.2.2.2.1 x.1).2.2.2.2 = 2 ∨ x.2.2.2.2.2.2.1.length = 8 then .error (py_sk x.2.1 x.2.2.1).2 else if c = 123 then (match pp_bnd r ((py_sk x.2.1 x.2.2.1).2 + 1) with
      | .error e => .error e
      | .ok y => .ok (x.2.2.2.1, y.2.2.1, y.2.2.2, pb_cnt x.2.2.2 x.1 y.1 y.2.1)) else .ok (x.2.2.2.1, r, (py_sk x.2.1 x.2.2.1).2 + 1, pb_cnt x.2.2.2 x.1 (if c = 43 then 1 else 0) (if c = 63 then some 1 else none))) else .ok (x.1, pb_skip x.2)
/-- the parts of an any: n its node, k how many there are -/
def pp_any (pat : yIp) (n : Nat) : Nat → Nat → yIp
  | 0, _, q => .error q.2.1
  | fuel + 1, k, q => match pat q with
    | .error e => .error e
    | .ok x => if (py_sk x.2.1 x.2.2.1).1.head? = some 38 ∧ k + 1 < 4 then pp_any pat n fuel (k + 1) ((py_sk x.2.1 x.2.2.1).1.tail, (py_sk x.2.1 x.2.2.1).2 + 1, pb_put x.2.2.2 n x.1) else if 2 ≤ k + 1 ∧ (py_sk x.2.1 x.2.2.1).1.head? = some 93 then .ok (n, (py_sk x.2.1 x.2.2.1).1.tail, (py_sk x.2.1 x.2.2.1).2 + 1, pb_put x.2.2.2 n x.1) else .error (py_sk x.2.1 x.2.2.1).2
def pp_atom (inner : Option yIp) : yIp := fun q => match (py_sk q.1 q.2.1).1 with
  | [] => .error (py_sk q.1 q.2.1).2
  | c :: r => if c = 48 then .ok (q.2.2.1, r, (py_sk q.1 q.2.1).2 + 1, pb_open q.2.2 1 0) else if 97 ≤ c ∧ c ≤ 122 then (if q.2.2.2.2.1.length < 16 then .ok (q.2.2.1, r, (py_sk q.1 q.2.1).2 + 1, ((pb_open q.2.2 0 q.2.2.2.2.1.length).1, (pb_open q.2.2 0 q.2.2.2.2.1.length).2.1, q.2.2.2.2.1 ++ [(c - 97, q.2.2.1)], q.2.2.2.2.2)) else .error (py_sk q.1 q.2.1).2) else match inner with
    | none => .error (py_sk q.1 q.2.1).2
    | some pat => if c = 40 then (match pat (r, (py_sk q.1 q.2.1).2 + 1, q.2.2) with
      | .error e => .error e
      | .ok x => match pp_sgn 41 x.2.1 x.2.2.1 with
        | .error e => .error e
        | .ok y => .ok (x.1, y.1, y.2, x.2.2.2)) else if c = 91 ∧ q.2.2.2.2.2.2.length < 4 then pp_any pat q.2.2.1 5 0 (r, (py_sk q.1 q.2.1).2 + 1, ((pb_open q.2.2 4 q.2.2.2.2.2.2.length).1, (pb_open q.2.2 4 q.2.2.2.2.2.2.length).2.1, q.2.2.2.2.1, q.2.2.2.2.2.1, q.2.2.2.2.2.2 ++ [q.2.2.1])) else .error (py_sk q.1 q.2.1).2
/-- a pattern within which m more brackets may stand -/
def pp_pat : Nat → yIp
  | 0 => pp_join (pp_join (pp_unit (pp_atom none)) 2 44) 3 124
  | m + 1 => pp_join (pp_join (pp_unit (pp_atom (some (pp_pat m)))) 2 44) 3 124
