/-! AN EVALUATOR of the bytecode over a typed memory: values, memory, one step; tables as an argument. -/
/-- a value: an int, a long, a reference (its static kind, null or the number of its cell) -/
abbrev zV : Type := Int32 ⊕ (Int64 ⊕ (Nat × Option Nat))
/-- memory: cells, slots, kind of each cell (0: none), lengths, ints, references, longs -/
abbrev zM : Type := Nat × Nat × (Nat → Nat) × (Nat → Nat → Nat) × (Nat → Nat → Nat → Int32) × (Nat → Nat → Nat → Option Nat) × (Nat → Nat → Nat → Int64)
def zm_n (M : zM) : Nat := M.1
def zm_s (M : zM) : Nat := M.2.1
def zm_K (M : zM) : Nat → Nat := M.2.2.1
def zm_L (M : zM) : Nat → Nat → Nat := M.2.2.2.1
def zm_I (M : zM) : Nat → Nat → Nat → Int32 := M.2.2.2.2.1
def zm_R (M : zM) : Nat → Nat → Nat → Option Nat := M.2.2.2.2.2.1
def zm_J (M : zM) : Nat → Nat → Nat → Int64 := M.2.2.2.2.2.2
def zm_setI (M : zM) (t k j : Nat) (v : Int32) : zM := (M.1, M.2.1, M.2.2.1, M.2.2.2.1, (fun t' k' j' => if t' = t ∧ k' = k ∧ j' = j then v else zm_I M t' k' j'), M.2.2.2.2.2.1, M.2.2.2.2.2.2)
def zm_setR (M : zM) (t k j : Nat) (v : Option Nat) : zM := (M.1, M.2.1, M.2.2.1, M.2.2.2.1, M.2.2.2.2.1, (fun t' k' j' => if t' = t ∧ k' = k ∧ j' = j then v else zm_R M t' k' j'), M.2.2.2.2.2.2)
def zm_setJ (M : zM) (t k j : Nat) (v : Int64) : zM := (M.1, M.2.1, M.2.2.1, M.2.2.2.1, M.2.2.2.2.1, M.2.2.2.2.2.1, (fun t' k' j' => if t' = t ∧ k' = k ∧ j' = j then v else zm_J M t' k' j'))
def zm_copy (M : zM) (t k : Nat) (f : Nat → Int32) : zM := (M.1, M.2.1, M.2.2.1, M.2.2.2.1, (fun t' k' j' => if t' = t ∧ k' = k then f j' else zm_I M t' k' j'), M.2.2.2.2.2.1, M.2.2.2.2.2.2)
/-- a new cell of kind t, its length (or 0), its slots -/
def zm_new (M : zM) (t len sl : Nat) : zM := (M.1 + 1, M.2.1 + sl, (fun k => if k = M.1 then t + 1 else zm_K M k), (fun t' k => if t' = t ∧ k = M.1 then len else zm_L M t' k), (fun t' k j => if t' = t ∧ k = M.1 then 0 else zm_I M t' k j), (fun t' k j => if t' = t ∧ k = M.1 then none else zm_R M t' k j), (fun t' k j => if t' = t ∧ k = M.1 then 0 else zm_J M t' k j))
def zc (v : zV) : Nat := match v with
  | .inr (.inl _) => 2
  | _ => 1
def zc_sum (st : List zV) : Nat := match st with
  | [] => 0
  | v :: r => zc v + zc_sum r
def zl_get (ls : List (Nat × zV)) (i : Nat) : Option zV := match ls with
  | [] => none
  | q :: r => bif Nat.beq q.1 i then some q.2 else zl_get r i
def zl_st (i : Nat) (v : zV) (ls : List (Nat × zV)) : List (Nat × zV) := (i, v) :: ls.filter (fun q => !(Nat.beq q.1 i) && !(Nat.beq (q.1 + 1) i && Nat.beq (zc q.2) 2))
def zl_st2 (i : Nat) (v : zV) (ls : List (Nat × zV)) : List (Nat × zV) := (i, v) :: ls.filter (fun q => !(Nat.beq q.1 i) && (!(Nat.beq q.1 (i + 1)) && !(Nat.beq (q.1 + 1) i && Nat.beq (zc q.2) 2)))
def zl_args (i : Nat) (vs : List zV) : List (Nat × zV) := match vs with
  | [] => []
  | v :: r => (i, v) :: zl_args (i + zc v) r
/-- in range -/
abbrev z_in (i : Int32) (n : Nat) : Prop := ¬ (i < 0 ∨ n ≤ i.toNatClampNeg)
/-- the program: code (instruction, length, a note), fields read, fields written (kind, place, what: 0 int, 1 boolean, f+2 a reference of kind f), calls (way, callee, parameters, receiver's kind), new, anewarray, constants (kind, text, int, long), what a method returns, its locals, elements of arrays of references, methods from outside -/
abbrev zT : Type := (Nat → Nat → Option (Instr × Nat × Nat)) × (Nat → Nat → Option (Nat × Nat × Nat)) × (Nat → Nat → Option (Nat × Nat × Nat)) × (Nat → Nat → Option (Nat × Nat × Nat × Nat)) × (Nat → Nat → Option (Nat × Nat)) × (Nat → Nat → Option Nat) × (Nat → Nat → Option (Nat × Nat × Int32 × Int64)) × (Nat → Nat) × (Nat → Nat) × (Nat → Nat) × (Nat → List zV → Option Int32)
def zt_code (T : zT) : Nat → Nat → Option (Instr × Nat × Nat) := T.1
def zt_fld (T : zT) : Nat → Nat → Option (Nat × Nat × Nat) := T.2.1
def zt_pfl (T : zT) : Nat → Nat → Option (Nat × Nat × Nat) := T.2.2.1
def zt_cal (T : zT) : Nat → Nat → Option (Nat × Nat × Nat × Nat) := T.2.2.2.1
def zt_neu (T : zT) : Nat → Nat → Option (Nat × Nat) := T.2.2.2.2.1
def zt_anw (T : zT) : Nat → Nat → Option Nat := T.2.2.2.2.2.1
def zt_con (T : zT) : Nat → Nat → Option (Nat × Nat × Int32 × Int64) := T.2.2.2.2.2.2.1
def zt_ret (T : zT) : Nat → Nat := T.2.2.2.2.2.2.2.1
def zt_nL (T : zT) : Nat → Nat := T.2.2.2.2.2.2.2.2.1
def zt_elt (T : zT) : Nat → Nat := T.2.2.2.2.2.2.2.2.2.1
def zt_ext (T : zT) : Nat → List zV → Option Int32 := T.2.2.2.2.2.2.2.2.2.2
/-- what touches locals and stack alone, and goes on behind itself: its length, locals, stack -/
def ez_pure (note nL : Nat) (i : Instr) (ls : List (Nat × zV)) (st : List zV) : Option (Nat × List (Nat × zV) × List zV) := match i with
  | .iconst n => some (1, ls, .inl (Int32.ofInt n) :: st)
  | .bipush n => some (2, ls, .inl (Int8.ofInt n).toInt32 :: st)
  | .sipush n => some (3, ls, .inl (Int16.ofInt n).toInt32 :: st)
  | .lconst n => some (1, ls, .inr (.inl (Int64.ofNat (n : Nat))) :: st)
  | .aconst_null => some (1, ls, .inr (.inr (note, none)) :: st)
  | .iload k => match zl_get ls k with
    | some (.inl x) => some (2, ls, .inl x :: st)
    | _ => none
  | .iload_n k => match zl_get ls (k : Nat) with
    | some (.inl x) => some (1, ls, .inl x :: st)
    | _ => none
  | .lload k => match zl_get ls k with
    | some (.inr (.inl x)) => some (2, ls, .inr (.inl x) :: st)
    | _ => none
  | .lload_n k => match zl_get ls (k : Nat) with
    | some (.inr (.inl x)) => some (1, ls, .inr (.inl x) :: st)
    | _ => none
  | .aload k => match zl_get ls k with
    | some (.inr (.inr x)) => some (2, ls, .inr (.inr x) :: st)
    | _ => none
  | .aload_n k => match zl_get ls (k : Nat) with
    | some (.inr (.inr x)) => some (1, ls, .inr (.inr x) :: st)
    | _ => none
  | .istore k => match st with
    | .inl x :: r => bif Nat.blt k nL then some (2, zl_st k (.inl x) ls, r) else none
    | _ => none
  | .istore_n k => match st with
    | .inl x :: r => bif Nat.blt (k : Nat) nL then some (1, zl_st (k : Nat) (.inl x) ls, r) else none
    | _ => none
  | .lstore k => match st with
    | .inr (.inl x) :: r => bif Nat.blt (k + 1) nL then some (2, zl_st2 k (.inr (.inl x)) ls, r) else none
    | _ => none
  | .lstore_n k => match st with
    | .inr (.inl x) :: r => bif Nat.blt ((k : Nat) + 1) nL then some (1, zl_st2 (k : Nat) (.inr (.inl x)) ls, r) else none
    | _ => none
  | .astore k => match st with
    | .inr (.inr x) :: r => bif Nat.blt k nL then some (2, zl_st k (.inr (.inr x)) ls, r) else none
    | _ => none
  | .astore_n k => match st with
    | .inr (.inr x) :: r => bif Nat.blt (k : Nat) nL then some (1, zl_st (k : Nat) (.inr (.inr x)) ls, r) else none
    | _ => none
  | .iinc k n => match zl_get ls k with
    | some (.inl x) => bif Nat.blt k nL then some (3, zl_st k (.inl (x + Int32.ofInt n)) ls, st) else none
    | _ => none
  | .iadd => match st with
    | .inl y :: .inl x :: r => some (1, ls, .inl (x + y) :: r)
    | _ => none
  | .isub => match st with
    | .inl y :: .inl x :: r => some (1, ls, .inl (x - y) :: r)
    | _ => none
  | .imul => match st with
    | .inl y :: .inl x :: r => some (1, ls, .inl (x * y) :: r)
    | _ => none
  | .idiv => match st with
    | .inl y :: .inl x :: r => if y = 0 then none else some (1, ls, .inl (x / y) :: r)
    | _ => none
  | .irem => match st with
    | .inl y :: .inl x :: r => if y = 0 then none else some (1, ls, .inl (x - x / y * y) :: r)
    | _ => none
  | .iand => match st with
    | .inl y :: .inl x :: r => some (1, ls, .inl (x &&& y) :: r)
    | _ => none
  | .ior => match st with
    | .inl y :: .inl x :: r => some (1, ls, .inl (x ||| y) :: r)
    | _ => none
  | .ixor => match st with
    | .inl y :: .inl x :: r => some (1, ls, .inl (x ^^^ y) :: r)
    | _ => none
  | .ishl => match st with
    | .inl y :: .inl x :: r => some (1, ls, .inl (x <<< (y &&& 31)) :: r)
    | _ => none
  | .ishr => match st with
    | .inl y :: .inl x :: r => some (1, ls, .inl (x >>> (y &&& 31)) :: r)
    | _ => none
  | .iushr => match st with
    | .inl y :: .inl x :: r => some (1, ls, .inl (x.toUInt32 >>> (y.toUInt32 &&& Int32.toUInt32 31)).toInt32 :: r)
    | _ => none
  | .land => match st with
    | .inr (.inl y) :: .inr (.inl x) :: r => some (1, ls, .inr (.inl (x &&& y)) :: r)
    | _ => none
  | .lor => match st with
    | .inr (.inl y) :: .inr (.inl x) :: r => some (1, ls, .inr (.inl (x ||| y)) :: r)
    | _ => none
  | .lxor => match st with
    | .inr (.inl y) :: .inr (.inl x) :: r => some (1, ls, .inr (.inl (x ^^^ y)) :: r)
    | _ => none
  | .lshl => match st with
    | .inl y :: .inr (.inl x) :: r => some (1, ls, .inr (.inl (x <<< (y.toInt64 &&& 63))) :: r)
    | _ => none
  | .lshr => match st with
    | .inl y :: .inr (.inl x) :: r => some (1, ls, .inr (.inl (x >>> (y.toInt64 &&& 63))) :: r)
    | _ => none
  | .lcmp => match st with
    | .inr (.inl y) :: .inr (.inl x) :: r => some (1, ls, .inl (lg_cmp x y) :: r)
    | _ => none
  | .i2l => match st with
    | .inl x :: r => some (1, ls, .inr (.inl x.toInt64) :: r)
    | _ => none
  | .l2i => match st with
    | .inr (.inl x) :: r => some (1, ls, .inl x.toInt32 :: r)
    | _ => none
  | .i2b => match st with
    | .inl x :: r => some (1, ls, .inl x.toInt8.toInt32 :: r)
    | _ => none
  | .dup => match st with
    | .inl x :: r => some (1, ls, .inl x :: .inl x :: r)
    | .inr (.inr x) :: r => some (1, ls, .inr (.inr x) :: .inr (.inr x) :: r)
    | _ => none
  | .dup2 => match st with
    | .inl x :: .inr (.inr y) :: r => some (1, ls, .inl x :: .inr (.inr y) :: .inl x :: .inr (.inr y) :: r)
    | _ => none
  | .pop => match st with
    | .inl _ :: r => some (1, ls, r)
    | .inr (.inr _) :: r => some (1, ls, r)
    | _ => none
  | _ => none
/-- a jump by an offset -/
def ez_jmp {α : Type} (pc : Nat) (off : Int) (k : Nat → Option α) : Option α := match (pc : Int) + off with
  | .ofNat t => k t
  | .negSucc _ => none
def ez_if {α : Type} (c : ClassFile.Cond) (x y : Int32) (j n : Option α) : Option α := match c with
  | .eq => if x = y then j else n
  | .ne => if x = y then n else j
  | .lt => if x < y then j else n
  | .ge => if y ≤ x then j else n
  | .gt => if y < x then j else n
  | .le => if x ≤ y then j else n
def ez_tab {α : Type} (pc : Nat) (lo : Nat) (offs : List Int) (x : Int32) (dflt : Int) (k : Nat → Option α) : Option α := match offs with
  | [] => ez_jmp pc dflt k
  | o :: r => if x = Int32.ofNat lo then ez_jmp pc o k else ez_tab pc (lo + 1) r x dflt k
def ez_fv (fk : Nat) (M : zM) (t k j : Nat) : zV := match fk with
  | 0 => .inl (zm_I M t k j)
  | 1 => .inl (zm_I M t k j)
  | f + 2 => .inr (.inr (f, zm_R M t k j))
def ez_put (fk : Nat) (v : zV) (M : zM) (t k j : Nat) : Option zM := match fk, v with
  | 0, .inl x => some (zm_setI M t k j x)
  | 1, .inl x => if x = 0 ∨ x = 1 then some (zm_setI M t k j x) else none
  | f + 2, .inr (.inr (f', y)) => bif Nat.beq f f' then some (zm_setR M t k j y) else none
  | _, _ => none
/-- not the script -/
def z_no (v : zV) : Bool := match v with
  | .inr (.inr (t, _)) => Nat.blt t 30 || Nat.beq t 91
  | _ => true
/-- a callee's locals have room for its arguments, the script isn't among them -/
def ez_fit (n : Nat) (as : List zV) : Bool := Nat.ble (zc_sum as) n && as.all z_no
def ez_inv {α : Type} (T : zT) (call : Nat → Nat → List (Nat × zV) → zM → Option (Option zV × zM)) (next : Nat → List (Nat × zV) → List zV → zM → Option α) (d mid pc : Nat) (ls : List (Nat × zV)) (callee : Nat) (as rest : List zV) (M : zM) : Option α :=
  bif ez_fit (zt_nL T callee) as && Nat.ble (zc_sum rest) 8 then match d with
    | 0 => none
    | d' + 1 => match call d' callee (zl_args 0 as) M with
      | none => none
      | some (none, M') => next (pc + 3) ls rest M'
      | some (some v, M') => next (pc + 3) ls (v :: rest) M'
  else none
def ez_ext {α : Type} (T : zT) (next : Nat → List (Nat × zV) → List zV → zM → Option α) (pc : Nat) (ls : List (Nat × zV)) (callee : Nat) (as rest : List zV) (M : zM) : Option α :=
  bif Nat.ble (zc_sum rest) 8 && as.all z_no then match zt_ext T callee as with
    | some v => next (pc + 3) ls (.inl v :: rest) M
    | none => none
  else none
/-- everything else -/
def ez_rest {α : Type} (T : zT) (call : Nat → Nat → List (Nat × zV) → zM → Option (Option zV × zM)) (next : Nat → List (Nat × zV) → List zV → zM → Option α) (ret : Option zV → zM → Option α) (d mid pc : Nat) (i : Instr) (len note : Nat) (ls : List (Nat × zV)) (st : List zV) (M : zM) : Option α := match i with
  | .goto off => bif Nat.beq len 3 then ez_jmp pc off (fun t => next t ls st M) else none
  | .ifCond c off => bif Nat.beq len 3 then match st with
      | .inl x :: r => ez_jmp pc off (fun t => ez_if c x 0 (next t ls r M) (next (pc + 3) ls r M))
      | _ => none
    else none
  | .if_icmp c off => bif Nat.beq len 3 then match st with
      | .inl y :: .inl x :: r => ez_jmp pc off (fun t => ez_if c x y (next t ls r M) (next (pc + 3) ls r M))
      | _ => none
    else none
  | .ifnull off => bif Nat.beq len 3 then match st with
      | .inr (.inr (_, none)) :: r => ez_jmp pc off (fun t => next t ls r M)
      | .inr (.inr (_, some _)) :: r => next (pc + 3) ls r M
      | _ => none
    else none
  | .ifnonnull off => bif Nat.beq len 3 then match st with
      | .inr (.inr (_, none)) :: r => next (pc + 3) ls r M
      | .inr (.inr (_, some _)) :: r => ez_jmp pc off (fun t => next t ls r M)
      | _ => none
    else none
  | .if_acmp c off => bif Nat.beq len 3 then match st with
      | .inr (.inr (t, y)) :: .inr (.inr (t', x)) :: r => bif Nat.beq t t' && Nat.blt t 30 then match c with
          | .eq => ez_jmp pc off (fun t => if x = y then next t ls r M else next (pc + 3) ls r M)
          | .ne => ez_jmp pc off (fun t => if x = y then next (pc + 3) ls r M else next t ls r M)
        else none
      | _ => none
    else none
  | .tableswitch dflt lo hi offs => match st with
      | .inl x :: r => match lo with
        | .ofNat l => bif decide (hi + 1 = (l : Int) + (offs.size : Nat)) && Nat.ble (l + offs.size) 1000 then ez_tab pc l offs.toList x dflt (fun t => next t ls r M) else none
        | .negSucc _ => none
      | _ => none
  | .getfield idx => bif Nat.beq len 3 then match zt_fld T mid idx with
      | none => none
      | some (t, j, fk) => match st with
        | .inr (.inr (t', some k)) :: r => bif Nat.beq t t' then next (pc + 3) ls (ez_fv fk M t k j :: r) M else none
        | _ => none
    else none
  | .putfield idx => bif Nat.beq len 3 then match zt_pfl T mid idx with
      | none => none
      | some (t, j, fk) => match st with
        | v :: .inr (.inr (t', some k)) :: r => bif Nat.beq t t' then match ez_put fk v M t k j with
            | some M' => next (pc + 3) ls r M'
            | none => none
          else none
        | _ => none
    else none
  | .iaload => bif Nat.beq len 1 then match st with
      | .inl x :: .inr (.inr (t, some k)) :: r => bif Nat.beq t 20 || Nat.beq t 21 || Nat.beq t 90 then (if z_in x (zm_L M t k) then next (pc + 1) ls (.inl (zm_I M t k x.toNatClampNeg) :: r) M else none) else none
      | _ => none
    else none
  | .baload => bif Nat.beq len 1 then match st with
      | .inl x :: .inr (.inr (t, some k)) :: r => bif Nat.beq t 22 then (if z_in x (zm_L M t k) then next (pc + 1) ls (.inl (zm_I M t k x.toNatClampNeg) :: r) M else none) else none
      | _ => none
    else none
  | .laload => bif Nat.beq len 1 then match st with
      | .inl x :: .inr (.inr (t, some k)) :: r => bif Nat.beq t 23 then (if z_in x (zm_L M t k) then next (pc + 1) ls (.inr (.inl (zm_J M t k x.toNatClampNeg)) :: r) M else none) else none
      | _ => none
    else none
  | .aaload => bif Nat.beq len 1 then match st with
      | .inl x :: .inr (.inr (t, some k)) :: r => bif Nat.beq t 24 || Nat.beq t 25 then (if z_in x (zm_L M t k) then next (pc + 1) ls (.inr (.inr (zt_elt T t, zm_R M t k x.toNatClampNeg)) :: r) M else none) else none
      | _ => none
    else none
  | .iastore => bif Nat.beq len 1 then match st with
      | .inl v :: .inl x :: .inr (.inr (t, some k)) :: r => bif Nat.beq t 20 || Nat.beq t 21 then (if z_in x (zm_L M t k) then next (pc + 1) ls r (zm_setI M t k x.toNatClampNeg v) else none) else none
      | _ => none
    else none
  | .bastore => bif Nat.beq len 1 then match st with
      | .inl v :: .inl x :: .inr (.inr (t, some k)) :: r => bif Nat.beq t 22 then (if z_in x (zm_L M t k) then next (pc + 1) ls r (zm_setI M t k x.toNatClampNeg v.toInt8.toInt32) else none) else none
      | _ => none
    else none
  | .lastore => bif Nat.beq len 1 then match st with
      | .inr (.inl v) :: .inl x :: .inr (.inr (t, some k)) :: r => bif Nat.beq t 23 then (if z_in x (zm_L M t k) then next (pc + 1) ls r (zm_setJ M t k x.toNatClampNeg v) else none) else none
      | _ => none
    else none
  | .aastore => bif Nat.beq len 1 then match st with
      | .inr (.inr (f, v)) :: .inl x :: .inr (.inr (t, some k)) :: r => bif (Nat.beq t 24 || Nat.beq t 25) && Nat.beq f (zt_elt T t) then (if z_in x (zm_L M t k) then next (pc + 1) ls r (zm_setR M t k x.toNatClampNeg v) else none) else none
      | _ => none
    else none
  | .arraylength => bif Nat.beq len 1 then match st with
      | .inr (.inr (t, some k)) :: r => bif Nat.ble 20 t && Nat.blt t 26 || Nat.beq t 90 then next (pc + 1) ls (.inl (Int32.ofNat (zm_L M t k)) :: r) M else none
      | _ => none
    else none
  | .newarray a => bif Nat.beq len 2 then match st with
      | .inl n :: r => bif (match a with
          | .int => Nat.beq note 20 || Nat.beq note 21
          | .byte => Nat.beq note 22
          | .long => Nat.beq note 23
          | _ => false) then (if n < 0 ∨ 100000 < n.toNatClampNeg then none else next (pc + 2) ls (.inr (.inr (note, some (zm_n M))) :: r) (zm_new M note n.toNatClampNeg n.toNatClampNeg)) else none
      | _ => none
    else none
  | .anewarray idx => bif Nat.beq len 3 then match zt_anw T mid idx with
      | none => none
      | some t => match st with
        | .inl n :: r => (if n < 0 ∨ 100000 < n.toNatClampNeg then none else next (pc + 3) ls (.inr (.inr (t, some (zm_n M))) :: r) (zm_new M t n.toNatClampNeg n.toNatClampNeg))
        | _ => none
    else none
  | .new idx => bif Nat.beq len 3 then match zt_neu T mid idx with
      | none => none
      | some (t, N) => next (pc + 3) ls (.inr (.inr (t, some (zm_n M))) :: st) (zm_new M t 0 N)
    else none
  | .ldc idx => bif Nat.beq len 2 then match zt_con T mid idx with
      | some (0, _, v, _) => next (pc + 2) ls (.inl v :: st) M
      | some (2, j, _, _) => next (pc + 2) ls (.inr (.inr (91, some j)) :: st) M
      | _ => none
    else none
  | .ldc_w idx => bif Nat.beq len 3 then match zt_con T mid idx with
      | some (0, _, v, _) => next (pc + 3) ls (.inl v :: st) M
      | some (2, j, _, _) => next (pc + 3) ls (.inr (.inr (91, some j)) :: st) M
      | _ => none
    else none
  | .ldc2_w idx => bif Nat.beq len 3 then match zt_con T mid idx with
      | some (1, _, _, v) => next (pc + 3) ls (.inr (.inl v) :: st) M
      | _ => none
    else none
  | .invokevirtual idx => bif Nat.beq len 3 then match zt_cal T mid idx with
      | some (0, callee, n, t) => match st.drop n with
        | .inr (.inr (t', some k)) :: rest => bif Nat.beq t t' && Nat.beq (st.take n).length n then ez_inv T call next d mid pc ls callee (.inr (.inr (t', some k)) :: (st.take n).reverse) rest M else none
        | _ => none
      | some (7, callee, n, _) => match st.drop n with
        | .inr (.inr (t', some k)) :: rest => bif Nat.beq t' 91 && Nat.beq (st.take n).length n then ez_ext T next pc ls callee (.inr (.inr (t', some k)) :: (st.take n).reverse) rest M else none
        | _ => none
      | _ => none
    else none
  | .invokestatic idx => bif Nat.beq len 3 then match zt_cal T mid idx with
      | some (1, callee, n, _) => bif Nat.beq (st.take n).length n then ez_inv T call next d mid pc ls callee (st.take n).reverse (st.drop n) M else none
      | some (8, callee, n, _) => bif Nat.beq (st.take n).length n then ez_inv T call next d mid pc ls callee (st.take n).reverse (st.drop n) M else none
      | some (4, _, _, _) => match st with
        | .inl y :: .inl x :: r => bif Nat.ble (zc_sum r) 8 then next (pc + 3) ls (.inl (if x < y then y else x) :: r) M else none
        | _ => none
      | some (5, _, _, _) => match st with
        | .inl y :: .inl x :: r => bif Nat.ble (zc_sum r) 8 then next (pc + 3) ls (.inl (if y < x then y else x) :: r) M else none
        | _ => none
      | some (6, _, _, _) => match st with
        | .inl n :: .inl dp :: .inr (.inr (t, some k)) :: .inl sp :: .inr (.inr (t', some k')) :: r => bif Nat.beq t 20 && Nat.beq t' 20 && Nat.ble (zc_sum r) 8 then (if ¬ sp < 0 ∧ ¬ dp < 0 ∧ ¬ n < 0 ∧ sp.toNatClampNeg + n.toNatClampNeg ≤ zm_L M t' k' ∧ dp.toNatClampNeg + n.toNatClampNeg ≤ zm_L M t k then next (pc + 3) ls r (zm_copy M t k (va_cpy (zm_I M t' k') (zm_I M t k) sp.toNatClampNeg dp.toNatClampNeg n.toNatClampNeg)) else none) else none
        | _ => none
      | _ => none
    else none
  | .invokespecial idx => bif Nat.beq len 3 then match zt_cal T mid idx with
      | some (2, callee, n, t) => match st.drop n with
        | .inr (.inr (t', some k)) :: rest => bif Nat.beq t t' && Nat.beq (st.take n).length n then ez_inv T call next d mid pc ls callee (.inr (.inr (t', some k)) :: (st.take n).reverse) rest M else none
        | _ => none
      | some (9, callee, n, t) => match st.drop n with
        | .inr (.inr (t', some k)) :: rest => bif Nat.beq t t' && Nat.beq (st.take n).length n then ez_inv T call next d mid pc ls callee (.inr (.inr (t', some k)) :: (st.take n).reverse) rest M else none
        | _ => none
      | some (3, _, _, _) => match st with
        | .inr (.inr (t', some k)) :: rest => bif Nat.ble (zc_sum rest) 8 then next (pc + 3) ls rest M else none
        | _ => none
      | _ => none
    else none
  | .ireturn => bif Nat.beq len 1 then match st with
      | [.inl x] => match zt_ret T mid with
        | 1 => ret (some (.inl x)) M
        | 2 => if x = 0 ∨ x = 1 then ret (some (.inl x)) M else none
        | _ => none
      | _ => none
    else none
  | .lreturn => bif Nat.beq len 1 then match st with
      | [.inr (.inl x)] => bif Nat.beq (zt_ret T mid) 3 then ret (some (.inr (.inl x))) M else none
      | _ => none
    else none
  | .areturn => bif Nat.beq len 1 then match st with
      | [.inr (.inr x)] => bif Nat.beq (zt_ret T mid) 4 then ret (some (.inr (.inr x))) M else none
      | _ => none
    else none
  | .return_ => bif Nat.beq len 1 then match st with
      | [] => bif Nat.beq (zt_ret T mid) 0 then ret none M else none
      | _ => none
    else none
  | _ => none
/-- one step: calls by 'call', goes on by 'next', returns by 'ret' -/
def ez_step {α : Type} (T : zT) (call : Nat → Nat → List (Nat × zV) → zM → Option (Option zV × zM)) (next : Nat → List (Nat × zV) → List zV → zM → Option α) (ret : Option zV → zM → Option α) (d mid pc : Nat) (ls : List (Nat × zV)) (st : List zV) (M : zM) : Option α :=
  match zt_code T mid pc with
  | none => none
  | some (i, len, note) => match ez_pure note (zt_nL T mid) i ls st with
    | some (n, ls', st') => bif Nat.beq n len then next (pc + n) ls' st' M else none
    | none => ez_rest T call next ret d mid pc i len note ls st M
/-- a method's run from pc on, with so much fuel -/
def ez_run (T : zT) (n : Nat) : Nat → Nat → Nat → List (Nat × zV) → List zV → zM → Option (Option zV × zM) := match n with
  | 0 => fun _ _ _ _ _ _ => none
  | n + 1 => fun d mid pc ls st M => ez_step T (fun d' callee ls' M' => ez_run T n d' callee 0 ls' [] M') (ez_run T n d mid) (fun v M' => some (v, M')) d mid pc ls st M
