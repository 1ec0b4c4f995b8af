/-! TABLES as lists, checked by computation: what they must pass, and what follows -/
def tx_look {β : Type} (l : List (Nat × β)) (i : Nat) : Option β := match l with
  | [] => none
  | q :: r => bif Nat.beq q.1 i then some q.2 else tx_look r i
theorem tx_mem {β : Type} {l : List (Nat × β)} {i : Nat} {v : β} (h : tx_look l i = some v) : (i, v) ∈ l := by
  induction l with
  | nil => cases h
  | cons q r ih =>
    unfold tx_look at h
    cases hb : Nat.beq q.1 i with
    | true =>
      rw [hb] at h
      have e1 : q.1 = i := Nat.eq_of_beq_eq_true hb
      have e2 : q.2 = v := Option.some.inj h
      rw [← e1, ← e2]
      exact List.mem_cons_self
    | false =>
      rw [hb] at h
      exact List.mem_cons_of_mem _ (ih h)
/-- a method: code, bytes, name, locals, what it returns (kind, type), a constructor, can be called, place of its word -/
abbrev zRM : Type := List (Nat × Instr × Nat × Nat) × ByteArray × MethodName × Nat × Nat × Option FieldType × Bool × Bool × Nat
/-- all tables: methods, class of a method, names of classes, fields of classes (texts), their kinds, layout places; by class: fields (kind, place, what, final, word's place), calls (way, callee, parameters, receiver, words' places), new, anewarray, constants -/
abbrev zRT : Type := (Nat → zRM) × (Nat → Nat) × (Nat → String) × List (String × List (String × String × String × Bool)) × (Nat → Nat → Nat) × (Nat → List (Nat × Nat × Nat × Nat × Bool × Nat)) × (Nat → List (Nat × Nat × Nat × Nat × Nat × List Nat)) × (Nat → List (Nat × Nat × Nat × List Nat)) × (Nat → List (Nat × Nat × Nat)) × (Nat → List (Nat × Nat × Nat × Int32 × Int64 × Nat)) × (Nat → List zV → Option Int32)
def rt_M (r : zRT) : Nat → zRM := r.1
def rt_c (r : zRT) : Nat → Nat := r.2.1
def rt_cn (r : zRT) : Nat → String := r.2.2.1
def rt_cl (r : zRT) : List (String × List (String × String × String × Bool)) := r.2.2.2.1
def rt_fk (r : zRT) : Nat → Nat → Nat := r.2.2.2.2.1
def rt_F (r : zRT) : Nat → List (Nat × Nat × Nat × Nat × Bool × Nat) := r.2.2.2.2.2.1
def rt_K (r : zRT) : Nat → List (Nat × Nat × Nat × Nat × Nat × List Nat) := r.2.2.2.2.2.2.1
def rt_N (r : zRT) : Nat → List (Nat × Nat × Nat × List Nat) := r.2.2.2.2.2.2.2.1
def rt_A (r : zRT) : Nat → List (Nat × Nat × Nat) := r.2.2.2.2.2.2.2.2.1
def rt_O (r : zRT) : Nat → List (Nat × Nat × Nat × Int32 × Int64 × Nat) := r.2.2.2.2.2.2.2.2.2.1
def rt_X (r : zRT) : Nat → List zV → Option Int32 := r.2.2.2.2.2.2.2.2.2.2
def tx_T (L : List (String × String × String × Bool)) : u_T := fun k => L.getD k ("", "", "", false)
def tx_cl (r : zRT) : List vw_C := (rt_cl r).map (fun q => (q.1, tx_T q.2, q.2.length))
def tx_elt (t : Nat) : Nat := bif Nat.beq t 24 then 3 else 5
def tx_pick {β : Type} (o : Option (Nat × Nat × Nat × β)) : Option (Nat × Nat × Nat) := match o with
  | none => none
  | some q => some (q.1, q.2.1, q.2.2.1)
/-- the evaluator's program -/
def tx_prog (r : zRT) : zT :=
  ((fun mid pc => tx_look (rt_M r mid).1 pc),
   (fun mid idx => match tx_look (rt_F r (rt_c r mid)) idx with | none => none | some q => some (q.1, q.2.1, q.2.2.1)),
   (fun mid idx => match tx_look (rt_F r (rt_c r mid)) idx with | none => none | some q => bif q.2.2.2.1 && !((rt_M r mid).2.2.2.2.2.2.1 && Nat.beq q.1 (rt_c r mid)) then none else some (q.1, q.2.1, q.2.2.1)),
   (fun mid idx => match tx_look (rt_K r (rt_c r mid)) idx with | none => none | some q => some (q.1, q.2.1, q.2.2.1, q.2.2.2.1)),
   (fun mid idx => match tx_look (rt_N r (rt_c r mid)) idx with | none => none | some q => some (q.1, q.2.1)),
   (fun mid idx => match tx_look (rt_A r (rt_c r mid)) idx with | none => none | some q => some q.1),
   (fun mid idx => match tx_look (rt_O r (rt_c r mid)) idx with | none => none | some q => some (q.1, q.2.1, q.2.2.1, q.2.2.2.1)),
   (fun mid => (rt_M r mid).2.2.2.2.1),
   (fun mid => (rt_M r mid).2.2.2.1),
   tx_elt,
   rt_X r)
def tx_names (r : zRT) (GW : List Cond) (NW : List (String × Nat × MethodName × String)) (SS : List (String × Nat × String × Nat)) : zP :=
  (GW, (fun mid => (rt_M r mid).2.2.1), (fun mid => (rt_M r mid).2.1), (fun mid => (rt_M r mid).2.2.2.2.2.1), "ContentRules$Node", "ContentRules$Rule", NW, SS)
/-- a word at its place, and a good one -/
def tx_w (tbl : List Cond) (i : Nat) (w : Cond) : Bool := decide (tbl[i]? = some w) && goodWord w
theorem tx_wOk {tbl : List Cond} {i : Nat} {w : Cond} (h : tx_w tbl i w = true) : w ∈ tbl.filter goodWord := by
  obtain ⟨h1, h2⟩ := z_and h
  exact List.mem_filter.mpr ⟨List.mem_of_getElem? (of_decide_eq_true h1), h2⟩
def tx_retOk (k : Nat) (rt : Option FieldType) : Bool := match k, rt with
  | 0, none => true
  | 1, some .int => true
  | 2, some .boolean => true
  | 3, some .long => true
  | 4, some (.object _) => true
  | 5, some .char => true
  | _, _ => false
def tx_chkM (tbl : List Cond) (cn : String) (m : zRM) : Bool :=
  m.1.all (fun x => decide (decode m.2.1 x.1 = .ok (x.2.1, x.2.2.1))) && (decide (m.2.2.1.cls = cn) && ((!m.2.2.2.2.2.2.1 || decide (m.2.2.1.name = "<init>")) && (!m.2.2.2.2.2.2.2.1 || (tx_w tbl m.2.2.2.2.2.2.2.2 (.code m.2.2.1 m.2.1 m.2.2.2.1 m.2.2.2.2.2.1) && (plainName m.2.2.1.cls && (Nat.ble m.2.2.2.1 21 && tx_retOk m.2.2.2.2.1 m.2.2.2.2.2.1))))))
/-- what a method's check says -/
def tx_PM (tbl : List Cond) (cn : String) (m : zRM) : Prop :=
  (∀ x ∈ m.1, decode m.2.1 x.1 = .ok (x.2.1, x.2.2.1)) ∧ m.2.2.1.cls = cn ∧ (m.2.2.2.2.2.2.1 = true → m.2.2.1.name = "<init>") ∧ (m.2.2.2.2.2.2.2.1 = true → Cond.code m.2.2.1 m.2.1 m.2.2.2.1 m.2.2.2.2.2.1 ∈ tbl.filter goodWord ∧ plainName m.2.2.1.cls = true ∧ m.2.2.2.1 ≤ 21 ∧ tx_retOk m.2.2.2.2.1 m.2.2.2.2.2.1 = true)
theorem tx_PMof {tbl : List Cond} {cn : String} {m : zRM} (h : tx_chkM tbl cn m = true) : tx_PM tbl cn m := by
  obtain ⟨h1, h⟩ := z_and h
  obtain ⟨h2, h⟩ := z_and h
  obtain ⟨h3, h4⟩ := z_and h
  refine ⟨fun x hx => of_decide_eq_true (List.all_eq_true.mp h1 x hx), of_decide_eq_true h2, fun q => ?_, fun q => ?_⟩
  · rw [q] at h3
    exact of_decide_eq_true h3
  · rw [q] at h4
    obtain ⟨g1, h4⟩ := z_and h4
    obtain ⟨g2, h4⟩ := z_and h4
    obtain ⟨g3, g4⟩ := z_and h4
    exact ⟨tx_wOk g1, g2, Nat.le_of_ble_eq_true g3, g4⟩
/-- one bit of a number decides between two halves of a table -/
theorem tx_bif {β : Type} {Pp : β → Prop} {b : Bool} {x y : β} (h1 : b = true → Pp x) (h2 : b = false → Pp y) : Pp (bif b then x else y) := by
  cases b
  · exact h2 rfl
  · exact h1 rfl
def tx_chkF (r : zRT) (tbl : List Cond) (cn : String) (x : Nat × Nat × Nat × Nat × Bool × Nat) : Bool := match (rt_cl r)[x.2.1]? with
  | none => false
  | some q => match q.2[x.2.2.1]? with
    | none => false
    | some f => tx_w tbl x.2.2.2.2.2 (.fieldLink cn x.1 f.1 f.2.1 f.2.2.1) && (Nat.beq x.2.2.2.1 (rt_fk r x.2.1 x.2.2.1) && (!f.2.2.2 || (x.2.2.2.2.1 && decide (f.1 = q.1))))
def tx_nthW (tbl : List Cond) (ps : List Nat) (k : Nat) (w : Cond) : Bool := match ps[k]? with
  | none => false
  | some i => tx_w tbl i w
def tx_notMH (y : MethodName) (n : Nat) : Bool := decide (y.cls ≠ "java/lang/invoke/MethodHandle") && (decide (y.cls ≠ "java/lang/invoke/VarHandle") && decide ((parseMethodDescriptor y.desc).map (fun d => d.parameters.length) = some n))
def tx_chkK (r : zRT) (tbl : List Cond) (NW : List (String × Nat × MethodName × String)) (cn : String) (x : Nat × Nat × Nat × Nat × Nat × List Nat) : Bool :=
  let y := (rt_M r x.2.2.1).2.2.1
  let ok := (rt_M r x.2.2.1).2.2.2.2.2.2.2.1
  let ps := x.2.2.2.2.2
  match x.2.1 with
  | 0 => ok && (tx_notMH y x.2.2.2.1 && (tx_nthW tbl ps 0 (.methodLink cn x.1 y) && (tx_nthW tbl ps 1 (.initialized y.cls) && (tx_nthW tbl ps 2 (.instanceMethod y) && (tx_nthW tbl ps 3 (.selects y.cls y y) && (match (rt_cl r)[x.2.2.2.2.1]? with | none => false | some q => decide (q.1 = y.cls)))))))
  | 1 => ok && (tx_notMH y x.2.2.2.1 && (tx_nthW tbl ps 0 (.methodLink cn x.1 y) && (tx_nthW tbl ps 1 (.initialized y.cls) && tx_nthW tbl ps 2 (.static y))))
  | 8 => ok && (tx_notMH y x.2.2.2.1 && ((match ps[0]? with | none => false | some i => match NW[i]? with | none => false | some w => decide (w.1 = cn) && (decide (w.2.1 = x.1) && decide (w.2.2.1 = y))) && (tx_nthW tbl ps 1 (.initialized y.cls) && tx_nthW tbl ps 2 (.static y))))
  | 2 => ok && (tx_notMH y x.2.2.2.1 && (tx_nthW tbl ps 0 (.methodLink cn x.1 y) && (tx_nthW tbl ps 1 (.initialized y.cls) && (tx_nthW tbl ps 2 (.instanceMethod y) && (decide ((rt_M r x.2.2.1).2.2.2.2.2.1 = none) && (decide (y.name = "<init>") && Nat.blt x.2.2.2.2.1 30))))))
  | 9 => ok && (tx_notMH y x.2.2.2.1 && ((match ps[0]? with | none => false | some i => match NW[i]? with | none => false | some w => decide (w.1 = cn) && (decide (w.2.1 = x.1) && decide (w.2.2.1 = y))) && (tx_nthW tbl ps 1 (.initialized y.cls) && (tx_nthW tbl ps 2 (.instanceMethod y) && (decide ((rt_M r x.2.2.1).2.2.2.2.2.1 = none) && (decide (y.name = "<init>") && Nat.blt x.2.2.2.2.1 30))))))
  | 3 => tx_nthW tbl ps 0 (.methodLink cn x.1 objectInit) && (tx_nthW tbl ps 1 (.instanceMethod objectInit) && tx_nthW tbl ps 2 (.code objectInit ⟨#[0xb1]⟩ 1 none))
  | 4 => tx_nthW tbl ps 0 (.methodLink cn x.1 Lib.Math.max.name) && (tx_nthW tbl ps 1 (.static Lib.Math.max.name) && (tx_nthW tbl ps 2 (.initialized "java/lang/Math") && tx_nthW tbl ps 3 (.code Lib.Math.max.name Lib.Math.max.code 2 (some .int))))
  | 5 => tx_nthW tbl ps 0 (.methodLink cn x.1 Lib.Math.min.name) && (tx_nthW tbl ps 1 (.static Lib.Math.min.name) && (tx_nthW tbl ps 2 (.initialized "java/lang/Math") && tx_nthW tbl ps 3 (.code Lib.Math.min.name Lib.Math.min.code 2 (some .int))))
  | 6 => tx_nthW tbl ps 0 (.methodLink cn x.1 arraycopyName) && (tx_nthW tbl ps 1 (.native arraycopyName) && (tx_nthW tbl ps 2 (.static arraycopyName) && tx_nthW tbl ps 3 (.initialized "java/lang/System")))
  | 7 => ok && (tx_notMH y x.2.2.2.1 && (tx_nthW tbl ps 0 (.methodLink cn x.1 y) && (tx_nthW tbl ps 1 (.initialized y.cls) && (tx_nthW tbl ps 2 (.instanceMethod y) && (tx_nthW tbl ps 3 (.selects y.cls y y) && decide (y.cls = "java/lang/String"))))))
  | _ => false
def tx_chkN (r : zRT) (tbl : List Cond) (cn : String) (x : Nat × Nat × Nat × List Nat) : Bool := match (rt_cl r)[x.2.1]? with
  | none => false
  | some q => Nat.beq x.2.2.1 q.2.length && (tx_nthW tbl x.2.2.2 0 (.classLink cn x.1 q.1) && (tx_nthW tbl x.2.2.2 1 (.instantiable q.1 x.2.2.1) && tx_nthW tbl x.2.2.2 2 (.initialized q.1)))
def tx_chkA (tbl : List Cond) (cn : String) (x : Nat × Nat × Nat) : Bool := match x.2.1 with
  | 24 => tx_w tbl x.2.2 (.classLink cn x.1 "ContentRules$Node")
  | 25 => tx_w tbl x.2.2 (.classLink cn x.1 "ContentRules$Rule")
  | _ => false
def tx_chkO (tbl : List Cond) (SS : List (String × Nat × String × Nat)) (nS : Nat) (cn : String) (x : Nat × Nat × Nat × Int32 × Int64 × Nat) : Bool := match x.2.1 with
  | 0 => tx_w tbl x.2.2.2.2.2 (.constant cn x.1 x.2.2.2.1)
  | 1 => tx_w tbl x.2.2.2.2.2 (.constantLong cn x.1 x.2.2.2.2.1)
  | 2 => Nat.blt x.2.2.1 nS && (match SS[x.2.2.2.2.2]? with | none => false | some w => decide (w.1 = cn) && (decide (w.2.1 = x.1) && decide (w.2.2.2 = x.2.2.1)))
  | _ => false
def tx_chkC (r : zRT) (tbl : List Cond) (t : Nat) (q : String × List (String × String × String × Bool)) (pls : List Nat) (tys : List FieldType) : Bool :=
  Nat.blt t 20 && (Nat.beq pls.length q.2.length && (Nat.beq tys.length q.2.length && ((List.range q.2.length).all (fun k => tx_nthW tbl pls k (u_lay q.1 (tx_T q.2) k) && (decide (parseFieldDescriptor (tx_T q.2 k).2.2.1 = some (tys.getD k .int)) && (match rt_fk r t k, tys.getD k .int with | 0, .int => true | 1, .boolean => true | f + 2, .object _ => Nat.blt f 30 | f + 2, .array _ => Nat.blt f 30 | _, _ => false))) && (List.range q.2.length).all (fun a => (List.range a).all (fun b => decide ((tx_T q.2 a).2.1 ≠ (tx_T q.2 b).2.1))))))
