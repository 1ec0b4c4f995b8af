/-! THE LAW'S ENTRY: what the Statement gives of the start -/
def en_A (s : State) : Nat → Prop := fun q => s.heap.size ≤ q
abbrev en_T : Cond := Cond.and given_1 narrow_1
section
variable {s : State} {args : Array Value}
theorem en_nA : ∀ a : Nat, a < s.heap.size → ¬ en_A s a := fun a h => Nat.not_le.mpr h
/-- a text of the program -/
theorem en_text (hgv : en_T.before args s = true) (own : String) (k : Nat) (bs : List Int32) (hlen : bs.length < 2 ^ 31) (h1 : Cond.exactly (.string own k) "java/lang/String" ∈ flatC en_T) (h2 : Cond.eq (.field (.string own k) "java/lang/String" "coder" "B") (.int 0) ∈ flatC en_T) (h3 : Cond.arrayOf (.field (.string own k) "java/lang/String" "value" "[B") .byte ∈ flatC en_T) (h4 : Cond.eq (.length (.field (.string own k) "java/lang/String" "value" "[B")) (.int (Int32.ofNat bs.length)) ∈ flatC en_T) (h5 : ∀ j, j < bs.length → Cond.eq (.elem (.field (.string own k) "java/lang/String" "value" "[B") (.int (Int32.ofNat j))) (.int (bs.getD j 0)) ∈ flatC en_T) :
    ∃ q : Nat × Nat, (Term.string own k).eval args s none [] s = some (.ref q.1) ∧ va_O "java/lang/String" q.1 (en_A s) s s.heap ∧ va_OF "java/lang/String" "coder" "B" (.int 0) q.1 (en_A s) s s.heap ∧ va_OF "java/lang/String" "value" "[B" (.ref q.2) q.1 (en_A s) s s.heap ∧ va_T .byte q.2 bs.length (fun i => .int (bs.getD i 0)) (en_A s) s s.heap := by
  have hs := flat_of_before en_T hgv
  have i0 : ∀ i : Nat, i < 1 → i = 0 := fun i hi => by omega
  obtain ⟨adK, adV, hS, hev⟩ := vk_Sof (args := args) (s := s) (N := 1) (tm := fun _ => Term.string own k) (len := [bs.length]) (byt := [bs]) (A := en_A s) (fun i hi => by rw [i0 i hi]; exact hlen) (fun i hi => hs _ h1) (fun i hi => hs _ h2) (fun i hi => hs _ h3) (fun i hi => by rw [i0 i hi]; exact hs _ h4) (fun i hi j hj => by
    rw [i0 i hi] at hj ⊢
    exact hs _ (h5 j hj)) (fun i j hi hj hij => absurd ((i0 i hi).trans (i0 j hj).symm) hij) en_nA
  obtain ⟨a1, a2, a3, a4⟩ := hS.1 0 (by omega)
  exact ⟨(adK 0, adV 0), hev 0 (by omega), a1, a2, a3, a4⟩

theorem en_t0 (hgv : en_T.before args s = true) : ∃ q : Nat × Nat, (Term.string "ContentRules$Document" 120).eval args s none [] s = some (.ref q.1) ∧ va_O "java/lang/String" q.1 (en_A s) s s.heap ∧ va_OF "java/lang/String" "coder" "B" (.int 0) q.1 (en_A s) s s.heap ∧ va_OF "java/lang/String" "value" "[B" (.ref q.2) q.1 (en_A s) s s.heap ∧ va_T .byte q.2 (tq_txt.getD 0 []).length (fun i => .int ((tq_txt.getD 0 []).getD i 0)) (en_A s) s s.heap := en_text hgv "ContentRules$Document" 120 (tq_txt.getD 0 []) (by decide +kernel) (by decide +kernel) (by decide +kernel) (by decide +kernel) (by decide +kernel) (by decide +kernel)
theorem en_t1 (hgv : en_T.before args s = true) : ∃ q : Nat × Nat, (Term.string "ContentRules$Document" 128).eval args s none [] s = some (.ref q.1) ∧ va_O "java/lang/String" q.1 (en_A s) s s.heap ∧ va_OF "java/lang/String" "coder" "B" (.int 0) q.1 (en_A s) s s.heap ∧ va_OF "java/lang/String" "value" "[B" (.ref q.2) q.1 (en_A s) s s.heap ∧ va_T .byte q.2 (tq_txt.getD 1 []).length (fun i => .int ((tq_txt.getD 1 []).getD i 0)) (en_A s) s s.heap := en_text hgv "ContentRules$Document" 128 (tq_txt.getD 1 []) (by decide +kernel) (by decide +kernel) (by decide +kernel) (by decide +kernel) (by decide +kernel) (by decide +kernel)
theorem en_t2 (hgv : en_T.before args s = true) : ∃ q : Nat × Nat, (Term.string "ContentRules$Document" 130).eval args s none [] s = some (.ref q.1) ∧ va_O "java/lang/String" q.1 (en_A s) s s.heap ∧ va_OF "java/lang/String" "coder" "B" (.int 0) q.1 (en_A s) s s.heap ∧ va_OF "java/lang/String" "value" "[B" (.ref q.2) q.1 (en_A s) s s.heap ∧ va_T .byte q.2 (tq_txt.getD 2 []).length (fun i => .int ((tq_txt.getD 2 []).getD i 0)) (en_A s) s s.heap := en_text hgv "ContentRules$Document" 130 (tq_txt.getD 2 []) (by decide +kernel) (by decide +kernel) (by decide +kernel) (by decide +kernel) (by decide +kernel) (by decide +kernel)
theorem en_t3 (hgv : en_T.before args s = true) : ∃ q : Nat × Nat, (Term.string "ContentRules$Document" 132).eval args s none [] s = some (.ref q.1) ∧ va_O "java/lang/String" q.1 (en_A s) s s.heap ∧ va_OF "java/lang/String" "coder" "B" (.int 0) q.1 (en_A s) s s.heap ∧ va_OF "java/lang/String" "value" "[B" (.ref q.2) q.1 (en_A s) s s.heap ∧ va_T .byte q.2 (tq_txt.getD 3 []).length (fun i => .int ((tq_txt.getD 3 []).getD i 0)) (en_A s) s s.heap := en_text hgv "ContentRules$Document" 132 (tq_txt.getD 3 []) (by decide +kernel) (by decide +kernel) (by decide +kernel) (by decide +kernel) (by decide +kernel) (by decide +kernel)
theorem en_t4 (hgv : en_T.before args s = true) : ∃ q : Nat × Nat, (Term.string "ContentRules$Document" 137).eval args s none [] s = some (.ref q.1) ∧ va_O "java/lang/String" q.1 (en_A s) s s.heap ∧ va_OF "java/lang/String" "coder" "B" (.int 0) q.1 (en_A s) s s.heap ∧ va_OF "java/lang/String" "value" "[B" (.ref q.2) q.1 (en_A s) s s.heap ∧ va_T .byte q.2 (tq_txt.getD 4 []).length (fun i => .int ((tq_txt.getD 4 []).getD i 0)) (en_A s) s s.heap := en_text hgv "ContentRules$Document" 137 (tq_txt.getD 4 []) (by decide +kernel) (by decide +kernel) (by decide +kernel) (by decide +kernel) (by decide +kernel) (by decide +kernel)
theorem en_t5 (hgv : en_T.before args s = true) : ∃ q : Nat × Nat, (Term.string "ContentRules" 148).eval args s none [] s = some (.ref q.1) ∧ va_O "java/lang/String" q.1 (en_A s) s s.heap ∧ va_OF "java/lang/String" "coder" "B" (.int 0) q.1 (en_A s) s s.heap ∧ va_OF "java/lang/String" "value" "[B" (.ref q.2) q.1 (en_A s) s s.heap ∧ va_T .byte q.2 (tq_txt.getD 5 []).length (fun i => .int ((tq_txt.getD 5 []).getD i 0)) (en_A s) s s.heap := en_text hgv "ContentRules" 148 (tq_txt.getD 5 []) (by decide +kernel) (by decide +kernel) (by decide +kernel) (by decide +kernel) (by decide +kernel) (by decide +kernel)
theorem en_t6 (hgv : en_T.before args s = true) : ∃ q : Nat × Nat, (Term.string "ContentRules" 195).eval args s none [] s = some (.ref q.1) ∧ va_O "java/lang/String" q.1 (en_A s) s s.heap ∧ va_OF "java/lang/String" "coder" "B" (.int 0) q.1 (en_A s) s s.heap ∧ va_OF "java/lang/String" "value" "[B" (.ref q.2) q.1 (en_A s) s s.heap ∧ va_T .byte q.2 (tq_txt.getD 6 []).length (fun i => .int ((tq_txt.getD 6 []).getD i 0)) (en_A s) s s.heap := en_text hgv "ContentRules" 195 (tq_txt.getD 6 []) (by decide +kernel) (by decide +kernel) (by decide +kernel) (by decide +kernel) (by decide +kernel) (by decide +kernel)
theorem en_t7 (hgv : en_T.before args s = true) : ∃ q : Nat × Nat, (Term.string "ContentRulesModel" 545).eval args s none [] s = some (.ref q.1) ∧ va_O "java/lang/String" q.1 (en_A s) s s.heap ∧ va_OF "java/lang/String" "coder" "B" (.int 0) q.1 (en_A s) s s.heap ∧ va_OF "java/lang/String" "value" "[B" (.ref q.2) q.1 (en_A s) s s.heap ∧ va_T .byte q.2 (tq_txt.getD 7 []).length (fun i => .int ((tq_txt.getD 7 []).getD i 0)) (en_A s) s s.heap := en_text hgv "ContentRulesModel" 545 (tq_txt.getD 7 []) (by decide +kernel) (by decide +kernel) (by decide +kernel) (by decide +kernel) (by decide +kernel) (by decide +kernel)
theorem en_t8 (hgv : en_T.before args s = true) : ∃ q : Nat × Nat, (Term.string "ContentRulesModel" 554).eval args s none [] s = some (.ref q.1) ∧ va_O "java/lang/String" q.1 (en_A s) s s.heap ∧ va_OF "java/lang/String" "coder" "B" (.int 0) q.1 (en_A s) s s.heap ∧ va_OF "java/lang/String" "value" "[B" (.ref q.2) q.1 (en_A s) s s.heap ∧ va_T .byte q.2 (tq_txt.getD 8 []).length (fun i => .int ((tq_txt.getD 8 []).getD i 0)) (en_A s) s s.heap := en_text hgv "ContentRulesModel" 554 (tq_txt.getD 8 []) (by decide +kernel) (by decide +kernel) (by decide +kernel) (by decide +kernel) (by decide +kernel) (by decide +kernel)
theorem en_t9 (hgv : en_T.before args s = true) : ∃ q : Nat × Nat, (Term.string "ContentRulesModel" 556).eval args s none [] s = some (.ref q.1) ∧ va_O "java/lang/String" q.1 (en_A s) s s.heap ∧ va_OF "java/lang/String" "coder" "B" (.int 0) q.1 (en_A s) s s.heap ∧ va_OF "java/lang/String" "value" "[B" (.ref q.2) q.1 (en_A s) s s.heap ∧ va_T .byte q.2 (tq_txt.getD 9 []).length (fun i => .int ((tq_txt.getD 9 []).getD i 0)) (en_A s) s s.heap := en_text hgv "ContentRulesModel" 556 (tq_txt.getD 9 []) (by decide +kernel) (by decide +kernel) (by decide +kernel) (by decide +kernel) (by decide +kernel) (by decide +kernel)
theorem en_t10 (hgv : en_T.before args s = true) : ∃ q : Nat × Nat, (Term.string "ContentRulesModel" 558).eval args s none [] s = some (.ref q.1) ∧ va_O "java/lang/String" q.1 (en_A s) s s.heap ∧ va_OF "java/lang/String" "coder" "B" (.int 0) q.1 (en_A s) s s.heap ∧ va_OF "java/lang/String" "value" "[B" (.ref q.2) q.1 (en_A s) s s.heap ∧ va_T .byte q.2 (tq_txt.getD 10 []).length (fun i => .int ((tq_txt.getD 10 []).getD i 0)) (en_A s) s s.heap := en_text hgv "ContentRulesModel" 558 (tq_txt.getD 10 []) (by decide +kernel) (by decide +kernel) (by decide +kernel) (by decide +kernel) (by decide +kernel) (by decide +kernel)
theorem en_t11 (hgv : en_T.before args s = true) : ∃ q : Nat × Nat, (Term.string "ContentRulesModel" 560).eval args s none [] s = some (.ref q.1) ∧ va_O "java/lang/String" q.1 (en_A s) s s.heap ∧ va_OF "java/lang/String" "coder" "B" (.int 0) q.1 (en_A s) s s.heap ∧ va_OF "java/lang/String" "value" "[B" (.ref q.2) q.1 (en_A s) s s.heap ∧ va_T .byte q.2 (tq_txt.getD 11 []).length (fun i => .int ((tq_txt.getD 11 []).getD i 0)) (en_A s) s s.heap := en_text hgv "ContentRulesModel" 560 (tq_txt.getD 11 []) (by decide +kernel) (by decide +kernel) (by decide +kernel) (by decide +kernel) (by decide +kernel) (by decide +kernel)
def en_o (j : Nat) : String × Nat := ([("ContentRules$Document", 120), ("ContentRules$Document", 128), ("ContentRules$Document", 130), ("ContentRules$Document", 132), ("ContentRules$Document", 137), ("ContentRules", 148), ("ContentRules", 195), ("ContentRulesModel", 545), ("ContentRulesModel", 554), ("ContentRulesModel", 556), ("ContentRulesModel", 558), ("ContentRulesModel", 560)] : List (String × Nat)).getD j ("", 0)
theorem en_all (hgv : en_T.before args s = true) : ∃ ad : Nat → Nat × Nat, ∀ j, j < 12 → (Term.string (en_o j).1 (en_o j).2).eval args s none [] s = some (.ref (ad j).1) ∧ va_O "java/lang/String" (ad j).1 (en_A s) s s.heap ∧ va_OF "java/lang/String" "coder" "B" (.int 0) (ad j).1 (en_A s) s s.heap ∧ va_OF "java/lang/String" "value" "[B" (.ref (ad j).2) (ad j).1 (en_A s) s s.heap ∧ va_T .byte (ad j).2 (tq_txt.getD j []).length (fun i => .int ((tq_txt.getD j []).getD i 0)) (en_A s) s s.heap := by
  have h : ∀ j : Nat, ∃ q : Nat × Nat, j < 12 → (Term.string (en_o j).1 (en_o j).2).eval args s none [] s = some (.ref q.1) ∧ va_O "java/lang/String" q.1 (en_A s) s s.heap ∧ va_OF "java/lang/String" "coder" "B" (.int 0) q.1 (en_A s) s s.heap ∧ va_OF "java/lang/String" "value" "[B" (.ref q.2) q.1 (en_A s) s s.heap ∧ va_T .byte q.2 (tq_txt.getD j []).length (fun i => .int ((tq_txt.getD j []).getD i 0)) (en_A s) s s.heap := by
    intro j
    match j with
    | 0 => obtain ⟨q, hq⟩ := en_t0 hgv; exact ⟨q, fun _ => hq⟩
    | 1 => obtain ⟨q, hq⟩ := en_t1 hgv; exact ⟨q, fun _ => hq⟩
    | 2 => obtain ⟨q, hq⟩ := en_t2 hgv; exact ⟨q, fun _ => hq⟩
    | 3 => obtain ⟨q, hq⟩ := en_t3 hgv; exact ⟨q, fun _ => hq⟩
    | 4 => obtain ⟨q, hq⟩ := en_t4 hgv; exact ⟨q, fun _ => hq⟩
    | 5 => obtain ⟨q, hq⟩ := en_t5 hgv; exact ⟨q, fun _ => hq⟩
    | 6 => obtain ⟨q, hq⟩ := en_t6 hgv; exact ⟨q, fun _ => hq⟩
    | 7 => obtain ⟨q, hq⟩ := en_t7 hgv; exact ⟨q, fun _ => hq⟩
    | 8 => obtain ⟨q, hq⟩ := en_t8 hgv; exact ⟨q, fun _ => hq⟩
    | 9 => obtain ⟨q, hq⟩ := en_t9 hgv; exact ⟨q, fun _ => hq⟩
    | 10 => obtain ⟨q, hq⟩ := en_t10 hgv; exact ⟨q, fun _ => hq⟩
    | 11 => obtain ⟨q, hq⟩ := en_t11 hgv; exact ⟨q, fun _ => hq⟩
    | j + 12 => exact ⟨(0, 0), fun h => absurd h (by omega)⟩
  obtain ⟨ad, had⟩ := Classical.axiomOfChoice h
  exact ⟨ad, had⟩
/-- every class's number and slots -/
theorem en_inst : ∀ q ∈ rt_cl tq_R, ∃ n, Cond.instantiable q.1 n ∈ lw_tbl.filter goodWord := by
  show ∀ q ∈ tq_cl, _
  unfold tq_cl
  exact List.forall_mem_cons.mpr ⟨⟨tf_0.length, tx_wOk (i := 660) (by decide +kernel)⟩, List.forall_mem_cons.mpr ⟨⟨tf_1.length, tx_wOk (i := 376) (by decide +kernel)⟩, List.forall_mem_cons.mpr ⟨⟨tf_2.length, tx_wOk (i := 436) (by decide +kernel)⟩, List.forall_mem_cons.mpr ⟨⟨tf_3.length, tx_wOk (i := 831) (by decide +kernel)⟩, List.forall_mem_cons.mpr ⟨⟨tf_4.length, tx_wOk (i := 587) (by decide +kernel)⟩, List.forall_mem_cons.mpr ⟨⟨tf_5.length, tx_wOk (i := 218) (by decide +kernel)⟩, List.forall_mem_cons.mpr ⟨⟨tf_6.length, tx_wOk (i := 211) (by decide +kernel)⟩, List.forall_mem_cons.mpr ⟨⟨tf_7.length, tx_wOk (i := 475) (by decide +kernel)⟩, List.forall_mem_cons.mpr ⟨⟨tf_8.length, tx_wOk (i := 552) (by decide +kernel)⟩, List.forall_mem_cons.mpr ⟨⟨tf_9.length, tx_wOk (i := 446) (by decide +kernel)⟩, List.forall_mem_cons.mpr ⟨⟨tf_10.length, tx_wOk (i := 502) (by decide +kernel)⟩, List.forall_mem_cons.mpr ⟨⟨tf_11.length, tx_wOk (i := 203) (by decide +kernel)⟩, List.forall_mem_cons.mpr ⟨⟨tf_12.length, tx_wOk (i := 1701) (by decide +kernel)⟩, fun _ h => absurd h List.not_mem_nil⟩⟩⟩⟩⟩⟩⟩⟩⟩⟩⟩⟩⟩
def en_G0 : zG := (zn_0, 0, zn_0, 0, (fun _ => (0 : Nat), fun _ _ => 0), tx_cl tq_R, (fun _ => (0 : Nat)), tq_fk, tx_elt, (fun _ => 0), 0, 12)
theorem en_ok0 : z_ok zq_T zq_P en_G0 := zq_ok rfl rfl rfl rfl
theorem en_cls (hts : ∀ w ∈ lw_tbl.filter goodWord, w.before args s = true) : ∃ D : va_G, ∀ t q, (tx_cl tq_R)[t]? = some q → u_Kn s q.1 q.2.1 q.2.2 (D.1 t) (D.2 t) := by
  have h : ∀ t : Nat, ∃ d : ClassId × (Nat → Nat), ∀ q, (tx_cl tq_R)[t]? = some q → u_Kn s q.1 q.2.1 q.2.2 d.1 d.2 := by
    intro t
    cases hq : (tx_cl tq_R)[t]? with
    | none => exact ⟨((0 : Nat), fun _ => 0), fun q h => by cases h⟩
    | some q =>
      obtain ⟨C, T, N⟩ := q
      obtain ⟨_, hin, _⟩ := en_ok0.1.2.2.2.2.1 t C T N hq
      have hm := List.mem_of_getElem? hq
      unfold tx_cl at hm
      obtain ⟨q0, hq0, e0⟩ := List.mem_map.mp hm
      obtain ⟨n, hn⟩ := en_inst q0 hq0
      have e1 : q0.1 = C := congrArg (fun z => z.1) e0
      rw [e1] at hn
      obtain ⟨cC, iS, hk⟩ := u_known (C := C) (T := T) (N := N) (n := n) hts hin (hts _ hn)
      refine ⟨(cC, iS), fun q h => ?_⟩
      cases h
      exact hk
  obtain ⟨f, hf⟩ := Classical.axiomOfChoice h
  exact ⟨(fun t => (f t).1, fun t => (f t).2), hf⟩
/-- every array class -/
theorem en_arr {ty : FieldType} (h : (Cond.arrayClass ty).before args s = true) (hno : ∀ C, ty ≠ .object C) : ∃ cA : ClassId, ArrOfT s cA ty ∧ va_RA s cA ty := by
  obtain ⟨c, k, comp, h1, h2, h3⟩ := Cond.arrayClass_spec h
  refine ⟨c, fun n z => ⟨fun k h => (by cases h), k, h2, comp, h3⟩, ?_⟩
  cases ty with
  | object C => exact absurd rfl (hno C)
  | _ => exact h1
theorem en_arrO {C : String} (h : (Cond.arrayOver (.object C)).before args s = true) : ∃ cA : ClassId, ArrOfT s cA (.object C) ∧ va_RA s cA (.object C) := by
  obtain ⟨comp, c, k, h1, _, h3, h4, h5⟩ := Cond.arrayOver_spec h
  exact ⟨c, fun n z => ⟨fun k h => (by cases h), k, h3, comp, h4⟩, k, comp, h3, h4, h1, h5⟩
theorem en_aI : Cond.arrayClass .int ∈ lw_tbl := List.mem_of_getElem? (i := 342) (by decide +kernel)
theorem en_aB : Cond.arrayClass .byte ∈ lw_tbl := List.mem_of_getElem? (i := 1590) (by decide +kernel)
theorem en_aL : Cond.arrayClass .long ∈ lw_tbl := List.mem_of_getElem? (i := 2428) (by decide +kernel)
theorem en_aR : Cond.arrayOver (.object "ContentRules$Rule") ∈ lw_tbl := List.mem_of_getElem? (i := 217) (by decide +kernel)
theorem en_aN : Cond.arrayOver (.object "ContentRules$Node") ∈ lw_tbl := List.mem_of_getElem? (i := 224) (by decide +kernel)
theorem en_nw : tq_NW.map (fun w => Cond.methodLinkNest w.1 w.2.1 w.2.2.1 w.2.2.2) = ([219, 377, 437, 447, 476, 482, 503, 553, 558, 588, 661, 832, 1125, 1611] : List Nat).filterMap (fun i => lw_tbl[i]?) := by decide +kernel
theorem en_ss : tq_SS.map (fun w => Cond.stringRef w.1 w.2.1 w.2.2.1) = ([1525, 1582, 1583, 1584, 1589, 1672, 1699, 2388, 2399, 2400, 2401, 2402] : List Nat).filterMap (fun i => lw_tbl[i]?) := by decide +kernel
theorem en_so : ∀ w ∈ tq_SS, w.2.2.2 < 12 ∧ (en_o w.2.2.2).1 = w.1 ∧ (en_o w.2.2.2).2 = w.2.1 := by decide +kernel
theorem en_tb {c : Cond} {ps : List Nat} (h : c ∈ ps.filterMap (fun i => lw_tbl[i]?)) : c ∈ lw_tbl := by
  obtain ⟨i, _, hi⟩ := List.mem_filterMap.mp h
  exact List.mem_of_getElem? hi
theorem en_lC : Cond.laysStatic "java/lang/String" "COMPACT_STRINGS" "Z" ∈ lw_tbl := List.mem_of_getElem? (i := 1539) (by decide +kernel)
theorem en_lS : Cond.laysStatic "jdk/internal/util/Preconditions" "SIOOBE_FORMATTER" "Ljava/util/function/BiFunction;" ∈ lw_tbl := List.mem_of_getElem? (i := 1555) (by decide +kernel)
theorem en_lU : Cond.laysStatic Bundle.tN "UNASSIGNED_STACK" Bundle.steD ∈ lw_tbl := List.mem_of_getElem? (i := 1660) (by decide +kernel)
theorem en_lE : Cond.laysStatic Bundle.tN "SUPPRESSED_SENTINEL" Bundle.listD ∈ lw_tbl := List.mem_of_getElem? (i := 1662) (by decide +kernel)
theorem en_iT : Cond.initialized Bundle.tN ∈ lw_tbl := List.mem_of_getElem? (i := 193) (by decide +kernel)
theorem en_iS : Cond.initialized "java/lang/String" ∈ lw_tbl := List.mem_of_getElem? (i := 198) (by decide +kernel)
theorem en_iP : Cond.initialized "jdk/internal/util/Preconditions" ∈ lw_tbl := List.mem_of_getElem? (i := 200) (by decide +kernel)
theorem en_d1 : Cond.declares (Bundle.initS xy_R) ∈ lw_tbl := List.mem_of_getElem? (i := 1637) (by decide +kernel)
theorem en_d2 : Cond.declares (Bundle.initS xy_X) ∈ lw_tbl := List.mem_of_getElem? (i := 1639) (by decide +kernel)
theorem en_d3 : Cond.declares (Bundle.initS Bundle.tN) ∈ lw_tbl := List.mem_of_getElem? (i := 1641) (by decide +kernel)
theorem en_d4 : Cond.castable xy_N xy_N ∈ lw_tbl := List.mem_of_getElem? (i := 1635) (by decide +kernel)
theorem en_nC : Cond.eq (.static "java/lang/String" "COMPACT_STRINGS" "Z") (.int 1) ∈ flatC en_T := by decide +kernel
theorem en_nS : Cond.isRef (.static "jdk/internal/util/Preconditions" "SIOOBE_FORMATTER" "Ljava/util/function/BiFunction;") ∈ flatC en_T := by decide +kernel
theorem en_nU : Cond.isRef (.static Bundle.tN "UNASSIGNED_STACK" Bundle.steD) ∈ flatC en_T := by decide +kernel
theorem en_nE : Cond.isRef (.static Bundle.tN "SUPPRESSED_SENTINEL" Bundle.listD) ∈ flatC en_T := by decide +kernel
end
section
variable {p : Program} {s : State} {m : MethodId} {meth : Method} {c : Code} {b L : Nat} {xs : Nat → Int32}
/-- what stands at the law's entry -/
theorem en_X (hL : L ≤ 3072) (C0 : lw_At p s m meth c b L xs) : ∃ (sv : Nat → Nat) (Rg : zGr), lq_X p s m meth c b L xs sv Rg ∧ zg_L (zn_0, Rg) = L ∧ zg_xs (zn_0, Rg) = xs := by
  obtain ⟨hx, hb, hr, hml, hown, hts, hX, hbl, hlocks, hgv⟩ := id C0
  have htg : ∀ w ∈ lw_tbl.filter goodWord, w.before #[Value.ref b] s = true := fun w hw => hts w (List.mem_filter.mp hw).1
  obtain ⟨D, hD⟩ := en_cls htg
  obtain ⟨aI, i1, i2⟩ := en_arr (hts _ en_aI) (fun C h => by cases h)
  obtain ⟨aB, b1, b2⟩ := en_arr (hts _ en_aB) (fun C h => by cases h)
  obtain ⟨aL, l1, l2⟩ := en_arr (hts _ en_aL) (fun C h => by cases h)
  obtain ⟨aN, n1, n2⟩ := en_arrO (hts _ en_aN)
  obtain ⟨aR, r1, r2⟩ := en_arrO (hts _ en_aR)
  obtain ⟨ad, had⟩ := en_all hgv
  have hs := flat_of_before en_T hgv
  obtain ⟨Rg, eR⟩ : ∃ Rg : zGr, Rg = (b, (fun j => (ad j).1), s.heap.size, D, tx_cl tq_R, (fun t => if t = 20 then aI else if t = 21 then aI else if t = 22 then aB else if t = 23 then aL else if t = 24 then aN else aR), tq_fk, tx_elt, xs, L, 12) := ⟨_, rfl⟩
  refine ⟨fun j => (ad j).2, Rg, ⟨C0, hL, ?_, ?_, ?_⟩, ?_, ?_⟩
  · rw [eR]; exact ⟨rfl, rfl, rfl, rfl⟩
  · rw [eR]; rfl
  · subst eR
    refine ⟨⟨fun t q h => hD t q h, ?_⟩, hts _ en_aN, hts _ en_aR, fun w hw => va_Nw.of rfl (hts _ (en_tb (ps := [219, 377, 437, 447, 476, 482, 503, 553, 558, 588, 661, 832, 1125, 1611]) (by rw [← en_nw]; exact List.mem_map.mpr ⟨w, hw, rfl⟩))), fun w hw => ?_, ⟨⟨va_Zof (hts _ en_lC) (hts _ en_iS) (va_eqt (hs _ en_nC)) en_nA, va_Zqof (hts _ en_lS) (hts _ en_iP) (hs _ en_nS) en_nA, fun j hj => (had j hj).2⟩, ⟨vx_Zqof (hts _ en_lU) (hts _ en_iT) (hs _ en_nU) en_nA, vx_Zqof (hts _ en_lE) (hts _ en_iT) (hs _ en_nE) en_nA⟩, va_Nw.of rfl (hts _ en_d1), va_Nw.of rfl (hts _ en_d2), va_Nw.of rfl (hts _ en_d3), va_Nw.of rfl (hts _ en_d4)⟩⟩
    · intro k q hq
      match k, hq with
      | 0, hq => cases hq; exact ⟨i1, i2⟩
      | 1, hq => cases hq; exact ⟨i1, i2⟩
      | 2, hq => cases hq; exact ⟨b1, b2⟩
      | 3, hq => cases hq; exact ⟨l1, l2⟩
      | 4, hq => cases hq; exact ⟨n1, n2⟩
      | 5, hq => cases hq; exact ⟨r1, r2⟩
      | k + 6, hq => cases hq
    · obtain ⟨k1, k2, k3⟩ := en_so w hw
      have hev := (had _ k1).1
      rw [k2, k3] at hev
      exact vk_R.of (hts _ (en_tb (ps := [1525, 1582, 1583, 1584, 1589, 1672, 1699, 2388, 2399, 2400, 2401, 2402]) (by rw [← en_ss]; exact List.mem_map.mpr ⟨w, hw, rfl⟩))) hev
  · rw [eR]; rfl
  · rw [eR]; rfl
end
