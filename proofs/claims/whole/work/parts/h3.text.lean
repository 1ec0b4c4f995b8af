/-! TEXTS: String.length and String.charAt on the constants, and what they stand on -/
def xt_A (G : zG) : Nat → Prop := fun q => zg_base G ≤ q
def xt_E (sv : Nat → Nat) (G : zG) (U : State) : Prop :=
  va_Z "java/lang/String" "COMPACT_STRINGS" "Z" (.int 1) (xt_A G) U U.heap ∧ va_Zq "jdk/internal/util/Preconditions" "SIOOBE_FORMATTER" "Ljava/util/function/BiFunction;" (xt_A G) U U.heap ∧
  ∀ j, j < zg_nS G → va_O "java/lang/String" (zg_sa G j) (xt_A G) U U.heap ∧ va_OF "java/lang/String" "coder" "B" (.int 0) (zg_sa G j) (xt_A G) U U.heap ∧ va_OF "java/lang/String" "value" "[B" (.ref (sv j)) (zg_sa G j) (xt_A G) U U.heap ∧ va_T .byte (sv j) (tq_txt.getD j []).length (fun i => .int ((tq_txt.getD j []).getD i 0)) (xt_A G) U U.heap
theorem xt_warm {sv : Nat → Nat} {G : zG} {s U : State} (hW : s.WarmedH U.vm) (hq : ∀ q, q < zg_base G → U.heap[q]? = s.heap[q]?) (h : xt_E sv G s) : xt_E sv G U := by
  have k : ∀ a : Nat, a < s.heap.size → ¬ xt_A G a → U.heap[a]? = s.heap[a]? := fun a _ g => hq a (Nat.lt_of_not_le g)
  refine ⟨(h.1.kept k).moved hW.alike, (h.2.1.kept k).moved hW.alike, fun j hj => ?_⟩
  obtain ⟨h1, h2, h3, h4⟩ := h.2.2 j hj
  exact ⟨(h1.kept k).moved hW.alike, (h2.kept k).moved hW.alike, (h3.kept k).moved hW.alike, (h4.kept k).moved hW.alike⟩
theorem xt_clo (sv : Nat → Nat) (G : zG) : z_clo G (xt_E sv G) := by
  refine ⟨fun s U hW _ hq h => xt_warm hW hq h, fun U h j hj => ?_⟩
  obtain ⟨cell, q1, q2, q3, q4⟩ := (h.2.2 j hj).1
  exact ⟨Nat.lt_of_not_le q4, cell, q1, q2, q3⟩
def xt_P (sv : Nat → Nat) (G : zG) (As : List Value) : Array Value → State → Prop := fun a U => a = As.toArray ∧ zg_base G ≤ U.heap.size ∧ xt_E sv G U
theorem xt_blind (sv : Nat → Nat) (G : zG) (As : List Value) : FrameBlind (xt_P sv G As) := by
  intro a U g mk h
  obtain ⟨h1, h2, h3⟩ := h
  exact ⟨h1, h2, xt_warm (State.WarmedH.refl U) (fun _ _ => rfl) h3⟩
theorem xt_pre {sv : Nat → Nat} {G : zG} {s : State} (As : List Value) (hb : zg_base G ≤ s.heap.size) (h : xt_E sv G s) : PreS s s.heap (xt_P sv G As) As := by
  refine ⟨xt_blind sv G As, fun U hU hW => ⟨rfl, by rw [hU]; exact hb, ?_⟩⟩
  exact xt_warm hW (fun q _ => by rw [hU]) h
theorem xt_good {G : zG} (hok : z_ok zq_T zq_P G) {w : Cond} (hw : w ∈ zp_GW zq_P) : GoodIn (zp_GW zq_P) (w :: zp_GW zq_P) := fun x hx => by
  have : x ∈ zp_GW zq_P := (List.mem_cons.mp hx).elim (fun e => by rw [e]; exact hw) id
  exact ⟨this, hok.1.1 x this⟩
theorem xt_of {l : Launch} {sv : Nat → Nat} {G : zG} {y : MethodName} {B : ByteArray} {nL : Nat} {ret : Option FieldType} {As : List Value} {rm : Room} {Qc : Array Value → State → Outcome → State → Prop} {mc ms : Nat} {free : Addr → Prop} (hy : plainName y.cls = true) (hfit : (lg_sl As).length ≤ nL)
    (body : ∀ (p : Program) (e : Env) (s : State) (m : MethodId) (args : Array Value) (below : List Frame) (meth : Method) (c : Code) (lsA : Array Slot), p.tables.exec = Jvm.exec → c.code = B → c.maxLocals = nL → s.vm.findClass y.cls = some m.cls → (∀ w ∈ zp_GW zq_P, w.before args s = true) → meth.sig.returnType = ret → meth.locks = false → zg_base G ≤ s.heap.size → xt_E sv G s → lv_has lsA nL (lv_args 0 As) → W p l e rm s m args below meth c s.heap [] 0 0 (MQ below Qc args s mc ms free) (F0 m 0 lsA [])) :
    Met l y (.code y B nL ret :: zp_GW zq_P) rm (xt_P sv G As) Qc mc ms free := by
  refine Met.ofW (cc := B) (maxL := nL) (ret := ret) hy rfl ?_
  intro p e s m args below meth c s₁ Bd hml hPc
  obtain ⟨rfl, hbase, hE⟩ := hPc
  have hts0 := atoms_spec (ws := Cond.code y B nL ret :: zp_GW zq_P) Bd.pre
  have hl := lv_entry As (n := nL) hfit
  rw [lg_entry_eq]
  generalize (lg_sl As ++ List.replicate (nL - (lg_sl As).length) Slot.unset).toArray = lsA at hl ⊢
  exact body p e s m _ below meth c lsA Bd.exec Bd.bytes hml (findClass_of_methodNamed Bd.named) (fun w hw => hts0 w (List.mem_cons_of_mem _ hw)) Bd.returns Bd.notSynchronized hbase hE hl
def xt_room (k : Nat) : Room := { frames := k, cells := 0, slots := 0, locals := 30 * k }
def xy_coder : MethodName := { cls := "java/lang/String", name := "coder", desc := "()B" }
def xy_lat : MethodName := { cls := "java/lang/String", name := "isLatin1", desc := "()Z" }
def xy_lchar : MethodName := { cls := "java/lang/StringLatin1", name := "charAt", desc := "([BI)C" }
def xy_check : MethodName := { cls := "java/lang/String", name := "checkIndex", desc := "(II)V" }
def xy_pre : MethodName := { cls := "jdk/internal/util/Preconditions", name := "checkIndex", desc := "(IILjava/util/function/BiFunction;)I" }
theorem xw_cs : Cond.fieldLink "java/lang/String" 38 "java/lang/String" "COMPACT_STRINGS" "Z" ∈ lw_tbl.filter goodWord := tx_wOk (i := 1538) (by decide +kernel)
theorem xw_cod : Cond.fieldLink "java/lang/String" 15 "java/lang/String" "coder" "B" ∈ lw_tbl.filter goodWord := tx_wOk (i := 2447) (by decide +kernel)
theorem xw_val : Cond.fieldLink "java/lang/String" 9 "java/lang/String" "value" "[B" ∈ lw_tbl.filter goodWord := tx_wOk (i := 2446) (by decide +kernel)
theorem xm_coder (l : Launch) {sv : Nat → Nat} {G : zG} {j : Nat} (hj : j < zg_nS G) : Met l xy_coder (.code xy_coder prog_21_method_152_code 1 (some .byte) :: zp_GW zq_P) (xt_room 1) (xt_P sv G [.ref (zg_sa G j)]) (vp_Si (fun r => r = 0)) 0 0 (fun _ => False) := by
  refine xt_of (by decide +kernel) (Nat.le_refl 1) ?_
  intro p e s m args below meth c lsA hx hb hml hown hts hr hlocks hbase hE hl
  have l0 : lsA[0]? = some (.val (.ref (zg_sa G j))) := lv_at hl 0 rfl
  obtain ⟨h1, h2, h3, h4⟩ := hE.2.2 j hj
  refine va_gets hx hb (pc := 0) hE.1 va_S.rf hown (hts _ xw_cs) (fun _ h => h) (by decide +kernel) ?_
  refine lv_if_eq hx hb (pc := 3) (tgt := 13) (off := 10) (by decide +kernel) (by decide) (fun h => absurd h (by decide)) (fun _ => ?_)
  refine lv_aload_n hx hb (pc := 6) (k := 0) (by decide +kernel) rfl l0 ?_
  refine vk_getf hx hb (pc := 7) h2 va_S.rf hown (hts _ xw_cod) (fun _ h => h) (by decide +kernel) ?_
  refine lv_goto hx hb (pc := 10) (tgt := 14) (off := 4) (by decide +kernel) (by decide) ?_
  exact W.zret hx hb hr rfl (fun t ht _ => ⟨0, rfl, rfl, ht⟩) (fun q hq => by cases hq) (by decide +kernel) hlocks
theorem xm_lat (l : Launch) {sv : Nat → Nat} {G : zG} {j : Nat} (hj : j < zg_nS G) : Met l xy_lat (.code xy_lat prog_21_method_154_code 1 (some .boolean) :: zp_GW zq_P) (xt_room 1) (xt_P sv G [.ref (zg_sa G j)]) (vp_Si (fun r => r = 1)) 0 0 (fun _ => False) := by
  refine xt_of (by decide +kernel) (Nat.le_refl 1) ?_
  intro p e s m args below meth c lsA hx hb hml hown hts hr hlocks hbase hE hl
  have l0 : lsA[0]? = some (.val (.ref (zg_sa G j))) := lv_at hl 0 rfl
  obtain ⟨h1, h2, h3, h4⟩ := hE.2.2 j hj
  refine va_gets hx hb (pc := 0) hE.1 va_S.rf hown (hts _ xw_cs) (fun _ h => h) (by decide +kernel) ?_
  refine lv_if_eq hx hb (pc := 3) (tgt := 17) (off := 14) (by decide +kernel) (by decide) (fun h => absurd h (by decide)) (fun _ => ?_)
  refine lv_aload_n hx hb (pc := 6) (k := 0) (by decide +kernel) rfl l0 ?_
  refine vk_getf hx hb (pc := 7) h2 va_S.rf hown (hts _ xw_cod) (fun _ h => h) (by decide +kernel) ?_
  refine lv_if_ne hx hb (pc := 10) (tgt := 17) (off := 7) (by decide +kernel) (by decide) (fun h => absurd rfl h) (fun _ => ?_)
  refine lv_iconst hx hb (pc := 13) (n := 1) (by decide +kernel) rfl ?_
  refine lv_goto hx hb (pc := 14) (tgt := 18) (off := 4) (by decide +kernel) (by decide) ?_
  exact W.zret hx hb hr rfl (fun t ht _ => ⟨1, rfl, rfl, ht⟩) (fun q hq => by cases hq) (by decide +kernel) hlocks
