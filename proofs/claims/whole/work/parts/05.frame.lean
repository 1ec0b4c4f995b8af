/-! THE FRAME: what a method stands on; a new cell; contracts of methods by the evaluator's answer -/
theorem z_Rep_new {G : zG} {M : zM} {H H1 : Heap} {t len sl : Nat} (h : z_Rep G M H) (ht : t + 1 ≤ 26) (hcl : t + 1 ≤ 20 → ∃ q, (zg_cl G)[t]? = some q) (hbase : zg_base G ≤ H.size) (hat : va_at (zg_D G) (zg_cl G) (H.size, z_cell G (zm_new M t len sl) t (zm_n M)) H1) (hz : H1.size = H.size + 1) (o1 : ∀ q : Nat, q < H.size → H1[q]? = H[q]?) : z_Rep G (zm_new M t len sl) H1 := by
  have had : zg_ad G (zm_n M) = H.size := by have := (h.2.2.1 (zm_n M) (Nat.le_refl _)).1; omega
  have hws := z_ws_push h t len sl
  rw [had] at hws
  have hKn : zm_K (zm_new M t len sl) (zm_n M) = t + 1 := if_pos rfl
  have hKo : ∀ k, k ≠ zm_n M → zm_K (zm_new M t len sl) k = zm_K M k := fun k hk => if_neg hk
  have hn : zm_n (zm_new M t len sl) = zm_n M + 1 := rfl
  refine ⟨?_, ?_, ?_, ?_, ?_, ?_, ?_⟩
  · rw [hws]
    refine (h.1.kept fun k x hx => o1 x.1 (h.1 k x hx).lt).app ?_
    intro k x hx
    have hz' : k < 1 := (List.getElem?_eq_some_iff.mp hx).1
    rw [show k = 0 by omega] at hx
    cases hx
    exact hat
  · rw [hws]
    exact h.2.1.push h.1 rfl hbase
  · intro k hk
    rw [hn] at hk ⊢
    rw [hz, hKo k (by omega)]
    have := h.2.2.1 k (by omega)
    exact ⟨by omega, this.2⟩
  · intro k hk
    rw [hn] at hk
    by_cases e : k = zm_n M
    · subst e
      rw [hKn]
      exact ⟨by omega, by omega, fun q => hcl q⟩
    · rw [hKo k e]
      exact h.2.2.2.1 k (by omega)
  · intro k t' j r h1 h2 h3
    by_cases e : k = zm_n M
    · subst e
      rw [hKn] at h1
      have : t' = t := by omega
      subst this
      have h2' : (if t' = t' ∧ zm_n M = M.1 then none else zm_R M t' (zm_n M) j) = some r := h2
      rw [if_pos ⟨rfl, rfl⟩] at h2'
      cases h2'
    · rw [hKo k e] at h1
      have h2' : (if t' = t ∧ k = M.1 then none else zm_R M t' k j) = some r := h2
      rw [if_neg (fun q => e q.2)] at h2'
      have h4 := h.2.2.2.2.1 k t' j r h1 h2' h3
      rw [hKo r (Nat.ne_of_lt (z_lt h h4))]
      exact h4
  · have : zm_L (zm_new M t len sl) 90 0 = zm_L M 90 0 := if_neg (fun q => by omega)
    rw [this]; exact h.2.2.2.2.2.1
  · have : zm_I (zm_new M t len sl) 90 0 = zm_I M 90 0 := by
      funext j
      exact if_neg (fun q => by omega)
    rw [this]; exact h.2.2.2.2.2.2
theorem z_le_new (M : zM) (t len sl : Nat) (hK : zm_K M (zm_n M) = 0) : z_le M (zm_new M t len sl) := ⟨Nat.le_succ _, Nat.le_add_right _ _, fun k hk => if_neg (fun e => hk (by rw [show k = zm_n M from e]; exact hK))⟩
/-- the words that hold everywhere, names, bytes, what is returned, element classes, links to nest mates, texts -/
abbrev zP : Type := List Cond × (Nat → MethodName) × (Nat → ByteArray) × (Nat → Option FieldType) × String × String × List (String × Nat × MethodName × String) × List (String × Nat × String × Nat)
def zp_GW (P : zP) : List Cond := P.1
def zp_Y (P : zP) : Nat → MethodName := P.2.1
def zp_B (P : zP) : Nat → ByteArray := P.2.2.1
def zp_RT (P : zP) : Nat → Option FieldType := P.2.2.2.1
def zp_C24 (P : zP) : String := P.2.2.2.2.1
def zp_C25 (P : zP) : String := P.2.2.2.2.2.1
def zp_NW (P : zP) : List (String × Nat × MethodName × String) := P.2.2.2.2.2.2.1
def zp_SS (P : zP) : List (String × Nat × String × Nat) := P.2.2.2.2.2.2.2
def z_KK (P : zP) (G : zG) (XX : State → Prop) (U : State) : Prop :=
  va_K (zg_D G) (zg_cl G) (z_tys G (zp_C24 P) (zp_C25 P)) U ∧ va_AO (zp_C24 P) U ∧ va_AO (zp_C25 P) U ∧ (∀ w ∈ zp_NW P, va_Nw (.methodLinkNest w.1 w.2.1 w.2.2.1 w.2.2.2) U) ∧ (∀ w ∈ zp_SS P, vk_R w.1 w.2.1 w.2.2.1 (zg_sa G w.2.2.2) U) ∧ XX U
/-- what a method from outside stands on goes along with the machine, and says where texts lie -/
def z_clo (G : zG) (XX : State → Prop) : Prop :=
  (∀ s U : State, s.WarmedH U.vm → zg_base G ≤ s.heap.size → (∀ q, q < zg_base G → U.heap[q]? = s.heap[q]?) → XX s → XX U) ∧ ∀ U, XX U → ∀ j, j < zg_nS G → zg_sa G j < zg_base G ∧ ∃ cell : Cell, U.heap[zg_sa G j]? = some cell ∧ cell.vm.isStatics = false ∧ U.vm.findClass "java/lang/String" = some cell.cls
theorem z_KK.warm {P : zP} {G : zG} {XX : State → Prop} (hc : z_clo G XX) {s U : State} (hW : s.WarmedH U.vm) (hbase : zg_base G ≤ s.heap.size) (hq : ∀ q, q < zg_base G → U.heap[q]? = s.heap[q]?) (h : z_KK P G XX s) : z_KK P G XX U :=
  ⟨h.1.moved hW.alike, h.2.1.moved hW.alike, h.2.2.1.moved hW.alike, fun w hw => (h.2.2.2.1 w hw).warmM hW, fun w hw => (h.2.2.2.2.1 w hw).warm hW, hc.1 s U hW hbase hq h.2.2.2.2.2⟩
def z_room (d mc ms : Nat) : Room := { frames := d + 10, cells := mc, slots := ms, locals := 48 * d + 200 }
def z_roomX (mc ms : Nat) : Room := { frames := 9, cells := mc, slots := ms, locals := 160 }
def z_Pc (P : zP) (G : zG) (XX : State → Prop) (as : List zV) (M : zM) : Array Value → State → Prop := fun a U => a = (as.map (z_cv (zg_A G))).toArray ∧ z_Rep G M U.heap ∧ zg_base G ≤ U.heap.size ∧ z_KK P G XX U
def z_Qc (G : zG) (r : Option zV) (M' : zM) : Array Value → State → Outcome → State → Prop := fun _ st o t => o = .returned (r.map (z_cv (zg_A G))) ∧ z_Rep G M' t.heap ∧ va_F (fun q => zg_base G ≤ q) st t
/-- the contract of method mid at these arguments, this memory, by the evaluator's answer -/
def z_Met (T : zT) (P : zP) (G : zG) (XX : State → Prop) (l : Launch) (rm : Nat → Nat → Room) (mid : Nat) (as : List zV) (M : zM) (r : Option zV) (M' : zM) : Prop :=
  Met l (zp_Y P mid) (.code (zp_Y P mid) (zp_B P mid) (zt_nL T mid) (zp_RT P mid) :: zp_GW P) (rm (zm_n M' - zm_n M) (zm_s M' - zm_s M)) (z_Pc P G XX as M) (z_Qc G r M') (zm_n M' - zm_n M) (zm_s M' - zm_s M) (fun q => zg_base G ≤ q)
theorem z_blind {P : zP} {G : zG} {XX : State → Prop} (hc : z_clo G XX) (as : List zV) (M : zM) : FrameBlind (z_Pc P G XX as M) := by
  intro a U g mk h
  obtain ⟨h1, h2, h3, h4⟩ := h
  exact ⟨h1, h2, h3, h4.warm hc (State.WarmedH.refl U) h3 (fun _ _ => rfl)⟩
/-- what holds in a frame of method mid from its entry on -/
def z_Fr (T : zT) (P : zP) (G : zG) (XX : State → Prop) (p : Program) (s : State) (m : MethodId) (args : Array Value) (meth : Method) (c : Code) (mid : Nat) (sc : Prop) : Prop :=
  p.tables.exec = Jvm.exec ∧ c.code = zp_B P mid ∧ c.maxLocals = zt_nL T mid ∧ s.vm.findClass (zp_Y P mid).cls = some m.cls ∧ (∀ w ∈ zp_GW P, w.before args s = true) ∧ z_KK P G XX s ∧ zg_base G ≤ s.heap.size ∧ meth.name = (zp_Y P mid).name ∧ (sc → va_X (zg_b G) (zg_L G) (zg_xs G) s s.heap ∧ zg_b G < s.heap.size ∧ zg_b G < zg_base G)
/-- memory and heap within a frame; n0, s0: cells and slots at its entry -/
def z_St (G : zG) (s : State) (n0 s0 : Nat) (M : zM) (H : Heap) (locs : List Loc) (cells slots : Nat) : Prop :=
  z_Rep G M H ∧ va_S (fun q => zg_base G ≤ q) s.heap H locs ∧ cells + n0 = zm_n M ∧ slots + s0 = zm_s M
/-- the tables say what the words say -/
def z_okC (P : zP) (G : zG) : Prop := (∀ w ∈ zp_GW P, (w.onTables && w.keeps) = true ∨ ∃ ty, w = .arrayClass ty) ∧ Cond.arrayClass .int ∈ zp_GW P ∧ Cond.arrayClass .byte ∈ zp_GW P ∧ Cond.arrayClass .long ∈ zp_GW P ∧ (∀ t C T N, (zg_cl G)[t]? = some (C, T, N) → t < 20 ∧ (∀ w ∈ u_ws C T N, w ∈ zp_GW P) ∧ (∀ x, x < N → ∀ y, y < N → x ≠ y → (T x).2.1 ≠ (T y).2.1) ∧ ∃ ty0 : Nat → FieldType, (∀ k, k < N → parseFieldDescriptor (T k).2.2.1 = some (ty0 k)) ∧ ∀ k, k < N → (zg_fk G t k = 0 ∧ ty0 k = .int) ∨ (zg_fk G t k = 1 ∧ ty0 k = .boolean) ∨ (∃ f, zg_fk G t k = f + 2 ∧ f < 30 ∧ ((∃ n, ty0 k = .object n) ∨ ∃ u, ty0 k = .array u))) ∧ (∃ T N, (zg_cl G)[zg_elt G 24]? = some (zp_C24 P, T, N)) ∧ (∃ T N, (zg_cl G)[zg_elt G 25]? = some (zp_C25 P, T, N)) ∧ zg_elt G 24 < 20 ∧ zg_elt G 25 < 20
def z_okM (T : zT) (P : zP) (mid : Nat) : Prop := Cond.code (zp_Y P mid) (zp_B P mid) (zt_nL T mid) (zp_RT P mid) ∈ zp_GW P ∧ plainName (zp_Y P mid).cls = true ∧ zt_nL T mid ≤ 21 ∧ ((zt_ret T mid = 0 ∧ zp_RT P mid = none) ∨ (zt_ret T mid = 1 ∧ zp_RT P mid = some .int) ∨ (zt_ret T mid = 2 ∧ zp_RT P mid = some .boolean) ∨ (zt_ret T mid = 3 ∧ zp_RT P mid = some .long) ∨ (zt_ret T mid = 4 ∧ ∃ n, zp_RT P mid = some (.object n)) ∨ (zt_ret T mid = 5 ∧ zp_RT P mid = some .char))
def z_okY (P : zP) (callee n : Nat) : Prop := (zp_Y P callee).cls ≠ "java/lang/invoke/MethodHandle" ∧ (zp_Y P callee).cls ≠ "java/lang/invoke/VarHandle" ∧ (parseMethodDescriptor (zp_Y P callee).desc).map (fun d => d.parameters.length) = some n ∧ Cond.initialized (zp_Y P callee).cls ∈ zp_GW P
def z_okCall (T : zT) (P : zP) (G : zG) (mid idx way callee n t : Nat) : Prop :=
  (way = 0 → z_okM T P callee ∧ z_okY P callee n ∧ (∃ Tt N, (zg_cl G)[t]? = some ((zp_Y P callee).cls, Tt, N)) ∧ Cond.methodLink (zp_Y P mid).cls idx (zp_Y P callee) ∈ zp_GW P ∧ Cond.instanceMethod (zp_Y P callee) ∈ zp_GW P ∧ Cond.selects (zp_Y P callee).cls (zp_Y P callee) (zp_Y P callee) ∈ zp_GW P) ∧
  (way = 1 → z_okM T P callee ∧ z_okY P callee n ∧ Cond.methodLink (zp_Y P mid).cls idx (zp_Y P callee) ∈ zp_GW P ∧ Cond.static (zp_Y P callee) ∈ zp_GW P) ∧
  (way = 8 → z_okM T P callee ∧ z_okY P callee n ∧ (∃ host, ((zp_Y P mid).cls, idx, zp_Y P callee, host) ∈ zp_NW P) ∧ Cond.static (zp_Y P callee) ∈ zp_GW P) ∧
  (way = 2 → t < 30 ∧ (z_okM T P callee ∧ z_okY P callee n ∧ zp_RT P callee = none ∧ (zp_Y P callee).name = "<init>" ∧ Cond.methodLink (zp_Y P mid).cls idx (zp_Y P callee) ∈ zp_GW P ∧ Cond.instanceMethod (zp_Y P callee) ∈ zp_GW P)) ∧
  (way = 9 → t < 30 ∧ (z_okM T P callee ∧ z_okY P callee n ∧ zp_RT P callee = none ∧ (zp_Y P callee).name = "<init>" ∧ (∃ host, ((zp_Y P mid).cls, idx, zp_Y P callee, host) ∈ zp_NW P) ∧ Cond.instanceMethod (zp_Y P callee) ∈ zp_GW P)) ∧
  (way = 3 → Cond.methodLink (zp_Y P mid).cls idx objectInit ∈ zp_GW P ∧ Cond.instanceMethod objectInit ∈ zp_GW P ∧ Cond.code objectInit ⟨#[0xb1]⟩ 1 none ∈ zp_GW P) ∧
  (way = 4 → Cond.methodLink (zp_Y P mid).cls idx Lib.Math.max.name ∈ zp_GW P ∧ Cond.static Lib.Math.max.name ∈ zp_GW P ∧ Cond.initialized "java/lang/Math" ∈ zp_GW P ∧ Cond.code Lib.Math.max.name Lib.Math.max.code 2 (some .int) ∈ zp_GW P) ∧
  (way = 5 → Cond.methodLink (zp_Y P mid).cls idx Lib.Math.min.name ∈ zp_GW P ∧ Cond.static Lib.Math.min.name ∈ zp_GW P ∧ Cond.initialized "java/lang/Math" ∈ zp_GW P ∧ Cond.code Lib.Math.min.name Lib.Math.min.code 2 (some .int) ∈ zp_GW P) ∧
  (way = 6 → Cond.methodLink (zp_Y P mid).cls idx arraycopyName ∈ zp_GW P ∧ Cond.native arraycopyName ∈ zp_GW P ∧ Cond.static arraycopyName ∈ zp_GW P ∧ Cond.initialized "java/lang/System" ∈ zp_GW P) ∧
  (way = 7 → z_okM T P callee ∧ z_okY P callee n ∧ (zp_Y P callee).cls = "java/lang/String" ∧ Cond.methodLink (zp_Y P mid).cls idx (zp_Y P callee) ∈ zp_GW P ∧ Cond.instanceMethod (zp_Y P callee) ∈ zp_GW P ∧ Cond.selects (zp_Y P callee).cls (zp_Y P callee) (zp_Y P callee) ∈ zp_GW P)
def z_ok (T : zT) (P : zP) (G : zG) : Prop := z_okC P G ∧
  (∀ mid pc i len note, zt_code T mid pc = some (i, len, note) → decode (zp_B P mid) pc = .ok (i, len)) ∧
  (∀ mid idx t j fk, zt_fld T mid idx = some (t, j, fk) → fk = zg_fk G t j ∧ ∃ C Tt N, (zg_cl G)[t]? = some (C, Tt, N) ∧ j < N ∧ Cond.fieldLink (zp_Y P mid).cls idx (Tt j).1 (Tt j).2.1 (Tt j).2.2.1 ∈ zp_GW P) ∧
  (∀ mid idx t j fk, zt_pfl T mid idx = some (t, j, fk) → fk = zg_fk G t j ∧ ∃ C Tt N, (zg_cl G)[t]? = some (C, Tt, N) ∧ j < N ∧ Cond.fieldLink (zp_Y P mid).cls idx (Tt j).1 (Tt j).2.1 (Tt j).2.2.1 ∈ zp_GW P ∧ ((Tt j).2.2.2 = false ∨ ((Tt j).2.2.2 = true ∧ (zp_Y P mid).name = "<init>" ∧ (Tt j).1 = (zp_Y P mid).cls))) ∧
  (∀ mid idx way callee n t, zt_cal T mid idx = some (way, callee, n, t) → z_okCall T P G mid idx way callee n t) ∧
  (∀ mid idx t N, zt_neu T mid idx = some (t, N) → ∃ C Tt, (zg_cl G)[t]? = some (C, Tt, N) ∧ Cond.classLink (zp_Y P mid).cls idx C ∈ zp_GW P ∧ Cond.instantiable C N ∈ zp_GW P ∧ Cond.initialized C ∈ zp_GW P) ∧
  (∀ mid idx t, zt_anw T mid idx = some t → (t = 24 ∧ Cond.classLink (zp_Y P mid).cls idx (zp_C24 P) ∈ zp_GW P) ∨ (t = 25 ∧ Cond.classLink (zp_Y P mid).cls idx (zp_C25 P) ∈ zp_GW P)) ∧
  (∀ mid idx j v w, zt_con T mid idx = some (0, j, v, w) → Cond.constant (zp_Y P mid).cls idx v ∈ zp_GW P) ∧
  (∀ mid idx j v w, zt_con T mid idx = some (1, j, v, w) → Cond.constantLong (zp_Y P mid).cls idx w ∈ zp_GW P) ∧
  (∀ mid idx j v w, zt_con T mid idx = some (2, j, v, w) → j < zg_nS G ∧ ∃ tx, ((zp_Y P mid).cls, idx, tx, j) ∈ zp_SS P) ∧
  (∀ t, zt_elt T t = zg_elt G t)
