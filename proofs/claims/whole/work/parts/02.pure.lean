/-! SOUNDNESS of the evaluator, first the instructions that touch locals and stack alone -/
/-- a value as the machine has it: addresses by kind and number -/
def z_cv (A : Nat → Nat → Nat) (v : zV) : Value := match v with
  | .inl x => .int x
  | .inr (.inl x) => .long x
  | .inr (.inr (_, none)) => .null
  | .inr (.inr (t, some k)) => .ref (A t k)
def z_cvl (A : Nat → Nat → Nat) (ls : List (Nat × zV)) : List (Nat × Value) := ls.map (fun q => (q.1, z_cv A q.2))
theorem z_cv_cat (A : Nat → Nat → Nat) (v : zV) : (z_cv A v).category = zc v := by
  rcases v with x | x | ⟨t, _ | k⟩ <;> rfl
theorem z_cv_rf (A : Nat → Nat → Nat) (t : Nat) (y : Option Nat) : z_cv A (.inr (.inr (t, y))) = va_rf (y.map (A t)) := by
  cases y <;> rfl
theorem z_beq (a b : Nat) : Nat.beq a b = (a == b) := by
  rw [Bool.eq_iff_iff]; simp [Nat.beq_eq]
theorem zl_get_mem {ls : List (Nat × zV)} {i : Nat} {v : zV} (h : zl_get ls i = some v) : (i, v) ∈ ls := by
  induction ls with
  | nil => simp [zl_get] at h
  | cons q r ih =>
    unfold zl_get at h
    cases hb : Nat.beq q.1 i with
    | true =>
      rw [hb] at h
      have e1 : q.1 = i := Nat.eq_of_beq_eq_true hb
      have e2 : q.2 = v := Option.some.inj h
      rw [← e1, ← e2]
      exact List.mem_cons_self
    | false =>
      rw [hb] at h
      exact List.mem_cons_of_mem _ (ih h)
theorem z_at {A : Nat → Nat → Nat} {lsA : Array Slot} {nL : Nat} {ls : List (Nat × zV)} (h : lv_has lsA nL (z_cvl A ls)) {i : Nat} {v : zV} (hg : zl_get ls i = some v) : lsA[i]? = some (.val (z_cv A v)) :=
  h.2.2 (i, z_cv A v) (List.mem_map.mpr ⟨(i, v), zl_get_mem hg, rfl⟩)
theorem z_cvl_st (A : Nat → Nat → Nat) (ls : List (Nat × zV)) (i : Nat) (v : zV) : (i, z_cv A v) :: (z_cvl A ls).filter (fun q => !(q.1 == i) && !(q.1 + 1 == i && q.2.category == 2)) = z_cvl A (zl_st i v ls) := by
  unfold zl_st z_cvl
  rw [List.map_cons, List.filter_map]
  congr 2
  apply List.filter_congr
  intro q _
  simp only [Function.comp, z_cv_cat, z_beq]
theorem z_cvl_st2 (A : Nat → Nat → Nat) (ls : List (Nat × zV)) (i : Nat) (v : zV) : (i, z_cv A v) :: (z_cvl A ls).filter (fun q => !(q.1 == i) && (!(q.1 == i + 1) && !(q.1 + 1 == i && q.2.category == 2))) = z_cvl A (zl_st2 i v ls) := by
  unfold zl_st2 z_cvl
  rw [List.map_cons, List.filter_map]
  congr 2
  apply List.filter_congr
  intro q _
  simp only [Function.comp, z_cv_cat, z_beq]
theorem z_mem_st {ls : List (Nat × zV)} {i : Nat} {v : zV} {q : Nat × zV} (h : q ∈ zl_st i v ls) : q = (i, v) ∨ q ∈ ls := by
  rcases List.mem_cons.mp h with h | h
  · exact Or.inl h
  · exact Or.inr (List.mem_filter.mp h).1
theorem z_mem_st2 {ls : List (Nat × zV)} {i : Nat} {v : zV} {q : Nat × zV} (h : q ∈ zl_st2 i v ls) : q = (i, v) ∨ q ∈ ls := by
  rcases List.mem_cons.mp h with h | h
  · exact Or.inl h
  · exact Or.inr (List.mem_filter.mp h).1
theorem z_blt {a b : Nat} (h : Nat.blt a b = true) : a < b := Nat.le_of_ble_eq_true h
theorem z_bif {α : Type} {b : Bool} {x : Option α} {y : α} (h : (bif b then x else none) = some y) : b = true ∧ x = some y := by
  cases b
  · cases h
  · exact ⟨rfl, h⟩
section ZPure
variable {p : Program} {l : Launch} {e : Env} {R : Room} {s : State} {m : MethodId} {args : Array Value} {below : List Frame} {meth : Method} {c : Code} {H : Heap} {locs : List Loc} {cells slots : Nat} {Q : State → Prop}
set_option maxHeartbeats 4000000 in
/-- one such instruction: if the machine goes well from behind it, it goes well from it -/
theorem z_pure {A : Nat → Nat → Nat} {cc : ByteArray} {nL note pc n : Nat} {i : Instr} {ls ls' : List (Nat × zV)} {st st' : List zV} {lsA : Array Slot} (hx : p.tables.exec = Jvm.exec) (hb : c.code = cc) (hd : decode cc pc = .ok (i, n)) (h : ez_pure note nL i ls st = some (n, ls', st')) (hl : lv_has lsA nL (z_cvl A ls))
    (kk : ∀ lsA' : Array Slot, lv_has lsA' nL (z_cvl A ls') → W p l e R s m args below meth c H locs cells slots Q (F0 m (pc + n) lsA' (st'.map (z_cv A)))) : W p l e R s m args below meth c H locs cells slots Q (F0 m pc lsA (st.map (z_cv A))) := by
  unfold ez_pure at h
  split at h
  case h_1 => cases h; exact lv_iconst hx hb hd rfl (kk lsA hl)
  case h_2 => cases h; exact lv_bipush hx hb hd rfl (kk lsA hl)
  case h_3 => cases h; exact lv_sipush hx hb hd rfl (kk lsA hl)
  case h_4 => cases h; exact lv_lconst hx hb hd rfl (kk lsA hl)
  case h_5 => cases h; exact lv_null hx hb hd (kk lsA hl)
  case h_6 =>
    split at h
    · rename_i hg; cases h; exact lv_iload hx hb hd (z_at hl hg) (kk lsA hl)
    · cases h
  case h_7 =>
    split at h
    · rename_i hg; cases h; exact lv_iload_n hx hb hd rfl (z_at hl hg) (kk lsA hl)
    · cases h
  case h_8 =>
    split at h
    · rename_i hg; cases h; exact lv_lload hx hb hd (z_at hl hg) (kk lsA hl)
    · cases h
  case h_9 =>
    split at h
    · rename_i hg; cases h; exact lv_lload_n hx hb hd rfl (z_at hl hg) (kk lsA hl)
    · cases h
  case h_10 =>
    split at h
    · rename_i y hg
      cases h
      obtain ⟨t, _ | k⟩ := y
      · exact lv_aloadN hx hb hd (z_at hl hg) (kk lsA hl)
      · exact lv_aload hx hb hd (z_at hl hg) (kk lsA hl)
    · cases h
  case h_11 =>
    split at h
    · rename_i y hg
      cases h
      obtain ⟨t, _ | k⟩ := y
      · exact lv_aload_nN hx hb hd rfl (z_at hl hg) (kk lsA hl)
      · exact lv_aload_n hx hb hd rfl (z_at hl hg) (kk lsA hl)
    · cases h
  case h_12 =>
    split at h
    · obtain ⟨g1, h⟩ := z_bif h
      cases h
      exact lv_istore hx hb hd hl (z_blt g1) (z_cvl_st A ls _ (.inl _)) kk
    · cases h
  case h_13 =>
    split at h
    · obtain ⟨g1, h⟩ := z_bif h
      cases h
      exact lv_istore_n hx hb hd rfl hl (z_blt g1) (z_cvl_st A ls _ (.inl _)) kk
    · cases h
  case h_14 =>
    split at h
    · obtain ⟨g1, h⟩ := z_bif h
      cases h
      exact lv_lstore hx hb hd hl (z_blt g1) (z_cvl_st2 A ls _ (.inr (.inl _))) kk
    · cases h
  case h_15 =>
    split at h
    · obtain ⟨g1, h⟩ := z_bif h
      cases h
      exact lv_lstore_n hx hb hd rfl hl (z_blt g1) (z_cvl_st2 A ls _ (.inr (.inl _))) kk
    · cases h
  case h_16 =>
    split at h
    · rename_i y r
      obtain ⟨g1, h⟩ := z_bif h
      cases h
      obtain ⟨t, _ | k⟩ := y
      · exact lv_astoreN hx hb hd hl (z_blt g1) (z_cvl_st A ls _ (.inr (.inr (t, none)))) kk
      · exact lv_astore hx hb hd hl (z_blt g1) (z_cvl_st A ls _ (.inr (.inr (t, some k)))) kk
    · cases h
  case h_17 =>
    split at h
    · rename_i y r
      obtain ⟨g1, h⟩ := z_bif h
      cases h
      obtain ⟨t, _ | k⟩ := y
      · exact lv_astore_nN hx hb hd rfl hl (z_blt g1) (z_cvl_st A ls _ (.inr (.inr (t, none)))) kk
      · exact lv_astore_n hx hb hd rfl hl (z_blt g1) (z_cvl_st A ls _ (.inr (.inr (t, some k)))) kk
    · cases h
  case h_18 =>
    split at h
    · rename_i hg
      obtain ⟨g1, h⟩ := z_bif h
      cases h
      obtain ⟨q, hq⟩ := List.getElem?_of_mem (List.mem_map.mpr ⟨_, zl_get_mem hg, rfl⟩ : _ ∈ z_cvl A ls)
      exact lv_iinc hx hb hd hl hq rfl (z_blt g1) (z_cvl_st A ls _ (.inl _)) kk
    · cases h
  case h_19 => split at h; (· cases h; exact lv_iadd hx hb hd (kk lsA hl)); (· cases h)
  case h_20 => split at h; (· cases h; exact lv_isub hx hb hd (kk lsA hl)); (· cases h)
  case h_21 => split at h; (· cases h; exact lv_imul hx hb hd (kk lsA hl)); (· cases h)
  case h_22 =>
    split at h
    · split at h
      · cases h
      · rename_i hne; cases h; exact lv_idiv hx hb hd hne (kk lsA hl)
    · cases h
  case h_23 =>
    split at h
    · split at h
      · cases h
      · rename_i hne; cases h; exact lv_irem hx hb hd hne (kk lsA hl)
    · cases h
  case h_24 => split at h; (· cases h; exact lv_iand hx hb hd (kk lsA hl)); (· cases h)
  case h_25 => split at h; (· cases h; exact lv_ior hx hb hd (kk lsA hl)); (· cases h)
  case h_26 => split at h; (· cases h; exact lv_ixor hx hb hd (kk lsA hl)); (· cases h)
  case h_27 => split at h; (· cases h; exact lv_ishl hx hb hd (kk lsA hl)); (· cases h)
  case h_28 => split at h; (· cases h; exact lv_ishr hx hb hd (kk lsA hl)); (· cases h)
  case h_29 => split at h; (· cases h; exact lv_iushr hx hb hd rfl (kk lsA hl)); (· cases h)
  case h_30 => split at h; (· cases h; exact lv_land hx hb hd (kk lsA hl)); (· cases h)
  case h_31 => split at h; (· cases h; exact lv_lor hx hb hd (kk lsA hl)); (· cases h)
  case h_32 => split at h; (· cases h; exact lv_lxor hx hb hd (kk lsA hl)); (· cases h)
  case h_33 => split at h; (· cases h; exact lv_lshl hx hb hd rfl (kk lsA hl)); (· cases h)
  case h_34 => split at h; (· cases h; exact lv_lshr hx hb hd rfl (kk lsA hl)); (· cases h)
  case h_35 => split at h; (· cases h; exact W.lcmp hx hb hd (kk lsA hl)); (· cases h)
  case h_36 => split at h; (· cases h; exact lv_i2l hx hb hd rfl (kk lsA hl)); (· cases h)
  case h_37 => split at h; (· cases h; exact lv_l2i hx hb hd rfl (kk lsA hl)); (· cases h)
  case h_38 => split at h; (· cases h; exact lv_i2b hx hb hd rfl (kk lsA hl)); (· cases h)
  case h_39 =>
    split at h
    · cases h; exact lv_dup hx hb hd (z_cv_cat A _) (kk lsA hl)
    · cases h; exact lv_dup hx hb hd (z_cv_cat A _) (kk lsA hl)
    · cases h
  case h_40 =>
    split at h
    · cases h; exact lv_dup2_11 hx hb hd (z_cv_cat A _) (z_cv_cat A _) (kk lsA hl)
    · cases h
  case h_41 =>
    split at h
    · cases h; exact lv_pop hx hb hd (z_cv_cat A _) (kk lsA hl)
    · cases h; exact lv_pop hx hb hd (z_cv_cat A _) (kk lsA hl)
    · cases h
  case h_42 => cases h
end ZPure
set_option maxHeartbeats 4000000 in
/-- such an instruction brings no new reference -/
theorem z_pure_vv {P : zV → Prop} {nL note n : Nat} {i : Instr} {ls ls' : List (Nat × zV)} {st st' : List zV} (hi : ∀ x, P (.inl x)) (hj : ∀ x, P (.inr (.inl x))) (hn : ∀ t, P (.inr (.inr (t, none)))) (h : ez_pure note nL i ls st = some (n, ls', st')) (hls : ∀ q ∈ ls, P q.2) (hst : ∀ v ∈ st, P v) : (∀ q ∈ ls', P q.2) ∧ ∀ v ∈ st', P v := by
  unfold ez_pure at h
  split at h
  case h_1 => cases h; exact ⟨hls, fun v hv => by
    rcases List.mem_cons.mp hv with rfl | hv
    · simp only [hi, hj, hn]
    · exact hst v hv⟩
  case h_2 => cases h; exact ⟨hls, fun v hv => by
    rcases List.mem_cons.mp hv with rfl | hv
    · simp only [hi, hj, hn]
    · exact hst v hv⟩
  case h_3 => cases h; exact ⟨hls, fun v hv => by
    rcases List.mem_cons.mp hv with rfl | hv
    · simp only [hi, hj, hn]
    · exact hst v hv⟩
  case h_4 => cases h; exact ⟨hls, fun v hv => by
    rcases List.mem_cons.mp hv with rfl | hv
    · simp only [hi, hj, hn]
    · exact hst v hv⟩
  case h_5 => cases h; exact ⟨hls, fun v hv => by
    rcases List.mem_cons.mp hv with rfl | hv
    · simp only [hi, hj, hn]
    · exact hst v hv⟩
  case h_6 =>
    split at h
    · rename_i hg; cases h; exact ⟨hls, fun v hv => by
        rcases List.mem_cons.mp hv with rfl | hv
        · exact hls _ (zl_get_mem hg)
        · exact hst v hv⟩
    · cases h
  case h_7 =>
    split at h
    · rename_i hg; cases h; exact ⟨hls, fun v hv => by
        rcases List.mem_cons.mp hv with rfl | hv
        · exact hls _ (zl_get_mem hg)
        · exact hst v hv⟩
    · cases h
  case h_8 =>
    split at h
    · rename_i hg; cases h; exact ⟨hls, fun v hv => by
        rcases List.mem_cons.mp hv with rfl | hv
        · exact hls _ (zl_get_mem hg)
        · exact hst v hv⟩
    · cases h
  case h_9 =>
    split at h
    · rename_i hg; cases h; exact ⟨hls, fun v hv => by
        rcases List.mem_cons.mp hv with rfl | hv
        · exact hls _ (zl_get_mem hg)
        · exact hst v hv⟩
    · cases h
  case h_10 =>
    split at h
    · rename_i hg; cases h; exact ⟨hls, fun v hv => by
        rcases List.mem_cons.mp hv with rfl | hv
        · exact hls _ (zl_get_mem hg)
        · exact hst v hv⟩
    · cases h
  case h_11 =>
    split at h
    · rename_i hg; cases h; exact ⟨hls, fun v hv => by
        rcases List.mem_cons.mp hv with rfl | hv
        · exact hls _ (zl_get_mem hg)
        · exact hst v hv⟩
    · cases h
  case h_12 =>
    split at h
    · obtain ⟨-, h⟩ := z_bif h
      cases h
      exact ⟨fun q hq => (z_mem_st hq).elim (fun e => by rw [e]; exact hst _ List.mem_cons_self) (hls q), fun v hv => hst v (List.mem_cons_of_mem _ hv)⟩
    · cases h
  case h_13 =>
    split at h
    · obtain ⟨-, h⟩ := z_bif h
      cases h
      exact ⟨fun q hq => (z_mem_st hq).elim (fun e => by rw [e]; exact hst _ List.mem_cons_self) (hls q), fun v hv => hst v (List.mem_cons_of_mem _ hv)⟩
    · cases h
  case h_16 =>
    split at h
    · obtain ⟨-, h⟩ := z_bif h
      cases h
      exact ⟨fun q hq => (z_mem_st hq).elim (fun e => by rw [e]; exact hst _ List.mem_cons_self) (hls q), fun v hv => hst v (List.mem_cons_of_mem _ hv)⟩
    · cases h
  case h_17 =>
    split at h
    · obtain ⟨-, h⟩ := z_bif h
      cases h
      exact ⟨fun q hq => (z_mem_st hq).elim (fun e => by rw [e]; exact hst _ List.mem_cons_self) (hls q), fun v hv => hst v (List.mem_cons_of_mem _ hv)⟩
    · cases h
  case h_14 =>
    split at h
    · obtain ⟨-, h⟩ := z_bif h
      cases h
      exact ⟨fun q hq => (z_mem_st2 hq).elim (fun e => by rw [e]; exact hst _ List.mem_cons_self) (hls q), fun v hv => hst v (List.mem_cons_of_mem _ hv)⟩
    · cases h
  case h_15 =>
    split at h
    · obtain ⟨-, h⟩ := z_bif h
      cases h
      exact ⟨fun q hq => (z_mem_st2 hq).elim (fun e => by rw [e]; exact hst _ List.mem_cons_self) (hls q), fun v hv => hst v (List.mem_cons_of_mem _ hv)⟩
    · cases h
  case h_18 =>
    split at h
    · obtain ⟨-, h⟩ := z_bif h
      cases h
      exact ⟨fun q hq => (z_mem_st hq).elim (fun e => by rw [e]; exact hi _) (hls q), hst⟩
    · cases h
  case h_19 =>
    split at h
    · cases h
      exact ⟨hls, fun v hv => by
        rcases List.mem_cons.mp hv with rfl | hv
        · first | exact hi _ | exact hj _
        · exact hst v (List.mem_cons_of_mem _ (List.mem_cons_of_mem _ hv))⟩
    · cases h
  case h_20 =>
    split at h
    · cases h
      exact ⟨hls, fun v hv => by
        rcases List.mem_cons.mp hv with rfl | hv
        · first | exact hi _ | exact hj _
        · exact hst v (List.mem_cons_of_mem _ (List.mem_cons_of_mem _ hv))⟩
    · cases h
  case h_21 =>
    split at h
    · cases h
      exact ⟨hls, fun v hv => by
        rcases List.mem_cons.mp hv with rfl | hv
        · first | exact hi _ | exact hj _
        · exact hst v (List.mem_cons_of_mem _ (List.mem_cons_of_mem _ hv))⟩
    · cases h
  case h_24 =>
    split at h
    · cases h
      exact ⟨hls, fun v hv => by
        rcases List.mem_cons.mp hv with rfl | hv
        · first | exact hi _ | exact hj _
        · exact hst v (List.mem_cons_of_mem _ (List.mem_cons_of_mem _ hv))⟩
    · cases h
  case h_25 =>
    split at h
    · cases h
      exact ⟨hls, fun v hv => by
        rcases List.mem_cons.mp hv with rfl | hv
        · first | exact hi _ | exact hj _
        · exact hst v (List.mem_cons_of_mem _ (List.mem_cons_of_mem _ hv))⟩
    · cases h
  case h_26 =>
    split at h
    · cases h
      exact ⟨hls, fun v hv => by
        rcases List.mem_cons.mp hv with rfl | hv
        · first | exact hi _ | exact hj _
        · exact hst v (List.mem_cons_of_mem _ (List.mem_cons_of_mem _ hv))⟩
    · cases h
  case h_27 =>
    split at h
    · cases h
      exact ⟨hls, fun v hv => by
        rcases List.mem_cons.mp hv with rfl | hv
        · first | exact hi _ | exact hj _
        · exact hst v (List.mem_cons_of_mem _ (List.mem_cons_of_mem _ hv))⟩
    · cases h
  case h_28 =>
    split at h
    · cases h
      exact ⟨hls, fun v hv => by
        rcases List.mem_cons.mp hv with rfl | hv
        · first | exact hi _ | exact hj _
        · exact hst v (List.mem_cons_of_mem _ (List.mem_cons_of_mem _ hv))⟩
    · cases h
  case h_29 =>
    split at h
    · cases h
      exact ⟨hls, fun v hv => by
        rcases List.mem_cons.mp hv with rfl | hv
        · first | exact hi _ | exact hj _
        · exact hst v (List.mem_cons_of_mem _ (List.mem_cons_of_mem _ hv))⟩
    · cases h
  case h_30 =>
    split at h
    · cases h
      exact ⟨hls, fun v hv => by
        rcases List.mem_cons.mp hv with rfl | hv
        · first | exact hi _ | exact hj _
        · exact hst v (List.mem_cons_of_mem _ (List.mem_cons_of_mem _ hv))⟩
    · cases h
  case h_31 =>
    split at h
    · cases h
      exact ⟨hls, fun v hv => by
        rcases List.mem_cons.mp hv with rfl | hv
        · first | exact hi _ | exact hj _
        · exact hst v (List.mem_cons_of_mem _ (List.mem_cons_of_mem _ hv))⟩
    · cases h
  case h_32 =>
    split at h
    · cases h
      exact ⟨hls, fun v hv => by
        rcases List.mem_cons.mp hv with rfl | hv
        · first | exact hi _ | exact hj _
        · exact hst v (List.mem_cons_of_mem _ (List.mem_cons_of_mem _ hv))⟩
    · cases h
  case h_33 =>
    split at h
    · cases h
      exact ⟨hls, fun v hv => by
        rcases List.mem_cons.mp hv with rfl | hv
        · first | exact hi _ | exact hj _
        · exact hst v (List.mem_cons_of_mem _ (List.mem_cons_of_mem _ hv))⟩
    · cases h
  case h_34 =>
    split at h
    · cases h
      exact ⟨hls, fun v hv => by
        rcases List.mem_cons.mp hv with rfl | hv
        · first | exact hi _ | exact hj _
        · exact hst v (List.mem_cons_of_mem _ (List.mem_cons_of_mem _ hv))⟩
    · cases h
  case h_35 =>
    split at h
    · cases h
      exact ⟨hls, fun v hv => by
        rcases List.mem_cons.mp hv with rfl | hv
        · first | exact hi _ | exact hj _
        · exact hst v (List.mem_cons_of_mem _ (List.mem_cons_of_mem _ hv))⟩
    · cases h
  case h_22 =>
    split at h
    · split at h
      · cases h
      · cases h
        exact ⟨hls, fun v hv => by
          rcases List.mem_cons.mp hv with rfl | hv
          · exact hi _
          · exact hst v (List.mem_cons_of_mem _ (List.mem_cons_of_mem _ hv))⟩
    · cases h
  case h_23 =>
    split at h
    · split at h
      · cases h
      · cases h
        exact ⟨hls, fun v hv => by
          rcases List.mem_cons.mp hv with rfl | hv
          · exact hi _
          · exact hst v (List.mem_cons_of_mem _ (List.mem_cons_of_mem _ hv))⟩
    · cases h
  case h_36 =>
    split at h
    · cases h
      exact ⟨hls, fun v hv => by
        rcases List.mem_cons.mp hv with rfl | hv
        · first | exact hi _ | exact hj _
        · exact hst v (List.mem_cons_of_mem _ hv)⟩
    · cases h
  case h_37 =>
    split at h
    · cases h
      exact ⟨hls, fun v hv => by
        rcases List.mem_cons.mp hv with rfl | hv
        · first | exact hi _ | exact hj _
        · exact hst v (List.mem_cons_of_mem _ hv)⟩
    · cases h
  case h_38 =>
    split at h
    · cases h
      exact ⟨hls, fun v hv => by
        rcases List.mem_cons.mp hv with rfl | hv
        · first | exact hi _ | exact hj _
        · exact hst v (List.mem_cons_of_mem _ hv)⟩
    · cases h
  case h_39 =>
    split at h
    · cases h
      exact ⟨hls, fun v hv => (List.mem_cons.mp hv).elim (fun e => by rw [e]; exact hst _ List.mem_cons_self) (hst v)⟩
    · cases h
      exact ⟨hls, fun v hv => (List.mem_cons.mp hv).elim (fun e => by rw [e]; exact hst _ List.mem_cons_self) (hst v)⟩
    · cases h
  case h_40 =>
    split at h
    · cases h
      exact ⟨hls, fun v hv => (List.mem_cons.mp hv).elim (fun e => by rw [e]; exact hst _ List.mem_cons_self) (fun hv => (List.mem_cons.mp hv).elim (fun e => by rw [e]; exact hst _ (List.mem_cons_of_mem _ List.mem_cons_self)) (hst v))⟩
    · cases h
  case h_41 =>
    split at h
    · cases h
      exact ⟨hls, fun v hv => hst v (List.mem_cons_of_mem _ hv)⟩
    · cases h
      exact ⟨hls, fun v hv => hst v (List.mem_cons_of_mem _ hv)⟩
    · cases h
  case h_42 => cases h
