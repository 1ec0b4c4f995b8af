/-! CALLS -/
theorem z_zcsum (A : Nat → Nat → Nat) (r : List zV) : ((r.map (z_cv A)).map fun v => v.category).sum = zc_sum r := by
  induction r with
  | nil => rfl
  | cons v r ih =>
    rw [List.map_cons, List.map_cons, List.sum_cons, ih, z_cv_cat]
    rfl
theorem z_args_cv (A : Nat → Nat → Nat) (as : List zV) : ∀ i, lv_args i (as.map (z_cv A)) = z_cvl A (zl_args i as) := by
  induction as with
  | nil => intro i; rfl
  | cons v r ih =>
    intro i
    show (i, z_cv A v) :: lv_args (if (z_cv A v).category = 2 then i + 2 else i + 1) (r.map (z_cv A)) = (i, z_cv A v) :: z_cvl A (zl_args (i + zc v) r)
    rw [ih, z_cv_cat]
    congr 2
    have : zc v = 1 ∨ zc v = 2 := by rcases v with x | x | ⟨t, _ | k⟩ <;> simp [zc]
    rcases this with e | e <;> rw [e] <;> rfl
theorem z_sl_len (A : Nat → Nat → Nat) (as : List zV) : (lg_sl (as.map (z_cv A))).length = zc_sum as := by
  induction as with
  | nil => rfl
  | cons v r ih =>
    unfold lg_sl at ih ⊢
    rw [List.map_cons, List.flatMap_cons, List.length_append, ih, z_cv_cat]
    have : zc v = 1 ∨ zc v = 2 := by rcases v with x | x | ⟨t, _ | k⟩ <;> simp [zc]
    show _ = zc v + zc_sum r
    rcases this with e | e <;> rw [e] <;> rfl
theorem z_mem_args {as : List zV} : ∀ {i : Nat} {q : Nat × zV}, q ∈ zl_args i as → q.2 ∈ as := by
  induction as with
  | nil => intro i q h; cases h
  | cons v r ih =>
    intro i q h
    rcases List.mem_cons.mp h with rfl | h
    · exact List.mem_cons_self
    · exact List.mem_cons_of_mem _ (ih h)
theorem z_VVno {G : zG} {sc : Prop} {M : zM} {v : zV} (h : z_VV G sc M v) (hn : z_no v = true) : z_VV G False M v := by
  rcases v with x | x | ⟨t, _ | k⟩
  · trivial
  · trivial
  · trivial
  · rcases h with h | h | h
    · exact Or.inl h
    · have : t = 90 := h.1
      subst this
      simp [z_no] at hn
    · exact Or.inr (Or.inr h)
theorem z_VVsc {G : zG} {sc : Prop} {M : zM} {v : zV} (h : z_VV G False M v) : z_VV G sc M v := by
  rcases v with x | x | ⟨t, _ | k⟩
  · trivial
  · trivial
  · trivial
  · rcases h with h | h | h
    · exact Or.inl h
    · exact h.2.1.elim
    · exact Or.inr (Or.inr h)
section ZCalls
variable {p : Program} {l : Launch} {e : Env} {R : Room} {s : State} {m : MethodId} {args : Array Value} {below : List Frame} {meth : Method} {c : Code} {Q : State → Prop}
variable {α : Type} {T : zT} {P : zP} {G : zG} {XX : State → Prop} {next : Nat → List (Nat × zV) → List zV → zM → Option α} {out : α} {mid n0 s0 : Nat} {sc : Prop}
variable {pc : Nat} {ls : List (Nat × zV)} {M : zM} {H : Heap} {locs : List Loc} {cells slots : Nat} {lsA : Array Slot} {r rest st : List zV}
/-- behind a call: the callee's memory, its answer on the stack -/
theorem z_back {a0 : Array Value} {st0 : List Value} {rv : Option zV} {M' : zM} (hst : z_St G s n0 s0 M H locs cells slots) (hl : lv_has lsA (zt_nL T mid) (z_cvl (zg_A G) ls)) (hvl : ∀ q ∈ ls, z_VV G sc M q.2) (hnx : z_Nx p l e R s m args below meth c Q T G next out mid n0 s0 sc) (hle : z_le M M') (hrv : ∀ v, rv = some v → z_VV G False M' v) (hvr : ∀ v ∈ rest, z_VV G sc M v) (hn : next (pc + 3) ls (rv.toList ++ rest) M' = some out) (hbase : zg_base G ≤ s.heap.size)
    (hr : va_Run p l e R s m args below meth c H locs cells slots (zm_n M' - zm_n M) (zm_s M' - zm_s M) (F0 m pc lsA st0) (rest.map (z_cv (zg_A G))) (z_Qc G rv M' a0) (fun q => zg_base G ≤ q)) : W p l e R s m args below meth c H locs cells slots Q (F0 m pc lsA st0) := by
  intro U hU X
  obtain ⟨v, st₀, t, U', L, h0, X', hL, e1, e2, ⟨hv, hRep, hF⟩, go⟩ := hr U hU X
  have hv : v = rv.map (z_cv (zg_A G)) := Outcome.returned.inj hv
  subst hv
  obtain ⟨g1, g2, g3, g4⟩ := hst
  rw [← h0] at g2
  have hS : va_S (fun q => zg_base G ≤ q) s.heap t.heap (locs ++ L) := ⟨Nat.le_trans g2.1 hF.1, fun q q1 q2 => by rw [hF.2 q (Nat.lt_of_lt_of_le q1 g2.1) q2]; exact g2.2.1 q q1 q2, fun z hz => by
    rcases List.mem_append.mp hz with h | h
    · exact g2.2.2 z h
    · exact hL z h⟩
  have hstk : (rv.map (z_cv (zg_A G))).toList ++ rest.map (z_cv (zg_A G)) = (rv.toList ++ rest).map (z_cv (zg_A G)) := by cases rv <;> rfl
  have hle1 := hle.1
  have hle2 := hle.2.1
  obtain ⟨t2, a1, b1⟩ := hnx _ _ _ _ t.heap (locs ++ L) (cells + (zm_n M' - zm_n M)) (slots + (zm_s M' - zm_s M)) lsA hn ⟨hRep, hS, by omega, by omega⟩ hl (fun q hq => (hvl q hq).mono hle.2.2) (fun w hw => by
    rcases List.mem_append.mp hw with h | h
    · exact z_VVsc (hrv w (Option.mem_toList.mp h))
    · exact (hvr w h).mono hle.2.2) U' e1 X'
  refine ⟨t2, go t2 ?_, b1⟩
  show Steps p.tables e below (U'.setTop (F0 m (pc + 3) lsA ((rv.map (z_cv (zg_A G))).toList ++ rest.map (z_cv (zg_A G))))) t2
  rw [hstk]
  exact a1
theorem z_goodC {w : Cond} {ws : List Cond} (hok : z_ok T P G) (h : ∀ x ∈ w :: zp_GW P, x ∈ zp_GW P) : GoodIn (zp_GW P) (w :: zp_GW P) := fun x hx => ⟨h x hx, hok.1.1 x (h x hx)⟩
theorem z_good {callee : Nat} (hok : z_ok T P G) (hM : z_okM T P callee) : GoodIn (zp_GW P) (Cond.code (zp_Y P callee) (zp_B P callee) (zt_nL T callee) (zp_RT P callee) :: zp_GW P) := fun x hx => by
  have : x ∈ zp_GW P := (List.mem_cons.mp hx).elim (fun e => by rw [e]; exact hM.1) id
  exact ⟨this, hok.1.1 x this⟩
/-- what a call needs of the caller's state -/
theorem z_pre (hc : z_clo G XX) (hF : z_Fr T P G XX p s m args meth c mid sc) (hst : z_St G s n0 s0 M H locs cells slots) (as : List zV) : PreS s H (z_Pc P G XX as M) (as.map (z_cv (zg_A G))) := by
  refine ⟨z_blind hc as M, fun U hU hW => ⟨rfl, by rw [hU]; exact hst.1, by rw [hU]; exact Nat.le_trans hF.2.2.2.2.2.2.1 hst.2.1.1, ?_⟩⟩
  refine hF.2.2.2.2.2.1.warm hc hW hF.2.2.2.2.2.2.1 fun q hq => ?_
  rw [hU]
  exact hst.2.1.2.1 q (Nat.lt_of_lt_of_le hq hF.2.2.2.2.2.2.1) (Nat.not_le.mpr hq)
theorem zc_virtual (hok : z_ok T P G) (hF : z_Fr T P G XX p s m args meth c mid sc) (hst : z_St G s n0 s0 M H locs cells slots) (hl : lv_has lsA (zt_nL T mid) (z_cvl (zg_A G) ls)) (hvl : ∀ q ∈ ls, z_VV G sc M q.2) (hnx : z_Nx p l e R s m args below meth c Q T G next out mid n0 s0 sc) {idx callee n t d : Nat} {rv : Option zV} {M' : zM} {k : Nat} {as' as : List zV} (has : as = .inr (.inr (t, some k)) :: as') (hc : z_clo G XX) (hle : z_le M M') (hrv : ∀ v, rv = some v → z_VV G False M' v) (hR : R.frames ≥ d + 1 + 10 ∧ R.locals ≥ 48 * (d + 1) + 200) (hroom : zm_n M' ≤ R.cells + n0 ∧ zm_s M' ≤ R.slots + s0) (hM : z_Met T P G XX l (z_room d) callee as M rv M') (hvr : ∀ v ∈ rest, z_VV G sc M v) (h8 : zc_sum rest ≤ 8) (hn : next (pc + 3) ls (rv.toList ++ rest) M' = some out) (hd : decode (zp_B P mid) pc = .ok (.invokevirtual idx, 3)) (hlen : as'.length = n) (hvk : z_VV G sc M (.inr (.inr (t, some k)))) (ht30 : t < 30) (hcal : z_okM T P callee ∧ z_okY P callee n ∧ (∃ Tt N, (zg_cl G)[t]? = some ((zp_Y P callee).cls, Tt, N)) ∧ Cond.methodLink (zp_Y P mid).cls idx (zp_Y P callee) ∈ zp_GW P ∧ Cond.instanceMethod (zp_Y P callee) ∈ zp_GW P ∧ Cond.selects (zp_Y P callee).cls (zp_Y P callee) (zp_Y P callee) ∈ zp_GW P)
    : W p l e R s m args below meth c H locs cells slots Q (F0 m pc lsA ((as'.reverse ++ .inr (.inr (t, some k)) :: rest : List zV).map (z_cv (zg_A G)))) := by
  obtain ⟨hx, hb, hml, hown, hts, hKK, hbase, hname, hsc⟩ := id hF
  have hc1 := hst.2.2.1
  have hc2 := hst.2.2.2
  have hle1 := hle.1
  have hle2 := hle.2.1
  obtain ⟨hMo, hY, ⟨Tt, N, hcl⟩, w1, w2, w3⟩ := hcal
  subst has
  have ht20 := (hok.1.2.2.2.2.1 t _ Tt N hcl).1
  have hk := z_VVk hvk ht30
  have he := z_ws_at hst.1 hk
  rw [z_cell_o G M ht20] at he
  have hrecv := va_recv hKK.1 hst.1.1 hcl he
  have hnL := hMo.2.2.1
  have pre := z_pre (P := P) hc hF hst (.inr (.inr (t, some k)) :: as')
  have cb := callB_of (R := R) (own := (zp_Y P mid).cls) (index := idx) (rm := z_room d (zm_n M' - zm_n M) (zm_s M' - zm_s M)) n hts (z_good hok hMo) rfl rfl rfl (hts _ hY.2.2.2) (hts _ w1) ⟨hY.1, hY.2.1, hY.2.2.1⟩ ⟨by show d + 10 + 1 ≤ _; omega, by show 8 + (_ + 11) + (48 * d + 200) ≤ _; omega⟩
  rw [List.map_append, List.map_cons, List.map_reverse]
  have hadk : z_cv (zg_A G) (.inr (.inr (t, some k))) = .ref (zg_ad G k) := by
    show Value.ref (zg_A G t k) = _
    rw [zg_A_ad G ht30]
  rw [hadk]
  refine z_back (rest := rest) hst hl hvl hnx hle hrv hvr hn hbase (va_runV (As := as'.map (z_cv (zg_A G))) (C := (zp_Y P callee).cls) ⟨hx, hb, hml, hown, hts⟩ hM ⟨cb, hts _ w2, hts _ w3⟩ ⟨pre.1, hrecv, fun U hU hW => ?_⟩ rfl (by rw [List.length_map]; exact hlen) hl.1 rfl (lv_room (by rw [z_zcsum]; exact h8)) hd ⟨by omega, by omega⟩)
  have h9 := pre.2 U hU hW
  rw [List.map_cons, hadk] at h9
  exact h9
theorem zc_static (hok : z_ok T P G) (hF : z_Fr T P G XX p s m args meth c mid sc) (hst : z_St G s n0 s0 M H locs cells slots) (hl : lv_has lsA (zt_nL T mid) (z_cvl (zg_A G) ls)) (hvl : ∀ q ∈ ls, z_VV G sc M q.2) (hnx : z_Nx p l e R s m args below meth c Q T G next out mid n0 s0 sc) {idx callee n t d : Nat} {rv : Option zV} {M' : zM} {as : List zV} (hc : z_clo G XX) (hle : z_le M M') (hrv : ∀ v, rv = some v → z_VV G False M' v) (hR : R.frames ≥ d + 1 + 10 ∧ R.locals ≥ 48 * (d + 1) + 200) (hroom : zm_n M' ≤ R.cells + n0 ∧ zm_s M' ≤ R.slots + s0) (hM : z_Met T P G XX l (z_room d) callee as M rv M') (hvr : ∀ v ∈ rest, z_VV G sc M v) (h8 : zc_sum rest ≤ 8) (hn : next (pc + 3) ls (rv.toList ++ rest) M' = some out) (hd : decode (zp_B P mid) pc = .ok (.invokestatic idx, 3)) (hlen : as.length = n) (hcal : z_okM T P callee ∧ z_okY P callee n ∧ Cond.methodLink (zp_Y P mid).cls idx (zp_Y P callee) ∈ zp_GW P ∧ Cond.static (zp_Y P callee) ∈ zp_GW P)
    : W p l e R s m args below meth c H locs cells slots Q (F0 m pc lsA ((as.reverse ++ rest : List zV).map (z_cv (zg_A G)))) := by
  obtain ⟨hx, hb, hml, hown, hts, hKK, hbase, hname, hsc⟩ := id hF
  have hc1 := hst.2.2.1
  have hc2 := hst.2.2.2
  have hle1 := hle.1
  have hle2 := hle.2.1
  obtain ⟨hMo, hY, w1, w2⟩ := hcal
  have hnL := hMo.2.2.1
  have pre := z_pre (P := P) hc hF hst as
  have cb := callB_of (R := R) (own := (zp_Y P mid).cls) (index := idx) (rm := z_room d (zm_n M' - zm_n M) (zm_s M' - zm_s M)) n hts (z_good hok hMo) rfl rfl rfl (hts _ hY.2.2.2) (hts _ w1) ⟨hY.1, hY.2.1, hY.2.2.1⟩ ⟨by show d + 10 + 1 ≤ _; omega, by show 8 + (_ + 11) + (48 * d + 200) ≤ _; omega⟩
  rw [List.map_append, List.map_reverse]
  exact z_back (rest := rest) hst hl hvl hnx hle hrv hvr hn hbase (va_runS (As := as.map (z_cv (zg_A G))) ⟨hx, hb, hml, hown, hts⟩ hM ⟨cb, hts _ w2⟩ pre rfl (by rw [List.length_map]; exact hlen) hl.1 rfl (lv_room (by rw [z_zcsum]; exact h8)) hd ⟨by omega, by omega⟩)
theorem zc_staticN (hok : z_ok T P G) (hF : z_Fr T P G XX p s m args meth c mid sc) (hst : z_St G s n0 s0 M H locs cells slots) (hl : lv_has lsA (zt_nL T mid) (z_cvl (zg_A G) ls)) (hvl : ∀ q ∈ ls, z_VV G sc M q.2) (hnx : z_Nx p l e R s m args below meth c Q T G next out mid n0 s0 sc) {idx callee n t d : Nat} {rv : Option zV} {M' : zM} {as : List zV} (hc : z_clo G XX) (hle : z_le M M') (hrv : ∀ v, rv = some v → z_VV G False M' v) (hR : R.frames ≥ d + 1 + 10 ∧ R.locals ≥ 48 * (d + 1) + 200) (hroom : zm_n M' ≤ R.cells + n0 ∧ zm_s M' ≤ R.slots + s0) (hM : z_Met T P G XX l (z_room d) callee as M rv M') (hvr : ∀ v ∈ rest, z_VV G sc M v) (h8 : zc_sum rest ≤ 8) (hn : next (pc + 3) ls (rv.toList ++ rest) M' = some out) (hd : decode (zp_B P mid) pc = .ok (.invokestatic idx, 3)) (hlen : as.length = n) (hcal : z_okM T P callee ∧ z_okY P callee n ∧ (∃ host, ((zp_Y P mid).cls, idx, zp_Y P callee, host) ∈ zp_NW P) ∧ Cond.static (zp_Y P callee) ∈ zp_GW P)
    : W p l e R s m args below meth c H locs cells slots Q (F0 m pc lsA ((as.reverse ++ rest : List zV).map (z_cv (zg_A G)))) := by
  obtain ⟨hx, hb, hml, hown, hts, hKK, hbase, hname, hsc⟩ := id hF
  have hc1 := hst.2.2.1
  have hc2 := hst.2.2.2
  have hle1 := hle.1
  have hle2 := hle.2.1
  obtain ⟨hMo, hY, ⟨host, w1⟩, w2⟩ := hcal
  have hnL := hMo.2.2.1
  have pre := z_pre (P := P) hc hF hst as
  have cb := va_cnB (R := R) (own := (zp_Y P mid).cls) (host := host) (index := idx) (rm := z_room d (zm_n M' - zm_n M) (zm_s M' - zm_s M)) n hts (z_good hok hMo) rfl rfl rfl (hKK.2.2.2.1 _ w1) (hts _ hY.2.2.2) ⟨hY.1, hY.2.1, hY.2.2.1⟩ ⟨by show d + 10 + 1 ≤ _; omega, by show 8 + (_ + 11) + (48 * d + 200) ≤ _; omega⟩
  rw [List.map_append, List.map_reverse]
  exact z_back (rest := rest) hst hl hvl hnx hle hrv hvr hn hbase (va_runSN (As := as.map (z_cv (zg_A G))) ⟨hx, hb, hml, hown, hts⟩ hM ⟨cb, hts _ w2, trivial⟩ pre rfl (by rw [List.length_map]; exact hlen) hl.1 rfl (lv_room (by rw [z_zcsum]; exact h8)) hd ⟨by omega, by omega⟩)
theorem zc_init (hok : z_ok T P G) (hF : z_Fr T P G XX p s m args meth c mid sc) (hst : z_St G s n0 s0 M H locs cells slots) (hl : lv_has lsA (zt_nL T mid) (z_cvl (zg_A G) ls)) (hvl : ∀ q ∈ ls, z_VV G sc M q.2) (hnx : z_Nx p l e R s m args below meth c Q T G next out mid n0 s0 sc) {idx callee n t d : Nat} {rv : Option zV} {M' : zM} {k : Nat} {as' as : List zV} (has : as = .inr (.inr (t, some k)) :: as') (hc : z_clo G XX) (hle : z_le M M') (hrv : ∀ v, rv = some v → z_VV G False M' v) (hR : R.frames ≥ d + 1 + 10 ∧ R.locals ≥ 48 * (d + 1) + 200) (hroom : zm_n M' ≤ R.cells + n0 ∧ zm_s M' ≤ R.slots + s0) (hM : z_Met T P G XX l (z_room d) callee as M rv M') (hvr : ∀ v ∈ rest, z_VV G sc M v) (h8 : zc_sum rest ≤ 8) (hn : next (pc + 3) ls (rv.toList ++ rest) M' = some out) (hd : decode (zp_B P mid) pc = .ok (.invokespecial idx, 3)) (hlen : as'.length = n) (ht30 : t < 30) (hcal : z_okM T P callee ∧ z_okY P callee n ∧ zp_RT P callee = none ∧ (zp_Y P callee).name = "<init>" ∧ Cond.methodLink (zp_Y P mid).cls idx (zp_Y P callee) ∈ zp_GW P ∧ Cond.instanceMethod (zp_Y P callee) ∈ zp_GW P)
    : W p l e R s m args below meth c H locs cells slots Q (F0 m pc lsA ((as'.reverse ++ .inr (.inr (t, some k)) :: rest : List zV).map (z_cv (zg_A G)))) := by
  obtain ⟨hx, hb, hml, hown, hts, hKK, hbase, hname, hsc⟩ := id hF
  have hc1 := hst.2.2.1
  have hc2 := hst.2.2.2
  have hle1 := hle.1
  have hle2 := hle.2.1
  obtain ⟨hMo, hY, hnone, hini, w1, w2⟩ := hcal
  subst has
  have hnL := hMo.2.2.1
  have hgood := z_good hok hMo
  unfold z_Met at hM
  rw [hnone] at hM hgood
  have pre := z_pre (P := P) hc hF hst (.inr (.inr (t, some k)) :: as')
  have cb := callB_of (R := R) (own := (zp_Y P mid).cls) (index := idx) (rm := z_room d (zm_n M' - zm_n M) (zm_s M' - zm_s M)) n hts hgood rfl rfl rfl (hts _ hY.2.2.2) (hts _ w1) ⟨hY.1, hY.2.1, hY.2.2.1⟩ ⟨by show d + 10 + 1 ≤ _; omega, by show 8 + (_ + 11) + (48 * d + 200) ≤ _; omega⟩
  rw [List.map_append, List.map_cons, List.map_reverse]
  have hadk : z_cv (zg_A G) (.inr (.inr (t, some k))) = .ref (zg_ad G k) := by
    show Value.ref (zg_A G t k) = _
    rw [zg_A_ad G ht30]
  rw [List.map_cons, hadk] at pre
  rw [hadk]
  exact z_back (rest := rest) hst hl hvl hnx hle hrv hvr hn hbase (va_runI (As := as'.map (z_cv (zg_A G))) ⟨hx, hb, hml, hown, hts⟩ hM ⟨cb, hini, hts _ w2⟩ pre rfl (by rw [List.length_map]; exact hlen) hl.1 rfl (lv_room (by rw [z_zcsum]; exact h8)) hd ⟨by omega, by omega⟩)
theorem zc_initN (hok : z_ok T P G) (hF : z_Fr T P G XX p s m args meth c mid sc) (hst : z_St G s n0 s0 M H locs cells slots) (hl : lv_has lsA (zt_nL T mid) (z_cvl (zg_A G) ls)) (hvl : ∀ q ∈ ls, z_VV G sc M q.2) (hnx : z_Nx p l e R s m args below meth c Q T G next out mid n0 s0 sc) {idx callee n t d : Nat} {rv : Option zV} {M' : zM} {k : Nat} {as' as : List zV} (has : as = .inr (.inr (t, some k)) :: as') (hc : z_clo G XX) (hle : z_le M M') (hrv : ∀ v, rv = some v → z_VV G False M' v) (hR : R.frames ≥ d + 1 + 10 ∧ R.locals ≥ 48 * (d + 1) + 200) (hroom : zm_n M' ≤ R.cells + n0 ∧ zm_s M' ≤ R.slots + s0) (hM : z_Met T P G XX l (z_room d) callee as M rv M') (hvr : ∀ v ∈ rest, z_VV G sc M v) (h8 : zc_sum rest ≤ 8) (hn : next (pc + 3) ls (rv.toList ++ rest) M' = some out) (hd : decode (zp_B P mid) pc = .ok (.invokespecial idx, 3)) (hlen : as'.length = n) (ht30 : t < 30) (hcal : z_okM T P callee ∧ z_okY P callee n ∧ zp_RT P callee = none ∧ (zp_Y P callee).name = "<init>" ∧ (∃ host, ((zp_Y P mid).cls, idx, zp_Y P callee, host) ∈ zp_NW P) ∧ Cond.instanceMethod (zp_Y P callee) ∈ zp_GW P)
    : W p l e R s m args below meth c H locs cells slots Q (F0 m pc lsA ((as'.reverse ++ .inr (.inr (t, some k)) :: rest : List zV).map (z_cv (zg_A G)))) := by
  obtain ⟨hx, hb, hml, hown, hts, hKK, hbase, hname, hsc⟩ := id hF
  have hc1 := hst.2.2.1
  have hc2 := hst.2.2.2
  have hle1 := hle.1
  have hle2 := hle.2.1
  obtain ⟨hMo, hY, hnone, hini, ⟨host, w1⟩, w2⟩ := hcal
  subst has
  have hnL := hMo.2.2.1
  have hgood := z_good hok hMo
  unfold z_Met at hM
  rw [hnone] at hM hgood
  have pre := z_pre (P := P) hc hF hst (.inr (.inr (t, some k)) :: as')
  have cb := va_cnB (R := R) (own := (zp_Y P mid).cls) (host := host) (index := idx) (rm := z_room d (zm_n M' - zm_n M) (zm_s M' - zm_s M)) n hts hgood rfl rfl rfl (hKK.2.2.2.1 _ w1) (hts _ hY.2.2.2) ⟨hY.1, hY.2.1, hY.2.2.1⟩ ⟨by show d + 10 + 1 ≤ _; omega, by show 8 + (_ + 11) + (48 * d + 200) ≤ _; omega⟩
  rw [List.map_append, List.map_cons, List.map_reverse]
  have hadk : z_cv (zg_A G) (.inr (.inr (t, some k))) = .ref (zg_ad G k) := by
    show Value.ref (zg_A G t k) = _
    rw [zg_A_ad G ht30]
  rw [List.map_cons, hadk] at pre
  rw [hadk]
  exact z_back (rest := rest) hst hl hvl hnx hle hrv hvr hn hbase (va_runIN (As := as'.map (z_cv (zg_A G))) ⟨hx, hb, hml, hown, hts⟩ hM ⟨cb, hini, hts _ w2⟩ pre rfl (by rw [List.length_map]; exact hlen) hl.1 rfl (lv_room (by rw [z_zcsum]; exact h8)) hd ⟨by omega, by omega⟩)
theorem zc_ext (hok : z_ok T P G) (hF : z_Fr T P G XX p s m args meth c mid sc) (hst : z_St G s n0 s0 M H locs cells slots) (hl : lv_has lsA (zt_nL T mid) (z_cvl (zg_A G) ls)) (hvl : ∀ q ∈ ls, z_VV G sc M q.2) (hnx : z_Nx p l e R s m args below meth c Q T G next out mid n0 s0 sc) {idx callee n k : Nat} {rv : Option zV} {M' : zM} {as' as : List zV} (has : as = .inr (.inr (91, some k)) :: as') (hc : z_clo G XX) (hle : z_le M M') (hrv : ∀ v, rv = some v → z_VV G False M' v) (hR : R.frames ≥ 10 ∧ R.locals ≥ 200) (hroom : zm_n M' ≤ R.cells + n0 ∧ zm_s M' ≤ R.slots + s0) (hM : z_Met T P G XX l z_roomX callee as M rv M') (hvr : ∀ v ∈ rest, z_VV G sc M v) (h8 : zc_sum rest ≤ 8) (hn : next (pc + 3) ls (rv.toList ++ rest) M' = some out) (hd : decode (zp_B P mid) pc = .ok (.invokevirtual idx, 3)) (hlen : as'.length = n) (hvk : z_VV G sc M (.inr (.inr (91, some k)))) (hcal : z_okM T P callee ∧ z_okY P callee n ∧ (zp_Y P callee).cls = "java/lang/String" ∧ Cond.methodLink (zp_Y P mid).cls idx (zp_Y P callee) ∈ zp_GW P ∧ Cond.instanceMethod (zp_Y P callee) ∈ zp_GW P ∧ Cond.selects (zp_Y P callee).cls (zp_Y P callee) (zp_Y P callee) ∈ zp_GW P)
    : W p l e R s m args below meth c H locs cells slots Q (F0 m pc lsA ((as'.reverse ++ .inr (.inr (91, some k)) :: rest : List zV).map (z_cv (zg_A G)))) := by
  obtain ⟨hx, hb, hml, hown, hts, hKK, hbase, hname, hsc⟩ := id hF
  have hc1 := hst.2.2.1
  have hc2 := hst.2.2.2
  have hle1 := hle.1
  have hle2 := hle.2.1
  obtain ⟨hMo, hY, hS, w1, w2, w3⟩ := hcal
  subst has
  have hk : k < zg_nS G := by
    rcases hvk with h | h | h
    · exact absurd h.1 (by omega)
    · exact absurd h.1 (by omega)
    · exact h.2
  have hrecv : ∃ cellB : Cell, H[zg_sa G k]? = some cellB ∧ cellB.vm.isStatics = false ∧ s.vm.findClass (zp_Y P callee).cls = some cellB.cls := by
    obtain ⟨hlt, cell, q1, q2, q3⟩ := hc.2 s hKK.2.2.2.2.2 k hk
    exact ⟨cell, by rw [hst.2.1.2.1 _ (Nat.lt_of_lt_of_le hlt hbase) (Nat.not_le.mpr hlt)]; exact q1, q2, by rw [hS]; exact q3⟩
  have hnL := hMo.2.2.1
  have pre := z_pre (P := P) hc hF hst (.inr (.inr (91, some k)) :: as')
  have cb := callB_of (R := R) (own := (zp_Y P mid).cls) (index := idx) (rm := z_roomX (zm_n M' - zm_n M) (zm_s M' - zm_s M)) n hts (z_good hok hMo) rfl rfl rfl (hts _ hY.2.2.2) (hts _ w1) ⟨hY.1, hY.2.1, hY.2.2.1⟩ ⟨by show 9 + 1 ≤ _; omega, by show 8 + (_ + 11) + 160 ≤ _; omega⟩
  rw [List.map_append, List.map_cons, List.map_reverse]
  have hadk : z_cv (zg_A G) (.inr (.inr (91, some k))) = .ref (zg_sa G k) := rfl
  rw [hadk]
  refine z_back (rest := rest) hst hl hvl hnx hle hrv hvr hn hbase (va_runV (As := as'.map (z_cv (zg_A G))) (C := (zp_Y P callee).cls) ⟨hx, hb, hml, hown, hts⟩ hM ⟨cb, hts _ w2, hts _ w3⟩ ⟨pre.1, hrecv, fun U hU hW => ?_⟩ rfl (by rw [List.length_map]; exact hlen) hl.1 rfl (lv_room (by rw [z_zcsum]; exact h8)) hd ⟨by omega, by omega⟩)
  have h9 := pre.2 U hU hW
  rw [List.map_cons, hadk] at h9
  exact h9
end ZCalls
