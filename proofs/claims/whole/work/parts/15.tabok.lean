/-! CHECKED TABLES are right -/
section TabOk
variable {r : zRT} {tbl : List Cond} {NW : List (String × Nat × MethodName × String)} {SS : List (String × Nat × String × Nat)} {G : zG}
theorem tx_clAt {t : Nat} {q : String × List (String × String × String × Bool)} (h : (rt_cl r)[t]? = some q) : (tx_cl r)[t]? = some (q.1, tx_T q.2, q.2.length) := by
  unfold tx_cl
  rw [List.getElem?_map, h]
  rfl
theorem tx_clOf {t : Nat} {C : String} {T : u_T} {N : Nat} (h : (tx_cl r)[t]? = some (C, T, N)) : ∃ q, (rt_cl r)[t]? = some q ∧ C = q.1 ∧ T = tx_T q.2 ∧ N = q.2.length := by
  unfold tx_cl at h
  rw [List.getElem?_map] at h
  obtain ⟨q, h1, h2⟩ := Option.map_eq_some_iff.mp h
  cases h2
  exact ⟨q, h1, rfl, rfl, rfl⟩
theorem tx_Tat {L : List (String × String × String × Bool)} {j : Nat} {f : String × String × String × Bool} (h : L[j]? = some f) : tx_T L j = f := by
  unfold tx_T
  rw [List.getD_eq_getElem?_getD, h]
  rfl
theorem tx_nth {ps : List Nat} {k : Nat} {w : Cond} (h : tx_nthW tbl ps k w = true) : w ∈ tbl.filter goodWord := by
  unfold tx_nthW at h
  split at h
  · cases h
  · exact tx_wOk h
theorem tx_okM (hM : ∀ mid, tx_PM tbl (rt_cn r (rt_c r mid)) (rt_M r mid)) {mid : Nat} (h : (rt_M r mid).2.2.2.2.2.2.2.1 = true) : z_okM (tx_prog r) (tx_names r (tbl.filter goodWord) NW SS) mid := by
  obtain ⟨h1, h2, h3, h4⟩ := (hM mid).2.2.2 h
  refine ⟨h1, h2, h3, ?_⟩
  show ((rt_M r mid).2.2.2.2.1 = 0 ∧ (rt_M r mid).2.2.2.2.2.1 = none) ∨ ((rt_M r mid).2.2.2.2.1 = 1 ∧ (rt_M r mid).2.2.2.2.2.1 = some .int) ∨ ((rt_M r mid).2.2.2.2.1 = 2 ∧ (rt_M r mid).2.2.2.2.2.1 = some .boolean) ∨ ((rt_M r mid).2.2.2.2.1 = 3 ∧ (rt_M r mid).2.2.2.2.2.1 = some .long) ∨ ((rt_M r mid).2.2.2.2.1 = 4 ∧ ∃ n, (rt_M r mid).2.2.2.2.2.1 = some (.object n)) ∨ ((rt_M r mid).2.2.2.2.1 = 5 ∧ (rt_M r mid).2.2.2.2.2.1 = some .char)
  revert h4
  generalize (rt_M r mid).2.2.2.2.1 = k
  generalize (rt_M r mid).2.2.2.2.2.1 = rt
  intro h4
  unfold tx_retOk at h4
  split at h4
  · exact Or.inl ⟨rfl, rfl⟩
  · exact Or.inr (Or.inl ⟨rfl, rfl⟩)
  · exact Or.inr (Or.inr (Or.inl ⟨rfl, rfl⟩))
  · exact Or.inr (Or.inr (Or.inr (Or.inl ⟨rfl, rfl⟩)))
  · exact Or.inr (Or.inr (Or.inr (Or.inr (Or.inl ⟨rfl, _, rfl⟩))))
  · exact Or.inr (Or.inr (Or.inr (Or.inr (Or.inr ⟨rfl, rfl⟩))))
  · cases h4
theorem tx_okY {callee n : Nat} (h : tx_notMH (rt_M r callee).2.2.1 n = true) (hi : Cond.initialized (rt_M r callee).2.2.1.cls ∈ tbl.filter goodWord) : z_okY (tx_names r (tbl.filter goodWord) NW SS) callee n := by
  obtain ⟨h1, h⟩ := z_and h
  obtain ⟨h2, h3⟩ := z_and h
  exact ⟨of_decide_eq_true h1, of_decide_eq_true h2, of_decide_eq_true h3, hi⟩
theorem tx_nest {ps : List Nat} {cn : String} {idx : Nat} {y : MethodName} (h : (match ps[0]? with | none => false | some i => match NW[i]? with | none => false | some w => decide (w.1 = cn) && (decide (w.2.1 = idx) && decide (w.2.2.1 = y))) = true) : ∃ host, (cn, idx, y, host) ∈ NW := by
  split at h
  · cases h
  · split at h
    · cases h
    · rename_i w hw
      obtain ⟨h1, h⟩ := z_and h
      obtain ⟨h2, h3⟩ := z_and h
      refine ⟨w.2.2.2, ?_⟩
      rw [← of_decide_eq_true h1, ← of_decide_eq_true h2, ← of_decide_eq_true h3]
      exact List.mem_of_getElem? hw
set_option maxHeartbeats 4000000 in
theorem tx_okK (hM : ∀ mid, tx_PM tbl (rt_cn r (rt_c r mid)) (rt_M r mid)) (hG : zg_cl G = tx_cl r) {mid : Nat} {x : Nat × Nat × Nat × Nat × Nat × List Nat} (h : tx_chkK r tbl NW (rt_cn r (rt_c r mid)) x = true) : z_okCall (tx_prog r) (tx_names r (tbl.filter goodWord) NW SS) G mid x.1 x.2.1 x.2.2.1 x.2.2.2.1 x.2.2.2.2.1 := by
  obtain ⟨idx, way, callee, n, t, ps⟩ := x
  have hcn : ((tx_names r (tbl.filter goodWord) NW SS).2.1 mid).cls = rt_cn r (rt_c r mid) := (hM mid).2.1
  unfold tx_chkK at h
  dsimp only at h ⊢
  refine ⟨fun e => ?_, fun e => ?_, fun e => ?_, fun e => ?_, fun e => ?_, fun e => ?_, fun e => ?_, fun e => ?_, fun e => ?_, fun e => ?_⟩ <;> subst e
  · obtain ⟨h1, h⟩ := z_and h
    obtain ⟨h2, h⟩ := z_and h
    obtain ⟨h3, h⟩ := z_and h
    obtain ⟨h4, h⟩ := z_and h
    obtain ⟨h5, h⟩ := z_and h
    obtain ⟨h6, h⟩ := z_and h
    refine ⟨tx_okM hM h1, tx_okY h2 (tx_nth h4), ?_, ?_, tx_nth h5, tx_nth h6⟩
    · split at h
      · cases h
      · rename_i q hq
        rw [hG]
        exact ⟨_, _, by rw [tx_clAt hq, of_decide_eq_true h]; rfl⟩
    · show Cond.methodLink ((tx_names r (tbl.filter goodWord) NW SS).2.1 mid).cls _ _ ∈ _
      rw [hcn]; exact tx_nth h3
  · obtain ⟨h1, h⟩ := z_and h
    obtain ⟨h2, h⟩ := z_and h
    obtain ⟨h3, h⟩ := z_and h
    obtain ⟨h4, h⟩ := z_and h
    refine ⟨tx_okM hM h1, tx_okY h2 (tx_nth h4), ?_, tx_nth h⟩
    show Cond.methodLink ((tx_names r (tbl.filter goodWord) NW SS).2.1 mid).cls _ _ ∈ _
    rw [hcn]; exact tx_nth h3
  · obtain ⟨h1, h⟩ := z_and h
    obtain ⟨h2, h⟩ := z_and h
    obtain ⟨h3, h⟩ := z_and h
    obtain ⟨h4, h⟩ := z_and h
    refine ⟨tx_okM hM h1, tx_okY h2 (tx_nth h4), ?_, tx_nth h⟩
    show ∃ host, (((tx_names r (tbl.filter goodWord) NW SS).2.1 mid).cls, idx, _, host) ∈ NW
    rw [hcn]; exact tx_nest h3
  · obtain ⟨h1, h⟩ := z_and h
    obtain ⟨h2, h⟩ := z_and h
    obtain ⟨h3, h⟩ := z_and h
    obtain ⟨h4, h⟩ := z_and h
    obtain ⟨h5, h⟩ := z_and h
    obtain ⟨h6, h⟩ := z_and h
    obtain ⟨h7, h8⟩ := z_and h
    refine ⟨z_blt h8, tx_okM hM h1, tx_okY h2 (tx_nth h4), of_decide_eq_true h6, of_decide_eq_true h7, ?_, tx_nth h5⟩
    show Cond.methodLink ((tx_names r (tbl.filter goodWord) NW SS).2.1 mid).cls _ _ ∈ _
    rw [hcn]; exact tx_nth h3
  · obtain ⟨h1, h⟩ := z_and h
    obtain ⟨h2, h⟩ := z_and h
    obtain ⟨h3, h⟩ := z_and h
    obtain ⟨h4, h⟩ := z_and h
    obtain ⟨h5, h⟩ := z_and h
    obtain ⟨h6, h⟩ := z_and h
    obtain ⟨h7, h8⟩ := z_and h
    refine ⟨z_blt h8, tx_okM hM h1, tx_okY h2 (tx_nth h4), of_decide_eq_true h6, of_decide_eq_true h7, ?_, tx_nth h5⟩
    show ∃ host, (((tx_names r (tbl.filter goodWord) NW SS).2.1 mid).cls, idx, _, host) ∈ NW
    rw [hcn]; exact tx_nest h3
  · obtain ⟨h1, h⟩ := z_and h
    obtain ⟨h2, h3⟩ := z_and h
    refine ⟨?_, tx_nth h2, tx_nth h3⟩
    show Cond.methodLink ((tx_names r (tbl.filter goodWord) NW SS).2.1 mid).cls _ _ ∈ _
    rw [hcn]; exact tx_nth h1
  · obtain ⟨h1, h⟩ := z_and h
    obtain ⟨h2, h⟩ := z_and h
    obtain ⟨h3, h4⟩ := z_and h
    refine ⟨?_, tx_nth h2, tx_nth h3, tx_nth h4⟩
    show Cond.methodLink ((tx_names r (tbl.filter goodWord) NW SS).2.1 mid).cls _ _ ∈ _
    rw [hcn]; exact tx_nth h1
  · obtain ⟨h1, h⟩ := z_and h
    obtain ⟨h2, h⟩ := z_and h
    obtain ⟨h3, h4⟩ := z_and h
    refine ⟨?_, tx_nth h2, tx_nth h3, tx_nth h4⟩
    show Cond.methodLink ((tx_names r (tbl.filter goodWord) NW SS).2.1 mid).cls _ _ ∈ _
    rw [hcn]; exact tx_nth h1
  · obtain ⟨h1, h⟩ := z_and h
    obtain ⟨h2, h⟩ := z_and h
    obtain ⟨h3, h4⟩ := z_and h
    refine ⟨?_, tx_nth h2, tx_nth h3, tx_nth h4⟩
    show Cond.methodLink ((tx_names r (tbl.filter goodWord) NW SS).2.1 mid).cls _ _ ∈ _
    rw [hcn]; exact tx_nth h1
  · obtain ⟨h1, h⟩ := z_and h
    obtain ⟨h2, h⟩ := z_and h
    obtain ⟨h3, h⟩ := z_and h
    obtain ⟨h4, h⟩ := z_and h
    obtain ⟨h5, h⟩ := z_and h
    obtain ⟨h6, h7⟩ := z_and h
    refine ⟨tx_okM hM h1, tx_okY h2 (tx_nth h4), of_decide_eq_true h7, ?_, tx_nth h5, tx_nth h6⟩
    show Cond.methodLink ((tx_names r (tbl.filter goodWord) NW SS).2.1 mid).cls _ _ ∈ _
    rw [hcn]; exact tx_nth h3
theorem tx_okCode (hM : ∀ mid, tx_PM tbl (rt_cn r (rt_c r mid)) (rt_M r mid)) : ∀ mid pc i len note, zt_code (tx_prog r) mid pc = some (i, len, note) → decode (zp_B (tx_names r (tbl.filter goodWord) NW SS) mid) pc = .ok (i, len) := by
  intro mid pc i len note h
  have h' : tx_look (rt_M r mid).1 pc = some (i, len, note) := h
  have h2 := (hM mid).1 (pc, i, len, note) (tx_mem h')
  exact h2
theorem tx_okFld (hG : zg_cl G = tx_cl r) (hGk : zg_fk G = rt_fk r) (hM : ∀ mid, tx_PM tbl (rt_cn r (rt_c r mid)) (rt_M r mid)) (hF : ∀ c, ∀ x ∈ rt_F r c, tx_chkF r tbl (rt_cn r c) x = true) : ∀ mid idx t j fk, zt_fld (tx_prog r) mid idx = some (t, j, fk) → fk = zg_fk G t j ∧ ∃ C Tt N, (zg_cl G)[t]? = some (C, Tt, N) ∧ j < N ∧ Cond.fieldLink (zp_Y (tx_names r (tbl.filter goodWord) NW SS) mid).cls idx (Tt j).1 (Tt j).2.1 (Tt j).2.2.1 ∈ zp_GW (tx_names r (tbl.filter goodWord) NW SS) := by
  have hcn : ∀ mid, (zp_Y (tx_names r (tbl.filter goodWord) NW SS) mid).cls = rt_cn r (rt_c r mid) := fun mid => (hM mid).2.1
  intro mid idx t j fk h
  have h' : (match tx_look (rt_F r (rt_c r mid)) idx with | none => none | some q => some (q.1, q.2.1, q.2.2.1)) = some (t, j, fk) := h
  split at h'
  · cases h'
  · rename_i q hq
    cases h'
    have h8 := hF _ _ (tx_mem hq)
    unfold tx_chkF at h8
    dsimp only at h8
    split at h8
    · cases h8
    · rename_i cq hcq
      split at h8
      · cases h8
      · rename_i f hf
        obtain ⟨g1, h8⟩ := z_and h8
        obtain ⟨g2, g3⟩ := z_and h8
        have e := tx_Tat hf
        rw [hG, hGk, hcn]
        exact ⟨z_beq_eq g2, _, _, _, tx_clAt hcq, (List.getElem?_eq_some_iff.mp hf).1, by rw [e]; exact tx_wOk g1⟩
theorem tx_okPfl (hcl2 : ∀ t q, (rt_cl r)[t]? = some q → rt_cn r t = q.1) (hG : zg_cl G = tx_cl r) (hGk : zg_fk G = rt_fk r) (hM : ∀ mid, tx_PM tbl (rt_cn r (rt_c r mid)) (rt_M r mid)) (hF : ∀ c, ∀ x ∈ rt_F r c, tx_chkF r tbl (rt_cn r c) x = true) : ∀ mid idx t j fk, zt_pfl (tx_prog r) mid idx = some (t, j, fk) → fk = zg_fk G t j ∧ ∃ C Tt N, (zg_cl G)[t]? = some (C, Tt, N) ∧ j < N ∧ Cond.fieldLink (zp_Y (tx_names r (tbl.filter goodWord) NW SS) mid).cls idx (Tt j).1 (Tt j).2.1 (Tt j).2.2.1 ∈ zp_GW (tx_names r (tbl.filter goodWord) NW SS) ∧ ((Tt j).2.2.2 = false ∨ ((Tt j).2.2.2 = true ∧ (zp_Y (tx_names r (tbl.filter goodWord) NW SS) mid).name = "<init>" ∧ (Tt j).1 = (zp_Y (tx_names r (tbl.filter goodWord) NW SS) mid).cls)) := by
  have hcn : ∀ mid, (zp_Y (tx_names r (tbl.filter goodWord) NW SS) mid).cls = rt_cn r (rt_c r mid) := fun mid => (hM mid).2.1
  intro mid idx t j fk h
  have h' : (match tx_look (rt_F r (rt_c r mid)) idx with | none => none | some q => bif q.2.2.2.1 && !((rt_M r mid).2.2.2.2.2.2.1 && Nat.beq q.1 (rt_c r mid)) then none else some (q.1, q.2.1, q.2.2.1)) = some (t, j, fk) := h
  split at h'
  · cases h'
  · rename_i q hq
    have h8 := hF _ _ (tx_mem hq)
    unfold tx_chkF at h8
    dsimp only at h8
    have hb : (q.2.2.2.1 && !((rt_M r mid).2.2.2.2.2.2.1 && Nat.beq q.1 (rt_c r mid))) = false ∧ (q.1, q.2.1, q.2.2.1) = (t, j, fk) := by
      revert h'
      cases (q.2.2.2.1 && !((rt_M r mid).2.2.2.2.2.2.1 && Nat.beq q.1 (rt_c r mid))) with
      | true => intro h'; cases h'
      | false => intro h'; exact ⟨rfl, Option.some.inj h'⟩
    obtain ⟨hb1, hb2⟩ := hb
    cases hb2
    split at h8
    · cases h8
    · rename_i cq hcq
      split at h8
      · cases h8
      · rename_i f hf
        obtain ⟨g1, h8⟩ := z_and h8
        obtain ⟨g2, g3⟩ := z_and h8
        have e := tx_Tat hf
        rw [hG, hGk, hcn]
        refine ⟨z_beq_eq g2, _, _, _, tx_clAt hcq, (List.getElem?_eq_some_iff.mp hf).1, by rw [e]; exact tx_wOk g1, ?_⟩
        rw [e]
        cases hfin : f.2.2.2 with
        | false => exact Or.inl rfl
        | true =>
          rw [hfin] at g3
          obtain ⟨k1, k2⟩ := z_and (show (q.2.2.2.1 && decide (f.1 = cq.1)) = true from g3)
          rw [k1] at hb1
          have hini : (rt_M r mid).2.2.2.2.2.2.1 = true ∧ Nat.beq q.1 (rt_c r mid) = true := by
            revert hb1
            cases (rt_M r mid).2.2.2.2.2.2.1 with
            | true =>
              cases Nat.beq q.1 (rt_c r mid) with
              | true => intro _; exact ⟨rfl, rfl⟩
              | false => intro z; cases z
            | false => intro z; cases z
          refine Or.inr ⟨rfl, (hM mid).2.2.1 hini.1, ?_⟩
          rw [← z_beq_eq hini.2, hcl2 _ _ hcq]
          exact of_decide_eq_true k2
theorem tx_okCal (hG : zg_cl G = tx_cl r) (hM : ∀ mid, tx_PM tbl (rt_cn r (rt_c r mid)) (rt_M r mid)) (hK : ∀ c, ∀ x ∈ rt_K r c, tx_chkK r tbl NW (rt_cn r c) x = true) : ∀ mid idx way callee n t, zt_cal (tx_prog r) mid idx = some (way, callee, n, t) → z_okCall (tx_prog r) (tx_names r (tbl.filter goodWord) NW SS) G mid idx way callee n t := by
  intro mid idx way callee n t h
  have h' : (match tx_look (rt_K r (rt_c r mid)) idx with | none => none | some q => some (q.1, q.2.1, q.2.2.1, q.2.2.2.1)) = some (way, callee, n, t) := h
  split at h'
  · cases h'
  · rename_i q hq
    cases h'
    exact tx_okK hM hG (hK _ _ (tx_mem hq))
theorem tx_okNeu (hG : zg_cl G = tx_cl r) (hM : ∀ mid, tx_PM tbl (rt_cn r (rt_c r mid)) (rt_M r mid)) (hN : ∀ c, ∀ x ∈ rt_N r c, tx_chkN r tbl (rt_cn r c) x = true) : ∀ mid idx t N, zt_neu (tx_prog r) mid idx = some (t, N) → ∃ C Tt, (zg_cl G)[t]? = some (C, Tt, N) ∧ Cond.classLink (zp_Y (tx_names r (tbl.filter goodWord) NW SS) mid).cls idx C ∈ zp_GW (tx_names r (tbl.filter goodWord) NW SS) ∧ Cond.instantiable C N ∈ zp_GW (tx_names r (tbl.filter goodWord) NW SS) ∧ Cond.initialized C ∈ zp_GW (tx_names r (tbl.filter goodWord) NW SS) := by
  have hcn : ∀ mid, (zp_Y (tx_names r (tbl.filter goodWord) NW SS) mid).cls = rt_cn r (rt_c r mid) := fun mid => (hM mid).2.1
  intro mid idx t N h
  have h' : (match tx_look (rt_N r (rt_c r mid)) idx with | none => none | some q => some (q.1, q.2.1)) = some (t, N) := h
  split at h'
  · cases h'
  · rename_i q hq
    cases h'
    have h8 := hN _ _ (tx_mem hq)
    unfold tx_chkN at h8
    dsimp only at h8
    split at h8
    · cases h8
    · rename_i cq hcq
      obtain ⟨g1, h8⟩ := z_and h8
      obtain ⟨g2, h8⟩ := z_and h8
      obtain ⟨g3, g4⟩ := z_and h8
      rw [hG, hcn]
      exact ⟨cq.1, tx_T cq.2, by rw [tx_clAt hcq, z_beq_eq g1], tx_nth g2, tx_nth g3, tx_nth g4⟩
theorem tx_okAnw (hM : ∀ mid, tx_PM tbl (rt_cn r (rt_c r mid)) (rt_M r mid)) (hA : ∀ c, ∀ x ∈ rt_A r c, tx_chkA tbl (rt_cn r c) x = true) : ∀ mid idx t, zt_anw (tx_prog r) mid idx = some t → (t = 24 ∧ Cond.classLink (zp_Y (tx_names r (tbl.filter goodWord) NW SS) mid).cls idx (zp_C24 (tx_names r (tbl.filter goodWord) NW SS)) ∈ zp_GW (tx_names r (tbl.filter goodWord) NW SS)) ∨ (t = 25 ∧ Cond.classLink (zp_Y (tx_names r (tbl.filter goodWord) NW SS) mid).cls idx (zp_C25 (tx_names r (tbl.filter goodWord) NW SS)) ∈ zp_GW (tx_names r (tbl.filter goodWord) NW SS)) := by
  have hcn : ∀ mid, (zp_Y (tx_names r (tbl.filter goodWord) NW SS) mid).cls = rt_cn r (rt_c r mid) := fun mid => (hM mid).2.1
  intro mid idx t h
  have h' : (match tx_look (rt_A r (rt_c r mid)) idx with | none => none | some q => some q.1) = some t := h
  split at h'
  · cases h'
  · rename_i q hq
    cases h'
    have h8 := hA _ _ (tx_mem hq)
    unfold tx_chkA at h8
    dsimp only at h8
    rw [hcn]
    split at h8
    · rename_i e
      exact Or.inl ⟨e, tx_wOk h8⟩
    · rename_i e
      exact Or.inr ⟨e, tx_wOk h8⟩
    · cases h8
theorem tx_okCon0 (hM : ∀ mid, tx_PM tbl (rt_cn r (rt_c r mid)) (rt_M r mid)) (hO : ∀ c, ∀ x ∈ rt_O r c, tx_chkO tbl SS (zg_nS G) (rt_cn r c) x = true) : ∀ mid idx j v w, zt_con (tx_prog r) mid idx = some (0, j, v, w) → Cond.constant (zp_Y (tx_names r (tbl.filter goodWord) NW SS) mid).cls idx v ∈ zp_GW (tx_names r (tbl.filter goodWord) NW SS) := by
  have hcn : ∀ mid, (zp_Y (tx_names r (tbl.filter goodWord) NW SS) mid).cls = rt_cn r (rt_c r mid) := fun mid => (hM mid).2.1
  intro mid idx j v w h
  have h' : (match tx_look (rt_O r (rt_c r mid)) idx with | none => none | some q => some (q.1, q.2.1, q.2.2.1, q.2.2.2.1)) = some (0, j, v, w) := h
  split at h'
  · cases h'
  · rename_i q hq
    have h8 := hO _ _ (tx_mem hq)
    obtain ⟨q1, q2, q3, q4, q5⟩ := q
    cases h'
    rw [hcn]
    exact tx_wOk h8
theorem tx_okCon1 (hM : ∀ mid, tx_PM tbl (rt_cn r (rt_c r mid)) (rt_M r mid)) (hO : ∀ c, ∀ x ∈ rt_O r c, tx_chkO tbl SS (zg_nS G) (rt_cn r c) x = true) : ∀ mid idx j v w, zt_con (tx_prog r) mid idx = some (1, j, v, w) → Cond.constantLong (zp_Y (tx_names r (tbl.filter goodWord) NW SS) mid).cls idx w ∈ zp_GW (tx_names r (tbl.filter goodWord) NW SS) := by
  have hcn : ∀ mid, (zp_Y (tx_names r (tbl.filter goodWord) NW SS) mid).cls = rt_cn r (rt_c r mid) := fun mid => (hM mid).2.1
  intro mid idx j v w h
  have h' : (match tx_look (rt_O r (rt_c r mid)) idx with | none => none | some q => some (q.1, q.2.1, q.2.2.1, q.2.2.2.1)) = some (1, j, v, w) := h
  split at h'
  · cases h'
  · rename_i q hq
    have h8 := hO _ _ (tx_mem hq)
    obtain ⟨q1, q2, q3, q4, q5⟩ := q
    cases h'
    rw [hcn]
    exact tx_wOk h8
theorem tx_okCon2 (hM : ∀ mid, tx_PM tbl (rt_cn r (rt_c r mid)) (rt_M r mid)) (hO : ∀ c, ∀ x ∈ rt_O r c, tx_chkO tbl SS (zg_nS G) (rt_cn r c) x = true) : ∀ mid idx j v w, zt_con (tx_prog r) mid idx = some (2, j, v, w) → j < zg_nS G ∧ ∃ tx, ((zp_Y (tx_names r (tbl.filter goodWord) NW SS) mid).cls, idx, tx, j) ∈ zp_SS (tx_names r (tbl.filter goodWord) NW SS) := by
  have hcn : ∀ mid, (zp_Y (tx_names r (tbl.filter goodWord) NW SS) mid).cls = rt_cn r (rt_c r mid) := fun mid => (hM mid).2.1
  intro mid idx j v w h
  have h' : (match tx_look (rt_O r (rt_c r mid)) idx with | none => none | some q => some (q.1, q.2.1, q.2.2.1, q.2.2.2.1)) = some (2, j, v, w) := h
  split at h'
  · cases h'
  · rename_i q hq
    have h8 := hO _ _ (tx_mem hq)
    obtain ⟨q1, q2, q3, q4, q5⟩ := q
    cases h'
    rw [hcn]
    have h8' : (Nat.blt q2 (zg_nS G) && (match SS[q5]? with | none => false | some w => decide (w.1 = rt_cn r (rt_c r mid)) && (decide (w.2.1 = idx) && decide (w.2.2.2 = q2)))) = true := h8
    obtain ⟨g1, h8'⟩ := z_and h8'
    refine ⟨z_blt g1, ?_⟩
    split at h8'
    · cases h8'
    · rename_i w hw
      obtain ⟨k1, h8'⟩ := z_and h8'
      obtain ⟨k2, k3⟩ := z_and h8'
      refine ⟨w.2.2.1, ?_⟩
      rw [← of_decide_eq_true k1, ← of_decide_eq_true k2, ← of_decide_eq_true k3]
      exact List.mem_of_getElem? hw
set_option maxHeartbeats 4000000 in
theorem tx_ok (hcl2 : ∀ t q, (rt_cl r)[t]? = some q → rt_cn r t = q.1) (hG : zg_cl G = tx_cl r) (hGk : zg_fk G = rt_fk r) (hGe : zg_elt G = tx_elt) (hM : ∀ mid, tx_PM tbl (rt_cn r (rt_c r mid)) (rt_M r mid)) (hF : ∀ c, ∀ x ∈ rt_F r c, tx_chkF r tbl (rt_cn r c) x = true) (hK : ∀ c, ∀ x ∈ rt_K r c, tx_chkK r tbl NW (rt_cn r c) x = true) (hN : ∀ c, ∀ x ∈ rt_N r c, tx_chkN r tbl (rt_cn r c) x = true) (hA : ∀ c, ∀ x ∈ rt_A r c, tx_chkA tbl (rt_cn r c) x = true) (hO : ∀ c, ∀ x ∈ rt_O r c, tx_chkO tbl SS (zg_nS G) (rt_cn r c) x = true) (hC : ∀ t q, (rt_cl r)[t]? = some q → ∃ pls tys, tx_chkC r tbl t q pls tys = true) (w1 : Cond.arrayClass .int ∈ tbl.filter goodWord) (w2 : Cond.arrayClass .byte ∈ tbl.filter goodWord) (w3 : Cond.arrayClass .long ∈ tbl.filter goodWord) (h3 : ∃ L, (rt_cl r)[3]? = some ("ContentRules$Node", L)) (h5 : ∃ L, (rt_cl r)[5]? = some ("ContentRules$Rule", L)) : z_ok (tx_prog r) (tx_names r (tbl.filter goodWord) NW SS) G := by
  refine ⟨⟨fun w hw => good_of_word (List.mem_filter.mp hw).2, w1, w2, w3, ?_, ?_, ?_, ?_, ?_⟩, tx_okCode hM, tx_okFld hG hGk hM hF, tx_okPfl hcl2 hG hGk hM hF, tx_okCal hG hM hK, tx_okNeu hG hM hN, tx_okAnw hM hA, tx_okCon0 hM hO, tx_okCon1 hM hO, tx_okCon2 hM hO, ?_⟩
  · intro t C T N hcl
    rw [hG] at hcl
    obtain ⟨q, hq, rfl, rfl, rfl⟩ := tx_clOf hcl
    obtain ⟨pls, tys, h⟩ := hC t q hq
    obtain ⟨g1, h⟩ := z_and h
    obtain ⟨g2, h⟩ := z_and h
    obtain ⟨g3, h⟩ := z_and h
    obtain ⟨g4, g5⟩ := z_and h
    have g4 := List.all_eq_true.mp g4
    have g5 := List.all_eq_true.mp g5
    have lt : ∀ a b, a < q.2.length → b < a → (tx_T q.2 a).2.1 ≠ (tx_T q.2 b).2.1 := fun a b ha hb => of_decide_eq_true (List.all_eq_true.mp (g5 a (List.mem_range.mpr ha)) b (List.mem_range.mpr hb))
    refine ⟨z_blt g1, fun w hw => ?_, fun a ha b hb hne => ?_, fun k => tys.getD k .int, fun k hk => ?_, fun k hk => ?_⟩
    · obtain ⟨k, hk, rfl⟩ := List.mem_map.mp hw
      exact tx_nth (z_and (g4 k hk)).1
    · rcases Nat.lt_or_gt_of_ne hne with h1 | h1
      · exact fun e => lt b a hb h1 e.symm
      · exact lt a b ha h1
    · exact of_decide_eq_true (z_and (z_and (g4 k (List.mem_range.mpr hk))).2).1
    · have h9 := (z_and (z_and (g4 k (List.mem_range.mpr hk))).2).2
      rw [hGk]
      show (rt_fk r t k = 0 ∧ tys.getD k .int = .int) ∨ (rt_fk r t k = 1 ∧ tys.getD k .int = .boolean) ∨ (∃ f, rt_fk r t k = f + 2 ∧ f < 30 ∧ ((∃ n, tys.getD k .int = .object n) ∨ ∃ u, tys.getD k .int = .array u))
      revert h9
      generalize rt_fk r t k = f
      generalize tys.getD k .int = ty
      intro h9
      split at h9
      · exact Or.inl ⟨rfl, rfl⟩
      · exact Or.inr (Or.inl ⟨rfl, rfl⟩)
      · exact Or.inr (Or.inr ⟨_, rfl, z_blt h9, Or.inl ⟨_, rfl⟩⟩)
      · exact Or.inr (Or.inr ⟨_, rfl, z_blt h9, Or.inr ⟨_, rfl⟩⟩)
      · cases h9
  · obtain ⟨L, h⟩ := h3
    rw [hG, hGe]
    exact ⟨_, _, tx_clAt h⟩
  · obtain ⟨L, h⟩ := h5
    rw [hG, hGe]
    exact ⟨_, _, tx_clAt h⟩
  · rw [hGe]; decide
  · rw [hGe]; decide
  · intro t
    rw [hGe]
    rfl
end TabOk
