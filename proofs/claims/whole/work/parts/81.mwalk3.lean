/-! THE MODEL walks: goes, steps, what could come -/
def ws_W (am v t k j : Nat) : Prop := mw_W am t k j ∨ (t = 12 ∧ k = am ∧ (j = 35 ∨ j = 36)) ∨ gw_W am v t k j
theorem ws_mg {am v : Nat} : ∀ t k j, ws_W am v t k j → mg am [26, 35, 36] [14, 15, 16, 17, 23] t k j := by
  intro t k j h
  rcases h with h | ⟨h1, h2, h3⟩ | h
  · exact mg_mono (by simp) (by simp) t k j h
  · refine .inl ⟨h1, h2, ?_⟩
    rcases h3 with h3 | h3 <;> simp [h3]
  · exact .inr ⟨.inl h.1, 23, by simp, h.2.1⟩
/-- the first way that takes a letter -/
def py_fd (P : yP) (s : yS) (l : Nat) : Option yW := (py_ways P s.1).find? (fun W => py_lt P W.1 == l && py_cg P s W)
def py_cc (P : yP) (s : yS) : List Nat := ((py_ways P s.1).filter (py_cg P s)).map (fun W => py_lt P W.1)
def py_s00 : yS := (none, fun _ => 0, fun _ => 0)
section
variable {am r d : Nat} {M : zM} {P : yP} {s : yS} {w v : Nat}
theorem ws_row {M' : zM} (hs : mk_x am M w s) (hf : zf (ws_W am v) M M') (hd : w + 13 ≤ v ∨ v + 13 ≤ w) : mk_x am M' w s := by
  have key : ∀ j, w ≤ j → j < w + 13 → zm_I M' 20 (am + 23) j = zm_I M 20 (am + 23) j := by
    intro j h1 h2
    refine hf.2.2.2.2.2.2 20 (am + 23) j ?_
    intro x
    rcases x with x | x | x
    · simp [mw_W, mg] at x
    · cases x.1
    · have := x.2.2
      omega
  refine ⟨?_, ?_, ?_⟩
  · rw [key w (by omega) (by omega)]
    exact hs.1
  · intro c hc
    rw [key _ (by omega) (by omega)]
    exact hs.2.1 c hc
  · intro a ha
    rw [key _ (by omega) (by omega)]
    exact hs.2.2 a ha
theorem mr_goes_101 (h : mp_ok am M r P) (hd : 2 ≤ d) (hs : mk_x am M v s) (hv : v + 13 ≤ 208) {l : List yW} {k : Nat} {W : yW} (hw : mw_has am M l) (hk : l[k]? = some W) (hW1 : W.1 < py_nl P) (hW : ∀ a, W.2.2.1 = some a → py_dm P a ∧ W.2.2.2 ∈ py_ks P a ∧ py_fx P W.2.2.2 (py_lf P W.1) = true) : ∃ M', mo_goes_101 d am (nI r) (nI k) (nI v) (zo W.2.2.1) M = some M' ∧ mk_x am M' v (some W.1, (py_en P (py_s2 P s W.2.2.1 W.2.2.2) W.2.2.1 W.1).2) ∧ zf (gw_W am v) M M' := by
  have hk1 := mw_lt hw hk
  have hz : z_in (nI k) 128 := nI_in (by omega) (by omega)
  have hl := ok_lf h.1 hW1
  have hLF := pb_LF
  have hh := ok_hg h.1
  have h191 : ∀ (M1 : zM) (s1 : yS), mp_ok am M1 r P → mw_has am M1 l → mk_x am M1 v s1 → ∃ M', mo_goes_191 d am (nI r) (nI k) (nI v) (zo W.2.2.1) M1 = some M' ∧ mk_x am M' v (some W.1, (py_en P s1 W.2.2.1 W.1).2) ∧ zf (gw_W am v) M1 M' := by
    intro M1 s1 h1 hw1 hs1
    have hWW := hw1.2.2 k W hk
    obtain ⟨M2, f1, f2, f3⟩ := mr_goes_213 (am := am) (r := r) (d := d) (v := v) h.1 hd hv hk hk1 (a := W.2.2.1) (fun x hx => (hW x hx).1) (py_lf P W.1) hl (by
      intro y hy
      obtain ⟨g1, g2, g3⟩ := hW y hy
      have hwc : py_wi P W.2.2.2 (py_lf P W.1) = true := by
        cases hb : py_wi P W.2.2.2 (py_lf P W.1)
        · rw [fx_wi h.1 _ hl hb] at g3
          cases g3
        · rfl
      refine ⟨wi_kid h.1 g1 g2 _ hl hwc, ?_⟩
      intro e
      have h2 := (wi_hg h.1 _ hl hwc).1
      have h3 := ok_khg h.1 g1 g2
      rw [e] at h2
      omega) M1 s1 h1 hw1 hs1 zLF (by omega)
    refine ⟨M2, ?_, f2, f3⟩
    simp only [mo_goes_191, ml_R22 h1.2.1, ml_L22 h1.2.1, if_pos hz, nI_clamp (show k < 2 ^ 31 by omega), hWW.1, mr_lf h1 hW1, Option.bind_some, mr_up h1 hl, f1]
  cases ha : W.2.2.1 with
  | none =>
    rw [ha] at h191
    obtain ⟨M2, f1, f2, f3⟩ := h191 M s h hw hs
    refine ⟨M2, ?_, f2, f3⟩
    simp only [mo_goes_101, mo_goes_139, pb_zon, if_true]
    exact f1
  | some a =>
    rw [ha] at h191
    obtain ⟨g1, g2, g3⟩ := hW a ha
    have ha4 := ok_400 h.1 g1
    have hak := ok_kd h.1 g1
    have hne : ¬ nI a = -1 := pb_ne1 (by omega)
    have hWW := hw.2.2 k W hk
    unfold py_s2
    simp only [mo_goes_101, pb_zos, if_neg hne, mr_kd h g1, Option.bind_some]
    by_cases q5 : py_kd P a = 5
    · have hnc := (ok_k5 h.1 g1 q5).2.1
      have h8 := ok_nc h.1
      have hz5 : z_in (nI (v + 1 + py_nb P a)) 208 := nI_in (by omega) (by omega)
      have hm := mk_tm hs (c := py_nb P a) (x := s.2.1 (py_nb P a) + 1) (by omega)
      have h1 := mp_gw h hm.2
      obtain ⟨M2, f1, f2, f3⟩ := h191 _ _ h1 (mw_gw hw hm.2) hm.1
      rw [pb_zos] at f1
      simp only [if_pos q5]
      refine ⟨M2, ?_, f2, zf_trans hm.2 f3⟩
      rw [q5, pb_n5]
      simp only [if_true, mr_nb h g1 (.inr (.inr q5)), Option.bind_some, ml_R34 h.2.1, ml_L34 h.2.1, nI_11, if_pos hz5, nI_clamp (show v + 1 + py_nb P a < 2 ^ 31 by omega), hs.2.1 _ (show py_nb P a < 8 by omega), zlet]
      simp only [nI_1, mo_goes_139, if_neg hne, mr_kd h1 g1, q5, pb_n5, Option.bind_some]
      rw [if_neg (by decide)]
      exact f1
    · have e5 : ¬ nI (py_kd P a) = 5 := fun x => q5 ((pb_eqk hak (m := 5) (by omega)).mp x)
      simp only [if_neg q5, if_neg e5, mo_goes_139, if_neg hne, mr_kd h g1, Option.bind_some]
      by_cases q4 : py_kd P a = 4
      · have hna := (ok_k4 h.1 g1 q4).2.2.1
        have h4 := ok_na h.1
        have hcd := ok_kid h.1 g1 g2
        have hcu := ok_kup h.1 g1 g2
        have hz4 : z_in (nI (v + 9 + py_nb P a)) 208 := nI_in (by omega) (by omega)
        have hm := mk_st hs (c := py_nb P a) (x := s.2.2 (py_nb P a) ||| zbit (py_bf (py_ks P a) W.2.2.2).length) (by omega)
        have h1 := mp_gw h hm.2
        obtain ⟨M2, f1, f2, f3⟩ := h191 _ _ h1 (mw_gw hw hm.2) hm.1
        rw [pb_zos] at f1
        simp only [if_pos q4]
        refine ⟨M2, ?_, f2, zf_trans hm.2 f3⟩
        rw [q4, pb_n4]
        simp only [if_true, mr_nb h g1 (.inr (.inl q4)), Option.bind_some, ml_R34 h.2.1, ml_L34 h.2.1, ml_R25 h.2.1, ml_L25 h.2.1, nI_9, if_pos hz4, if_pos hz, nI_clamp (show v + 9 + py_nb P a < 2 ^ 31 by omega), nI_clamp (show k < 2 ^ 31 by omega), hWW.2.2.2, mr_partOf h (show 0 < d by omega) hcd hcu, hs.2.2 _ (show py_nb P a < 4 by omega), zlet]
        exact f1
      · have e4 : ¬ nI (py_kd P a) = 4 := fun x => q4 ((pb_eqk hak (m := 4) (by omega)).mp x)
        obtain ⟨M2, f1, f2, f3⟩ := h191 M s h hw hs
        rw [pb_zos] at f1
        simp only [if_neg q4, if_neg e4]
        exact ⟨M2, f1, f2, f3⟩
theorem mr_goes_3 (hdis : w + 13 ≤ v ∨ v + 13 ≤ w) (hw : w + 13 ≤ 208) (hv : v + 13 ≤ 208) (k : Int32) : ∀ (m i : Nat) (M : zM), mp_ok am M r P → i + m = 13 → (∀ j, j < i → zm_I M 20 (am + 23) (v + j) = zm_I M 20 (am + 23) (w + j)) → ∀ fuel, m < fuel → ∃ M' fuel', mo_goes_3 d fuel am (nI r) (nI w) k (nI v) (nI i) M = mo_goes_3 d (fuel' + 1) am (nI r) (nI w) k (nI v) 13 M' ∧ (∀ j, j < 13 → zm_I M' 20 (am + 23) (v + j) = zm_I M' 20 (am + 23) (w + j)) ∧ zf (gw_W am v) M M' := by
  intro m
  induction m with
  | zero =>
    intro i M h hi hc fuel hf
    cases fuel with
    | zero => cases hf
    | succ fuel =>
      have : i = 13 := by omega
      subst this
      exact ⟨M, fuel, rfl, hc, zf_refl _ _⟩
  | succ m ih =>
    intro i M h hi hc fuel hf
    cases fuel with
    | zero => cases hf
    | succ fuel =>
      have hge : ¬ (13 : Int32) ≤ nI i := nI_ge (b := 13) (by omega) (by omega)
      have hz : z_in (nI (w + i)) 208 := nI_in (by omega) (by omega)
      have hz2 : z_in (nI (v + i)) 208 := nI_in (by omega) (by omega)
      have hfz : zf (gw_W am v) M (zm_setI M 20 (am + 23) (v + i) (zm_I M 20 (am + 23) (w + i))) := zf_set ⟨rfl, rfl, by omega, by omega⟩
      obtain ⟨M', fuel', e1, e2, e3⟩ := ih (i + 1) _ (mp_gw h hfz) (by omega) (by
        intro j hj
        by_cases e : j = i
        · subst e
          rw [pm_same, pm_ne (by omega)]
        · rw [pm_ne (by omega), pm_ne (by omega)]
          exact hc j (by omega)) fuel (by omega)
      refine ⟨M', fuel', ?_, e2, zf_trans hfz e3⟩
      rw [← e1]
      simp only [mo_goes_3, if_neg hge, ml_R34 h.2.1, ml_L34 h.2.1, nI_add, if_pos hz, if_pos hz2, nI_clamp (show w + i < 2 ^ 31 by omega), nI_clamp (show v + i < 2 ^ 31 by omega), zlet, nI_1]
theorem mr_goes (h : mp_ok am M r P) (hd : 3 ≤ d) (hs : mk_x am M w s) (hso : sw_ok P s) (hdis : w + 13 ≤ v ∨ v + 13 ≤ w) (hw : w + 13 ≤ 208) (hv : v + 13 ≤ 208) {k : Nat} {W : yW} (hww : mw_has am M (py_ways P s.1)) (hk : (py_ways P s.1)[k]? = some W) : ∃ M', mo_goes d am (nI r) (nI w) (nI k) (nI v) M = some M' ∧ mk_x am M' v (py_go P s W) ∧ zf (gw_W am v) M M' := by
  have hLF := pb_LF
  have hh := ok_hg h.1
  have hnl := ok_nl h.1
  have hk1 := mw_lt hww hk
  have hz : z_in (nI k) 128 := nI_in (by omega) (by omega)
  have hzw : z_in (nI w) 208 := nI_in (by omega) (by omega)
  have hmem := List.mem_of_getElem? hk
  obtain ⟨d, rfl⟩ : ∃ d', d = d' + 1 := ⟨d - 1, by omega⟩
  show ∃ M', mo_goes_b d am (nI r) (nI w) (nI k) (nI v) M = some M' ∧ _
  unfold mo_goes_b
  obtain ⟨M1, fuel', e1, e2, e3⟩ := mr_goes_3 (am := am) (r := r) (d := d) hdis hw hv (nI k) 13 0 M h (by omega) (by intro j hj; omega) zLF (by omega)
  rw [pb_n0] at e1
  have h1 := mp_gw h e3
  have hw1 := mw_gw hww e3
  have hs1 := mk_zf hs e3 hdis
  have hv1 : mk_x am M1 v s := by
    refine ⟨?_, ?_, ?_⟩
    · have := e2 0 (by omega)
      simp only [Nat.add_zero] at this
      rw [this]
      exact hs1.1
    · intro c hc
      rw [Nat.add_assoc, e2 (1 + c) (by omega), ← Nat.add_assoc]
      exact hs1.2.1 c hc
    · intro c hc
      rw [Nat.add_assoc, e2 (9 + c) (by omega), ← Nat.add_assoc]
      exact hs1.2.2 c hc
  have hWW := hw1.2.2 k W hk
  have hW1 : W.1 < py_nl P := (ways_lt h.1 hso.1 hmem).1
  rw [e1]
  unfold py_go py_lv0
  cases hs0 : s.1 with
  | none =>
    have hmem' := hmem
    rw [hs0] at hmem'
    obtain ⟨q, _, g2, _⟩ := il_mem hmem'
    have hat : W.2.2.1 = none := by rw [g2]
    obtain ⟨M2, f1, f2, f3⟩ := mr_goes_101 (d := d) h1 (by omega) hv1 hv hw1 hk hW1 (by intro a ha; rw [hat] at ha; cases ha)
    refine ⟨M2, ?_, f2, zf_trans e3 f3⟩
    rw [← f1]
    have hs1' := hs1.1
    rw [hs0, pb_zon] at hs1'
    simp only [mo_goes_3, Int32.le_refl, if_true, ml_R24 h1.2.1, ml_L24 h1.2.1, if_pos hz, nI_clamp (show k < 2 ^ 31 by omega), hWW.2.2.1, zlet, ml_R34 h1.2.1, ml_L34 h1.2.1, if_pos hzw, nI_clamp (show w < 2 ^ 31 by omega), hs1']
  | some o =>
    have ho := hso.1 o hs0
    have hlo := ok_lf h.1 ho
    have hne : ¬ nI o = -1 := pb_ne1 (by omega)
    have hmem' := hmem
    rw [hs0] at hmem'
    obtain ⟨g1, a, g2, g3, g4, g5, g6, g7⟩ := ways_wk h.1 ho hmem'
    obtain ⟨M2, f1, f2, f3⟩ := mr_goes_71 (am := am) (r := r) (d := d) h.1 (by omega) hv (nI k) g3 (py_lf P o) hlo g5 (fun e => g6 e.symm) M1 s h1 hv1 zLF (by omega)
    have h2 := mp_gw h1 f3
    obtain ⟨M3, k1, k2, k3⟩ := mr_goes_101 (d := d) h2 (by omega) f2 hv (mw_gw hw1 f3) hk hW1 (by
      intro x hx
      rw [g2] at hx
      injection hx with hx
      subst hx
      exact ⟨g3, g4, g7⟩)
    rw [g2] at k1 k2
    rw [g2]
    refine ⟨M3, ?_, k2, zf_trans e3 (zf_trans f3 k3)⟩
    have hs1' := hs1.1
    rw [hs0, pb_zos] at hs1'
    rw [g2, pb_zos] at hWW
    rw [pb_zos] at k1
    simp only [mo_goes_3, Int32.le_refl, if_true, ml_R24 h1.2.1, ml_L24 h1.2.1, if_pos hz, nI_clamp (show k < 2 ^ 31 by omega), hWW.2.2.1, zlet, ml_R34 h1.2.1, ml_L34 h1.2.1, if_pos hzw, nI_clamp (show w < 2 ^ 31 by omega), hs1', if_neg hne, mr_lf h1 ho, Option.bind_some, mr_up h1 hlo, f1, k1]
theorem mr_steps_14 (hP : py_ok P) (hd : 34 ≤ d) (hso : sw_ok P s) (hdis : w + 13 ≤ v ∨ v + 13 ≤ w) (hw : w + 13 ≤ 208) (hv : v + 13 ≤ 208) {l : Nat} (hl : l < 2 ^ 31) : ∀ (b a : List yW) (M : zM), py_ways P s.1 = a ++ b → mp_ok am M r P → mw_has am M (py_ways P s.1) → mk_x am M w s → ∀ fuel, b.length < fuel → ∃ M', mo_steps_14 d fuel am (nI r) (nI w) (nI l) (nI v) (nI a.length) M = some (zb (b.find? (fun W => py_lt P W.1 == l && py_cg P s W)).isSome, M') ∧ (∀ W, b.find? (fun W => py_lt P W.1 == l && py_cg P s W) = some W → mk_x am M' v (py_go P s W) ∧ zm_I M' 12 am 35 = nI W.1 ∧ zm_I M' 12 am 36 = zo W.2.1) ∧ zf (ws_W am v) M M' := by
  intro b
  induction b with
  | nil =>
    intro a M e h hww hs fuel hf
    cases fuel with
    | zero => cases hf
    | succ fuel =>
      have hle : (py_ways P s.1).length = a.length := by rw [e]; simp
      refine ⟨M, ?_, by intro W hW; simp at hW, zf_refl _ _⟩
      simp [mo_steps_14, hww.1, hle, zb]
  | cons W b ih =>
    intro a M e h hww hs fuel hf
    cases fuel with
    | zero => cases hf
    | succ fuel =>
      have hll := hww.2.1
      have hle : (py_ways P s.1).length = a.length + (b.length + 1) := by rw [e]; simp
      have hge : ¬ nI (py_ways P s.1).length ≤ nI a.length := nI_ge (by omega) (by omega)
      have hk : (py_ways P s.1)[a.length]? = some W := by rw [e]; simp
      have hz : z_in (nI a.length) 128 := nI_in (by omega) (by omega)
      have hWW := hww.2.2 _ W hk
      have hW1 : W.1 < py_nl P := (ways_lt hP hso.1 (List.mem_of_getElem? hk)).1
      have hlt := ok_lt hP hW1
      have elt : (nI (py_lt P W.1) = nI l) ↔ py_lt P W.1 = l := nI_eq (by omega) hl
      have hnext : (py_lt P W.1 == l && py_cg P s W) = false → ∃ M', mo_steps_87 (fun p0 p1 p2 p3 p4 p5 m => mo_steps_14 d fuel p0 p1 p2 p3 p4 p5 m) d am (nI r) (nI w) (nI l) (nI v) (nI a.length) M = some (zb ((W :: b).find? (fun W => py_lt P W.1 == l && py_cg P s W)).isSome, M') ∧ (∀ W', (W :: b).find? (fun W => py_lt P W.1 == l && py_cg P s W) = some W' → mk_x am M' v (py_go P s W') ∧ zm_I M' 12 am 35 = nI W'.1 ∧ zm_I M' 12 am 36 = zo W'.2.1) ∧ zf (ws_W am v) M M' := by
        intro hno
        obtain ⟨M', g1, g2, g3⟩ := ih (a ++ [W]) M (by rw [e]; simp) h hww hs fuel (by simp at hf; omega)
        simp only [List.length_append, List.length_cons, List.length_nil, Nat.zero_add] at g1
        rw [List.find?_cons, hno]
        refine ⟨M', ?_, g2, g3⟩
        rw [← g1]
        simp only [mo_steps_87, zlet, nI_1]
      by_cases q : py_lt P W.1 = l
      · have eq : (py_lt P W.1 == l) = true := by simpa using q
        have hcg := mr_canGo (d := d) h (by omega) hs hso hw hww hk
        cases hb : py_cg P s W
        · obtain ⟨M', g1, g2⟩ := hnext (by simp [hb])
          refine ⟨M', ?_, g2⟩
          rw [← g1]
          rw [hb] at hcg
          simp only [mo_steps_14, hww.1, if_neg hge, ml_R22 h.2.1, ml_L22 h.2.1, if_pos hz, nI_clamp (show a.length < 2 ^ 31 by omega), hWW.1, mr_lt h hW1, Option.bind_some, elt, if_pos q, hcg, pb_zbf, if_true]
        · rw [hb] at hcg
          have hfz : zf (ws_W am v) M (zm_setI (zm_setI M 12 am 35 (nI W.1)) 12 am 36 (zo W.2.1)) := zf_trans (zf_set (.inr (.inl ⟨rfl, rfl, .inl rfl⟩))) (zf_set (.inr (.inl ⟨rfl, rfl, .inr rfl⟩)))
          have hfm : zf (mg am [35, 36] []) M (zm_setI (zm_setI M 12 am 35 (nI W.1)) 12 am 36 (zo W.2.1)) := zf_trans (zf_set (.inl ⟨rfl, rfl, by simp⟩)) (zf_set (.inl ⟨rfl, rfl, by simp⟩))
          have h1 := mp_zf h hfm (by simp)
          obtain ⟨M', g1, g2, g3⟩ := mr_goes (d := d) h1 (by omega) (mk_mg hs hfm (by simp)) hso hdis hw hv (mw_zf hww hfm (by simp) (by simp)) hk
          refine ⟨M', ?_, ?_, zf_trans hfz (zf_mono g3 (fun _ _ _ x => .inr (.inr x)))⟩
          · rw [List.find?_cons, eq, hb]
            simp only [mo_steps_14, hww.1, if_neg hge, ml_R22 h.2.1, ml_L22 h.2.1, if_pos hz, nI_clamp (show a.length < 2 ^ 31 by omega), hWW.1, mr_lt h hW1, Option.bind_some, elt, if_pos q, hcg, pb_zbt]
            rw [if_neg (by decide)]
            simp only [zlet, pm_RI, pm_LI, ml_R23 h.2.1, ml_L23 h.2.1, if_pos hz, pm_ne (show (20 : Nat) ≠ 12 ∨ am + 15 ≠ am ∨ a.length ≠ 35 from .inl (by decide)), hWW.2.1, g1, Option.bind_some]
            simp [zb]
          · intro W' hW'
            rw [List.find?_cons, eq, hb] at hW'
            simp at hW'
            subst hW'
            refine ⟨g2, ?_, ?_⟩
            · rw [g3.2.2.2.2.2.2 12 am 35 (by simp [gw_W]), pm_ne (by omega), pm_same]
            · rw [g3.2.2.2.2.2.2 12 am 36 (by simp [gw_W]), pm_same]
      · have eq : (py_lt P W.1 == l) = false := by simpa using q
        obtain ⟨M', g1, g2⟩ := hnext (by simp [eq])
        refine ⟨M', ?_, g2⟩
        rw [← g1]
        simp only [mo_steps_14, hww.1, if_neg hge, ml_R22 h.2.1, ml_L22 h.2.1, if_pos hz, nI_clamp (show a.length < 2 ^ 31 by omega), hWW.1, mr_lt h hW1, Option.bind_some, elt, if_neg q]
theorem mr_steps (h : mp_ok am M r P) (hd : 36 ≤ d) (hs : mk_x am M w s) (hso : sw_ok P s) (hdis : w + 13 ≤ v ∨ v + 13 ≤ w) (hw : w + 13 ≤ 208) (hv : v + 13 ≤ 208) {l : Nat} (hl : l < 2 ^ 31) : ∃ M', mo_steps d am (nI r) (nI w) (nI l) (nI v) M = some (zb (py_fd P s l).isSome, M') ∧ (∀ W, py_fd P s l = some W → mk_x am M' v (py_go P s W) ∧ zm_I M' 12 am 35 = nI W.1 ∧ zm_I M' 12 am 36 = zo W.2.1) ∧ zf (ws_W am v) M M' := by
  have hzw : z_in (nI w) 208 := nI_in (by omega) (by omega)
  have hLF := pb_LF
  have hwl := ways_len h.1 hso.1
  obtain ⟨d, rfl⟩ : ∃ d', d = d' + 1 := ⟨d - 1, by omega⟩
  show ∃ M', mo_steps_b d am (nI r) (nI w) (nI l) (nI v) M = _ ∧ _
  obtain ⟨M1, e1, e2, e3⟩ := mr_laysWays (d := d) h (by omega) hso.1
  obtain ⟨M2, f1, f2, f3⟩ := mr_steps_14 (am := am) (r := r) (d := d) h.1 (by omega) hso hdis hw hv hl (py_ways P s.1) [] M1 rfl (mp_W h e2) e3 (mk_mg hs e2 (by simp)) zLF (by omega)
  refine ⟨M2, ?_, f2, zf_trans (zf_mono e2 (fun _ _ _ x => .inl x)) f3⟩
  unfold mo_steps_b
  simp only [ml_R34 h.2.1, ml_L34 h.2.1, if_pos hzw, nI_clamp (show w < 2 ^ 31 by omega), hs.1, e1, Option.bind_some]
  exact f1
theorem mr_couldCome_16 (h : mp_ok am M r P) (hd : 33 ≤ d) (hs : mk_x am M w s) (hso : sw_ok P s) (hw : w + 13 ≤ 208) (hww : mw_has am M (py_ways P s.1)) : ∀ (b a : List yW), py_ways P s.1 = a ++ b → ∀ (acc : Int32) (fuel : Nat), b.length < fuel → mo_couldCome_16 d fuel am (nI r) (nI w) acc (nI a.length) M = some (((b.filter (py_cg P s)).map (fun W => py_lt P W.1)).foldl (fun a q => a ||| zbit q) acc, M) := by
  have hll := hww.2.1
  intro b
  induction b with
  | nil =>
    intro a e acc fuel hf
    cases fuel with
    | zero => cases hf
    | succ fuel =>
      have : (py_ways P s.1).length = a.length := by rw [e]; simp
      simp [mo_couldCome_16, hww.1, this]
  | cons W b ih =>
    intro a e acc fuel hf
    cases fuel with
    | zero => cases hf
    | succ fuel =>
      have hle : (py_ways P s.1).length = a.length + (b.length + 1) := by rw [e]; simp
      have hge : ¬ nI (py_ways P s.1).length ≤ nI a.length := nI_ge (by omega) (by omega)
      have hk : (py_ways P s.1)[a.length]? = some W := by rw [e]; simp
      have hz : z_in (nI a.length) 128 := nI_in (by omega) (by omega)
      have hWW := hww.2.2 _ W hk
      have hW1 : W.1 < py_nl P := (ways_lt h.1 hso.1 (List.mem_of_getElem? hk)).1
      have hcg := mr_canGo (d := d) h hd hs hso hw hww hk
      simp only [mo_couldCome_16, hww.1, if_neg hge, hcg, Option.bind_some, List.filter_cons]
      cases hb : py_cg P s W
      · have ih' := ih (a ++ [W]) (by rw [e]; simp) acc fuel (by simp at hf; omega)
        simp only [List.length_append, List.length_cons, List.length_nil, Nat.zero_add] at ih'
        simp [zb, mo_couldCome_53, zlet, nI_1, ih']
      · have ih' := ih (a ++ [W]) (by rw [e]; simp) (acc ||| zbit (py_lt P W.1)) fuel (by simp at hf; omega)
        simp only [List.length_append, List.length_cons, List.length_nil, Nat.zero_add] at ih'
        rw [pb_zbt, if_neg (by decide)]
        simp only [ml_R22 h.2.1, ml_L22 h.2.1, if_pos hz, nI_clamp (show a.length < 2 ^ 31 by omega), hWW.1, mr_lt h hW1, Option.bind_some, zlet, mo_couldCome_53, nI_1, if_true, List.map_cons, List.foldl_cons]
        exact ih'
theorem mr_couldCome (h : mp_ok am M r P) (hd : 36 ≤ d) (hs : mk_x am M w s) (hso : sw_ok P s) (hw : w + 13 ≤ 208) : ∃ M', mo_couldCome d am (nI r) (nI w) M = some (zor (py_cc P s), M') ∧ zf (mw_W am) M M' := by
  have hzw : z_in (nI w) 208 := nI_in (by omega) (by omega)
  have hLF := pb_LF
  have hwl := ways_len h.1 hso.1
  obtain ⟨d, rfl⟩ : ∃ d', d = d' + 1 := ⟨d - 1, by omega⟩
  show ∃ M', mo_couldCome_b d am (nI r) (nI w) M = _ ∧ _
  obtain ⟨M1, e1, e2, e3⟩ := mr_laysWays (d := d) h (by omega) hso.1
  refine ⟨M1, ?_, e2⟩
  unfold mo_couldCome_b
  simp only [ml_R34 h.2.1, ml_L34 h.2.1, if_pos hzw, nI_clamp (show w < 2 ^ 31 by omega), hs.1, e1, Option.bind_some]
  exact mr_couldCome_16 (d := d) (mp_W h e2) (by omega) (mk_mg hs e2 (by simp)) hso hw e3 (py_ways P s.1) [] rfl 0 zLF (by omega)
theorem mr_begins_2 (hv : v + 13 ≤ 208) : ∀ (m i : Nat) (M : zM), mp_ok am M r P → i + m = 13 → (∀ j, j < i → zm_I M 20 (am + 23) (v + j) = if j = 0 then -1 else 0) → ∀ fuel, m < fuel → ∃ M', mo_begins_2 d fuel am (nI v) (nI i) M = some M' ∧ (∀ j, j < 13 → zm_I M' 20 (am + 23) (v + j) = if j = 0 then -1 else 0) ∧ zf (gw_W am v) M M' := by
  intro m
  induction m with
  | zero =>
    intro i M h hi hc fuel hf
    cases fuel with
    | zero => cases hf
    | succ fuel =>
      have : i = 13 := by omega
      subst this
      refine ⟨M, ?_, hc, zf_refl _ _⟩
      have : (13 : Int32) ≤ nI 13 := by decide
      simp [mo_begins_2, this]
  | succ m ih =>
    intro i M h hi hc fuel hf
    cases fuel with
    | zero => cases hf
    | succ fuel =>
      have hge : ¬ (13 : Int32) ≤ nI i := nI_ge (b := 13) (by omega) (by omega)
      have hz2 : z_in (nI (v + i)) 208 := nI_in (by omega) (by omega)
      have hfz : ∀ x, zf (gw_W am v) M (zm_setI M 20 (am + 23) (v + i) x) := fun x => zf_set ⟨rfl, rfl, by omega, by omega⟩
      have key : ∀ x : Int32, x = (if i = 0 then -1 else 0) → ∃ M', mo_begins_24 (fun p0 p1 p2 m => mo_begins_2 d fuel p0 p1 p2 m) d am (nI v) (nI i) (zm_R M 12 am 34) (nI v + nI i) x M = some M' ∧ (∀ j, j < 13 → zm_I M' 20 (am + 23) (v + j) = if j = 0 then -1 else 0) ∧ zf (gw_W am v) M M' := by
        intro x hx
        obtain ⟨M', e1, e2, e3⟩ := ih (i + 1) _ (mp_gw h (hfz x)) (by omega) (by
          intro j hj
          by_cases e : j = i
          · subst e
            rw [pm_same, hx]
          · rw [pm_ne (by omega)]
            exact hc j (by omega)) fuel (by omega)
        refine ⟨M', ?_, e2, zf_trans (hfz x) e3⟩
        rw [← e1]
        simp only [mo_begins_24, ml_R34 h.2.1, ml_L34 h.2.1, nI_add, if_pos hz2, nI_clamp (show v + i < 2 ^ 31 by omega), zlet, nI_1]
      simp only [mo_begins_2, if_neg hge]
      by_cases q : i = 0
      · rw [if_pos (by rw [q]; rfl)]
        exact key (-1) (by simp [q])
      · rw [if_neg (nI_ne0 (by omega) (by omega))]
        exact key 0 (by simp [q])
theorem mr_begins (h : mp_ok am M r P) (hv : v + 13 ≤ 208) : ∃ M', mo_begins d am (nI v) M = some M' ∧ mk_x am M' v py_s00 ∧ zf (gw_W am v) M M' := by
  have hLF := pb_LF
  obtain ⟨M', e1, e2, e3⟩ := mr_begins_2 (am := am) (r := r) (d := d) hv 13 0 M h (by omega) (by intro j hj; omega) zLF (by omega)
  refine ⟨M', e1, ⟨?_, ?_, ?_⟩, e3⟩
  · have := e2 0 (by omega)
    simp only [Nat.add_zero, if_true] at this
    rw [this]
    rfl
  · intro c hc
    rw [Nat.add_assoc, e2 (1 + c) (by omega), if_neg (by omega)]
    rfl
  · intro c hc
    rw [Nat.add_assoc, e2 (9 + c) (by omega), if_neg (by omega)]
    rfl
end
