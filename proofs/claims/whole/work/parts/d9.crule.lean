/-! THE CLASS's parser: rules -/
def cu_x (M : zM) (pa : Nat → Nat) (Q : Nat) (u : yU) : Prop := zm_I M 5 Q 0 = nI u.1 ∧ zm_R M 5 Q 1 = some (pa u.2.1) ∧ cq_c Q M u.2.2.2.2.1.length u.2.2.2.2.2.1.length u.2.2.2.2.2.2.length ∧ cq_L Q M pa u.2.2.2.2.1 ∧ cq_C Q M pa u.2.2.2.2.2.1 ∧ cq_A Q M pa u.2.2.2.2.2.2
def cr_s (ac b : Nat) (M : zM) (T : List Nat) (pa : Nat → Nat) (pn : Nat) (us : List yU) (bs : List Nat) (p N : Nat) (X : Nat → yX) : Prop := (cw_rs M b ∧ ct_x M ac T ∧ cp_x M b pa pn ∧ zm_R M 6 b 4 = some (ac + 1) ∧ zm_I M 6 b 5 = nI T.length ∧ ac + 1 < b) ∧ cq_p b M T bs p ∧ cq_n b M pa pn N X ∧ zm_I M 6 b 1 = nI us.length ∧ (∀ (i : Nat) (u : yU), us[i]? = some u → cu_x M pa (b + 2 + 10 * i) u)
/-- what reading rules may change -/
def cg_W (b : Nat) (pa : Nat → Nat) (pn : Nat) (t k j : Nat) : Prop := (t = 3 ∧ j ≤ 7 ∧ ∃ i, i < pn ∧ k = pa i) ∨ (t = 6 ∧ k = b ∧ j ≠ 0 ∧ j ≠ 2) ∨ (t = 5 ∧ j ≤ 4 ∧ b < k ∧ k < b + 82) ∨ ((t = 20 ∨ t = 24) ∧ b + 1 < k ∧ k < b + 83)
section
variable {ac b r pn d : Nat} {pa : Nat → Nat} {M : zM} {T : List Nat}
theorem cg_mono {pa' : Nat → Nat} {pn' : Nat} (h : pn ≤ pn' ∧ ∀ j, j < pn → pa' j = pa j) : ∀ t k j, cg_W b pa pn t k j → cg_W b pa' pn' t k j := by
  intro t k j w
  rcases w with ⟨w1, w2, i, w3, w4⟩ | w
  · exact .inl ⟨w1, w2, i, by omega, by rw [h.2 i w3]; exact w4⟩
  · exact .inr w
theorem cf_cg (hr : r < 8) {t k j : Nat} (w : cf_W b r pa pn t k j) : cg_W b pa pn t k j := by
  rcases w with w | w | w | w | w | w
  · exact .inl w
  · exact .inr (.inr (.inr ⟨.inr w.1, by omega, by omega⟩))
  · exact .inr (.inl ⟨w.1, w.2.1, by omega, by omega⟩)
  · exact .inr (.inr (.inl ⟨w.1, by omega, by omega, by omega⟩))
  · exact .inr (.inr (.inr ⟨.inl w.1, by omega, by omega⟩))
  · exact .inr (.inr (.inr ⟨.inr w.1, by omega, by omega⟩))
theorem c6_cg {M' : zM} (hf : zf (c6_W b) M M') : zh (cg_W b pa pn) M M' := zh_mono (zh_zf hf) (fun t k j _ w => .inr (.inl ⟨w.1, w.2.1, by have := w.2.2; omega, by have := w.2.2; omega⟩))
theorem cb_c6 {M' : zM} (h : cb_x ac b M T r pa pn) (hf : zf (c6_W b) M M') : cb_x ac b M' T r pa pn := cb_zh h (zh_zf hf) (fun t k j v w => by unfold c6_W at w; rcases v with v | v | v | v | v | v <;> omega)
theorem cl_sgn_0 (hok : tp_ok T) : ∀ (bs : List Nat) (p : Nat) (M : zM), cb_x ac b M T r pa pn → cq_p b M T bs p → ∀ fuel, bs.length < fuel → ∃ M', rs_sign_0 d fuel b M = some (py_ht (py_sk bs p).1, M') ∧ cb_x ac b M' T r pa pn ∧ cq_p b M' T (py_sk bs p).1 (py_sk bs p).2 ∧ zf (c6_W b) M M' := by
  have h400 := hok.1
  intro bs
  induction bs with
  | nil =>
    intro p M h hq fuel hf
    cases fuel with
    | zero => cases hf
    | succ fuel =>
      have hl : T.length = p := by
        obtain ⟨a, ha, hl⟩ := hq.2
        rw [ha, ← hl]
        simp
      have hp := hq.1
      have h5 : zm_I M 6 b 5 = nI T.length := h.2.2.2.2.1
      have hle : nI T.length ≤ nI p := nI_le (by omega) (by omega)
      refine ⟨M, ?_, h, hq, zf_refl _ _⟩
      simp only [rs_sign_0, rs_sign_38, rs_sign_62, h5, hp, if_pos hle]
      rfl
  | cons c bs ih =>
    intro p M h hq fuel hf
    cases fuel with
    | zero => cases hf
    | succ fuel =>
      obtain ⟨a, ha, hla⟩ := hq.2
      have hx : T[p]? = some c := by rw [ha, ← hla]; simp
      have hpl := (List.getElem?_eq_some_iff.mp hx).1
      have hp := hq.1
      have h5 : zm_I M 6 b 5 = nI T.length := h.2.2.2.2.1
      have h4 : zm_R M 6 b 4 = some (ac + 1) := h.2.2.2.1
      have hL : zm_L M 20 (ac + 1) = 400 := h.2.1.1
      have hc := h.2.1.2.2 p c hx
      have hlt : ¬ nI T.length ≤ nI p := nI_ge (by omega) (by omega)
      have hz : z_in (nI p) 400 := nI_in (by omega) (by omega)
      have hc256 : c < 256 := (hok.2 c (by rw [ha]; simp)).2
      have e32 : (nI c = 32) ↔ c = 32 := nI_eq (b := 32) (by omega) (by omega)
      simp only [rs_sign_0, rs_sign_38, rs_sign_62, h5, hp, if_neg hlt, h4, hL, if_pos hz, nI_clamp (show p < 2 ^ 31 by omega), hc, e32, zlet, nI_1]
      unfold py_sk
      by_cases e : c = 32
      · rw [if_pos e, if_pos e]
        have hfz : zf (c6_W b) M (zm_setI M 6 b 6 (nI (p + 1))) := zf_set ⟨rfl, rfl, .inl rfl⟩
        obtain ⟨M', g1, g2, g3, g4⟩ := ih (p + 1) _ (cb_c6 h hfz) ⟨pm_same, a ++ [c], by rw [ha]; simp, by simp [hla]⟩ fuel (by simp at hf; omega)
        exact ⟨M', g1, g2, g3, zf_trans hfz g4⟩
      · rw [if_neg e, if_neg e]
        exact ⟨M, rfl, h, hq, zf_refl _ _⟩
theorem cl_sgn (hok : tp_ok T) {bs : List Nat} {p : Nat} (h : cb_x ac b M T r pa pn) (hq : cq_p b M T bs p) : ∃ M', rs_sign d b M = some (py_ht (py_sk bs p).1, M') ∧ cb_x ac b M' T r pa pn ∧ cq_p b M' T (py_sk bs p).1 (py_sk bs p).2 ∧ zf (c6_W b) M M' ∧ (∀ x, x ∈ (py_sk bs p).1 → x < 256) := by
  have hLF := zLF_402
  have h400 := hok.1
  have hl : T.length = p + bs.length := by
    obtain ⟨a, ha, hl⟩ := hq.2
    rw [ha, ← hl]
    simp
  obtain ⟨M', g1, g2, g3, g4⟩ := cl_sgn_0 (d := d) hok bs p M h hq zLF (by omega)
  refine ⟨M', g1, g2, g3, g4, ?_⟩
  intro x hx
  obtain ⟨a, ha, _⟩ := g3.2
  exact (hok.2 x (by rw [ha]; simp [hx])).2
/-- the number of the rule for a letter -/
theorem cl_numberFor_2 {R : Nat} {le : Nat → Nat} {l : Nat} (hw : cw_rs M b) (hR : zm_I M 6 b 1 = nI R) (hR8 : R ≤ 8) (hle : ∀ i, i < R → zm_I M 5 (b + 2 + 10 * i) 0 = nI (le i) ∧ le i < 26) (hl : l < 26) : ∀ (m k : Nat), k + m = R → ∀ fuel, m < fuel → rs_numberFor_2 d fuel b (nI l) (nI k) M = some (zo ((List.range' k m).find? (fun r => le r == l)), M) := by
  intro m
  induction m with
  | zero =>
    intro k hk fuel hf
    cases fuel with
    | zero => cases hf
    | succ fuel =>
      rw [rs_numberFor_2, hR, if_pos (nI_le (by omega) (by omega))]
      rfl
  | succ m ih =>
    intro k hk fuel hf
    cases fuel with
    | zero => cases hf
    | succ fuel =>
      have hz : z_in (nI k) 8 := nI_in (by omega) (by omega)
      obtain ⟨g1, g2⟩ := hle k (by omega)
      have ee : (nI (le k) = nI l) ↔ le k = l := nI_eq (by omega) (by omega)
      rw [rs_numberFor_2, hR, if_neg (show ¬ nI R ≤ nI k from nI_ge (by omega) (by omega))]
      simp only [hw.1.1, hw.1.2, if_pos hz, nI_clamp (show k < 2 ^ 31 by omega), (hw.2.2.1 k (by omega)).1, g1, ee, zlet, nI_1]
      rw [List.range'_succ, List.find?_cons]
      by_cases e : le k = l
      · rw [if_pos e]
        have : (le k == l) = true := by simpa using e
        rw [this]
        rfl
      · rw [if_neg e]
        have : (le k == l) = false := by simpa using e
        rw [this]
        exact ih (k + 1) (by omega) fuel (by omega)
theorem cl_numberFor {R : Nat} {le : Nat → Nat} {l : Nat} (hw : cw_rs M b) (hR : zm_I M 6 b 1 = nI R) (hR8 : R ≤ 8) (hle : ∀ i, i < R → zm_I M 5 (b + 2 + 10 * i) 0 = nI (le i) ∧ le i < 26) (hl : l < 26) : rs_numberFor d b (nI l) M = some (zo ((List.range' 0 R).find? (fun r => le r == l)), M) := by
  have hLF := zLF_402
  exact cl_numberFor_2 hw hR hR8 hle hl R 0 (by omega) zLF (by omega)
theorem cu_zh {W : Nat → Nat → Nat → Prop} {M' : zM} {pa' : Nat → Nat} {Q : Nat} {u : yU} (h : cu_x M pa Q u) (hf : zh W M M') (hQ : Q + 10 ≤ zm_n M) (h5 : ∀ j, j ≤ 4 → ¬ W 5 Q j) (h20 : ∀ k j, Q < k → k < Q + 10 → ¬ W 20 k j ∧ ¬ W 24 k j) (hpa : pa' u.2.1 = pa u.2.1 ∧ (∀ (i : Nat) (x : Nat × Nat), u.2.2.2.2.1[i]? = some x → pa' x.2 = pa x.2) ∧ (∀ (i : Nat) (x : Nat × Option Nat × Nat), u.2.2.2.2.2.1[i]? = some x → pa' x.2.2 = pa x.2.2) ∧ (∀ (i x : Nat), u.2.2.2.2.2.2[i]? = some x → pa' x = pa x)) : cu_x M' pa' Q u := by
  obtain ⟨h1, h2, h3, h4, h6, h7⟩ := h
  obtain ⟨p1, p2, p3, p4⟩ := hpa
  refine ⟨?_, ?_, ⟨?_, ?_, ?_⟩, ?_, ?_, ?_⟩
  · rw [zh_I hf (by omega) (h5 0 (by omega))]; exact h1
  · rw [zh_R hf (by omega) (h5 1 (by omega)), p1]; exact h2
  · rw [zh_I hf (by omega) (h5 2 (by omega))]; exact h3.1
  · rw [zh_I hf (by omega) (h5 3 (by omega))]; exact h3.2.1
  · rw [zh_I hf (by omega) (h5 4 (by omega))]; exact h3.2.2
  · intro i x hx
    rw [zh_I hf (by omega) (h20 _ _ (by omega) (by omega)).1, zh_R hf (by omega) (h20 _ _ (by omega) (by omega)).2, p2 i x hx]
    exact h4 i x hx
  · intro i x hx
    rw [zh_I hf (by omega) (h20 _ _ (by omega) (by omega)).1, zh_I hf (by omega) (h20 _ _ (by omega) (by omega)).1, zh_R hf (by omega) (h20 _ _ (by omega) (by omega)).2, p3 i x hx]
    exact h6 i x hx
  · intro i x hx
    rw [zh_R hf (by omega) (h20 _ _ (by omega) (by omega)).2, p4 i x hx]
    exact h7 i x hx
/-- the nodes of a rule that was read are old ones -/
theorem gu_pa {X : Nat → yX} {u : yU} {pa' : Nat → Nat} {N : Nat} (h : ∃ G, gu_x X u G) (hz : u.2.2.2.1 ≤ N) (e : ∀ j, j < N → pa' j = pa j) : pa' u.2.1 = pa u.2.1 ∧ (∀ (i : Nat) (x : Nat × Nat), u.2.2.2.2.1[i]? = some x → pa' x.2 = pa x.2) ∧ (∀ (i : Nat) (x : Nat × Option Nat × Nat), u.2.2.2.2.2.1[i]? = some x → pa' x.2.2 = pa x.2.2) ∧ (∀ (i x : Nat), u.2.2.2.2.2.2[i]? = some x → pa' x = pa x) := by
  obtain ⟨G, w, t, _⟩ := h
  obtain ⟨_, _, _, _, w5, w6, w7⟩ := w
  dsimp only at w5 w6 w7
  have hr := t.1
  refine ⟨e _ (by omega), ?_, ?_, ?_⟩
  · intro i x hx
    have := w5 i x hx
    exact e _ (by omega)
  · intro i x hx
    have := w6 i x hx
    exact e _ (by omega)
  · intro i x hx
    have := w7 i x hx
    exact e _ (by omega)
theorem cl_parseRule (hok : tp_ok T) (hd : 80 ≤ d) {us : List yU} {bs : List Nat} {p N : Nat} {X : Nat → yX} (h : cr_s ac b M T pa pn us bs p N X) (h8 : zm_R M 6 b 8 = some (b + 2 + 10 * us.length)) (hus : us.length < 8) (hN : N + bs.length ≤ 400) (hg : gs_x us N X) : ∃ res M' pa' pn', rs_parseRule d b M = some (res, M') ∧ ce_x M pa pn M' pa' pn' ∧ zh (cg_W b pa' pn') M M' ∧ cw_rs M' b ∧ cp_x M' b pa' pn' ∧ ((∃ e, pp_rule (us.map (fun u => u.1)) bs p N X = .error e ∧ res = 0 ∧ zm_I M' 6 b 7 = nI e) ∨ (∃ x, pp_rule (us.map (fun u => u.1)) bs p N X = .ok x ∧ res = 1 ∧ ct_x M' ac T ∧ zm_R M' 6 b 4 = some (ac + 1) ∧ zm_I M' 6 b 5 = nI T.length ∧ cq_p b M' T x.2.1 x.2.2.1 ∧ cq_n b M' pa' pn' x.2.2.2.1 x.2.2.2.2.1 ∧ zm_I M' 6 b 1 = nI us.length ∧ (∀ (i : Nat) (u : yU), (us ++ [x.1])[i]? = some u → cu_x M' pa' (b + 2 + 10 * i) u))) := by
  obtain ⟨d, rfl⟩ : ∃ d', d = d' + 1 := ⟨d - 1, by omega⟩
  have eb : rs_parseRule (d + 1) b M = rs_parseRule_b d b M := rfl
  rw [eb]
  obtain ⟨⟨hw, ht, hcp, h4, h5, hab⟩, hq, hn, h1, hu⟩ := h
  have hcb : cb_x ac b M T us.length pa pn := ⟨hw, ht, hcp, h4, h5, h8, hab, hus⟩
  have hb := cb_b hcb
  unfold rs_parseRule_b
  obtain ⟨M1, g1, g2, g3, g4, g5⟩ := cl_sgn (d := d) hok hcb hq
  rw [g1]
  simp only [Option.bind_some]
  have hp1 : zm_I M1 6 b 6 = nI (py_sk bs p).2 := g3.1
  have z7 : zf (c6_W b) M (zm_setI M1 6 b 7 (nI (py_sk bs p).2)) := zf_trans g4 (zf_set ⟨rfl, rfl, .inr rfl⟩)
  have hbad0 : rs_parseRule_24 d b M1 = some (0, zm_setI M1 6 b 7 (nI (py_sk bs p).2)) := by
    unfold rs_parseRule_24 rs_fails
    rw [hp1]
    simp [zlet]
  have cb7 : cb_x ac b (zm_setI M1 6 b 7 (nI (py_sk bs p).2)) T us.length pa pn := cb_c6 hcb z7
  have hbad : ∀ v : Except Nat (yU × yQp), v = .error (py_sk bs p).2 → ∃ res M' pa' pn', some ((0 : Int32), zm_setI M1 6 b 7 (nI (py_sk bs p).2)) = some (res, M') ∧ ce_x M pa pn M' pa' pn' ∧ zh (cg_W b pa' pn') M M' ∧ cw_rs M' b ∧ cp_x M' b pa' pn' ∧ ((∃ e, v = .error e ∧ res = 0 ∧ zm_I M' 6 b 7 = nI e) ∨ (∃ x, v = .ok x ∧ res = 1 ∧ ct_x M' ac T ∧ zm_R M' 6 b 4 = some (ac + 1) ∧ zm_I M' 6 b 5 = nI T.length ∧ cq_p b M' T x.2.1 x.2.2.1 ∧ cq_n b M' pa' pn' x.2.2.2.1 x.2.2.2.2.1 ∧ zm_I M' 6 b 1 = nI us.length ∧ (∀ (i : Nat) (u : yU), (us ++ [x.1])[i]? = some u → cu_x M' pa' (b + 2 + 10 * i) u))) := fun v hv => ⟨_, _, pa, pn, rfl, c6_ce z7, c6_cg z7, cb7.1, cb7.2.2.1, .inl ⟨_, hv, rfl, pm_same⟩⟩
  have l0 := sk_len bs p
  cases e : (py_sk bs p).1 with
  | nil =>
    have ev : pp_rule (us.map (fun u => u.1)) bs p N X = .error (py_sk bs p).2 := by
      unfold pp_rule
      rw [e]
    rw [ev]
    simp only [py_ht, cl_isLetter1, Option.bind_some, if_true, hbad0]
    exact hbad _ rfl
  | cons c r =>
    rw [e] at l0 g3
    simp only [List.length_cons] at l0
    have hc : c < 256 := g5 c (by rw [e]; simp)
    have ev : pp_rule (us.map (fun u => u.1)) bs p N X = (if (97 ≤ c ∧ c ≤ 122) ∧ ¬ (c - 97) ∈ us.map (fun u => u.1) then (match pp_sgn 61 r ((py_sk bs p).2 + 1) with
      | .error e => .error e
      | .ok y => match pp_pat 8 (y.1, y.2, N, X, [], [], []) with
        | .error e => .error e
        | .ok x => .ok ((c - 97, x.1, N, x.2.2.2.1, x.2.2.2.2.2.1, x.2.2.2.2.2.2.1, x.2.2.2.2.2.2.2), x.2)) else .error (py_sk bs p).2) := by
      unfold pp_rule
      rw [e]
      rfl
    rw [ev]
    simp only [py_ht, cl_isLetter hc, Option.bind_some]
    by_cases cl : 97 ≤ c ∧ c ≤ 122
    · rw [decide_eq_true cl, pb_zbt, if_neg (show ¬ (1 : Int32) = 0 by decide)]
      have e97 : nI c - 97 = nI (c - 97) := pk_sub (a := c) (b := 97) (by omega)
      rw [e97]
      have h11 : zm_I M1 6 b 1 = nI us.length := by
        rw [zh_I (zh_zf g4) (by omega) (by unfold c6_W; omega)]
        exact h1
      have hle : ∀ i, i < us.length → zm_I M1 5 (b + 2 + 10 * i) 0 = nI ((us.map (fun u => u.1))[i]?.getD 0) ∧ (us.map (fun u => u.1))[i]?.getD 0 < 26 := by
        intro i hi
        obtain ⟨u, hui⟩ := gl_some (l := us) hi
        rw [List.getElem?_map, hui, zh_I (zh_zf g4) (by omega) (by unfold c6_W; omega)]
        exact ⟨(hu i u hui).1, gs_26 hg i u hui⟩
      rw [cl_numberFor (le := fun i => (us.map (fun u => u.1))[i]?.getD 0) g2.1 h11 (by omega) hle (by omega)]
      simp only [Option.bind_some]
      have hfind : ((List.range' 0 us.length).find? (fun r => (us.map (fun u => u.1))[r]?.getD 0 == c - 97)) = none ↔ ¬ (c - 97) ∈ us.map (fun u => u.1) := by
        rw [List.find?_eq_none]
        constructor
        · intro hh hm
          obtain ⟨i, hi⟩ := List.mem_iff_getElem?.mp hm
          have hil := (List.getElem?_eq_some_iff.mp hi).1
          rw [List.length_map] at hil
          have := hh i (List.mem_range'_1.mpr (by omega))
          rw [hi] at this
          simp at this
        · intro hh x hx
          have hx2 := List.mem_range'_1.mp hx
          intro ee
          apply hh
          have hx3 : x < (us.map (fun u => u.1)).length := by rw [List.length_map]; omega
          obtain ⟨v, hv⟩ := gl_some hx3
          rw [hv] at ee
          have : v = c - 97 := by simpa using ee
          rw [← this]
          exact List.mem_of_getElem? hv
      by_cases cm : (c - 97) ∈ us.map (fun u => u.1)
      · rw [if_neg (show ¬ ((97 ≤ c ∧ c ≤ 122) ∧ ¬ (c - 97) ∈ us.map (fun u => u.1)) from fun x => x.2 cm)]
        have : ¬ zo ((List.range' 0 us.length).find? (fun r => (us.map (fun u => u.1))[r]?.getD 0 == c - 97)) = -1 := by
          cases hf : ((List.range' 0 us.length).find? (fun r => (us.map (fun u => u.1))[r]?.getD 0 == c - 97)) with
          | none => exact absurd cm (hfind.mp hf)
          | some y =>
            have := List.mem_range'_1.mp (List.mem_of_find?_eq_some hf)
            exact pb_ne1 (by omega)
        rw [if_neg this, hbad0]
        exact hbad _ rfl
      · rw [if_pos (show ((97 ≤ c ∧ c ≤ 122) ∧ ¬ (c - 97) ∈ us.map (fun u => u.1)) from ⟨cl, cm⟩), hfind.mpr cm, if_pos (show zo (none : Option Nat) = -1 from rfl)]
        -- the rule begins anew
        obtain ⟨M2, hM2⟩ : ∃ Y, Y = zm_setI (zm_setI (zm_setI (zm_setR (zm_setI M1 5 (b + 2 + 10 * us.length) 0 (nI (c - 97))) 5 (b + 2 + 10 * us.length) 1 none) 5 (b + 2 + 10 * us.length) 2 0) 5 (b + 2 + 10 * us.length) 3 0) 5 (b + 2 + 10 * us.length) 4 0 := ⟨_, rfl⟩
        have hst : ru_startAnew d (b + 2 + 10 * us.length) (nI (c - 97)) M1 = some M2 := by
          rw [hM2]
          rfl
        have zs : zh (fun t k j => t = 5 ∧ k = b + 2 + 10 * us.length ∧ j ≤ 4) M1 M2 := by
          rw [hM2]
          exact zh_trans (zh_trans (zh_trans (zh_trans (zh_setI ⟨rfl, rfl, by omega⟩) (zh_setR ⟨rfl, rfl, by omega⟩)) (zh_setI ⟨rfl, rfl, by omega⟩)) (zh_setI ⟨rfl, rfl, by omega⟩)) (zh_setI ⟨rfl, rfl, by omega⟩)
        have ns : zm_n M2 = zm_n M1 ∧ zm_s M2 = zm_s M1 := by
          rw [hM2]
          simp only [pm_nI, pm_nR, pm_sI, pm_sR, and_self]
        have hb1 := cb_b g2
        have c2 : cb_x ac b M2 T us.length pa pn := cb_zh g2 zs (fun t k j v w => by rcases v with v | v | v | v | v | v <;> omega)
        have n1 : cq_n b M1 pa pn N X := cq_n_zh hn hcb (zh_zf g4) (fun k j _ _ w => by unfold c6_W at w; omega) (by unfold c6_W; omega)
        have cs2 : cs_x ac b M2 T us.length pa pn (c :: r, (py_sk bs p).2, N, X, [], [], []) := by
          refine ⟨c2, ⟨?_, g3.2⟩, cq_n_zh n1 g2 zs (fun k j _ _ w => by omega) (by omega), ⟨?_, ?_, ?_⟩, (fun i x hx => by simp at hx), (fun i x hx => by simp at hx), (fun i x hx => by simp at hx)⟩
          · rw [zh_I zs (by omega) (by omega)]; exact hp1
          · rw [hM2, pm_ne (by omega), pm_ne (by omega), pm_same]; rfl
          · rw [hM2, pm_ne (by omega), pm_same]; rfl
          · rw [hM2, pm_same]; rfl
        obtain ⟨s1, s2⟩ := cs_step (q := (c :: r, (py_sk bs p).2, N, X, [], [], [])) cs2
        have hp2 : zm_I M2 6 b 6 = nI (py_sk bs p).2 := cs2.2.1.1
        have h82 : zm_R M1 6 b 8 = some (b + 2 + 10 * us.length) := cb_8 g2
        simp only [h82, hst, Option.bind_some, zlet, hp2, nI_1]
        obtain ⟨M4, k1, k2, k3, k4⟩ := cl_sign (d := d) hok s1
        have k1 : rs_sign d b (zm_setI M2 6 b 6 (nI ((py_sk bs p).2 + 1))) = some (py_ht (py_sk r ((py_sk bs p).2 + 1)).1, M4) := k1
        have k4 : ∀ x, x ∈ (py_sk r ((py_sk bs p).2 + 1)).1 → x < 256 := k4
        have e61 : (py_ht (py_sk r ((py_sk bs p).2 + 1)).1 = 61) ↔ (py_sk r ((py_sk bs p).2 + 1)).1.head? = some 61 := ht_eq (c := 61) k4 (by omega)
        rw [k1]
        simp only [Option.bind_some, e61]
        have hp4 : zm_I M4 6 b 6 = nI (py_sk r ((py_sk bs p).2 + 1)).2 := k2.2.1.1
        have ce4 : ce_x M pa pn M4 pa pn := ce_trans (c6_ce g4) (ce_trans (ce_set ns.1 ns.2) (ce_trans (c6_ce s2) (c6_ce k3)))
        have zst : zh (cg_W b pa pn) M1 M2 := zh_mono zs (fun t k j _ w => .inr (.inr (.inl ⟨w.1, w.2.2, by omega, by omega⟩)))
        have zh4 : zh (cg_W b pa pn) M M4 := zh_trans (c6_cg g4) (zh_trans zst (zh_trans (c6_cg s2) (c6_cg k3)))
        have l2 := sk_len r ((py_sk bs p).2 + 1)
        by_cases c61 : (py_sk r ((py_sk bs p).2 + 1)).1.head? = some 61
        · rw [if_pos c61]
          cases e6 : (py_sk r ((py_sk bs p).2 + 1)).1 with
          | nil => rw [e6] at c61; cases c61
          | cons z zs' =>
            have es : pp_sgn 61 r ((py_sk bs p).2 + 1) = .ok (zs', (py_sk r ((py_sk bs p).2 + 1)).2 + 1) := by
              unfold pp_sgn
              rw [if_pos c61, e6]
              rfl
            rw [e6] at l2
            simp only [List.length_cons] at l2
            have k2' : cs_x ac b M4 T us.length pa pn (z :: zs', (py_sk r ((py_sk bs p).2 + 1)).2, N, X, [], [], []) := by
              have : pb_skip (r, (py_sk bs p).2 + 1, N, X, ([] : List (Nat × Nat)), ([] : List (Nat × Option Nat × Nat)), ([] : List Nat)) = (z :: zs', (py_sk r ((py_sk bs p).2 + 1)).2, N, X, [], [], []) := by
                unfold pb_skip
                dsimp only
                rw [e6]
              rw [← this]
              exact k2
            obtain ⟨u1, u2⟩ := cs_step (q := (c :: r, (py_sk bs p).2, N, X, [], [], [])) k2'
            rw [es, hp4, nI_1]
            dsimp only
            obtain ⟨res, M6, pa6, pn6, q1, q2, q3, q4⟩ := cm_pat (ac := ac) (b := b) (r := us.length) hok N 8 0 d (by omega) (by omega) _ _ pa pn u1 ⟨Nat.le_refl _, by simp, by simp, by simp, (fun o x hx => by simp at hx), (fun o x hx => by simp at hx), (fun o x hx => by simp at hx)⟩ (by dsimp only; omega)
            have q1 : rs_pattern d b 0 (zm_setI M4 6 b 6 (nI ((py_sk r ((py_sk bs p).2 + 1)).2 + 1))) = some (res, M6) := q1
            rw [q1]
            have h85 : zm_R (zm_setI M4 6 b 6 (nI ((py_sk r ((py_sk bs p).2 + 1)).2 + 1))) 6 b 8 = some (b + 2 + 10 * us.length) := cb_8 u1.1
            have ce6 : ce_x M pa pn M6 pa6 pn6 := ce_trans ce4 (ce_trans (c6_ce u2) q2)
            have zh5 : zh (cg_W b pa pn) M (zm_setI M4 6 b 6 (nI ((py_sk r ((py_sk bs p).2 + 1)).2 + 1))) := zh_trans zh4 (c6_cg u2)
            have zh6 : zh (cg_W b pa6 pn6) M M6 := zh_trans (zh_mono zh5 (fun t k j _ w => cg_mono (ce_e q2) t k j w)) (zh_mono q3 (fun t k j _ w => cf_cg hus w))
            have hw6 : cw_rs M6 b := cw_rs_cf u1.1.1 q3
            have hb5 := cb_b u1.1
            have h86 : zm_R M6 6 b 8 = some (b + 2 + 10 * us.length) := by
              rw [zh_R q3 (by omega) (by
                intro w
                rcases w with w | w | w | w | w | w <;> omega)]
              exact h85
            simp only [Option.bind_some, h85, pr_ne (show (6 : Nat) ≠ 5 ∨ b ≠ b + 2 + 10 * us.length ∨ 8 ≠ 1 from .inl (by decide)), h86, pr_same, rs_parseRule_101]
            have z7' : zh (cg_W b pa6 pn6) M6 (zm_setR M6 5 (b + 2 + 10 * us.length) 1 res) := zh_setR (.inr (.inr (.inl ⟨rfl, by omega, by omega, by omega⟩)))
            have hw7 : cw_rs (zm_setR M6 5 (b + 2 + 10 * us.length) 1 res) b := by
              refine cw_rs_zh (W := fun t k j => t = 5 ∧ j = 1) hw6 (zh_setR ⟨rfl, rfl⟩) ?_ ⟨?_, ?_⟩ ?_
              · intro i j _ _ _ w; omega
              · omega
              · omega
              · intro i _ w; omega
            have n7 : ce_x M6 pa6 pn6 (zm_setR M6 5 (b + 2 + 10 * us.length) 1 res) pa6 pn6 := ce_set (by simp only [pm_nR]) (by simp only [pm_sR])
            have cp7 : ∀ hcp6 : cp_x M6 b pa6 pn6, cp_x (zm_setR M6 5 (b + 2 + 10 * us.length) 1 res) b pa6 pn6 := fun hcp6 => cp_zh (W := fun t k j => t = 5) hcp6 (zh_setR rfl) (by have := hw6.2.2.2; omega) (fun j w => by omega) (fun k w => by omega)
            rcases q4 with ⟨er, o1, o2, o3, o4⟩ | ⟨x, o1, o2, o3⟩
            · rw [o1, o2]
              simp only [if_true, true_or]
              rw [o2] at z7' hw7 n7 cp7
              exact ⟨_, _, pa6, pn6, rfl, ce_trans ce6 n7, zh_trans zh6 z7', hw7, cp7 o4, .inl ⟨er, rfl, rfl, by rw [pm_IR]; exact o3⟩⟩
            · rw [o1, o2]
              simp only [if_true, or_true]
              rw [o2] at z7' hw7 n7 cp7
              have ce7 := ce_trans ce6 n7
              have zh7 := zh_trans zh6 z7'
              obtain ⟨x1, x2, x3, x4, x5, x6, x7⟩ := o3
              have zz : zh (fun t k j => t = 5 ∧ k = b + 2 + 10 * us.length ∧ j = 1) M6 (zm_setR M6 5 (b + 2 + 10 * us.length) 1 (some (pa6 x.1))) := zh_setR ⟨rfl, rfl, rfl⟩
              have hb6 := cb_b x1
              have hQ6 := cb_rs x1
              refine ⟨_, _, pa6, pn6, rfl, ce7, zh7, hw7, cp7 x1.2.2.1, .inr ⟨_, rfl, rfl, ct_zh x1.2.1 zz (fun j w => by omega), ?_, ?_, ⟨?_, x2.2⟩, cq_n_zh x3 x1 zz (fun k j _ _ w => by omega) (by omega), ?_, ?_⟩⟩
              · rw [zh_R zz (by omega) (by omega)]; exact x1.2.2.2.1
              · rw [zh_I zz (by omega) (by omega)]; exact x1.2.2.2.2.1
              · rw [zh_I zz (by omega) (by omega)]; exact x2.1
              · rw [pm_IR]
                have f1 : zm_I (zm_setI M4 6 b 6 (nI ((py_sk r ((py_sk bs p).2 + 1)).2 + 1))) 6 b 1 = nI us.length := by
                  rw [pm_ne (by omega), zh_I (zh_zf k3) (by show b < zm_n M2; omega) (by unfold c6_W; omega), pm_ne (by omega), zh_I zs (by omega) (by omega)]
                  exact h11
                rw [zh_I q3 (by omega) (by
                  intro w
                  rcases w with w | w | w | w | w | w <;> omega)]
                exact f1
              · intro i u hiu
                by_cases ei : i < us.length
                · rw [List.getElem?_append_left ei] at hiu
                  obtain ⟨hgi, hzi⟩ := hg i u hiu
                  have gp := gu_pa (pa := pa) (pa' := pa6) hgi hzi (fun j hj => ce6.2.1 j (by have := hn.1; omega))
                  have a1 := cu_zh (pa' := pa) (hu i u hiu) (zh_zf g4) (by omega) (fun j _ w => by unfold c6_W at w; omega) (fun k j _ _ => ⟨fun w => by unfold c6_W at w; omega, fun w => by unfold c6_W at w; omega⟩) ⟨rfl, fun _ _ _ => rfl, fun _ _ _ => rfl, fun _ _ _ => rfl⟩
                  have a2 := cu_zh (pa' := pa) a1 zs (by omega) (fun j _ w => by omega) (fun k j _ _ => ⟨fun w => by omega, fun w => by omega⟩) ⟨rfl, fun _ _ _ => rfl, fun _ _ _ => rfl, fun _ _ _ => rfl⟩
                  have z25 : zf (c6_W b) M2 (zm_setI M4 6 b 6 (nI ((py_sk r ((py_sk bs p).2 + 1)).2 + 1))) := zf_trans s2 (zf_trans k3 u2)
                  have a3 := cu_zh (pa' := pa) a2 (zh_zf z25) (by omega) (fun j _ w => by unfold c6_W at w; omega) (fun k j _ _ => ⟨fun w => by unfold c6_W at w; omega, fun w => by unfold c6_W at w; omega⟩) ⟨rfl, fun _ _ _ => rfl, fun _ _ _ => rfl, fun _ _ _ => rfl⟩
                  have a4 := cu_zh (pa' := pa6) a3 q3 (by omega) (fun j hj w => by rcases w with w | w | w | w | w | w <;> omega) (fun k j k1 k2 => ⟨fun w => by rcases w with w | w | w | w | w | w <;> omega, fun w => by rcases w with w | w | w | w | w | w <;> omega⟩) gp
                  exact cu_zh (pa' := pa6) a4 zz (by omega) (fun j _ w => by omega) (fun k j _ _ => ⟨fun w => by omega, fun w => by omega⟩) ⟨rfl, fun _ _ _ => rfl, fun _ _ _ => rfl, fun _ _ _ => rfl⟩
                · have e2 : i = us.length := by
                    have := (List.getElem?_eq_some_iff.mp hiu).1
                    simp at this
                    omega
                  subst e2
                  have ex : u = (c - 97, x.1, N, x.2.2.2.1, x.2.2.2.2.2.1, x.2.2.2.2.2.2.1, x.2.2.2.2.2.2.2) := by simpa using hiu.symm
                  subst ex
                  have f0 : zm_I (zm_setI M4 6 b 6 (nI ((py_sk r ((py_sk bs p).2 + 1)).2 + 1))) 5 (b + 2 + 10 * us.length) 0 = nI (c - 97) := by
                    rw [pm_ne (by omega), zh_I (zh_zf k3) (by show b + 2 + 10 * us.length < zm_n M2; omega) (by unfold c6_W; omega), pm_ne (by omega), hM2, pm_ne (by omega), pm_ne (by omega), pm_ne (by omega), pm_IR, pm_same]
                  refine ⟨?_, pr_same, ?_, cq_L_zh x5 zz hQ6 (fun j w => by omega) (fun j w => by omega), cq_C_zh x6 zz hQ6 (fun j w => by omega) (fun j w => by omega) (fun j w => by omega), cq_A_zh x7 zz hQ6 (fun j w => by omega)⟩
                  · rw [pm_IR, zh_I q3 (by omega) (by
                      intro w
                      rcases w with w | w | w | w | w | w <;> omega)]
                    exact f0
                  · unfold cq_c
                    rw [pm_IR]
                    exact x4
        · rw [if_neg c61]
          have es : pp_sgn 61 r ((py_sk bs p).2 + 1) = .error (py_sk r ((py_sk bs p).2 + 1)).2 := if_neg c61
          rw [es]
          have z9 : zf (c6_W b) M4 (zm_setI M4 6 b 7 (nI (py_sk r ((py_sk bs p).2 + 1)).2)) := zf_set ⟨rfl, rfl, .inr rfl⟩
          have hf : rs_fails d b M4 = some (0, zm_setI M4 6 b 7 (nI (py_sk r ((py_sk bs p).2 + 1)).2)) := by
            unfold rs_fails
            rw [hp4]
            rfl
          rw [hf]
          simp only [Option.bind_some, true_or, if_true]
          have cb9 := cb_c6 k2.1 z9
          exact ⟨_, _, pa, pn, rfl, ce_trans ce4 (c6_ce z9), zh_trans zh4 (c6_cg z9), cb9.1, cb9.2.2.1, .inl ⟨_, rfl, rfl, pm_same⟩⟩
    · rw [decide_eq_false cl, pb_zbf, if_pos rfl, hbad0, if_neg (show ¬ ((97 ≤ c ∧ c ≤ 122) ∧ ¬ (c - 97) ∈ us.map (fun u => u.1)) from fun x => cl x.1)]
      exact hbad _ rfl
end
