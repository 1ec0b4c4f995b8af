/-! THE CLASS's parser: a node is made, a node is put into another -/
section
variable {ac b r pn d : Nat} {pa : Nat → Nat} {M : zM} {T : List Nat} {q : yQp}
theorem cl_startAnew (k : Nat) (kd v : Int32) (M : zM) : ∃ M', nd_startAnew d k kd v M = some M' ∧ zh (fun t k' j => t = 3 ∧ k' = k ∧ j ≤ 7) M M' ∧ zm_n M' = zm_n M ∧ zm_s M' = zm_s M ∧ zm_I M' 3 k 0 = kd ∧ zm_I M' 3 k 1 = v ∧ zm_I M' 3 k 2 = 0 ∧ zm_I M' 3 k 3 = 0 ∧ (∀ j, 4 ≤ j → j ≤ 7 → zm_R M' 3 k j = none) ∧ zm_L M' = zm_L M := by
  refine ⟨zm_setR (zm_setR (zm_setR (zm_setR (zm_setI (zm_setI (zm_setI (zm_setI M 3 k 0 kd) 3 k 1 v) 3 k 2 0) 3 k 3 0) 3 k 4 none) 3 k 5 none) 3 k 6 none) 3 k 7 none, rfl, ?_, rfl, rfl, ?_, ?_, ?_, ?_, ?_, rfl⟩
  · exact zh_trans (zh_trans (zh_trans (zh_trans (zh_trans (zh_trans (zh_trans (zh_setI ⟨rfl, rfl, by omega⟩) (zh_setI ⟨rfl, rfl, by omega⟩)) (zh_setI ⟨rfl, rfl, by omega⟩)) (zh_setI ⟨rfl, rfl, by omega⟩)) (zh_setR ⟨rfl, rfl, by omega⟩)) (zh_setR ⟨rfl, rfl, by omega⟩)) (zh_setR ⟨rfl, rfl, by omega⟩)) (zh_setR ⟨rfl, rfl, by omega⟩)
  · rw [pm_IR, pm_IR, pm_IR, pm_IR, pm_ne (by omega), pm_ne (by omega), pm_ne (by omega), pm_same]
  · rw [pm_IR, pm_IR, pm_IR, pm_IR, pm_ne (by omega), pm_ne (by omega), pm_same]
  · rw [pm_IR, pm_IR, pm_IR, pm_IR, pm_ne (by omega), pm_same]
  · rw [pm_IR, pm_IR, pm_IR, pm_IR, pm_same]
  · intro j h1 h2
    by_cases e7 : j = 7
    · subst e7; exact pr_same
    · rw [pr_ne (by omega)]
      by_cases e6 : j = 6
      · subst e6; exact pr_same
      · rw [pr_ne (by omega)]
        by_cases e5 : j = 5
        · subst e5; exact pr_same
        · have : j = 4 := by omega
          subst this
          rw [pr_ne (by omega)]
          exact pr_same
theorem cn_more {N n : Nat} {X X' : Nat → yX} (h : cn_n M pa X N n) (hn : n < N) (hX : ∀ k, k < N → X' k = X k) : cn_n M pa X' (N + 1) n := by
  obtain ⟨h1, h2, h3, h4, h5, h6, h7, h8, h9⟩ := h
  unfold cn_n
  rw [hX n hn]
  refine ⟨h1, h2, h3, h4, h5, h6, ?_, h8, fun p hp => by have := h9 p hp; omega⟩
  intro i c hc
  obtain ⟨g1, g2, g3, g4⟩ := h7 i c hc
  rw [hX c g1]
  exact ⟨by omega, g2, g3, g4⟩
theorem cl_make43 (h : cs_x ac b M T r pa pn q) (hN : q.2.2.1 < pn) {kd nb : Nat} {v : Int32} (hv : kd = 0 ∨ kd = 4 ∨ kd = 5 → v = nI nb) : ∃ M', rs_make_43 d b (nI (ck kd)) v M = some (some (pa q.2.2.1), M') ∧ cs_x ac b M' T r pa pn (q.1, q.2.1, pb_open q.2.2 kd nb) ∧ zm_n M' = zm_n M ∧ zm_s M' = zm_s M ∧ zh (cf_W b r pa pn) M M' := by
  obtain ⟨h1, h2, h3, h4, h5, h6, h7⟩ := h
  have hb := cb_b h1
  have hpn := h1.2.2.1.1
  have hp3 : zm_I M 6 b 3 = nI q.2.2.1 := h3.2.1
  have hR2 := h1.1.2.1.1
  have hL2 := h1.1.2.1.2
  have hz : z_in (nI q.2.2.1) 400 := nI_in (by omega) (by omega)
  obtain ⟨hpo, hpa, _, _⟩ := h1.2.2.1.2.1 q.2.2.1 hN
  obtain ⟨M', g1, g2, g3, g4, g5, g6, g7, g8, g9, g10⟩ := cl_startAnew (d := d) (pa q.2.2.1) (nI (ck kd)) v (zm_setI M 6 b 3 (nI (q.2.2.1 + 1)))
  have hinj : ∀ k, k < q.2.2.1 → pa k ≠ pa q.2.2.1 := fun k hk e => by
    have := h1.2.2.1.2.2.2 k q.2.2.1 (by omega) hN e
    omega
  have z1 : zh (fun t k j => (t = 6 ∧ k = b ∧ j = 3) ∨ (t = 3 ∧ k = pa q.2.2.1 ∧ j ≤ 7)) M M' := zh_trans (zh_setI (.inl ⟨rfl, rfl, rfl⟩)) (zh_mono g2 (fun t k j _ w => .inr w))
  have hQ := cb_rs h1
  refine ⟨M', ?_, ⟨cb_zh h1 z1 ?_, ?_, ⟨?_, ?_, ?_⟩, cq_c_zh h4 z1 hQ ?_, cq_L_zh h5 z1 hQ ?_ ?_, cq_C_zh h6 z1 hQ ?_ ?_ ?_, cq_A_zh h7 z1 hQ ?_⟩, g3, g4, zh_mono z1 ?_⟩
  · unfold rs_make_43
    simp only [hR2, hL2, hp3, if_pos hz, nI_clamp (show q.2.2.1 < 2 ^ 31 by omega), hpo, zlet, nI_1, g1, Option.bind_some]
  · intro t k j w1 w2
    rcases w1 with w | w | w | w | w | w <;> omega
  · refine ⟨?_, h2.2⟩
    show zm_I M' 6 b 6 = nI q.2.1
    rw [zh_I z1 (by omega) (by omega)]
    exact h2.1
  · show q.2.2.1 + 1 ≤ pn
    omega
  · show zm_I M' 6 b 3 = nI (q.2.2.1 + 1)
    rw [zh_I g2 (by show b < zm_n M; omega) (by omega), pm_same]
  · intro n hn
    have hn : n < q.2.2.1 + 1 := hn
    show cn_n M' pa (py_u q.2.2.2.1 q.2.2.1 (kd, nb, none, [], 0)) (q.2.2.1 + 1) n
    by_cases e : n = q.2.2.1
    · subst e
      have ex : py_u q.2.2.2.1 q.2.2.1 (kd, nb, none, [], 0) q.2.2.1 = (kd, nb, none, [], 0) := pu_s _ _ _
      unfold cn_n
      rw [ex]
      refine ⟨g5, ?_, g8, g9 4 (by omega) (by omega), g9 5 (by omega) (by omega), g9 6 (by omega) (by omega), (fun i c hc => by simp at hc), fun _ => ⟨g9 7 (by omega) (by omega), g7⟩, (fun p hp => by cases hp)⟩
      intro hk
      rw [g6]
      exact hv hk
    · have hn' : n < q.2.2.1 := by omega
      have c1 := cn_zh (h3.2.2 n hn') z1 (fun k hk => cb_pa h1 (by omega)) hn' (by
        intro k j hk hj w
        rcases w with w | w
        · omega
        · exact hinj k hk w.2.1)
      exact cn_more c1 hn' (fun k hk => pu_o _ _ (by omega))
  · intro j w
    rcases w with w | w <;> omega
  · intro j w
    rcases w with w | w <;> omega
  · intro j w
    rcases w with w | w <;> omega
  · intro j w
    rcases w with w | w <;> omega
  · intro j w
    rcases w with w | w <;> omega
  · intro j w
    rcases w with w | w <;> omega
  · intro j w
    rcases w with w | w <;> omega
  · intro t k j _ w
    rcases w with w | w
    · exact .inr (.inr (.inl ⟨w.1, w.2.1, by omega⟩))
    · exact .inl ⟨w.1, w.2.2, q.2.2.1, hN, w.2.1⟩
/-- a cell for the pool -/
theorem cl_alloc {a0 : Nat} (h : cs_x ac b M T r pa pn q) (hw : pw_x a0 q.2.2) (hN : q.2.2.1 = pn) (h400 : pn < 400) : ∃ M9, nd_init d (zm_n M) (zm_new M 3 0 16) = some M9 ∧ zm_L M9 24 (b + 82) = 400 ∧ cs_x ac b (zm_setR M9 24 (b + 82) pn (some (zm_n M))) T r (py_u pa pn (zm_n M)) (pn + 1) q ∧ ce_x M pa pn (zm_setR M9 24 (b + 82) pn (some (zm_n M))) (py_u pa pn (zm_n M)) (pn + 1) ∧ zh (cf_W b r (py_u pa pn (zm_n M)) (pn + 1)) M (zm_setR M9 24 (b + 82) pn (some (zm_n M))) := by
  obtain ⟨h1, h2, h3, h4, h5, h6, h7⟩ := h
  have hb := cb_b h1
  have hQ := cb_rs h1
  obtain ⟨M9, hM9⟩ : ∃ Y, Y = zm_setR (zm_new (zm_setR (zm_setR (zm_setR (zm_setR (zm_new M 3 0 16) 3 (zm_n M) 4 none) 3 (zm_n M) 5 none) 3 (zm_n M) 6 none) 3 (zm_n M) 7 none) 21 5 5) 3 (zm_n M) 15 (some (zm_n M + 1)) := ⟨_, rfl⟩
  have z0 : zh (fun t k j => t = 24 ∧ k = b + 82) M (zm_setR M9 24 (b + 82) pn (some (zm_n M))) := by
    have a1 : zh (fun t k j => t = 24 ∧ k = b + 82) M (zm_new M 3 0 16) := zh_new _ _ _ _ _
    have out : ∀ (M1 : zM), zh (fun t k j => t = 24 ∧ k = b + 82) M M1 → ∀ j v, zh (fun t k j => t = 24 ∧ k = b + 82) M (zm_setR M1 3 (zm_n M) j v) := by
      intro M1 hh j v
      obtain ⟨x1, x2, x3, x4⟩ := hh
      refine ⟨x1, x2, x3, ?_⟩
      intro t k i hk w
      refine ⟨(x4 t k i hk w).1, ?_⟩
      rw [pr_ne (by omega)]
      exact (x4 t k i hk w).2
    have a2 := out _ (out _ (out _ (out _ a1 4 none) 5 none) 6 none) 7 none
    have a3 := zh_trans a2 (zh_new _ _ 21 5 5)
    have a4 := out _ a3 15 (some (zm_n M + 1))
    rw [hM9]
    exact zh_trans a4 (zh_setR ⟨rfl, rfl⟩)
  have hL9 : zm_L M9 24 (b + 82) = 400 := by
    have := zh_L z0 (t := 24) (k := b + 82) (by omega)
    rw [pm_LR] at this
    rw [this]
    exact h1.1.2.1.2
  have hn' : zm_n (zm_setR M9 24 (b + 82) pn (some (zm_n M))) = zm_n M + 2 := by rw [hM9]; simp only [pm_nR, pn_n]
  have hs' : zm_s (zm_setR M9 24 (b + 82) pn (some (zm_n M))) = zm_s M + 21 := by
    rw [hM9]
    simp only [pm_sR, pn_s]
  have k15 : zm_R (zm_setR M9 24 (b + 82) pn (some (zm_n M))) 3 (zm_n M) 15 = some (zm_n M + 1) := by
    rw [pr_ne (by omega), hM9, pr_same]
  have k21 : zm_L (zm_setR M9 24 (b + 82) pn (some (zm_n M))) 21 (zm_n M + 1) = 5 := by
    rw [pm_LR, hM9, pm_LR, pn_L]
    exact if_pos ⟨rfl, by simp only [pm_nR, pn_n]⟩
  have pao : ∀ j, j < pn → py_u pa pn (zm_n M) j = pa j := fun j hj => pu_o _ _ (by omega)
  have pas : py_u pa pn (zm_n M) pn = zm_n M := pu_s _ _ _
  have hcp : cp_x (zm_setR M9 24 (b + 82) pn (some (zm_n M))) b (py_u pa pn (zm_n M)) (pn + 1) := by
    obtain ⟨c1, c2, c3, c4⟩ := h1.2.2.1
    refine ⟨by omega, ?_, ?_, ?_⟩
    · intro j hj
      by_cases e : j = pn
      · subst e
        rw [pas]
        exact ⟨pr_same, by omega, k15, k21⟩
      · obtain ⟨e1, e2, e3, e4⟩ := c2 j (by omega)
        rw [pao j (by omega)]
        refine ⟨?_, by omega, ?_, ?_⟩
        · rw [pr_ne (by omega)]
          have := zh_R z0 (t := 24) (k := b + 82) (j := j) (by omega)
          have e5 : zm_R M9 24 (b + 82) j = zm_R M 24 (b + 82) j := by
            rw [hM9, pr_ne (by omega), pn_R, if_neg (by omega), pr_ne (by omega), pr_ne (by omega), pr_ne (by omega), pr_ne (by omega), pn_R, if_neg (by omega)]
          rw [e5]
          exact e1
        · rw [zh_R z0 (by omega) (by omega)]; exact e3
        · rw [zh_L z0 (by omega)]; exact e4
    · intro j j1 j2
      rw [pr_ne (by omega)]
      have e5 : zm_R M9 24 (b + 82) j = zm_R M 24 (b + 82) j := by
        rw [hM9, pr_ne (by omega), pn_R, if_neg (by omega), pr_ne (by omega), pr_ne (by omega), pr_ne (by omega), pr_ne (by omega), pn_R, if_neg (by omega)]
      rw [e5]
      exact c3 j (by omega) j2
    · intro i j hi hj e
      by_cases ei : i = pn
      · by_cases ej : j = pn
        · omega
        · rw [ei, pas, pao j (by omega)] at e
          have := (c2 j (by omega)).2.1
          omega
      · by_cases ej : j = pn
        · rw [ej, pas, pao i (by omega)] at e
          have := (c2 i (by omega)).2.1
          omega
        · rw [pao i (by omega), pao j (by omega)] at e
          exact c4 i j (by omega) (by omega) e
  refine ⟨M9, ?_, hL9, ⟨⟨?_, ?_, hcp, ?_, ?_, ?_, h1.2.2.2.2.2.2⟩, ?_, ⟨by omega, ?_, ?_⟩, cq_c_zh h4 z0 hQ ?_, ?_, ?_, ?_⟩, ⟨by omega, pao, by omega, by omega, ?_⟩, zh_mono z0 ?_⟩
  · rw [hM9]
    unfold nd_init
    simp only [zlet, pm_nR, pn_n]
  · refine cw_rs_zh h1.1 z0 ?_ ⟨?_, ?_⟩ ?_
    · intro i j _ _ _ w; omega
    · omega
    · omega
    · intro i _ w; omega
  · exact ct_zh h1.2.1 z0 (fun j w => by omega)
  · rw [zh_R z0 (by omega) (by omega)]; exact h1.2.2.2.1
  · rw [zh_I z0 (by omega) (by omega)]; exact h1.2.2.2.2.1
  · rw [zh_R z0 (by omega) (by omega)]; exact h1.2.2.2.2.2.1
  · refine ⟨?_, h2.2⟩
    rw [zh_I z0 (by omega) (by omega)]; exact h2.1
  · rw [zh_I z0 (by omega) (by omega)]; exact h3.2.1
  · intro n hn
    have c1 := cn_zh (h3.2.2 n hn) z0 (fun k hk => cb_pa h1 (by omega)) hn (fun k j _ _ w => by omega)
    obtain ⟨i1, i2, i3, i4, i5, i6, i7, i8, i9⟩ := c1
    have en : py_u pa pn (zm_n M) n = pa n := pao n (by omega)
    have emap : ∀ (o : Option Nat), (∀ y, o = some y → y < q.2.2.1) → o.map (py_u pa pn (zm_n M)) = o.map pa := by
      intro o ho
      cases o with
      | none => rfl
      | some y => exact congrArg some (pao y (by have := ho y rfl; omega))
    have mem : ∀ (i y : Nat), (q.2.2.2.1 n).2.2.2.1[i]? = some y → y < q.2.2.1 := fun i y hy => (i7 i y hy).1
    unfold cn_n
    rw [en, emap (q.2.2.2.1 n).2.2.1 i9]
    refine ⟨i1, i2, i3, i4, ?_, ?_, ?_, i8, i9⟩
    · rw [emap _ (fun y hy => mem 0 y (by rw [← List.head?_eq_getElem?]; exact hy))]
      exact i5
    · rw [emap _ (fun y hy => by rw [List.getLast?_eq_getElem?] at hy; exact mem _ y hy)]
      exact i6
    · intro i c hc
      obtain ⟨f1, f2, f3, f4⟩ := i7 i c hc
      rw [pao c (by omega), emap _ (fun y hy => mem (i + 1) y hy)]
      exact ⟨f1, f2, f3, f4⟩
  · intro j w; omega
  · intro i x hx
    have g := cq_L_zh h5 z0 hQ (fun j w => by omega) (fun j w => by omega) i x hx
    exact ⟨g.1, g.2.trans (by rw [pao x.2 (by have := (hw.2.2.2.2.1 i x hx).2.1; omega)])⟩
  · intro i x hx
    have g := cq_C_zh h6 z0 hQ (fun j w => by omega) (fun j w => by omega) (fun j w => by omega) i x hx
    exact ⟨g.1, g.2.1, g.2.2.trans (by rw [pao x.2.2 (by have := (hw.2.2.2.2.2.1 i x hx).2.2.2.1; omega)])⟩
  · intro i x hx
    have g := cq_A_zh h7 z0 hQ (fun j w => by omega) i x hx
    exact g.trans (by rw [pao x (by have := (hw.2.2.2.2.2.2 i x hx).2.1; omega)])
  · intro j j1 j2
    have : j = pn := by omega
    subst this
    rw [pas]
    exact Nat.le_refl _
  · intro t k j _ w
    exact .inr (.inl w)
theorem cl_make {a0 : Nat} (h : cs_x ac b M T r pa pn q) (hw : pw_x a0 q.2.2) (hN : q.2.2.1 < 400) (hd : 1 ≤ d) {kd nb : Nat} {v : Int32} (hv : kd = 0 ∨ kd = 4 ∨ kd = 5 → v = nI nb) : ∃ M' pa' pn', rs_make d b (nI (ck kd)) v M = some (some (pa' q.2.2.1), M') ∧ cs_x ac b M' T r pa' pn' (q.1, q.2.1, pb_open q.2.2 kd nb) ∧ ce_x M pa pn M' pa' pn' ∧ zh (cf_W b r pa' pn') M M' := by
  obtain ⟨d, rfl⟩ : ∃ d', d = d' + 1 := ⟨d - 1, by omega⟩
  have eb : rs_make (d + 1) b (nI (ck kd)) v M = rs_make_b d b (nI (ck kd)) v M := rfl
  rw [eb]
  have hp3 : zm_I M 6 b 3 = nI q.2.2.1 := h.2.2.1.2.1
  have hR2 := h.1.1.2.1.1
  have hL2 := h.1.1.2.1.2
  have hz : z_in (nI q.2.2.1) 400 := nI_in (by omega) (by omega)
  have hlt : nI q.2.2.1 < 400 := nI_lt (b := 400) (by omega) (by omega)
  unfold rs_make_b
  simp only [hp3, if_pos hlt, hR2, hL2, if_pos hz, nI_clamp (show q.2.2.1 < 2 ^ 31 by omega)]
  by_cases e : q.2.2.1 < pn
  · have hpo := (h.1.2.2.1.2.1 q.2.2.1 e).1
    obtain ⟨M', g1, g2, g3, g4, g5⟩ := cl_make43 (d := d) h e hv
    rw [hpo]
    exact ⟨M', pa, pn, g1, g2, ce_set g3 g4, g5⟩
  · have eN : q.2.2.1 = pn := by have := h.2.2.1.1; omega
    have hpo := h.1.2.2.1.2.2.1 q.2.2.1 (by omega) hN
    obtain ⟨M9, k1, k2, k3, k4, k5⟩ := cl_alloc (d := d) h hw eN (by omega)
    rw [← eN] at k3 k4 k5
    obtain ⟨M', g1, g2, g3, g4, g5⟩ := cl_make43 (d := d) k3 (by omega) hv
    rw [hpo]
    simp only [zlet, k1, Option.bind_some, k2, if_pos hz]
    exact ⟨M', _, _, g1, g2, ce_trans (by rw [← eN]; exact k4) (ce_set g3 g4), zh_trans k5 g5⟩
end
