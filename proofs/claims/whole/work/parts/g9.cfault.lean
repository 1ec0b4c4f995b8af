/-! THE CLASS: the spare set reads the tape; fault -/
section
variable {ac N0 S0 d : Nat} {M M' : zM} {S : yZ} {g : yG2}
theorem cl_faultR (hI : cI ac N0 S0 M S g) (hz : zz_ok S) (hd : 81 ≤ d) : ∃ res M' pa' pn', rs_parse d g.1.2.1 (some (ac + 1)) (nI S.1.length) M = some (res, M') ∧ cI ac N0 S0 M' S (g.1, g.2.1, g.2.2.1, pa', pn') ∧ zh (cC_W ac) M M' ∧ ((∃ e, py_rls S.1 = .error e ∧ res = nI e) ∨ (∃ x, py_rls S.1 = .ok x ∧ res = -1 ∧ cv_x M' g.1.2.1 pa' pn' x.1 x.2.1 x.2.2)) := by
  obtain ⟨hg, hO, hT, ⟨hS, hcp, hdm⟩, ⟨hws, hcps⟩, ⟨hdx, hdh, hdy⟩, hdl, hL, hrd, ⟨hU, hC, hS', hD⟩, hn⟩ := hI
  obtain ⟨g1, g2, g3, g4, g5⟩ := hg
  obtain ⟨res, M1, pa', pn', k1, k2, k3, k4, k5, k6⟩ := cl_parse (d := d) hz.1 hd hws hT hcps (by omega)
  obtain ⟨c1, c2, c3, c4, c5⟩ := k2
  have p4 : ∀ i, i < pn' → ac + 242 ≤ pa' i := by
    intro i hi
    by_cases q : i < g.2.2.2.2
    · rw [c2 i q]; exact g4 i q
    · have := c5 i (by omega) hi; omega
  have p5 : ∀ i j, i < g.2.2.1 → j < pn' → g.2.1 i ≠ pa' j ∧ g.2.1 i ≠ pa' j + 1 ∧ g.2.1 i + 1 ≠ pa' j := by
    intro i j hi hj
    by_cases q : j < g.2.2.2.2
    · rw [c2 j q]; exact g5 i j hi q
    · have := c5 j (by omega) hj
      have := (hcp.2.1 i hi).2.1
      omega
  have ew : ∀ t k j, cg_W g.1.2.1 pa' pn' t k j → (t = 3 ∧ ∃ i, i < pn' ∧ k = pa' i) ∨ (g.1.2.1 ≤ k ∧ k < g.1.2.1 + 84) := by
    intro t k j h
    unfold cg_W at h
    rcases h with ⟨a, _, h⟩ | h | h | h
    · exact .inl ⟨a, h⟩
    · right; omega
    · right; omega
    · right; omega
  have fa : ag (fun k => k < zm_n M ∧ (k < g.1.2.1 ∨ g.1.2.1 + 84 ≤ k) ∧ ∀ i, i < pn' → k ≠ pa' i) M M1 := by
    refine ag_zh k3 (fun k hk => hk.1) ?_
    intro t k j hk hw
    rcases ew t k j hw with ⟨_, i, h1, h2⟩ | h
    · exact hk.2.2 i h1 h2
    · have := hk.2.1; omega
  have aw : ∀ a b, (∀ k, a ≤ k → k < b → k < ac + 242 ∧ (k < g.1.2.1 ∨ g.1.2.1 + 84 ≤ k)) → ag (rg a b) M M1 := fun a b h => ag_mono fa (fun k hk => by
    have h1 := h k hk.1 hk.2
    refine ⟨by omega, h1.2, fun i hi e => ?_⟩
    have := p4 i hi
    omega)
  have nT : ∀ k, nds g.2.1 g.2.2.1 k → k < zm_n M ∧ (k < g.1.2.1 ∨ g.1.2.1 + 84 ≤ k) ∧ ∀ i, i < pn' → k ≠ pa' i := by
    intro k hk
    obtain ⟨i, h1, h2⟩ := hk
    have a1 := g3 i h1
    have a2 := (hcp.2.1 i h1).2.1
    refine ⟨by omega, by omega, fun j hj e => ?_⟩
    have := p5 i j h1 hj
    omega
  have am2 : ag (fun k => rg g.1.1 (g.1.1 + 84) k ∨ nds g.2.1 g.2.2.1 k) M M1 := by
    refine ag_mono fa ?_
    rintro k (hk | hk)
    · have h1 := hk.1
      have h2 := hk.2
      refine ⟨by omega, by omega, fun i hi e => ?_⟩
      have := p4 i hi
      omega
    · exact nT k hk
  have A1 : cS_x M1 g.2.1 g.1.1 S.2.1.1 S.2.1.2 := cS_ag hz.2.2.1 (fun r hr n hn => (hdm r hr n hn).1) hS am2
  have A2 : cp_x M1 g.1.1 g.2.1 g.2.2.1 := cp_ag hcp am2
  have A5 : ac + 242 ≤ zm_n M1 ∧ zm_n M1 = N0 + 2 * (g.2.2.1 + pn') ∧ zm_s M1 = S0 + 21 * (g.2.2.1 + pn') := by omega
  have a0 : ag (rg ac (ac + 1)) M M1 := aw _ _ (fun k h1 h2 => by omega)
  have A6 : cO_x M1 ac g.1.1 g.1.2.1 g.1.2.2.1 g.1.2.2.2 S.1.length := by
    have r0 : rg ac (ac + 1) ac := ⟨by omega, by omega⟩
    obtain ⟨⟨o0, o2, o3, o4, o5, o6, o7, o8, o9, o10, o11, o12, o13⟩, o1⟩ := hO
    refine ⟨⟨?_, ?_, ?_, ?_, ?_, ?_, ?_, ?_, ?_, ?_, ?_, ?_, ?_⟩, by rw [ag_I a0 r0]; exact o1⟩ <;> rw [ag_R a0 r0] <;> assumption
  have A7 : cL_x M1 ac := by
    obtain ⟨l1, l2, l3, l4, l5, l6, l7⟩ := hL
    exact ⟨lp_ag l1 (aw _ _ (fun k h1 h2 => by omega)), wy_ag l2 (aw _ _ (fun k h1 h2 => by omega)), sl_ag l3 (aw _ _ (fun k h1 h2 => by omega)), wtl_ag l4 (aw _ _ (fun k h1 h2 => by omega)), wtl_ag l5 (aw _ _ (fun k h1 h2 => by omega)), wkl_ag l6 (aw _ _ (fun k h1 h2 => by omega)), dil_ag l7 (aw _ _ (fun k h1 h2 => by omega))⟩
  have A8 : cK_x M1 ac S.2.1.1 S.2.1.2 := ⟨kU_ag hU (aw _ _ (fun k h1 h2 => by omega)), kC_ag hC (aw _ _ (fun k h1 h2 => by omega)), kS_ag hS' (ag_I a0 ⟨by omega, by omega⟩) (aw _ _ (fun k h1 h2 => by omega)), kD_ag hD (aw _ _ (fun k h1 h2 => by omega))⟩
  have A9 : ct_x M1 ac S.1 := ct_ag hT (aw _ _ (fun k h1 h2 => by omega))
  have A10 : do_x M1 g.1.2.2.1 S.2.2.1 := dx_ag hdx (aw _ _ (fun k h1 h2 => by omega))
  have A11 : do_h M1 g.1.2.2.1 S.2.1.1 S.2.1.2 S.2.2.1 := dh_ag hdh (aw _ _ (fun k h1 h2 => by omega))
  have A12 : do_l M1 g.1.2.2.2 := dl_ag hdl (aw _ _ (fun k h1 h2 => by omega))
  have A13 : rd_c M1 (ac + 228) S.2.1.2 S.2.2.2 := rdc_ag hrd (aw _ _ (fun k h1 h2 => by omega))
  refine ⟨res, M1, pa', pn', k1, ⟨⟨g1, g2, g3, p4, p5⟩, A6, A9, ⟨A1, A2, hdm⟩, ⟨k4, k5⟩, ⟨A10, A11, hdy⟩, A12, A7, A13, A8, A5⟩, zh_mono k3 ?_, k6⟩
  intro t k j _ hw
  rcases ew t k j hw with ⟨h, _⟩ | h
  · exact .inr (.inl h)
  · left; omega
theorem cl_fault (hI : cI ac N0 S0 M S g) (hz : zz_ok S) (hd : 82 ≤ d) (w : Int32) : cf_r ac N0 S0 M (cr_fault d ac w M) (sp_fau S w) S := by
  obtain ⟨d, rfl⟩ : ∃ d', d = d' + 1 := ⟨d - 1, by omega⟩
  have eb : cr_fault (d + 1) ac w M = cr_fault_b d ac w M := rfl
  rw [eb]
  have hI' := hI
  obtain ⟨hg, ⟨⟨o0, o2, o3, o4, o5, _⟩, o1⟩, _⟩ := hI
  unfold cr_fault_b sp_fau
  by_cases q0 : w = 0
  · rw [if_pos q0, if_pos q0]
    obtain ⟨res, M1, pa', pn', k1, k2, k3, k4⟩ := cl_faultR (d := d) hI' hz (by omega)
    simp only [o0, o1, o3, k1, Option.bind_some]
    rcases k4 with ⟨e, h1, h2⟩ | ⟨x, h1, h2, _⟩
    · rw [h1, h2]
      exact ⟨M1, _, rfl, k2, k3⟩
    · rw [h1, h2]
      exact ⟨M1, _, rfl, k2, k3⟩
  · rw [if_neg q0, if_neg q0]
    by_cases q1 : w = 1
    · rw [if_pos q1, if_pos q1]
      obtain ⟨M1, k1, k2, k3, _⟩ := cl_faultD (d := d) hI' hz (by omega)
      simp only [o0, o1, o5, k1, Option.bind_some]
      exact ⟨M1, g, rfl, k2, k3⟩
    · rw [if_neg q1, if_neg q1]
      exact cf_same hI' rfl
end
